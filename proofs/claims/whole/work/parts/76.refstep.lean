set_option linter.unusedVariables false
/-! the reference's automaton: states as decimal digits -/
theorem lN_tI {a : Nat} (h : a < 2 ^ 63) : (lN a).toInt = (a : Int) := lg_ofNat_toInt h
theorem lN_div {a d : Nat} (ha : a < 2 ^ 62) (h0 : 0 < d) (hd : d < 2 ^ 62) : lN a / lN d = lN (a / d) := by
  apply Int64.toInt_inj.mp
  rw [lg_ldiv_nonneg (by rw [lN_tI (by omega)]; omega) (by rw [lN_tI (by omega)]; omega), lN_tI (by omega), lN_tI (by omega), lN_tI (Nat.lt_of_le_of_lt (Nat.div_le_self a d) (by omega))]
  exact (Int.natCast_ediv _ _).symm
theorem lN_ne0 {d : Nat} (h0 : 0 < d) (hd : d < 2 ^ 62) : ¬ lN d = 0 := by
  intro h
  have := congrArg Int64.toInt h
  rw [lN_tI (by omega)] at this
  have e : (0 : Int64).toInt = 0 := by decide
  omega
theorem dvL_n {β : Type} {a d : Nat} {k : Int64 → Option β} (ha : a < 2 ^ 62) (h0 : 0 < d) (hd : d < 2 ^ 62) : dvL (lN a) (lN d) k = k (lN (a / d)) := by
  unfold dvL
  rw [if_neg (lN_ne0 h0 hd), lN_div ha h0 hd]
theorem rmL_n {β : Type} {a d : Nat} {k : Int64 → Option β} (ha : a < 2 ^ 62) (h0 : 0 < d) (hd : d < 2 ^ 62) : rmL (lN a) (lN d) k = k (lN (a % d)) := by
  unfold rmL
  rw [if_neg (lN_ne0 h0 hd), lN_div ha h0 hd, lN_mul, lN_sub (Nat.div_mul_le_self a d)]
  congr 2
  have := Nat.div_add_mod' a d
  omega
def pk10 (σ : Nat → Nat) : Nat := σ 0 + 10 * σ 1 + 100 * σ 2 + 1000 * σ 3
theorem pk10_lt {σ : Nat → Nat} (h : ∀ j, σ j < 10) : pk10 σ < 10000 := by
  have h0 := h 0
  have h1 := h 1
  have h2 := h 2
  have h3 := h 3
  unfold pk10
  omega
theorem pk10_congr {f g : Nat → Nat} (h : ∀ j, j < 4 → f j = g j) : pk10 f = pk10 g := by
  unfold pk10
  rw [h 0 (by omega), h 1 (by omega), h 2 (by omega), h 3 (by omega)]
theorem pk10_inj {f g : Nat → Nat} (hf : ∀ j, f j < 10) (hg : ∀ j, g j < 10) (e : pk10 f = pk10 g) : ∀ j, j < 4 → f j = g j := by
  have f0 := hf 0
  have f1 := hf 1
  have f2 := hf 2
  have f3 := hf 3
  have g0 := hg 0
  have g1 := hg 1
  have g2 := hg 2
  have g3 := hg 3
  unfold pk10 at e
  intro j hj
  rcases (show j = 0 ∨ j = 1 ∨ j = 2 ∨ j = 3 by omega) with rfl | rfl | rfl | rfl <;> omega
theorem pk16_inj {f g : Nat → Nat} (hf : ∀ j, f j < 16) (hg : ∀ j, g j < 16) (e : pk16 f = pk16 g) : ∀ j, j < 4 → f j = g j := by
  have f0 := hf 0
  have f1 := hf 1
  have f2 := hf 2
  have f3 := hf 3
  have g0 := hg 0
  have g1 := hg 1
  have g2 := hg 2
  have g3 := hg 3
  unfold pk16 at e
  intro j hj
  rcases (show j = 0 ∨ j = 1 ∨ j = 2 ∨ j = 3 by omega) with rfl | rfl | rfl | rfl <;> omega
def pkD (F : Nat → Nat) : Nat → Nat
  | 0 => 0
  | n + 1 => pkD F n + F n * 10000 ^ n
theorem pkD_lt {F : Nat → Nat} (h : ∀ i, F i < 10000) : ∀ n, pkD F n < 10000 ^ n
  | 0 => by show 0 < 1; omega
  | n + 1 => by
    have h1 := pkD_lt h n
    have h2 := h n
    show pkD F n + F n * 10000 ^ n < 10000 ^ (n + 1)
    rw [Nat.pow_succ]
    have h3 : F n * 10000 ^ n ≤ 9999 * 10000 ^ n := Nat.mul_le_mul_right _ (by omega)
    omega
theorem pkD_congr {F G : Nat → Nat} {n : Nat} (h : ∀ i, i < n → F i = G i) : pkD F n = pkD G n := by
  induction n with
  | zero => rfl
  | succ n ih =>
    show pkD F n + F n * 10000 ^ n = pkD G n + G n * 10000 ^ n
    rw [ih (fun i hi => h i (by omega)), h n (by omega)]
theorem pkD_get {F : Nat → Nat} (h : ∀ i, F i < 10000) {n i : Nat} (hn : n ≤ 4) (hi : i < n) : pkD F n / 10000 ^ i % 10000 = F i := by
  have h0 := h 0
  have h1 := h 1
  have h2 := h 2
  have h3 := h 3
  have e1 : pkD F 1 = 0 + F 0 * 1 := rfl
  have e2 : pkD F 2 = 0 + F 0 * 1 + F 1 * 10000 := rfl
  have e3 : pkD F 3 = 0 + F 0 * 1 + F 1 * 10000 + F 2 * 100000000 := rfl
  have e4 : pkD F 4 = 0 + F 0 * 1 + F 1 * 10000 + F 2 * 100000000 + F 3 * 1000000000000 := rfl
  have p0 : 10000 ^ 0 = 1 := rfl
  have p1 : 10000 ^ 1 = 10000 := rfl
  have p2 : 10000 ^ 2 = 100000000 := rfl
  have p3 : 10000 ^ 3 = 1000000000000 := rfl
  rcases (show n = 1 ∨ n = 2 ∨ n = 3 ∨ n = 4 by omega) with rfl | rfl | rfl | rfl
  · rcases (show i = 0 by omega) with rfl
    rw [e1, p0]; omega
  · rcases (show i = 0 ∨ i = 1 by omega) with rfl | rfl
    · rw [e2, p0]; omega
    · rw [e2, p1]; omega
  · rcases (show i = 0 ∨ i = 1 ∨ i = 2 by omega) with rfl | rfl | rfl
    · rw [e3, p0]; omega
    · rw [e3, p1]; omega
    · rw [e3, p2]; omega
  · rcases (show i = 0 ∨ i = 1 ∨ i = 2 ∨ i = 3 by omega) with rfl | rfl | rfl | rfl
    · rw [e4, p0]; omega
    · rw [e4, p1]; omega
    · rw [e4, p2]; omega
    · rw [e4, p3]; omega
theorem p4D {n : Nat} (h : n ≤ 4) : 10000 ^ n ≤ 10000000000000000 := Nat.le_trans (Nat.pow_le_pow_right (n := 10000) (by omega) h) (by decide)
theorem digitsOf_ok {X k : Nat} (hX : X < 2 ^ 62) (hk : k < 8) : f_X12_digitsOf (lN X) (nI k) = some (nI (X / 10000 ^ k % 10000)) := by
  have key : Wp (loopN (fun v => b_X12_digitsOf_5 (nI k) v.1 v.2) FU (lN X, (0 : Int32))) (fun u => u = lN (X / 10000 ^ k)) := by
    refine wp_up (fun i v => v.2 = nI i ∧ v.1 = lN (X / 10000 ^ i)) 0 k ⟨rfl, by rw [Nat.pow_zero, Nat.div_one]⟩ (by omega) (by omega) ?_ ?_
    · rintro i ⟨x, y⟩ h1 h2 ⟨hy, hx⟩
      simp only at hy hx
      subst hy hx
      have hd : X / 10000 ^ i < 2 ^ 62 := Nat.lt_of_le_of_lt (Nat.div_le_self _ _) hX
      show Wp (b_X12_digitsOf_5 (nI k) (lN (X / 10000 ^ i)) (nI i)) _
      unfold b_X12_digitsOf_5
      rw [if_neg (show ¬ nI k ≤ nI i by rw [pI_le_iff (by omega) (by omega)]; omega), show (10000 : Int64) = lN 10000 from rfl, dvL_n hd (by omega) (by omega)]
      refine wp_l ⟨pI_add, ?_⟩
      rw [Nat.div_div_eq_div_mul, Nat.pow_succ]
    · rintro ⟨x, y⟩ ⟨hy, hx⟩
      simp only at hy hx
      subst hy hx
      show Wp (b_X12_digitsOf_5 (nI k) (lN (X / 10000 ^ k)) (nI k)) _
      unfold b_X12_digitsOf_5
      rw [if_pos (Int32.le_refl _)]
      exact wp_r rfl
  obtain ⟨u, e, rfl⟩ := key
  unfold f_X12_digitsOf
  rw [e, ob_s, show (10000 : Int64) = lN 10000 from rfl, rmL_n (Nat.lt_of_le_of_lt (Nat.div_le_self _ _) hX) (by omega) (by omega), lN_i]
/-- digits of a test's state -/
def DG (σ : Nat → Nat) (dg : Nat → Int32) : Prop := ∀ j, j < 4 → dg j = nI (σ j)
theorem dg_ok {σ : Nat → Nat} {dg : Nat → Int32} (h : ∀ j, σ j < 10) : Wp (loopN (fun v => b_X12_stepped_6 v.1 v.2.1 v.2.2) FU (dg, nI (pk10 σ), (0 : Int32))) (fun u => DG σ u) := by
  have h0 := h 0
  have h1 := h 1
  have h2 := h 2
  have h3 := h 3
  have hp := pk10_lt h
  refine wp_up (fun i v => v.2.2 = nI i ∧ v.2.1 = nI (pk10 σ / 10 ^ i) ∧ ∀ j, j < i → v.1 j = nI (σ j)) 0 4 ⟨rfl, by rw [Nat.pow_zero, Nat.div_one], fun j hj => by omega⟩ (by omega) (by omega) ?_ ?_
  · rintro i ⟨f, x, y⟩ a1 a2 ⟨hy, hx, hf⟩
    simp only at hy hx hf
    subst hy hx
    have hd : pk10 σ / 10 ^ i < 2 ^ 31 := Nat.lt_of_le_of_lt (Nat.div_le_self _ _) (by omega)
    have e : pk10 σ / 10 ^ i % 10 = σ i := by
      have p0 : 10 ^ 0 = 1 := rfl
      have p1 : 10 ^ 1 = 10 := rfl
      have p2 : 10 ^ 2 = 100 := rfl
      have p3 : 10 ^ 3 = 1000 := rfl
      unfold pk10
      rcases (show i = 0 ∨ i = 1 ∨ i = 2 ∨ i = 3 by omega) with rfl | rfl | rfl | rfl
      · rw [p0]; omega
      · rw [p1]; omega
      · rw [p2]; omega
      · rw [p3]; omega
    show Wp (b_X12_stepped_6 f (nI (pk10 σ / 10 ^ i)) (nI i)) _
    unfold b_X12_stepped_6
    rw [if_neg (show ¬ (4 : Int32) ≤ nI i by rw [pL4, pI_le_iff (by omega) (by omega)]; omega), pL10, rmI_n hd (by omega) (by omega), stA_n a2 (by omega), dvI_n hd (by omega) (by omega), e]
    refine wp_l ⟨pI_add, ?_, fun j hj => ?_⟩
    · show nI (pk10 σ / 10 ^ i / 10) = nI (pk10 σ / 10 ^ (i + 1))
      rw [Nat.div_div_eq_div_mul, Nat.pow_succ]
    · show va_up f i (nI (σ i)) j = _
      by_cases c : j = i
      · rw [upE c, c]
      · rw [upN c]
        exact hf j (by omega)
  · rintro ⟨f, x, y⟩ ⟨hy, hx, hf⟩
    simp only at hy hx hf
    subst hy
    show Wp (b_X12_stepped_6 f x (nI 4)) _
    unfold b_X12_stepped_6
    rw [if_pos (show (4 : Int32) ≤ nI 4 by decide)]
    exact wp_r hf
theorem join_ok {σ : Nat → Nat} {dg : Nat → Int32} (h : DG σ dg) : j_X12_stepped_188 dg = some (nI (pk10 σ), dg) := by
  unfold j_X12_stepped_188
  rw [ld0 (by omega) (by omega), ld1 (by omega) (by omega), ld2 (by omega) (by omega), ld3 (by omega) (by omega), h 0 (by omega), h 1 (by omega), h 2 (by omega), h 3 (by omega), pL10, pL100, pL1000, pI_mul, pI_mul, pI_mul, pI_add, pI_add, pI_add]
  rfl
theorem up129_ok {m k b i s t : Nat} {mk mb dg : Nat → Int32} (hm : m < 8) (e1 : mk m = nI k) (e2 : mb m = nI b) (hk : k = 0 ∨ k = 2) (hb1 : 1 ≤ b) (hb : b ≤ 9) (hi : i < 4) (hs : s + t < 100) : j_X12_stepped_129 mk mb dg (nI m) (nI i) (nI s) (nI t) = some (.inl (va_up dg i (nI (bnd k b (t + s))), nI i + (-1 : Int32))) := by
  unfold j_X12_stepped_129 bnd
  rw [ldA_n hm (by omega), e1]
  rcases hk with rfl | rfl
  · rw [if_pos (show nI 0 = (0 : Int32) from rfl), ldA_n hm (by omega), e2, pI_add, rmI_n (by omega) (by omega) (by omega), stA_n hi (by omega), if_neg (by omega)]
  · rw [if_neg (show ¬ nI 2 = (0 : Int32) by decide), ldA_n hm (by omega), e2, pI_add, if_pos rfl]
    by_cases c : t + s < b
    · rw [if_neg (show ¬ nI b ≤ nI (t + s) by rw [pI_le_iff (by omega) (by omega)]; omega), stA_n hi (by omega), if_pos c]
    · rw [if_pos (show nI b ≤ nI (t + s) from (pI_le_iff (by omega) (by omega)).mpr (by omega)), ldA_n hm (by omega), e2, stA_n hi (by omega), if_neg c]
theorem stepped_ok {m k b l : Nat} {c : Int32} {σ : Nat → Nat} {mk mb ml mp dg : Nat → Int32} (hm : m < 8) (K : kOK k b l) (h : tOK k b l σ) (e1 : mk m = nI k) (e2 : mb m = nI b) (e3 : ml m = nI l) : Wp (f_X12_stepped (nI m) (nI (pk10 σ)) c mk mb ml mp dg) (fun o => o.1 = nI (pk10 (tst k b l (fun i => mp (4 * m + i)) c σ))) := by
  have h10 := tOK_16 K h
  obtain ⟨hb9, hb1, hk⟩ := K
  unfold f_X12_stepped
  refine wp_seq (dg_ok h10) (fun u hu => ?_)
  rw [ldA_n hm (by omega), e1]
  by_cases c1 : k = 1
  · subst c1
    have hs0 := h10 0
    rw [if_pos (show nI 1 = (1 : Int32) from rfl), ld0 (by omega) (by omega), ldA_n hm (by omega), hu 0 (by omega), e2, pL1, pI_add, rmI_n (by omega) (by omega) (by omega), st0 (by omega) (by omega), join_ok (σ := tst 1 b l (fun i => mp (4 * m + i)) c σ) (fun j hj => ?_)]
    · exact wp_some rfl
    · show va_up u 0 (nI ((σ 0 + 1) % b)) j = nI (tst 1 b l (fun i => mp (4 * m + i)) c σ j)
      by_cases cj : j = 0
      · rw [upE cj, cj]
        rfl
      · rw [upN cj, hu j hj]
        unfold tst
        rw [if_pos rfl, if_neg cj]
  · have hk02 : k = 0 ∨ k = 2 := by omega
    have hl4 : 1 ≤ l ∧ l ≤ 4 := by omega
    rw [if_neg (show ¬ nI k = (1 : Int32) from fun e => c1 (pI_inj (by omega) (by omega) e)), ldA_n hm (by omega), e3]
    refine wp_seq (Q := fun u => DG (tst k b l (fun i => mp (4 * m + i)) c σ) u) ?_ (fun v hv => ?_)
    · refine wp_dn (fun i v => v.2 = nI i - nI 1 ∧ ∀ j, j < 4 → v.1 j = nI (if j < i then σ j else tst k b l (fun i => mp (4 * m + i)) c σ j)) 0 l ⟨rfl, fun j hj => ?_⟩ (by omega) (by omega) ?_ ?_
      · show u j = _
        rw [hu j hj]
        by_cases cj : j < l
        · rw [if_pos cj]
        · rw [if_neg cj, tst_n c1, if_neg (fun h => cj h.1)]
      · rintro i ⟨f, x⟩ a1 a2 ⟨hx, hf⟩
        simp only at hx hf
        subst hx
        have hs := h10 (i - 1)
        have d1 : f (i - 1) = nI (σ (i - 1)) := by rw [hf (i - 1) (by omega), if_pos (by omega)]
        show Wp (b_X12_stepped_81 mk mb mp (nI m) c f (nI i - nI 1)) _
        unfold b_X12_stepped_81
        rw [pI_sub (by omega), if_neg (show ¬ nI (i - 1) < 0 from pI_nneg (by omega)), pL4, pI_mul, pI_add, ldA_n (by omega) (by omega)]
        have fin : ∀ x, x = tst k b l (fun i => mp (4 * m + i)) c σ (i - 1) → ∀ j, j < 4 → va_up f (i - 1) (nI x) j = nI (if j < i - 1 then σ j else tst k b l (fun i => mp (4 * m + i)) c σ j) := by
          intro x hx j hj
          by_cases cj : j = i - 1
          · rw [upE cj, if_neg (by omega), hx, cj]
          · rw [upN cj, hf j hj]
            by_cases cj2 : j < i - 1
            · rw [if_pos (by omega), if_pos cj2]
            · rw [if_neg (by omega), if_neg cj2]
        by_cases cp : mp (4 * m + (i - 1)) = c
        · have et : tst k b l (fun i => mp (4 * m + i)) c σ (i - 1) = bnd k b (σ (i - 1) + (if i - 1 = 0 then 1 else σ (i - 1 - 1))) := by
            rw [tst_n c1, if_pos (show i - 1 < l ∧ mp (4 * m + (i - 1)) = c from ⟨by omega, cp⟩)]
          rw [if_pos cp, ldA_n (by omega) (by omega), d1]
          by_cases c0 : i - 1 = 0
          · rw [if_pos (show nI (i - 1) = (0 : Int32) by rw [c0]; rfl), pL1, up129_ok hm e1 e2 hk02 hb1 hb9 (by omega) (by omega)]
            refine wp_l ⟨n_sub1, fin _ ?_⟩
            rw [et, if_pos c0]
          · have hs2 := h10 (i - 1 - 1)
            have d2 : f (i - 1 - 1) = nI (σ (i - 1 - 1)) := by rw [hf (i - 1 - 1) (by omega), if_pos (by omega)]
            rw [if_neg (show ¬ nI (i - 1) = (0 : Int32) from fun e => c0 (pI_inj (b := 0) (by omega) (by omega) e)), pL1, pI_sub (by omega), ldA_n (by omega) (by omega), d2, up129_ok hm e1 e2 hk02 hb1 hb9 (by omega) (by omega)]
            refine wp_l ⟨pI_dec (by omega), fin _ ?_⟩
            rw [et, if_neg c0]
        · have et : tst k b l (fun i => mp (4 * m + i)) c σ (i - 1) = σ (i - 1) := by
            rw [tst_n c1, if_neg (fun h => cp h.2)]
          rw [if_neg cp]
          refine wp_l ⟨n_sub1, fun j hj => ?_⟩
          show f j = _
          rw [hf j hj]
          by_cases cj : j = i - 1
          · rw [if_pos (by omega), if_neg (by omega), cj, et]
          · by_cases cj2 : j < i - 1
            · rw [if_pos (by omega), if_pos cj2]
            · rw [if_neg (by omega), if_neg cj2]
      · rintro ⟨f, x⟩ ⟨hx, hf⟩
        simp only at hx hf
        subst hx
        show Wp (b_X12_stepped_81 mk mb mp (nI m) c f (nI 0 - nI 1)) _
        unfold b_X12_stepped_81
        rw [if_pos (show nI 0 - nI 1 < 0 from n1_neg)]
        refine wp_r (fun j hj => ?_)
        rw [hf j hj, if_neg (by omega)]
    · rw [join_ok hv]
      exact wp_some rfl
/-- the data of the reference's machine -/
def MDat (C : Nat) (mk mb ml : Nat → Int32) (K B N : Nat → Nat) : Prop := ∀ m, m < C → kOK (K m) (B m) (N m) ∧ mk m = nI (K m) ∧ mb m = nI (B m) ∧ ml m = nI (N m)
def pDf (S : Nat → Nat → Nat) (C h : Nat) : Int64 := lN (pkD (fun j => pk10 (S (4 * h + j))) (min 4 (C - 4 * h)))
theorem d4 {C : Nat} {K B N : Nat → Nat} {S : Nat → Nat → Nat} (H : sOK C K B N S) (i : Nat) : pk10 (S i) < 10000 := pk10_lt (fun j => H.2 i j)
theorem pDf_b {C : Nat} {K B N : Nat → Nat} {S : Nat → Nat → Nat} {h : Nat} (H : sOK C K B N S) : pkD (fun j => pk10 (S (4 * h + j))) (min 4 (C - 4 * h)) < 2 ^ 62 := by
  have h1 := pkD_lt (F := fun j => pk10 (S (4 * h + j))) (fun i => d4 H _) (min 4 (C - 4 * h))
  have h2 := p4D (Nat.min_le_left 4 (C - 4 * h))
  omega
theorem cstep_ok {C h : Nat} {c : Int32} {K B N : Nat → Nat} {S S' : Nat → Nat → Nat} {mk mb ml mp dg : Nat → Int32} (hC : C ≤ 8) (hh : h < 2) (D : MDat C mk mb ml K B N) (H : sOK C K B N S) (H' : sOK C K B N S') (e : ∀ i, i < C → S' i = tst (K i) (B i) (N i) (fun j => mp (4 * i + j)) c (S i)) : Wp (f_X12_steppedCode (pDf S C h) (nI (4 * h)) c (nI C) mk mb ml mp dg) (fun o => o.1 = pDf S' C h) := by
  obtain ⟨m, hm⟩ : ∃ m, m = min 4 (C - 4 * h) := ⟨_, rfl⟩
  have hm4 : m ≤ 4 := by omega
  have hmC : m = 0 ∨ 4 * h + m ≤ C := by omega
  have hend : m = 4 ∨ C ≤ 4 * h + m := by omega
  have q4 : ∀ j, (fun j => pk10 (S (4 * h + j))) j < 10000 := fun j => d4 H _
  have q4' : ∀ j, (fun j => pk10 (S' (4 * h + j))) j < 10000 := fun j => d4 H' _
  have hb := pDf_b (h := h) H
  unfold f_X12_steppedCode
  refine wp_seq (Q := fun u => u.2 = lN (pkD (fun j => pk10 (S' (4 * h + j))) m)) ?_ (fun u hu => wp_some (by show u.2 = _; rw [hu]; unfold pDf; rw [← hm]))
  refine wp_up (fun i v => v.2.2.2 = nI i ∧ v.2.1 = lN (pkD (fun j => pk10 (S' (4 * h + j))) (i - 4 * h)) ∧ v.2.2.1 = lN (10000 ^ (i - 4 * h))) (4 * h) (4 * h + m) ⟨rfl, by rw [Nat.sub_self]; rfl, by rw [Nat.sub_self]; rfl⟩ (by omega) (by omega) ?_ ?_
  · rintro i ⟨f, x, y, z⟩ h1 h2 ⟨hz, hx, hy⟩
    simp only at hz hx hy
    subst hz hx hy
    obtain ⟨j, rfl⟩ : ∃ j, i = 4 * h + j := ⟨i - 4 * h, by omega⟩
    obtain ⟨d1, d2, d3, d4'⟩ := D (4 * h + j) (by omega)
    have e1 : 4 * h + j - 4 * h = j := by omega
    show Wp (b_X12_steppedCode_9 (nI C) mk mb ml mp (pDf S C h) (nI (4 * h)) c f (lN (pkD (fun j => pk10 (S' (4 * h + j))) (4 * h + j - 4 * h))) (lN (10000 ^ (4 * h + j - 4 * h))) (nI (4 * h + j))) _
    unfold b_X12_steppedCode_9
    rw [e1, if_neg (show ¬ nI C ≤ nI (4 * h + j) by rw [pI_le_iff (by omega) (by omega)]; omega), pL4, pI_add, if_neg (show ¬ nI (4 * h + 4) ≤ nI (4 * h + j) by rw [pI_le_iff (by omega) (by omega)]; omega), pI_sub (by omega), e1]
    unfold pDf
    rw [digitsOf_ok hb (by omega), ob_s, pkD_get q4 (by omega) (show j < min 4 (C - 4 * h) by omega)]
    refine wp_seq (stepped_ok (by omega) d1 (H.1 (4 * h + j) (by omega)) d2 d3 d4') (fun u hu => ?_)
    have hy := q4' j
    rw [hu, ← e (4 * h + j) (by omega), nI_l (show pk10 (S' (4 * h + j)) < 2 ^ 31 from by have : pk10 (S' (4 * h + j)) < 10000 := hy; omega), lN_mul, lN_add, show (10000 : Int64) = lN 10000 from rfl, lN_mul]
    refine wp_l ⟨pI_add, ?_, ?_⟩
    · show lN _ = lN _
      rw [show 4 * h + j + 1 - 4 * h = j + 1 by omega]
      show lN (pkD (fun j => pk10 (S' (4 * h + j))) j + 10000 ^ j * pk10 (S' (4 * h + j))) = lN (pkD (fun j => pk10 (S' (4 * h + j))) j + pk10 (S' (4 * h + j)) * 10000 ^ j)
      rw [Nat.mul_comm (10000 ^ j)]
    · show lN _ = lN _
      rw [show 4 * h + j + 1 - 4 * h = j + 1 by omega, Nat.pow_succ]
  · rintro ⟨f, x, y, z⟩ ⟨hz, hx, hy⟩
    simp only at hz hx hy
    subst hz hx hy
    show Wp (b_X12_steppedCode_9 (nI C) mk mb ml mp (pDf S C h) (nI (4 * h)) c f (lN (pkD (fun j => pk10 (S' (4 * h + j))) (4 * h + m - 4 * h))) (lN (10000 ^ (4 * h + m - 4 * h))) (nI (4 * h + m))) _
    unfold b_X12_steppedCode_9
    rw [show 4 * h + m - 4 * h = m by omega]
    by_cases c1 : C ≤ 4 * h + m
    · rw [if_pos (show nI C ≤ nI (4 * h + m) from (pI_le_iff (by omega) (by omega)).mpr c1)]
      exact wp_r rfl
    · rw [if_neg (show ¬ nI C ≤ nI (4 * h + m) by rw [pI_le_iff (by omega) (by omega)]; exact c1), pL4, pI_add, if_pos (show nI (4 * h + 4) ≤ nI (4 * h + m) from (pI_le_iff (by omega) (by omega)).mpr (by omega))]
      exact wp_r rfl
theorem vat_ok {C s m : Nat} {K B N : Nat → Nat} {S : Nat → Nat → Nat} {mk mb ml : Nat → Int32} {cA cB : Nat → Int64} (hC : C ≤ 8) (hs : s < 2000) (hm : m < C) (D : MDat C mk mb ml K B N) (H : sOK C K B N S) (eA : cA s = pDf S C 0) (eB : cB s = pDf S C 1) : Wp (f_X12_valueAt (nI s) (nI m) ml cA cB) (fun o => o = nI (vS (K m) (N m) (S m))) := by
  obtain ⟨d1, d2, d3, d4'⟩ := D m hm
  have h10 : ∀ j, S m j < 10 := H.2 m
  have hk := d1.2.2
  have key : ∀ X : Nat, X < 2 ^ 62 → X / 10000 ^ (m % 4) % 10000 = pk10 (S m) → Wp (j_X12_valueAt_20 ml (nI m) (lN X)) (fun o => o = nI (vS (K m) (N m) (S m))) := by
    intro X hX hg
    have hp := pk10_lt h10
    unfold j_X12_valueAt_20
    rw [pL4, rmI_n (by omega) (by omega) (by omega), digitsOf_ok hX (by omega), ob_s, hg]
    refine wp_seq (Q := fun u => u = nI (pk10 (S m) / 10 ^ (N m - 1))) ?_ (fun u hu => ?_)
    · by_cases hN : N m = 0
      · have e0 : ∀ x, Wp (b_X12_valueAt_30 ml (nI m) x (1 : Int32)) (Sum.elim (fun _ => False) (fun u => u = x)) := by
          intro x
          unfold b_X12_valueAt_30
          rw [ldA_n (by omega) (by omega), d4', hN, if_pos (show nI 0 ≤ (1 : Int32) by decide)]
          exact wp_r rfl
        refine wp_up (fun i v => v.2 = (1 : Int32) ∧ v.1 = nI (pk10 (S m) / 10 ^ (N m - 1))) 0 0 ⟨rfl, by rw [hN]; show nI _ = nI (pk10 (S m) / 10 ^ 0); rw [Nat.pow_zero, Nat.div_one]⟩ (by omega) (by omega) (fun i v _ h => by omega) ?_
        rintro ⟨x, y⟩ ⟨hy, hx⟩
        simp only at hy hx
        subst hy hx
        exact e0 _
      · refine wp_up (fun i v => v.2 = nI i ∧ v.1 = nI (pk10 (S m) / 10 ^ (i - 1))) 1 (N m) ⟨rfl, by show nI _ = nI (pk10 (S m) / 10 ^ 0); rw [Nat.pow_zero, Nat.div_one]⟩ (by omega) (by omega) ?_ ?_
        · rintro i ⟨x, y⟩ a1 a2 ⟨hy, hx⟩
          simp only at hy hx
          subst hy hx
          show Wp (b_X12_valueAt_30 ml (nI m) (nI (pk10 (S m) / 10 ^ (i - 1))) (nI i)) _
          unfold b_X12_valueAt_30
          rw [ldA_n (by omega) (by omega), d4', if_neg (show ¬ nI (N m) ≤ nI i by rw [pI_le_iff (by omega) (by omega)]; omega), pL10, dvI_n (Nat.lt_of_le_of_lt (Nat.div_le_self _ _) (by omega)) (by omega) (by omega)]
          refine wp_l ⟨pI_add, ?_⟩
          rw [Nat.div_div_eq_div_mul, ← Nat.pow_succ, show (i - 1).succ = i + 1 - 1 by omega]
        · rintro ⟨x, y⟩ ⟨hy, hx⟩
          simp only at hy hx
          subst hy hx
          show Wp (b_X12_valueAt_30 ml (nI m) (nI (pk10 (S m) / 10 ^ (N m - 1))) (nI (N m))) _
          unfold b_X12_valueAt_30
          rw [ldA_n (by omega) (by omega), d4', if_pos (Int32.le_refl _)]
          exact wp_r rfl
    · subst hu
      rw [pL10, rmI_n (Nat.lt_of_le_of_lt (Nat.div_le_self _ _) (by omega)) (by omega) (by omega)]
      refine wp_some ?_
      have f0 := h10 0
      have f1 := h10 1
      have f2 := h10 2
      have f3 := h10 3
      have p0 : 10 ^ 0 = 1 := rfl
      have p1 : 10 ^ 1 = 10 := rfl
      have p2 : 10 ^ 2 = 100 := rfl
      have p3 : 10 ^ 3 = 1000 := rfl
      unfold vS
      by_cases c1 : K m = 1
      · rw [if_pos c1, show N m = 0 by omega]
        show nI (pk10 (S m) / 10 ^ 0 % 10) = _
        rw [p0]
        unfold pk10
        congr 1
        omega
      · rw [if_neg c1]
        congr 1
        rcases (show N m = 1 ∨ N m = 2 ∨ N m = 3 ∨ N m = 4 by omega) with e | e | e | e
        · rw [e]
          show pk10 (S m) / 10 ^ 0 % 10 = S m 0
          rw [p0]; unfold pk10; omega
        · rw [e]
          show pk10 (S m) / 10 ^ 1 % 10 = S m 1
          rw [p1]; unfold pk10; omega
        · rw [e]
          show pk10 (S m) / 10 ^ 2 % 10 = S m 2
          rw [p2]; unfold pk10; omega
        · rw [e]
          show pk10 (S m) / 10 ^ 3 % 10 = S m 3
          rw [p3]; unfold pk10; omega
  unfold f_X12_valueAt
  by_cases c4 : 4 ≤ m
  · rw [if_pos (show (4 : Int32) ≤ nI m from (pI_le_iff (a := 4) (by omega) (by omega)).mpr c4), ldA_n hs (by omega), eB]
    refine key _ (pDf_b (h := 1) H) ?_
    rw [pkD_get (fun i => d4 H _) (by omega) (show m % 4 < min 4 (C - 4 * 1) by omega)]
    show pk10 (S (4 * 1 + m % 4)) = _
    rw [show 4 * 1 + m % 4 = m by omega]
  · rw [if_neg (show ¬ (4 : Int32) ≤ nI m from fun h => c4 ((pI_le_iff (a := 4) (by omega) (by omega)).mp h)), ldA_n hs (by omega), eA]
    refine key _ (pDf_b (h := 0) H) ?_
    rw [pkD_get (fun i => d4 H _) (by omega) (show m % 4 < min 4 (C - 4 * 0) by omega)]
    show pk10 (S (4 * 0 + m % 4)) = _
    rw [show 4 * 0 + m % 4 = m by omega]
