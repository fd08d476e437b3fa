set_option linter.unusedVariables false
/-! a bundle of tests: states packed into two longs -/
def pkH (F : Nat → Nat) : Nat → Nat
  | 0 => 0
  | n + 1 => pkH F n + F n * 65536 ^ n
theorem pkH_lt {F : Nat → Nat} (h : ∀ i, F i < 65536) : ∀ n, pkH F n < 65536 ^ n
  | 0 => by show 0 < 1; omega
  | n + 1 => by
    have h1 := pkH_lt h n
    have h2 := h n
    show pkH F n + F n * 65536 ^ n < 65536 ^ (n + 1)
    rw [Nat.pow_succ]
    have h3 : F n * 65536 ^ n ≤ 65535 * 65536 ^ n := Nat.mul_le_mul_right _ (by omega)
    omega
theorem pkH_congr {F G : Nat → Nat} {n : Nat} (h : ∀ i, i < n → F i = G i) : pkH F n = pkH G n := by
  induction n with
  | zero => rfl
  | succ n ih =>
    show pkH F n + F n * 65536 ^ n = pkH G n + G n * 65536 ^ n
    rw [ih (fun i hi => h i (by omega)), h n (by omega)]
theorem pkH_get {F : Nat → Nat} (h : ∀ i, F i < 65536) {n i : Nat} (hn : n ≤ 4) (hi : i < n) : pkH F n / 65536 ^ i % 65536 = F i := by
  have h0 := h 0
  have h1 := h 1
  have h2 := h 2
  have h3 := h 3
  have e1 : pkH F 1 = 0 + F 0 * 1 := rfl
  have e2 : pkH F 2 = 0 + F 0 * 1 + F 1 * 65536 := rfl
  have e3 : pkH F 3 = 0 + F 0 * 1 + F 1 * 65536 + F 2 * 4294967296 := rfl
  have e4 : pkH F 4 = 0 + F 0 * 1 + F 1 * 65536 + F 2 * 4294967296 + F 3 * 281474976710656 := rfl
  have p0 : 65536 ^ 0 = 1 := rfl
  have p1 : 65536 ^ 1 = 65536 := rfl
  have p2 : 65536 ^ 2 = 4294967296 := rfl
  have p3 : 65536 ^ 3 = 281474976710656 := rfl
  rcases (show n = 1 ∨ n = 2 ∨ n = 3 ∨ n = 4 by omega) with rfl | rfl | rfl | rfl
  · rcases (show i = 0 by omega) with rfl
    rw [e1, p0]; omega
  · rcases (show i = 0 ∨ i = 1 by omega) with rfl | rfl
    · rw [e2, p0]; omega
    · rw [e2, p1]; omega
  · rcases (show i = 0 ∨ i = 1 ∨ i = 2 by omega) with rfl | rfl | rfl
    · rw [e3, p0]; omega
    · rw [e3, p1]; omega
    · rw [e3, p2]; omega
  · rcases (show i = 0 ∨ i = 1 ∨ i = 2 ∨ i = 3 by omega) with rfl | rfl | rfl | rfl
    · rw [e4, p0]; omega
    · rw [e4, p1]; omega
    · rw [e4, p2]; omega
    · rw [e4, p3]; omega
theorem pkH_inj {F G : Nat → Nat} (hF : ∀ i, F i < 65536) (hG : ∀ i, G i < 65536) {n : Nat} (hn : n ≤ 4) (e : pkH F n = pkH G n) : ∀ i, i < n → F i = G i := by
  intro i hi
  rw [← pkH_get hF hn hi, ← pkH_get hG hn hi, e]
theorem p16 {j : Nat} : 2 ^ (16 * j) = 65536 ^ j := by rw [Nat.pow_mul]
theorem p64 {j : Nat} (h : j ≤ 4) : 65536 ^ j ≤ 2 ^ 64 := by
  have : (65536 : Nat) ^ j ≤ 65536 ^ 4 := Nat.pow_le_pow_right (by omega) h
  have e : (65536 : Nat) ^ 4 = 2 ^ 64 := by decide
  omega
theorem half_get {F : Nat → Nat} (h : ∀ i, F i < 65536) {n j : Nat} (hn : n ≤ 4) (hj : j < n) : (ushL (lN (pkH F n)) (nI (16 * j))).toInt32 &&& nI 65535 = nI (F j) := by
  have hl : pkH F n < 2 ^ 64 := Nat.lt_of_lt_of_le (pkH_lt h n) (p64 hn)
  unfold ushL
  rw [wb_shr hl (by omega), lN_i, show (nI 65535) = (65535 : Int32) from rfl, nx_mod, p16, pkH_get h hn hj]
theorem half_put {A y j : Nat} (hA : A < 65536 ^ j) (hy : y < 65536) (hj : j < 4) : lN A ||| shlL ((nI y).toInt64) (nI (16 * j)) = lN (A + y * 65536 ^ j) := by
  unfold shlL
  have h1 : y * 65536 ^ j ≤ 65535 * 65536 ^ j := Nat.mul_le_mul_right _ (by omega)
  have h2 : (65536 : Nat) ^ (j + 1) ≤ 2 ^ 64 := p64 (by omega)
  rw [Nat.pow_succ] at h2
  rw [nI_l (by omega), wb_shl y (show 16 * j < 64 by omega), p16]
  exact g_or' p16 hA (by omega)
def patOf (tq : Nat → Option TV) (r : Option Nat) : Nat → Int32 := ((r.bind tq).map (fun v => v.2.2.2.2.2.2)).getD (fun _ => 0)
/-- the tests of a bundle -/
def BDat (tq : Nat → Option TV) (C : Nat) (mb : Nat → Option Nat) (K B N : Nat → Nat) (P : Nat → Nat → Int32) : Prop := ∀ i, i < C → ∃ a v, mb i = some a ∧ tq a = some v ∧ TestOK v (K i) (B i) (N i) ∧ v.2.2.2.2.2.2 = P i
theorem BDat_of {tq : Nat → Option TV} {T : Nat} {mb : Nat → Option Nat} {kd bd ln pt : Nat → Int32} {K B N : Nat → Nat} (D : TDat tq T mb kd bd ln pt K B N) : BDat tq T mb K B N (fun i => patOf tq (mb i)) := by
  intro i hi
  obtain ⟨a, v, h1, h2, h3, _⟩ := D i hi
  refine ⟨a, v, h1, h2, h3, ?_⟩
  show _ = patOf tq (mb i)
  unfold patOf
  rw [h1, show (some a).bind tq = tq a from rfl, h2]
  rfl
/-- states of tests; a letter more for each -/
def stp (K B N : Nat → Nat) (P : Nat → Nat → Int32) (c : Int32) (S : Nat → Nat → Nat) : Nat → Nat → Nat := fun i => tst (K i) (B i) (N i) (P i) c (S i)
def sOK (C : Nat) (K B N : Nat → Nat) (S : Nat → Nat → Nat) : Prop := (∀ i, i < C → tOK (K i) (B i) (N i) (S i)) ∧ ∀ i j, S i j < 10
def pHf (S : Nat → Nat → Nat) (C h : Nat) : Int64 := lN (pkH (fun j => pk16 (S (4 * h + j))) (min 4 (C - 4 * h)))
theorem s16 {C : Nat} {K B N : Nat → Nat} {S : Nat → Nat → Nat} (H : sOK C K B N S) (i : Nat) : pk16 (S i) < 65536 := pk16_lt (fun j => Nat.lt_of_lt_of_le (H.2 i j) (by omega))
theorem pHf_congr {S S' : Nat → Nat → Nat} {C h : Nat} (e : ∀ i j, i < C → j < 4 → S i j = S' i j) : pHf S C h = pHf S' C h := by
  unfold pHf
  congr 1
  refine pkH_congr (fun j hj => pk16_congr (fun x hx => e _ x ?_ hx))
  have : min 4 (C - 4 * h) ≤ C - 4 * h := Nat.min_le_right _ _
  omega
theorem bstep_ok {tq : Nat → Option TV} {C h : Nat} {c : Int32} {mb : Nat → Option Nat} {K B N : Nat → Nat} {P : Nat → Nat → Int32} {S S' : Nat → Nat → Nat} (hC : C ≤ 8) (hh : h < 2) (D : BDat tq C mb K B N P) (H : sOK C K B N S) (H' : sOK C K B N S') (e : ∀ i, i < C → S' i = tst (K i) (B i) (N i) (P i) c (S i)) : f_X1_step (nI h) (pHf S C h) c tq (nI C) mb = some (pHf S' C h) := by
  obtain ⟨m, hm⟩ : ∃ m, m = min 4 (C - 4 * h) := ⟨_, rfl⟩
  have hm4 : m ≤ 4 := by omega
  have hmC : m = 0 ∨ 4 * h + m ≤ C := by omega
  have hend : m = 4 ∨ C ≤ 4 * h + m := by omega
  have q16 : ∀ j, (fun j => pk16 (S (4 * h + j))) j < 65536 := fun j => s16 H _
  have q16' : ∀ j, (fun j => pk16 (S' (4 * h + j))) j < 65536 := fun j => s16 H' _
  have key : Wp (loopN (fun v => b_X1_step_12 tq (nI C) mb (pHf S C h) c ((4 : Int32) * nI h) v.1 v.2) FU ((0 : Int64), ((4 : Int32) * nI h))) (fun u => u = lN (pkH (fun j => pk16 (S' (4 * h + j))) m)) := by
    refine wp_up (fun i v => v.2 = nI i ∧ v.1 = lN (pkH (fun j => pk16 (S' (4 * h + j))) (i - 4 * h))) (4 * h) (4 * h + m) ⟨pI_mul (a := 4), by rw [Nat.sub_self]; rfl⟩ (by omega) (by omega) ?_ ?_
    · rintro i ⟨x, y⟩ h1 h2 ⟨hy, hx⟩
      simp only at hy hx
      subst hy hx
      obtain ⟨j, rfl⟩ : ∃ j, i = 4 * h + j := ⟨i - 4 * h, by omega⟩
      obtain ⟨a, v, d1, d2, d3, d4⟩ := D (4 * h + j) (by omega)
      have K0 := kOK_of d3
      have e1 : 4 * h + j - 4 * h = j := by omega
      have e2 : (ushL (pHf S C h) (nI (16 * j))).toInt32 &&& nI 65535 = nI (pk16 (S (4 * h + j))) := by
        unfold pHf
        rw [← hm]
        exact half_get q16 hm4 (by omega)
      have e3 := step_ok (p := P (4 * h + j)) (c := c) K0 (H.1 (4 * h + j) (by omega))
      rw [← e (4 * h + j) (by omega)] at e3
      have t1 := d3.1
      have t2 := d3.2.1
      have t4 := d3.2.2.2.1
      have t5 := d3.2.2.2.2.1
      have e4 := half_put (pkH_lt q16' j) (q16' j) (show j < 4 by omega)
      rw [e1]
      show Wp (b_X1_step_12 tq (nI C) mb (pHf S C h) c ((4 : Int32) * nI h) (lN (pkH (fun j => pk16 (S' (4 * h + j))) j)) (nI (4 * h + j))) _
      unfold b_X1_step_12
      simp (disch := omega) only [↓reduceIte, if_pos, if_neg, ldA_n, stA_n, pI_add, pI_mul, pI_sub, pI_lt_iff, pI_le_iff, pI_eq_iff, ob_s, upE, upN, pI_dec2, asR_some, bitZ0, bitZ1, Sum.elim_inl, Sum.elim_inr, pL0, pL1, pL2, pL3, pL4, pL5, pL6, pL7, pL8, pL10, pL12, pL15, pL16, pL20, pL21, pL22, pL23, pL29, pL31, pL35, pL37, pL48, pL49, pL50, pL52, pL57, pL94, pL97, pL99, pL100, pL127, pL400, pL1000, pL1023, pL1024, pL2000, pL2001, pL2187, pL4095, pL4096, pL8191, pL8192, pL65535, d1, tsA_s d2, e1, e2, t1, t2, t4, t5, d4, e3, e4]
      refine wp_l ⟨rfl, ?_⟩
      rw [show 4 * h + j + 1 - 4 * h = j + 1 by omega]
      rfl
    · rintro ⟨x, y⟩ ⟨hy, hx⟩
      simp only at hy hx
      subst hy hx
      rw [show 4 * h + m - 4 * h = m by omega]
      show Wp (b_X1_step_12 tq (nI C) mb (pHf S C h) c ((4 : Int32) * nI h) (lN (pkH (fun j => pk16 (S' (4 * h + j))) m)) (nI (4 * h + m))) _
      unfold b_X1_step_12
      rcases hend with e4 | e4
      · simp (disch := omega) only [↓reduceIte, if_pos, if_neg, ldA_n, stA_n, pI_add, pI_mul, pI_sub, pI_lt_iff, pI_le_iff, pI_eq_iff, ob_s, upE, upN, pI_dec2, asR_some, bitZ0, bitZ1, Sum.elim_inl, Sum.elim_inr, pL0, pL1, pL2, pL3, pL4, pL5, pL6, pL7, pL8, pL10, pL12, pL15, pL16, pL20, pL21, pL22, pL23, pL29, pL31, pL35, pL37, pL48, pL49, pL50, pL52, pL57, pL94, pL97, pL99, pL100, pL127, pL400, pL1000, pL1023, pL1024, pL2000, pL2001, pL2187, pL4095, pL4096, pL8191, pL8192, pL65535]
        exact wp_r rfl
      · by_cases e5 : 4 * h + 4 ≤ 4 * h + m
        · simp (disch := omega) only [↓reduceIte, if_pos, if_neg, ldA_n, stA_n, pI_add, pI_mul, pI_sub, pI_lt_iff, pI_le_iff, pI_eq_iff, ob_s, upE, upN, pI_dec2, asR_some, bitZ0, bitZ1, Sum.elim_inl, Sum.elim_inr, pL0, pL1, pL2, pL3, pL4, pL5, pL6, pL7, pL8, pL10, pL12, pL15, pL16, pL20, pL21, pL22, pL23, pL29, pL31, pL35, pL37, pL48, pL49, pL50, pL52, pL57, pL94, pL97, pL99, pL100, pL127, pL400, pL1000, pL1023, pL1024, pL2000, pL2001, pL2187, pL4095, pL4096, pL8191, pL8192, pL65535]
          exact wp_r rfl
        · simp (disch := omega) only [↓reduceIte, if_pos, if_neg, ldA_n, stA_n, pI_add, pI_mul, pI_sub, pI_lt_iff, pI_le_iff, pI_eq_iff, ob_s, upE, upN, pI_dec2, asR_some, bitZ0, bitZ1, Sum.elim_inl, Sum.elim_inr, pL0, pL1, pL2, pL3, pL4, pL5, pL6, pL7, pL8, pL10, pL12, pL15, pL16, pL20, pL21, pL22, pL23, pL29, pL31, pL35, pL37, pL48, pL49, pL50, pL52, pL57, pL94, pL97, pL99, pL100, pL127, pL400, pL1000, pL1023, pL1024, pL2000, pL2001, pL2187, pL4095, pL4096, pL8191, pL8192, pL65535]
          exact wp_r rfl
  obtain ⟨u, eu, rfl⟩ := key
  unfold f_X1_step
  rw [eu]
  show some _ = _
  unfold pHf
  rw [← hm]
theorem stp_ok {C : Nat} {c : Int32} {K B N : Nat → Nat} {P : Nat → Nat → Int32} {S : Nat → Nat → Nat} (hK : ∀ i, i < C → kOK (K i) (B i) (N i)) (H : sOK C K B N S) : ∃ S', sOK C K B N S' ∧ (∀ i, i < C → S' i = tst (K i) (B i) (N i) (P i) c (S i)) ∧ ∀ i, C ≤ i → S' i = S i := by
  refine ⟨fun i => if i < C then tst (K i) (B i) (N i) (P i) c (S i) else S i, ⟨fun i hi => ?_, fun i j => ?_⟩, fun i hi => if_pos hi, fun i hi => if_neg (by omega)⟩
  · show tOK _ _ _ (if i < C then _ else _)
    rw [if_pos hi]
    exact tst_ok (hK i hi) (H.1 i hi)
  · show (if i < C then tst (K i) (B i) (N i) (P i) c (S i) else S i) j < 10
    by_cases hi : i < C
    · rw [if_pos hi]
      exact tOK_16 (hK i hi) (tst_ok (hK i hi) (H.1 i hi)) j
    · rw [if_neg hi]
      exact H.2 i j
theorem bval_ok {tq : Nat → Option TV} {C i : Nat} {mb : Nat → Option Nat} {K B N : Nat → Nat} {P : Nat → Nat → Int32} {S : Nat → Nat → Nat} (hC : C ≤ 8) (hi : i < C) (D : BDat tq C mb K B N P) (H : sOK C K B N S) : f_X1_valueAt (nI i) (pHf S C 0) (pHf S C 1) tq mb = some (nI (vS (K i) (N i) (S i))) := by
  obtain ⟨a, v, d1, d2, d3, d4⟩ := D i hi
  have K0 := kOK_of d3
  have e3 := valueAt_ok K0 (H.1 i hi)
  have t1 := d3.1
  have t4 := d3.2.2.2.1
  have ea : nI i &&& nI 3 = nI (i % 4) := by
    rw [pk_andN (by omega) 2 (by decide)]
  unfold f_X1_valueAt j_X1_valueAt_11
  by_cases h4 : 4 ≤ i
  · have e1 : (ushL (pHf S C 1) (nI (16 * (i % 4)))).toInt32 &&& nI 65535 = nI (pk16 (S i)) := by
      unfold pHf
      rw [half_get (fun j => s16 H _) (by omega) (show i % 4 < min 4 (C - 4 * 1) by omega)]
      show nI (pk16 (S (4 * 1 + i % 4))) = _
      rw [show 4 * 1 + i % 4 = i by omega]
    simp (disch := omega) only [↓reduceIte, if_pos, if_neg, ldA_n, stA_n, pI_add, pI_mul, pI_sub, pI_lt_iff, pI_le_iff, pI_eq_iff, ob_s, upE, upN, pI_dec2, asR_some, bitZ0, bitZ1, Sum.elim_inl, Sum.elim_inr, pL0, pL1, pL2, pL3, pL4, pL5, pL6, pL7, pL8, pL10, pL12, pL15, pL16, pL20, pL21, pL22, pL23, pL29, pL31, pL35, pL37, pL48, pL49, pL50, pL52, pL57, pL94, pL97, pL99, pL100, pL127, pL400, pL1000, pL1023, pL1024, pL2000, pL2001, pL2187, pL4095, pL4096, pL8191, pL8192, pL65535, d1, tsA_s d2, ea, e1, t1, t4, e3]
  · have e1 : (ushL (pHf S C 0) (nI (16 * (i % 4)))).toInt32 &&& nI 65535 = nI (pk16 (S i)) := by
      unfold pHf
      rw [half_get (fun j => s16 H _) (by omega) (show i % 4 < min 4 (C - 4 * 0) by omega)]
      show nI (pk16 (S (4 * 0 + i % 4))) = _
      rw [show 4 * 0 + i % 4 = i by omega]
    simp (disch := omega) only [↓reduceIte, if_pos, if_neg, ldA_n, stA_n, pI_add, pI_mul, pI_sub, pI_lt_iff, pI_le_iff, pI_eq_iff, ob_s, upE, upN, pI_dec2, asR_some, bitZ0, bitZ1, Sum.elim_inl, Sum.elim_inr, pL0, pL1, pL2, pL3, pL4, pL5, pL6, pL7, pL8, pL10, pL12, pL15, pL16, pL20, pL21, pL22, pL23, pL29, pL31, pL35, pL37, pL48, pL49, pL50, pL52, pL57, pL94, pL97, pL99, pL100, pL127, pL400, pL1000, pL1023, pL1024, pL2000, pL2001, pL2187, pL4095, pL4096, pL8191, pL8192, pL65535, d1, tsA_s d2, ea, e1, t1, t4, e3]
theorem bsig_ok {tq : Nat → Option TV} {C : Nat} {mb : Nat → Option Nat} {K B N : Nat → Nat} {P : Nat → Nat → Int32} {S : Nat → Nat → Nat} (hC : C ≤ 8) (D : BDat tq C mb K B N P) (H : sOK C K B N S) : f_X1_signatureAt (pHf S C 0) (pHf S C 1) tq (nI C) mb = some (sg (fun t => nI (vS (K t) (N t) (S t))) (fun t => nI (rN (K t) (B t))) C C) := by
  have key : Wp (loopN (fun v => b_X1_signatureAt_11 tq mb (pHf S C 0) (pHf S C 1) v.1 v.2) FU ((0 : Int32), (nI C - (1 : Int32)))) (fun u => u = sg (fun t => nI (vS (K t) (N t) (S t))) (fun t => nI (rN (K t) (B t))) C C) := by
    refine wp_dn (fun i v => v.2 = nI i - nI 1 ∧ v.1 = sg (fun t => nI (vS (K t) (N t) (S t))) (fun t => nI (rN (K t) (B t))) C (C - i)) 0 C ⟨rfl, by rw [Nat.sub_self]; rfl⟩ (by omega) (by omega) ?_ ?_
    · rintro i ⟨x, y⟩ h1 h2 ⟨hy, hx⟩
      simp only at hy hx
      subst hy
      obtain ⟨a, v, d1, d2, d3, d4⟩ := D (i - 1) (by omega)
      have ev := bval_ok hC (show i - 1 < C by omega) D H
      have t3 := d3.2.2.1
      show Wp (b_X1_signatureAt_11 tq mb (pHf S C 0) (pHf S C 1) x (nI i - nI 1)) _
      unfold b_X1_signatureAt_11
      simp (disch := omega) only [↓reduceIte, if_pos, if_neg, ldA_n, stA_n, pI_add, pI_mul, pI_sub, pI_lt_iff, pI_le_iff, pI_eq_iff, ob_s, upE, upN, pI_dec2, asR_some, bitZ0, bitZ1, Sum.elim_inl, Sum.elim_inr, pL0, pL1, pL2, pL3, pL4, pL5, pL6, pL7, pL8, pL10, pL12, pL15, pL16, pL20, pL21, pL22, pL23, pL29, pL31, pL35, pL37, pL48, pL49, pL50, pL52, pL57, pL94, pL97, pL99, pL100, pL127, pL400, pL1000, pL1023, pL1024, pL2000, pL2001, pL2187, pL4095, pL4096, pL8191, pL8192, pL65535, d1, tsA_s d2, ev]
      refine wp_l ⟨n_sub1, ?_⟩
      show nI (vS (K (i - 1)) (N (i - 1)) (S (i - 1))) + v.2.2.1 * x = _
      rw [sg_st h1 h2, hx, t3]
      rfl
    · rintro ⟨x, y⟩ ⟨hy, hx⟩
      simp only at hy hx
      subst hy
      show Wp (b_X1_signatureAt_11 tq mb (pHf S C 0) (pHf S C 1) x (nI 0 - nI 1)) _
      unfold b_X1_signatureAt_11
      rw [if_pos (show nI 0 - nI 1 < 0 from n1_neg)]
      refine wp_r ?_
      rw [hx, Nat.sub_zero]
  obtain ⟨u, eu, rfl⟩ := key
  unfold f_X1_signatureAt
  rw [eu]
  rfl
