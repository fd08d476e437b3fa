set_option linter.unusedVariables false
/-! both automata side by side -/
def sZ (C : Nat) (S : Nat → Nat → Nat) : Prop := ∀ i, C ≤ i → S i = fun _ => 0
/-- part m of the reference's machine is test r m of the class's bundle, or a filler -/
def RHO (C C' : Nat) (K B N : Nat → Nat) (P : Nat → Nat → Int32) (K' B' N' : Nat → Nat) (mp : Nat → Int32) (r : Nat → Nat) : Prop := (∀ m, m < C' → (r m < C ∧ K' m = K (r m) ∧ B' m = B (r m) ∧ N' m = N (r m) ∧ ∀ i, i < N (r m) → mp (4 * m + i) = P (r m) i) ∨ (C ≤ r m ∧ K' m = 1 ∧ B' m = 1 ∧ N' m = 0)) ∧ ∀ i, i < C → ∃ m, m < C' ∧ r m = i
theorem rho_ok {C C' : Nat} {K B N : Nat → Nat} {P : Nat → Nat → Int32} {K' B' N' : Nat → Nat} {mp : Nat → Int32} {r : Nat → Nat} {S : Nat → Nat → Nat} (R : RHO C C' K B N P K' B' N' mp r) (H : sOK C K B N S) (Z : sZ C S) : sOK C' K' B' N' (fun m => S (r m)) := by
  refine ⟨fun m hm => ?_, fun m j => H.2 _ _⟩
  show tOK (K' m) (B' m) (N' m) (S (r m))
  rcases R.1 m hm with ⟨h1, h2, h3, h4, _⟩ | ⟨h1, h2, h3, h4⟩
  · rw [h2, h3, h4]
    exact H.1 _ h1
  · rw [Z _ h1, h2, h3, h4]
    exact tOK_0 ⟨by omega, by omega, Or.inl ⟨rfl, rfl⟩⟩
theorem tst_congr {k b l : Nat} {p p' : Nat → Int32} {c : Int32} {σ : Nat → Nat} (h : ∀ i, i < l → p i = p' i) : tst k b l p c σ = tst k b l p' c σ := by
  funext i
  unfold tst
  by_cases c1 : k = 1
  · rw [if_pos c1, if_pos c1]
  · rw [if_neg c1, if_neg c1]
    by_cases hi : i < l
    · rw [h i hi]
    · rw [if_neg (fun h => hi h.1), if_neg (fun h => hi h.1)]
theorem rho_st {C C' : Nat} {K B N : Nat → Nat} {P : Nat → Nat → Int32} {K' B' N' : Nat → Nat} {mp : Nat → Int32} {r : Nat → Nat} {S S' : Nat → Nat → Nat} {c : Int32} (R : RHO C C' K B N P K' B' N' mp r) (Z : sZ C S) (Z' : sZ C S') (e : ∀ i, i < C → S' i = tst (K i) (B i) (N i) (P i) c (S i)) : ∀ m, m < C' → (fun m => S' (r m)) m = tst (K' m) (B' m) (N' m) (fun j => mp (4 * m + j)) c ((fun m => S (r m)) m) := by
  intro m hm
  show S' (r m) = tst (K' m) (B' m) (N' m) (fun j => mp (4 * m + j)) c (S (r m))
  rcases R.1 m hm with ⟨h1, h2, h3, h4, h5⟩ | ⟨h1, h2, h3, h4⟩
  · rw [h2, h3, h4, e _ h1]
    exact tst_congr (fun i hi => (h5 i hi).symm)
  · rw [Z _ h1, Z' _ h1, h2, h3, h4]
    funext i
    show 0 = (if 1 = 1 then (if i = 0 then (0 + 1) % 1 else 0) else if i < 0 ∧ mp (4 * m + i) = c then bnd 1 1 (0 + (if i = 0 then 1 else 0)) else 0)
    rw [if_pos rfl]
    by_cases hi : i = 0
    · rw [if_pos hi]
    · rw [if_neg hi]
def seq4 (C : Nat) (S S2 : Nat → Nat → Nat) : Prop := ∀ i j, i < C → j < 4 → S i j = S2 i j
theorem lN_inj64 {a b : Nat} (ha : a < 2 ^ 64) (hb : b < 2 ^ 64) (e : lN a = lN b) : a = b := by
  have := congrArg (fun x : Int64 => x.toBitVec.toNat) e
  have this : (lN a).toBitVec.toNat = (lN b).toBitVec.toNat := this
  rw [wb_tn ha, wb_tn hb] at this
  exact this
theorem keyC {C : Nat} {K B N : Nat → Nat} {S S2 : Nat → Nat → Nat} (hC : C ≤ 8) (H : sOK C K B N S) (H2 : sOK C K B N S2) : (pHf S C 0 = pHf S2 C 0 ∧ pHf S C 1 = pHf S2 C 1) ↔ seq4 C S S2 := by
  constructor
  · rintro ⟨e0, e1⟩ i j hi hj
    have key : ∀ h, h < 2 → pHf S C h = pHf S2 C h → ∀ x, x < min 4 (C - 4 * h) → pk16 (S (4 * h + x)) = pk16 (S2 (4 * h + x)) := by
      intro h hh e x hx
      have b1 : pkH (fun j => pk16 (S (4 * h + j))) (min 4 (C - 4 * h)) < 2 ^ 64 := Nat.lt_of_lt_of_le (pkH_lt (fun i => s16 H _) _) (p64 (Nat.min_le_left _ _))
      have b2 : pkH (fun j => pk16 (S2 (4 * h + j))) (min 4 (C - 4 * h)) < 2 ^ 64 := Nat.lt_of_lt_of_le (pkH_lt (fun i => s16 H2 _) _) (p64 (Nat.min_le_left _ _))
      exact pkH_inj (F := fun j => pk16 (S (4 * h + j))) (G := fun j => pk16 (S2 (4 * h + j))) (fun i => s16 H _) (fun i => s16 H2 _) (Nat.min_le_left _ _) (lN_inj64 b1 b2 e) x hx
    have e : pk16 (S i) = pk16 (S2 i) := by
      by_cases c : i < 4
      · have := key 0 (by omega) e0 i (by omega)
        rw [show 4 * 0 + i = i by omega] at this
        exact this
      · have := key 1 (by omega) e1 (i - 4) (by omega)
        rw [show 4 * 1 + (i - 4) = i by omega] at this
        exact this
    exact pk16_inj (fun j => Nat.lt_of_lt_of_le (H.2 i j) (by omega)) (fun j => Nat.lt_of_lt_of_le (H2.2 i j) (by omega)) e j hj
  · intro h
    exact ⟨pHf_congr h, pHf_congr h⟩
theorem keyR {C C' : Nat} {K B N : Nat → Nat} {P : Nat → Nat → Int32} {K' B' N' : Nat → Nat} {mp : Nat → Int32} {r : Nat → Nat} {S S2 : Nat → Nat → Nat} (hC' : C' ≤ 8) (R : RHO C C' K B N P K' B' N' mp r) (H : sOK C K B N S) (H2 : sOK C K B N S2) (Z : sZ C S) (Z2 : sZ C S2) : (pDf (fun m => S (r m)) C' 0 = pDf (fun m => S2 (r m)) C' 0 ∧ pDf (fun m => S (r m)) C' 1 = pDf (fun m => S2 (r m)) C' 1) ↔ seq4 C S S2 := by
  have G := rho_ok R H Z
  have G2 := rho_ok R H2 Z2
  constructor
  · rintro ⟨e0, e1⟩ i j hi hj
    obtain ⟨m, hm, rfl⟩ := R.2 i hi
    have key : ∀ h, h < 2 → pDf (fun m => S (r m)) C' h = pDf (fun m => S2 (r m)) C' h → ∀ x, x < min 4 (C' - 4 * h) → pk10 (S (r (4 * h + x))) = pk10 (S2 (r (4 * h + x))) := by
      intro h hh e x hx
      have b1 := pDf_b (h := h) G
      have b2 := pDf_b (h := h) G2
      have e3 := lN_inj64 (Nat.lt_trans b1 (by decide)) (Nat.lt_trans b2 (by decide)) e
      have q1 := pkD_get (F := fun j => pk10 (S (r (4 * h + j)))) (fun i => d4 G _) (Nat.min_le_left 4 (C' - 4 * h)) hx
      have q2 := pkD_get (F := fun j => pk10 (S2 (r (4 * h + j)))) (fun i => d4 G2 _) (Nat.min_le_left 4 (C' - 4 * h)) hx
      have e3 : pkD (fun j => pk10 (S (r (4 * h + j)))) (min 4 (C' - 4 * h)) = pkD (fun j => pk10 (S2 (r (4 * h + j)))) (min 4 (C' - 4 * h)) := e3
      rw [e3] at q1
      exact q1.symm.trans q2
    have e : pk10 (S (r m)) = pk10 (S2 (r m)) := by
      by_cases c : m < 4
      · have := key 0 (by omega) e0 m (by omega)
        rw [show 4 * 0 + m = m by omega] at this
        exact this
      · have := key 1 (by omega) e1 (m - 4) (by omega)
        rw [show 4 * 1 + (m - 4) = m by omega] at this
        exact this
    exact pk10_inj (fun j => H.2 _ j) (fun j => H2.2 _ j) e j hj
  · intro h
    have key : ∀ x, pDf (fun m => S (r m)) C' x = pDf (fun m => S2 (r m)) C' x := by
      intro x
      unfold pDf
      congr 1
      refine pkD_congr (fun j hj => pk10_congr (fun y hy => ?_))
      show S (r (4 * x + j)) y = S2 (r (4 * x + j)) y
      by_cases c : r (4 * x + j) < C
      · exact h _ y c hy
      · rw [Z _ (by omega), Z2 _ (by omega)]
    exact ⟨key 0, key 1⟩
/-- the states that both have found -/
def EX (C C' : Nat) (K B N : Nat → Nat) (r : Nat → Nat) (k n : Nat) (Sg : Nat → Nat → Nat → Nat) (lo hi cA cB : Nat → Int64) (dp pa la bf by' : Nat → Int32) : Prop :=
  (∀ s, s < n → sOK C K B N (Sg s) ∧ sZ C (Sg s) ∧ lo s = pHf (Sg s) C 0 ∧ hi s = pHf (Sg s) C 1 ∧ cA s = pDf (fun m => Sg s (r m)) C' 0 ∧ cB s = pDf (fun m => Sg s (r m)) C' 1) ∧
  (∀ s t, s < n → t < n → seq4 C (Sg s) (Sg t) → s = t) ∧
  (bf 0 = -nI 1 ∧ dp 0 = nI 0 ∧ ∀ s, 0 < s → s < n → ∃ p c d, p < s ∧ c < k ∧ d < s ∧ pa s = nI p ∧ bf s = nI p ∧ la s = nI c ∧ by' s = nI c ∧ dp p = nI d ∧ dp s = nI (d + 1))
def NXT (k n : Nat) (nx nx' : Nat → Int32) (pr : Nat → Nat → Prop) : Prop := ∀ s c, pr s c → c < k → ∃ x, x < n ∧ nx (3 * s + c) = nI x ∧ nx' (3 * s + c) = nI x
def INV (M1 M2 C C' : Nat) (K B N : Nat → Nat) (r : Nat → Nat) (k n : Nat) (Sg : Nat → Nat → Nat → Nat) (pr : Nat → Nat → Prop) (nx dp : Nat → Int32) (lo hi : Nat → Int64) (pa la sl : Nat → Int32) (cA cB kA kB : Nat → Int64) (fd nx' bf by' : Nat → Int32) : Prop := 1 ≤ n ∧ n ≤ 2000 ∧ EX C C' K B N r k n Sg lo hi cA cB dp pa la bf by' ∧ TC M1 sl n lo hi ∧ TR M2 fd n kA kB cA cB ∧ NXT k n nx nx' pr
theorem dep_of {C C' : Nat} {K B N : Nat → Nat} {r : Nat → Nat} {k n s : Nat} {Sg : Nat → Nat → Nat → Nat} {lo hi cA cB : Nat → Int64} {dp pa la bf by' : Nat → Int32} (E : EX C C' K B N r k n Sg lo hi cA cB dp pa la bf by') (hs : s < n) : ∃ d, d ≤ s ∧ dp s = nI d := by
  obtain ⟨_, _, e1, e2, e3⟩ := E
  by_cases c : s = 0
  · subst c
    exact ⟨0, by omega, e2⟩
  · obtain ⟨p, c, d, h1, h2, h3, h4, h5, h6, h7, h8, h9⟩ := e3 s (by omega) hs
    exact ⟨d + 1, by omega, h9⟩
theorem NXT_set {k n n' s c x : Nat} {nx nx' : Nat → Int32} (h : NXT k n nx nx' (fun a b => a < s ∨ (a = s ∧ b < c))) (hn : n ≤ n') (hx : x < n') (hc : c < 3) (hk : k ≤ 3) : NXT k n' (va_up nx (3 * s + c) (nI x)) (va_up nx' (3 * s + c) (nI x)) (fun a b => a < s ∨ (a = s ∧ b < c + 1)) := by
  intro a b hab hb
  by_cases e : 3 * a + b = 3 * s + c
  · rw [upE e, upE e]
    exact ⟨x, hx, rfl, rfl⟩
  · rw [upN e, upN e]
    obtain ⟨y, y1, y2⟩ := h a b (by omega) hb
    exact ⟨y, by omega, y2⟩
theorem EX_new {C C' : Nat} {K B N : Nat → Nat} {r : Nat → Nat} {k n s c d : Nat} {Sg : Nat → Nat → Nat → Nat} {S' : Nat → Nat → Nat} {lo hi cA cB : Nat → Int64} {dp pa la bf by' : Nat → Int32} (E : EX C C' K B N r k n Sg lo hi cA cB dp pa la bf by') (H' : sOK C K B N S') (Z' : sZ C S') (hno : ∀ t, t < n → ¬ seq4 C (Sg t) S') (hs : s < n) (hc : c < k) (hd : d ≤ s) (ed : dp s = nI d) : EX C C' K B N r k (n + 1) (va_up Sg n S') (va_up lo n (pHf S' C 0)) (va_up hi n (pHf S' C 1)) (va_up cA n (pDf (fun m => S' (r m)) C' 0)) (va_up cB n (pDf (fun m => S' (r m)) C' 1)) (va_up dp n (nI (d + 1))) (va_up pa n (nI s)) (va_up la n (nI c)) (va_up bf n (nI s)) (va_up by' n (nI c)) := by
  obtain ⟨e1, e2, e3, e4, e5⟩ := E
  refine ⟨fun t ht => ?_, fun a b ha hb hab => ?_, ?_, ?_, fun t h0 ht => ?_⟩
  · by_cases ct : t = n
    · subst ct
      rw [upE rfl, upE rfl, upE rfl, upE rfl, upE rfl]
      exact ⟨H', Z', rfl, rfl, rfl, rfl⟩
    · rw [upN ct, upN ct, upN ct, upN ct, upN ct]
      exact e1 t (by omega)
  · by_cases ca : a = n
    · by_cases cb : b = n
      · rw [ca, cb]
      · rw [upE ca, upN cb] at hab
        exact absurd (fun i j hi hj => (hab i j hi hj).symm) (hno b (by omega))
    · by_cases cb : b = n
      · rw [upN ca, upE cb] at hab
        exact absurd hab (hno a (by omega))
      · rw [upN ca, upN cb] at hab
        exact e2 a b (by omega) (by omega) hab
  · rw [upN (by omega)]
    exact e3
  · rw [upN (by omega)]
    exact e4
  · by_cases ct : t = n
    · subst ct
      refine ⟨s, c, d, hs, hc, by omega, upE rfl, upE rfl, upE rfl, upE rfl, ?_, upE rfl⟩
      rw [upN (by omega)]
      exact ed
    · obtain ⟨p, c', d', h1, h2, h3, h4, h5, h6, h7, h8, h9⟩ := e5 t h0 (by omega)
      refine ⟨p, c', d', h1, h2, h3, ?_, ?_, ?_, ?_, ?_, ?_⟩
      · rw [upN ct]; exact h4
      · rw [upN ct]; exact h5
      · rw [upN ct]; exact h6
      · rw [upN ct]; exact h7
      · rw [upN (by omega)]; exact h8
      · rw [upN ct]; exact h9
theorem stp_z {C : Nat} {c : Int32} {K B N : Nat → Nat} {P : Nat → Nat → Int32} {S : Nat → Nat → Nat} (hK : ∀ i, i < C → kOK (K i) (B i) (N i)) (H : sOK C K B N S) (Z : sZ C S) : ∃ S', sOK C K B N S' ∧ sZ C S' ∧ ∀ i, i < C → S' i = tst (K i) (B i) (N i) (P i) c (S i) := by
  obtain ⟨S', h1, h2, h3⟩ := stp_ok (c := c) (P := P) hK H
  exact ⟨S', h1, fun i hi => by rw [h3 i hi, Z i hi], h2⟩
/-- what both loops over the letters of a state end with -/
abbrev XC : Type := Int32 × (Nat → Int32) × (Nat → Int32) × (Nat → Int64) × (Nat → Int64) × (Nat → Int32) × (Nat → Int32) × (Nat → Int32)
abbrev XM : Type := Int32 × (Nat → Int32) × (Nat → Int64) × (Nat → Int64) × (Nat → Int64) × (Nat → Int64) × (Nat → Int32) × (Nat → Int32) × (Nat → Int32) × (Nat → Int32)
def XI (M1 M2 C C' : Nat) (K B N : Nat → Nat) (r : Nat → Nat) (k s0 : Nat) (pr : Nat → Nat → Prop) (o : XC) (m : XM) : Prop := ∃ n Sg, s0 ≤ n ∧ o.1 = nI n ∧ m.1 = nI n ∧ INV M1 M2 C C' K B N r k n Sg pr o.2.1 o.2.2.1 o.2.2.2.1 o.2.2.2.2.1 o.2.2.2.2.2.1 o.2.2.2.2.2.2.1 o.2.2.2.2.2.2.2 m.2.2.1 m.2.2.2.1 m.2.2.2.2.1 m.2.2.2.2.2.1 m.2.2.2.2.2.2.1 m.2.2.2.2.2.2.2.1 m.2.2.2.2.2.2.2.2.1 m.2.2.2.2.2.2.2.2.2
theorem exp_in {tq : Nat → Option TV} {mb : Nat → Option Nat} {M1 M2 C C' : Nat} {K B N : Nat → Nat} {P : Nat → Nat → Int32} {K' B' N' : Nat → Nat} {r : Nat → Nat} {mk mbd ml mp : Nat → Int32} {k s : Nat} (hM1 : M1 = 4096) (hM2 : M2 = 8192) (hC : C ≤ 8) (hC' : C' ≤ 8) (hk3 : k ≤ 3) (hK : ∀ i, i < C → kOK (K i) (B i) (N i)) (D : BDat tq C mb K B N P) (MD : MDat C' mk mbd ml K' B' N') (R : RHO C C' K B N P K' B' N' mp r) (v0 : XC) (w0 : XM) (hX : XI M1 M2 C C' K B N r k (s + 1) (fun a b => a < s ∨ (a = s ∧ b < 0)) v0 w0) :
    W2 (loopN (fun v => b_X0_explore_41 tq (nI C) mb (nI k) (nI s) v.1 v.2.1 v.2.2.1 v.2.2.2.1 v.2.2.2.2.1 v.2.2.2.2.2.1 v.2.2.2.2.2.2.1 v.2.2.2.2.2.2.2.1 v.2.2.2.2.2.2.2.2) FU (v0.1, v0.2.1, v0.2.2.1, v0.2.2.2.1, v0.2.2.2.2.1, v0.2.2.2.2.2.1, v0.2.2.2.2.2.2.1, v0.2.2.2.2.2.2.2, (0 : Int32))) (loopN (fun v => b_X12_builds_35 mk mbd ml mp (nI k) (nI C') (nI s) v.1 v.2.1 v.2.2.1 v.2.2.2.1 v.2.2.2.2.1 v.2.2.2.2.2.1 v.2.2.2.2.2.2.1 v.2.2.2.2.2.2.2.1 v.2.2.2.2.2.2.2.2.1 v.2.2.2.2.2.2.2.2.2.1 v.2.2.2.2.2.2.2.2.2.2) FU (w0.1, w0.2.1, w0.2.2.1, w0.2.2.2.1, w0.2.2.2.2.1, w0.2.2.2.2.2.1, w0.2.2.2.2.2.2.1, w0.2.2.2.2.2.2.2.1, w0.2.2.2.2.2.2.2.2.1, w0.2.2.2.2.2.2.2.2.2, (0 : Int32))) (SR (fun _ _ => True) (fun o m => XI M1 M2 C C' K B N r k (s + 1) (fun a b => a < s + 1) o m)) := by
  refine w2_up (fun c v w => v.2.2.2.2.2.2.2.2 = nI c ∧ w.2.2.2.2.2.2.2.2.2.2 = nI c ∧ XI M1 M2 C C' K B N r k (s + 1) (fun a b => a < s ∨ (a = s ∧ b < c)) (v.1, v.2.1, v.2.2.1, v.2.2.2.1, v.2.2.2.2.1, v.2.2.2.2.2.1, v.2.2.2.2.2.2.1, v.2.2.2.2.2.2.2.1) (w.1, w.2.1, w.2.2.1, w.2.2.2.1, w.2.2.2.2.1, w.2.2.2.2.2.1, w.2.2.2.2.2.2.1, w.2.2.2.2.2.2.2.1, w.2.2.2.2.2.2.2.2.1, w.2.2.2.2.2.2.2.2.2.1)) 0 k ⟨rfl, rfl, hX⟩ (by omega) (by omega) ?_ ?_
  · rintro c ⟨st, nx, dp, lo, hi, pa, la, sl, y⟩ ⟨st', dg, cA, cB, kA, kB, fd, nx', bf, by', z⟩ h1 h2 ⟨hy, hz, n, Sg, hsn, e1, e2, I⟩
    simp only at hy hz e1 e2 I
    subst hy hz e1 e2
    obtain ⟨i1, i2, E, TC1, TR1, NX⟩ := I
    obtain ⟨H, Z, elo, ehi, eA, eB⟩ := E.1 s (by omega)
    obtain ⟨S', H', Z', eS⟩ := stp_z (c := nI c) (P := P) hK H Z
    have G := rho_ok R H Z
    have G' := rho_ok R H' Z'
    have s0 := bstep_ok (h := 0) (c := nI c) hC (by omega) D H H' eS
    have s1 := bstep_ok (h := 1) (c := nI c) hC (by omega) D H H' eS
    obtain ⟨d, hd, ed⟩ := dep_of E (show s < n by omega)
    show W2 (b_X0_explore_41 tq (nI C) mb (nI k) (nI s) (nI n) nx dp lo hi pa la sl (nI c)) (b_X12_builds_35 mk mbd ml mp (nI k) (nI C') (nI s) (nI n) dg cA cB kA kB fd nx' bf by' (nI c)) _
    unfold b_X0_explore_41 b_X12_builds_35
    rw [if_neg (show ¬ nI k ≤ nI c by rw [pI_le_iff (by omega) (by omega)]; omega), if_neg (show ¬ nI k ≤ nI c by rw [pI_le_iff (by omega) (by omega)]; omega), ldA_n (by omega) (by omega), elo, show f_X1_step (0 : Int32) (pHf (Sg s) C 0) (nI c) tq (nI C) mb = some (pHf S' C 0) from s0, ob_s, ldA_n (by omega) (by omega), ehi, show f_X1_step (1 : Int32) (pHf (Sg s) C 1) (nI c) tq (nI C) mb = some (pHf S' C 1) from s1, ob_s, ldA_n (by omega) (by omega), eA]
    refine w2_r (show Wp (f_X12_steppedCode (pDf (fun m => Sg s (r m)) C' 0) (0 : Int32) (nI c) (nI C') mk mbd ml mp dg) (fun o => o.1 = pDf (fun m => S' (r m)) C' 0) from cstep_ok (h := 0) hC' (by omega) MD G G' (rho_st R Z Z' eS)) (fun u hu => ?_)
    rw [ldA_n (by omega) (by omega), eB, hu]
    refine w2_r (show Wp (f_X12_steppedCode (pDf (fun m => Sg s (r m)) C' 1) (4 : Int32) (nI c) (nI C') mk mbd ml mp u.2) (fun o => o.1 = pDf (fun m => S' (r m)) C' 1) from cstep_ok (h := 1) hC' (by omega) MD G G' (rho_st R Z Z' eS)) (fun w hw => ?_)
    rw [hw]
    refine w2_l (reach_ok hM1 i2 TC1) (fun o ho => w2_r (slot_ok hM2 i2 TR1) (fun j hj => ?_))
    obtain ⟨j, hj8, rfl, hj⟩ := hj
    have eqC : ∀ t, t < n → ((lo t = pHf S' C 0 ∧ hi t = pHf S' C 1) ↔ seq4 C (Sg t) S') := by
      intro t ht
      obtain ⟨Ht, Zt, a1, a2, a3, a4⟩ := E.1 t ht
      rw [a1, a2]
      exact keyC hC Ht H'
    have eqR : ∀ t, t < n → ((cA t = pDf (fun m => S' (r m)) C' 0 ∧ cB t = pDf (fun m => S' (r m)) C' 1) ↔ seq4 C (Sg t) S') := by
      intro t ht
      obtain ⟨Ht, Zt, a1, a2, a3, a4⟩ := E.1 t ht
      rw [a3, a4]
      exact keyR hC' R Ht H' Zt Z'
    have tr : ∀ a b, a < n → b < n → seq4 C (Sg a) S' → seq4 C (Sg b) S' → a = b := fun a b ha hb h1 h2 => E.2.1 a b ha hb (fun i j hi hj => (h1 i j hi hj).trans (h2 i j hi hj).symm)
    have exi : 3 * s + c < 6000 := by omega
    rcases ho with ⟨t, ht, c1, c2, rfl⟩ | ⟨hno, ho⟩
    · rcases hj with ⟨t', ht', c3, c4, c5⟩ | ⟨c3, c4, c5⟩
      · have : t' = t := tr t' t ht' ht ((eqR t' ht').mp ⟨c4, c5⟩) ((eqC t ht).mp ⟨c1, c2⟩)
        subst this
        unfold j_X12_builds_112
        dsimp only
        rw [ldA_n hj8 (by omega), c3, if_pos (nI_pos' (by omega)), if_pos (nI_pos' (by omega)), ldA_n hj8 (by omega), c3, pL3, pI_mul, pI_add, stA_n (by omega) (by omega), if_neg (show ¬ nI t' = nI n from fun e => by have := pI_inj (by omega) (by omega) e; omega), pI_mul, pI_add, stA_n (by omega) (by omega), show s * 3 + c = 3 * s + c by omega]
        refine w2_ll ?_
        exact ⟨pI_add, pI_add, n, Sg, hsn, rfl, rfl, i1, i2, E, TC1, TR1, NXT_set NX (Nat.le_refl _) ht' (by omega) hk3⟩
      · exact absurd ((eqR t ht).mpr ((eqC t ht).mp ⟨c1, c2⟩)) (c4 t ht)
    · have hno' : ∀ t, t < n → ¬ seq4 C (Sg t) S' := fun t ht h => hno t ht ((eqC t ht).mpr h)
      rcases hj with ⟨t', ht', c3, c4, c5⟩ | ⟨c3, c4, c5⟩
      · exact absurd ((eqR t' ht').mp ⟨c4, c5⟩) (hno' t' ht')
      · rcases ho with ⟨hn2, sl', rfl, TC2⟩ | ⟨hn2, ho1⟩
        · unfold j_X12_builds_112 f_X12_addState f_X12_putKey
          dsimp only
          rw [ldA_n hj8 (by omega), c3, if_neg (show ¬ (0 : Int32) ≤ -nI 1 by decide), if_neg (show ¬ nI n = (2000 : Int32) from fun e => by have := pI_inj (b := 2000) (by omega) (by omega) e; omega), stA_n hj8 (by omega), stA_n hj8 (by omega), stA_n hj8 (by omega), ob_s, stA_n (by omega) (by omega), stA_n (by omega) (by omega), stA_n (by omega) (by omega), stA_n (by omega) (by omega), ob_s]
          dsimp only
          rw [ldA_n hj8 (by omega), upE rfl, if_pos (nI_pos' (by omega)), pL3, pI_mul, pI_add, stA_n (by omega) (by omega), if_pos rfl, stA_n (by omega) (by omega), stA_n (by omega) (by omega), ldA_n (by omega) (by omega), ed, stA_n (by omega) (by omega), pI_mul, pI_add, stA_n (by omega) (by omega), pL1, pI_add, pI_add, pI_add, show s * 3 + c = 3 * s + c by omega]
          exact w2_ll ⟨rfl, rfl, n + 1, va_up Sg n S', by omega, rfl, rfl, by omega, by omega, EX_new E H' Z' hno' (by omega) h2 hd ed, TC2, c5, NXT_set NX (by omega) (by omega) (by omega) hk3⟩
        · rw [ldA_n hj8 (by omega), c3, if_neg (show ¬ (0 : Int32) ≤ -nI 1 by decide), if_pos (show nI n = (2000 : Int32) by rw [hn2]; rfl), ho1, if_neg (show ¬ (0 : Int32) ≤ -nI 1 by decide)]
          exact w2_rr trivial
  · rintro ⟨st, nx, dp, lo, hi, pa, la, sl, y⟩ ⟨st', dg, cA, cB, kA, kB, fd, nx', bf, by', z⟩ ⟨hy, hz, n, Sg, hsn, e1, e2, I⟩
    simp only at hy hz e1 e2 I
    subst hy hz e1 e2
    obtain ⟨i1, i2, E, TC1, TR1, NX⟩ := I
    show W2 (b_X0_explore_41 tq (nI C) mb (nI k) (nI s) (nI n) nx dp lo hi pa la sl (nI k)) (b_X12_builds_35 mk mbd ml mp (nI k) (nI C') (nI s) (nI n) dg cA cB kA kB fd nx' bf by' (nI k)) _
    unfold b_X0_explore_41 b_X12_builds_35
    rw [if_pos (Int32.le_refl _), if_pos (Int32.le_refl _)]
    refine w2_rr ⟨n, Sg, hsn, rfl, rfl, i1, i2, E, TC1, TR1, fun a b hab hb => NX a b ?_ hb⟩
    by_cases c : a < s
    · exact Or.inl c
    · have hab : a < s + 1 := hab
      exact Or.inr ⟨by omega, hb⟩
