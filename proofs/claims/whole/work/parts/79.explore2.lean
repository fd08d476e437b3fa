set_option linter.unusedVariables false
/-! explore and builds; marks and answers -/
/-- both automata, built -/
def AU (C C' : Nat) (K B N : Nat → Nat) (r : Nat → Nat) (k n : Nat) (Sg : Nat → Nat → Nat → Nat) (nx dp : Nat → Int32) (lo hi : Nat → Int64) (pa la : Nat → Int32) (cA cB : Nat → Int64) (nx' bf by' : Nat → Int32) : Prop := 1 ≤ n ∧ n ≤ 2000 ∧ EX C C' K B N r k n Sg lo hi cA cB dp pa la bf by' ∧ NXT k n nx nx' (fun a _ => a < n)
theorem pHf_0 {C h : Nat} : pHf (fun _ _ => 0) C h = 0 := by
  unfold pHf
  rw [pkH_0 (F := fun j => pk16 ((fun _ _ => 0 : Nat → Nat → Nat) (4 * h + j))) (fun _ => rfl)]
  rfl
theorem pkD_0 {F : Nat → Nat} (h : ∀ i, F i = 0) : ∀ n, pkD F n = 0
  | 0 => rfl
  | n + 1 => by
    show pkD F n + F n * 10000 ^ n = 0
    rw [pkD_0 h n, h n, Nat.zero_mul]
theorem pDf_0 {C h : Nat} : pDf (fun _ _ => 0) C h = 0 := by
  unfold pDf
  rw [pkD_0 (F := fun j => pk10 ((fun _ _ => 0 : Nat → Nat → Nat) (4 * h + j))) (fun _ => rfl)]
  rfl
def AUo (C C' : Nat) (K B N : Nat → Nat) (r : Nat → Nat) (k : Nat) (o : XC) (m : XM) : Prop := ∃ n Sg, o.1 = nI n ∧ m.1 = nI n ∧ AU C C' K B N r k n Sg o.2.1 o.2.2.1 o.2.2.2.1 o.2.2.2.2.1 o.2.2.2.2.2.1 o.2.2.2.2.2.2.1 m.2.2.1 m.2.2.2.1 m.2.2.2.2.2.2.2.1 m.2.2.2.2.2.2.2.2.1 m.2.2.2.2.2.2.2.2.2
theorem exp_out {tq : Nat → Option TV} {mb : Nat → Option Nat} {M1 M2 C C' : Nat} {K B N : Nat → Nat} {P : Nat → Nat → Int32} {K' B' N' : Nat → Nat} {r : Nat → Nat} {mk mbd ml mp : Nat → Int32} {k : Nat} (hM1 : M1 = 4096) (hM2 : M2 = 8192) (hC : C ≤ 8) (hC' : C' ≤ 8) (hk3 : k ≤ 3) (hK : ∀ i, i < C → kOK (K i) (B i) (N i)) (D : BDat tq C mb K B N P) (MD : MDat C' mk mbd ml K' B' N') (R : RHO C C' K B N P K' B' N' mp r) (v0 : XC) (w0 : XM) (hX0 : XI M1 M2 C C' K B N r k 0 (fun a b => a < 0) v0 w0) :
    W2 (loopN (fun v => b_X0_explore_24 tq (nI C) mb (nI k) v.1 v.2.1 v.2.2.1 v.2.2.2.1 v.2.2.2.2.1 v.2.2.2.2.2.1 v.2.2.2.2.2.2.1 v.2.2.2.2.2.2.2.1 v.2.2.2.2.2.2.2.2) FU (v0.1, v0.2.1, v0.2.2.1, v0.2.2.2.1, v0.2.2.2.2.1, v0.2.2.2.2.2.1, v0.2.2.2.2.2.2.1, v0.2.2.2.2.2.2.2, (0 : Int32))) (loopN (fun v => b_X12_builds_25 mk mbd ml mp (nI k) (nI C') v.1 v.2.1 v.2.2.1 v.2.2.2.1 v.2.2.2.2.1 v.2.2.2.2.2.1 v.2.2.2.2.2.2.1 v.2.2.2.2.2.2.2.1 v.2.2.2.2.2.2.2.2.1 v.2.2.2.2.2.2.2.2.2.1 v.2.2.2.2.2.2.2.2.2.2) FU (w0.1, w0.2.1, w0.2.2.1, w0.2.2.2.1, w0.2.2.2.2.1, w0.2.2.2.2.2.1, w0.2.2.2.2.2.2.1, w0.2.2.2.2.2.2.2.1, w0.2.2.2.2.2.2.2.2.1, w0.2.2.2.2.2.2.2.2.2, (0 : Int32))) (SR (fun _ _ => True) (fun o m => AUo C C' K B N r k o m)) := by
  refine w2_it (fun q v w => ∃ s, q = 2000 - s ∧ s ≤ 2000 ∧ v.2.2.2.2.2.2.2.2 = nI s ∧ w.2.2.2.2.2.2.2.2.2.2 = nI s ∧ XI M1 M2 C C' K B N r k s (fun a _ => a < s) (v.1, v.2.1, v.2.2.1, v.2.2.2.1, v.2.2.2.2.1, v.2.2.2.2.2.1, v.2.2.2.2.2.2.1, v.2.2.2.2.2.2.2.1) (w.1, w.2.1, w.2.2.1, w.2.2.2.1, w.2.2.2.2.1, w.2.2.2.2.2.1, w.2.2.2.2.2.2.1, w.2.2.2.2.2.2.2.1, w.2.2.2.2.2.2.2.2.1, w.2.2.2.2.2.2.2.2.2.1)) 2000 ⟨0, rfl, by omega, rfl, rfl, hX0⟩ (by omega) ?_
  rintro q ⟨st, nx, dp, lo, hi, pa, la, sl, y⟩ ⟨st', dg, cA, cB, kA, kB, fd, nx', bf, by', z⟩ ⟨s, hq, hs2, hy, hz, n, Sg, hsn, e1, e2, I⟩
  simp only at hy hz e1 e2 I
  subst hy hz e1 e2
  have i2 := I.2.1
  show W2 (b_X0_explore_24 tq (nI C) mb (nI k) (nI n) nx dp lo hi pa la sl (nI s)) (b_X12_builds_25 mk mbd ml mp (nI k) (nI C') (nI n) dg cA cB kA kB fd nx' bf by' (nI s)) _
  unfold b_X0_explore_24 b_X12_builds_25
  by_cases c : n ≤ s
  · have hsn' : s = n := by omega
    subst hsn'
    rw [if_pos (Int32.le_refl _), if_pos (Int32.le_refl _)]
    obtain ⟨i1, _, E, _, _, NX⟩ := I
    by_cases c2 : 2000 ≤ s
    · rw [if_pos (show (2000 : Int32) ≤ nI s from (pI_le_iff (a := 2000) (by omega) (by omega)).mpr c2)]
      exact w2_rr ⟨s, Sg, rfl, rfl, i1, i2, E, NX⟩
    · rw [if_neg (show ¬ (2000 : Int32) ≤ nI s from fun h => c2 ((pI_le_iff (a := 2000) (by omega) (by omega)).mp h))]
      exact w2_rr ⟨s, Sg, rfl, rfl, i1, i2, E, NX⟩
  · rw [if_neg (show ¬ (2000 : Int32) ≤ nI s from fun h => by have := (pI_le_iff (a := 2000) (by omega) (by omega)).mp h; omega), if_neg (show ¬ nI n ≤ nI s by rw [pI_le_iff (by omega) (by omega)]; exact c), if_neg (show ¬ nI n ≤ nI s by rw [pI_le_iff (by omega) (by omega)]; exact c)]
    have hX : XI M1 M2 C C' K B N r k (s + 1) (fun a b => a < s ∨ (a = s ∧ b < 0)) (nI n, nx, dp, lo, hi, pa, la, sl) (nI n, dg, cA, cB, kA, kB, fd, nx', bf, by') := by
      obtain ⟨i1, _, E, t1, t2, NX⟩ := I
      exact ⟨n, Sg, by omega, rfl, rfl, i1, i2, E, t1, t2, fun a b hab hb => NX a b (by show a < s; omega) hb⟩
    have hE := exp_in hM1 hM2 hC hC' hk3 hK D MD R (nI n, nx, dp, lo, hi, pa, la, sl) (nI n, dg, cA, cB, kA, kB, fd, nx', bf, by') hX
    dsimp only at hE
    refine w2_b hE (fun u w huw => ?_)
    cases u with
    | inl u =>
      cases w with
      | inl w => exact w2_rr trivial
      | inr w => exact absurd huw id
    | inr u =>
      cases w with
      | inl w => exact absurd huw id
      | inr w => exact w2_ll ⟨2000 - (s + 1), by omega, s + 1, rfl, by omega, pI_add, pI_add, huw⟩
theorem exp_ok {tq : Nat → Option TV} {mb : Nat → Option Nat} {C C' : Nat} {K B N : Nat → Nat} {P : Nat → Nat → Int32} {K' B' N' : Nat → Nat} {r : Nat → Nat} {mk mbd ml mp : Nat → Int32} {k : Nat} {st : Int32} {nx dp pa la sl dg fd nx' bf by' : Nat → Int32} {lo hi cA cB kA kB : Nat → Int64} (hC : C ≤ 8) (hC' : C' ≤ 8) (hk3 : k ≤ 3) (hK : ∀ i, i < C → kOK (K i) (B i) (N i)) (D : BDat tq C mb K B N P) (MD : MDat C' mk mbd ml K' B' N') (R : RHO C C' K B N P K' B' N' mp r) :
    W2 (f_X0_explore tq (nI C) mb (nI k) (0 : Int32) nx dp lo hi pa la sl) (f_X12_builds mk mbd ml mp (nI k) (nI C') st dg cA cB kA kB fd nx' bf by') (fun o m => (o.1 = 0 ∧ m.1 = 0) ∨ (o.1 = 1 ∧ m.1 = 1 ∧ ∃ n Sg, o.2.1 = nI n ∧ m.2.1 = nI n ∧ AU C C' K B N r k n Sg o.2.2.1 o.2.2.2.1 o.2.2.2.2.1 o.2.2.2.2.2.1 o.2.2.2.2.2.2.1 o.2.2.2.2.2.2.2.1 m.2.2.2.1 m.2.2.2.2.1 m.2.2.2.2.2.2.2.2.1 m.2.2.2.2.2.2.2.2.2.1 m.2.2.2.2.2.2.2.2.2.2)) := by
  obtain ⟨M1, hM1⟩ : ∃ M, M = 4096 := ⟨_, rfl⟩
  obtain ⟨M2, hM2⟩ : ∃ M, M = 8192 := ⟨_, rfl⟩
  unfold f_X0_explore f_X12_builds
  rw [← hM1]
  refine w2_l (fill_ok (by omega)) (fun u hu => ?_)
  rw [st0 (by omega) (by omega)]
  refine w2_l (reach_ok (n := 0) (low := lo) (high := hi) hM1 (by omega) (HT_0 hu.1)) (fun o ho => w2_r (clear_ok hM2) (fun f hf => w2_r (slot_ok (n := 0) (ca := cA) (cb := cB) hM2 (by omega) (TR_0 hf)) (fun j hj => ?_)))
  obtain ⟨j, hj8, rfl, hj⟩ := hj
  rcases ho with ⟨t, ht, _⟩ | ⟨_, ho⟩
  · omega
  obtain ⟨_, sl', rfl, TC2⟩ := ho.resolve_right (fun h => by have := h.1; omega)
  rcases hj with ⟨t, ht, _⟩ | ⟨c3, _, c5⟩
  · omega
  have hA : f_X12_addState (nI j) (0 : Int64) (0 : Int64) (-1 : Int32) (-1 : Int32) (0 : Int32) cA cB kA kB f bf by' = some (nI 1, va_up cA 0 0, va_up cB 0 0, va_up kA j 0, va_up kB j 0, va_up f j (nI 0), va_up bf 0 (-1), va_up by' 0 (-1)) := by
    unfold f_X12_addState f_X12_putKey
    rw [stA_n hj8 (by omega), stA_n hj8 (by omega), stA_n hj8 (by omega), ob_s, st0 (by omega) (by omega), st0 (by omega) (by omega), st0 (by omega) (by omega), st0 (by omega) (by omega)]
    rfl
  rw [hA, ob_s]
  dsimp only
  have E0 : EX C C' K B N r k 1 (fun _ _ _ => 0) (va_up lo 0 0) (va_up hi 0 0) (va_up cA 0 0) (va_up cB 0 0) (va_up dp 0 0) pa la (va_up bf 0 (-1)) (va_up by' 0 (-1)) := by
    refine ⟨fun s hs => ?_, fun s t hs ht _ => by omega, ?_, ?_, fun s h0 hs => by omega⟩
    · have hs0 : s = 0 := by omega
      subst hs0
      refine ⟨⟨fun i hi => tOK_0 (hK i hi), fun i j => by show 0 < 10; omega⟩, fun i _ => rfl, ?_, ?_, ?_, ?_⟩
      · rw [upE rfl, pHf_0]
      · rw [upE rfl, pHf_0]
      · rw [upE rfl]
        exact pDf_0.symm
      · rw [upE rfl]
        exact pDf_0.symm
    · rw [upE rfl]; rfl
    · rw [upE rfl]; rfl
  have I0 : INV M1 M2 C C' K B N r k 1 (fun _ _ _ => 0) (fun a _ => a < 0) nx (va_up dp 0 0) (va_up lo 0 0) (va_up hi 0 0) pa la sl' (va_up cA 0 0) (va_up cB 0 0) (va_up kA j 0) (va_up kB j 0) (va_up f j (nI 0)) nx' (va_up bf 0 (-1)) (va_up by' 0 (-1)) := ⟨by omega, by omega, E0, TC2, c5, fun a b hab => by omega⟩
  have hO := exp_out hM1 hM2 hC hC' hk3 hK D MD R (nI 1, nx, va_up dp 0 0, va_up lo 0 0, va_up hi 0 0, pa, la, sl') (nI 1, dg, va_up cA 0 0, va_up cB 0 0, va_up kA j 0, va_up kB j 0, va_up f j (nI 0), nx', va_up bf 0 (-1), va_up by' 0 (-1)) ⟨1, _, by omega, rfl, rfl, I0⟩
  dsimp only at hO
  refine w2_b hO (fun x y hxy => ?_)
  cases x with
  | inl x =>
    cases y with
    | inl y => exact w2_s (Or.inl ⟨rfl, rfl⟩)
    | inr y => exact absurd hxy id
  | inr x =>
    cases y with
    | inl y => exact absurd hxy id
    | inr y =>
      obtain ⟨n, Sg, h1, h2, h3⟩ := hxy
      exact w2_s (Or.inr ⟨rfl, rfl, n, Sg, h1, h2, h3⟩)
theorem addPart_ok {x1 x2 x3 x4 : Int32} {o n c : Nat} {p mk mb ml mv mp : Nat → Int32} (hc : c < 8) (ho : o + 4 ≤ n) (hn : n < 1000) : Wp (f_X12_addPart x1 x2 x3 x4 (nI o) n p (nI c) mk mb ml mv mp) (fun u => u.1 = nI (c + 1) ∧ u.2.1 = va_up mk c x1 ∧ u.2.2.1 = va_up mb c x2 ∧ u.2.2.2.1 = va_up ml c x3 ∧ u.2.2.2.2.1 = va_up mv c x4 ∧ ∀ j, u.2.2.2.2.2 j = if 4 * c ≤ j ∧ j < 4 * c + 4 then p (o + (j - 4 * c)) else mp j) := by
  unfold f_X12_addPart
  rw [stA_n hc (by omega), stA_n hc (by omega), stA_n hc (by omega), stA_n hc (by omega)]
  refine wp_seq (Q := fun g => ∀ j, g j = if 4 * c ≤ j ∧ j < 4 * c + 4 then p (o + (j - 4 * c)) else mp j) (wp_fill (4 * c) 0 4 (fun j => p (o + j)) (by omega) (by omega) (fun i f h1 h2 hf => ?_) (fun f hf => ?_)) (fun u hu => wp_some ⟨pI_add, rfl, rfl, rfl, rfl, hu⟩)
  · show b_X12_addPart_42 n p (nI o) (nI c) f (nI i) = _
    unfold b_X12_addPart_42
    simp (disch := omega) only [↓reduceIte, if_pos, if_neg, ldA_n, stA_n, pI_add, pI_mul, pI_sub, pI_lt_iff, pI_le_iff, pI_eq_iff, ob_s, upE, upN, pI_dec2, asR_some, bitZ0, bitZ1, Sum.elim_inl, Sum.elim_inr, pL0, pL1, pL2, pL3, pL4, pL5, pL6, pL7, pL8, pL10, pL12, pL15, pL16, pL20, pL21, pL22, pL23, pL29, pL31, pL35, pL37, pL48, pL49, pL50, pL52, pL57, pL94, pL97, pL99, pL100, pL127, pL400, pL1000, pL1023, pL1024, pL2000, pL2001, pL2187, pL4095, pL4096, pL8191, pL8192, pL65535]
  · show Wp (b_X12_addPart_42 n p (nI o) (nI c) f (nI 4)) _
    unfold b_X12_addPart_42
    rw [if_pos (show (4 : Int32) ≤ nI 4 by decide)]
    exact wp_r hf
theorem addLang_ok {l m c : Nat} {parts pk pb pl pv pp nk nb nl nv np : Nat → Int32} (hl : l < 4) (hm : parts l = nI m) (hm4 : m ≤ 4) (hcm : c + m ≤ 8) : Wp (f_X12_addLanguage (nI l) parts pk pb pl pv pp (nI c) nk nb nl nv np) (fun o => o.1 = nI (c + m) ∧ (∀ j, o.2.1 j = cpF c m pk nk (4 * l) j) ∧ (∀ j, o.2.2.1 j = cpF c m pb nb (4 * l) j) ∧ (∀ j, o.2.2.2.1 j = cpF c m pl nl (4 * l) j) ∧ (∀ j, o.2.2.2.2.1 j = cpF c m pv nv (4 * l) j) ∧ ∀ j, o.2.2.2.2.2 j = cpF (4 * c) (4 * m) pp np (16 * l) j) := by
  unfold f_X12_addLanguage
  refine wp_seq (Q := fun o => o.1 = nI (c + m) ∧ (∀ j, o.2.1 j = cpF c m pk nk (4 * l) j) ∧ (∀ j, o.2.2.1 j = cpF c m pb nb (4 * l) j) ∧ (∀ j, o.2.2.2.1 j = cpF c m pl nl (4 * l) j) ∧ (∀ j, o.2.2.2.2.1 j = cpF c m pv nv (4 * l) j) ∧ ∀ j, o.2.2.2.2.2 j = cpF (4 * c) (4 * m) pp np (16 * l) j) ?_ (fun u hu => wp_some hu)
  have z : ∀ (a o : Nat) (f g : Nat → Int32) j, g j = cpF a 0 f g o j := fun a o f g j => (if_neg (by omega)).symm
  have up : ∀ (a o i : Nat) (f g h : Nat → Int32), (∀ j, h j = cpF a i f g o j) → ∀ j, va_up h (a + i) (f (o + i)) j = cpF a (i + 1) f g o j := by
    intro a o i f g h hh j
    unfold cpF
    by_cases e : j = a + i
    · rw [upE e, if_pos (by omega), e, Nat.add_sub_cancel_left]
    · rw [upN e, hh j]
      unfold cpF
      by_cases e2 : a ≤ j ∧ j < a + i
      · rw [if_pos e2, if_pos (by omega)]
      · rw [if_neg e2, if_neg (by omega)]
  refine wp_up (fun i v => v.2.2.2.2.2.2 = nI i ∧ v.1 = nI (c + i) ∧ (∀ j, v.2.1 j = cpF c i pk nk (4 * l) j) ∧ (∀ j, v.2.2.1 j = cpF c i pb nb (4 * l) j) ∧ (∀ j, v.2.2.2.1 j = cpF c i pl nl (4 * l) j) ∧ (∀ j, v.2.2.2.2.1 j = cpF c i pv nv (4 * l) j) ∧ ∀ j, v.2.2.2.2.2.1 j = cpF (4 * c) (4 * i) pp np (16 * l) j) 0 m ⟨rfl, rfl, z _ _ _ _, z _ _ _ _, z _ _ _ _, z _ _ _ _, z _ _ _ _⟩ (by omega) (by omega) ?_ ?_
  · rintro i ⟨x, f1, f2, f3, f4, f5, y⟩ h1 h2 ⟨hy, hx, k1, k2, k3, k4, k5⟩
    simp only at hy hx k1 k2 k3 k4 k5
    subst hy hx
    show Wp (b_X12_addLanguage_2 parts pk pb pl pv pp (nI l) (nI (c + i)) f1 f2 f3 f4 f5 (nI i)) _
    unfold b_X12_addLanguage_2
    simp (disch := omega) only [↓reduceIte, if_pos, if_neg, ldA_n, stA_n, pI_add, pI_mul, pI_sub, pI_lt_iff, pI_le_iff, pI_eq_iff, ob_s, upE, upN, pI_dec2, asR_some, bitZ0, bitZ1, Sum.elim_inl, Sum.elim_inr, pL0, pL1, pL2, pL3, pL4, pL5, pL6, pL7, pL8, pL10, pL12, pL15, pL16, pL20, pL21, pL22, pL23, pL29, pL31, pL35, pL37, pL48, pL49, pL50, pL52, pL57, pL94, pL97, pL99, pL100, pL127, pL400, pL1000, pL1023, pL1024, pL2000, pL2001, pL2187, pL4095, pL4096, pL8191, pL8192, pL65535, hm]
    refine wp_seq (addPart_ok (by omega) (by omega) (by omega)) (fun u hu => ?_)
    obtain ⟨u1, u2, u3, u4, u5, u6⟩ := hu
    refine wp_l ⟨rfl, u1, ?_, ?_, ?_, ?_, fun j => ?_⟩
    · show ∀ j, u.2.1 j = _
      rw [u2]
      exact up c (4 * l) i pk nk f1 k1
    · show ∀ j, u.2.2.1 j = _
      rw [u3]
      exact up c (4 * l) i pb nb f2 k2
    · show ∀ j, u.2.2.2.1 j = _
      rw [u4]
      exact up c (4 * l) i pl nl f3 k3
    · show ∀ j, u.2.2.2.2.1 j = _
      rw [u5]
      exact up c (4 * l) i pv nv f4 k4
    · show u.2.2.2.2.2 j = _
      rw [u6 j, k5 j]
      unfold cpF
      by_cases e : 4 * (c + i) ≤ j ∧ j < 4 * (c + i) + 4
      · rw [if_pos e, if_pos (by omega)]
        congr 1
        omega
      · rw [if_neg e]
        by_cases e2 : 4 * c ≤ j ∧ j < 4 * c + 4 * i
        · rw [if_pos e2, if_pos (by omega)]
        · rw [if_neg e2, if_neg (by omega)]
  · rintro ⟨x, f1, f2, f3, f4, f5, y⟩ ⟨hy, hx, k1, k2, k3, k4, k5⟩
    simp only at hy hx k1 k2 k3 k4 k5
    subst hy hx
    show Wp (b_X12_addLanguage_2 parts pk pb pl pv pp (nI l) (nI (c + m)) f1 f2 f3 f4 f5 (nI m)) _
    unfold b_X12_addLanguage_2
    rw [ldA_n hl (by omega), hm, if_pos (Int32.le_refl _)]
    exact wp_r ⟨rfl, k1, k2, k3, k4, k5⟩
theorem add_ok {a c : Nat} {mb : Nat → Option Nat} (hc : c < 8) : f_X1_add a (nI c) mb = some (nI (c + 1), va_up mb c (some a)) := by
  unfold f_X1_add
  rw [if_neg (show ¬ (8 : Int32) ≤ nI c from fun h => by have := (pI_le_iff (a := 8) (by omega) (by omega)).mp h; omega), stA_n hc (by omega), pL1, pI_add]
theorem addT_ok {tq : Nat → Option TV} {m c : Nat} {ts mb : Nat → Option Nat} {vs pk pb pl pv pp : Nat → Int32} (P : PartsR tq m ts vs pk pb pl pv pp) (hcm : c + m ≤ 8) : Wp (f_X2_addTestsTo m tq (nI m) ts (nI c) mb) (fun o => o.1 = nI (c + m) ∧ ∀ j, o.2 j = if c ≤ j ∧ j < c + m then ts (j - c) else mb j) := by
  unfold f_X2_addTestsTo
  refine wp_seq (Q := fun o => o.1 = nI (c + m) ∧ ∀ j, o.2 j = if c ≤ j ∧ j < c + m then ts (j - c) else mb j) ?_ (fun u hu => wp_some hu)
  refine wp_up (fun i v => v.2.2 = nI i ∧ v.1 = nI (c + i) ∧ ∀ j, v.2.1 j = if c ≤ j ∧ j < c + i then ts (j - c) else mb j) 0 m ⟨rfl, rfl, fun j => (if_neg (by omega)).symm⟩ (by omega) (by omega) ?_ ?_
  · rintro i ⟨x, f, y⟩ h1 h2 ⟨hy, hx, hf⟩
    simp only at hy hx hf
    subst hy hx
    obtain ⟨⟨a, v, _, _, _, t1, t2, _⟩, _⟩ := P i h2
    show Wp (b_X2_addTestsTo_2 m tq (nI m) ts (nI (c + i)) f (nI i)) _
    unfold b_X2_addTestsTo_2
    rw [if_neg (show ¬ nI m ≤ nI i by rw [pI_le_iff (by omega) (by omega)]; omega), ldA_n h2 (by omega), t1, tsA_s t2, add_ok (by omega), ob_s]
    refine wp_l ⟨pI_add, rfl, fun j => ?_⟩
    show va_up f (c + i) (some a) j = _
    by_cases e : j = c + i
    · rw [upE e, if_pos (by omega), e, Nat.add_sub_cancel_left, t1]
    · rw [upN e, hf j]
      by_cases e2 : c ≤ j ∧ j < c + i
      · rw [if_pos e2, if_pos (by omega)]
      · rw [if_neg e2, if_neg (by omega)]
  · rintro ⟨x, f, y⟩ ⟨hy, hx, hf⟩
    simp only at hy hx hf
    subst hy hx
    show Wp (b_X2_addTestsTo_2 m tq (nI m) ts (nI (c + m)) f (nI m)) _
    unfold b_X2_addTestsTo_2
    rw [if_pos (Int32.le_refl _)]
    exact wp_r ⟨rfl, hf⟩
theorem set_or8 : ∀ i, i < 8 → ∀ s, s < 2 ^ i → nI s ||| ((1 : Int32) <<< (nI i &&& 31)) = nI (s + 2 ^ i) := by decide +kernel
theorem st_lo : ∀ m, m < 5 → ∀ t, t < 256 → ((nI t &&& (((1 : Int32) <<< (nI m &&& 31)) - (1 : Int32))) &&& 31) = nI (t % 2 ^ m) &&& 31 := by decide +kernel
theorem st_hi : ∀ t, t < 256 → ((nI t >>> ((4 : Int32) &&& 31)) &&& 31) = nI (t / 16) &&& 31 := by decide +kernel
theorem stB_split {b : Nat → Bool} {m : Nat} : ∀ n, stB b (m + n) = stB b m + 2 ^ m * stB (fun i => b (m + i)) n
  | 0 => by
    show stB b m = stB b m + 2 ^ m * 0
    rw [Nat.mul_zero, Nat.add_zero]
  | n + 1 => by
    show stB b (m + n) + (if b (m + n) = true then 2 ^ (m + n) else 0) = stB b m + 2 ^ m * (stB (fun i => b (m + i)) n + (if b (m + n) = true then 2 ^ n else 0))
    rw [stB_split n, Nat.mul_add]
    by_cases c : b (m + n) = true
    · rw [if_pos c, if_pos c, Nat.pow_add, Nat.add_assoc]
    · rw [if_neg c, if_neg c, Nat.mul_zero, Nat.add_zero, Nat.add_zero]
theorem stB_md {b : Nat → Bool} {m n : Nat} : stB b (m + n) % 2 ^ m = stB b m ∧ stB b (m + n) / 2 ^ m = stB (fun i => b (m + i)) n := by
  have h := stB_lt (b := b) m
  have hp : 0 < 2 ^ m := Nat.pow_pos (by omega)
  rw [stB_split, Nat.add_comm]
  refine ⟨?_, ?_⟩
  · rw [Nat.mul_add_mod, Nat.mod_eq_of_lt h]
  · rw [Nat.mul_add_div hp, Nat.div_eq_of_lt h, Nat.add_zero]
theorem bits_ok {C s n : Nat} {K B N : Nat → Nat} {S : Nat → Nat → Nat} {mk mb ml mv : Nat → Int32} {cA cB : Nat → Int64} (hC : C ≤ 8) (hs : s < 2000) (D : MDat C mk mb ml K B N) (H : sOK C K B N S) (eA : cA s = pDf S C 0) (eB : cB s = pDf S C 1) : Wp (loopN (fun v => b_X12_answerAt_16 (nI C) ml mv cA cB (nI s) v.1 v.2) FU ((0 : Int32), (0 : Int32))) (fun u => u = nI (stB (fun m => decide (nI (vS (K m) (N m) (S m)) = mv m)) C)) := by
  obtain ⟨bb, hbb⟩ : ∃ bb : Nat → Bool, bb = fun m => decide (nI (vS (K m) (N m) (S m)) = mv m) := ⟨_, rfl⟩
  rw [← hbb]
  refine wp_up (fun i v => v.2 = nI i ∧ v.1 = nI (stB bb i)) 0 C ⟨rfl, rfl⟩ (by omega) (by omega) ?_ ?_
  · rintro i ⟨x, y⟩ h1 h2 ⟨hy, hx⟩
    simp only at hy hx
    subst hy hx
    show Wp (b_X12_answerAt_16 (nI C) ml mv cA cB (nI s) (nI (stB bb i)) (nI i)) _
    unfold b_X12_answerAt_16
    rw [if_neg (show ¬ nI C ≤ nI i by rw [pI_le_iff (by omega) (by omega)]; omega)]
    refine wp_seq (vat_ok hC hs h2 D H eA eB) (fun u hu => ?_)
    subst hu
    rw [ldA_n (by omega) (by omega), set_or8 i (by omega) _ (stB_lt i)]
    by_cases c : nI (vS (K i) (N i) (S i)) = mv i
    · rw [if_pos c]
      refine wp_l ⟨pI_add, ?_⟩
      show nI (stB bb i + 2 ^ i) = nI (stB bb i + (if bb i = true then 2 ^ i else 0))
      rw [show bb i = true from by rw [hbb]; exact decide_eq_true c, if_pos rfl]
    · rw [if_neg c]
      refine wp_l ⟨pI_add, ?_⟩
      show nI (stB bb i) ||| 0 = nI (stB bb i + (if bb i = true then 2 ^ i else 0))
      rw [show bb i = false from by rw [hbb]; exact decide_eq_false c, if_neg (by decide), Nat.add_zero, Int32.or_zero]
  · rintro ⟨x, y⟩ ⟨hy, hx⟩
    simp only at hy hx
    subst hy hx
    show Wp (b_X12_answerAt_16 (nI C) ml mv cA cB (nI s) (nI (stB bb C)) (nI C)) _
    unfold b_X12_answerAt_16
    rw [if_pos (Int32.le_refl _)]
    exact wp_r rfl
theorem holdsAt_ok {tq : Nat → Option TV} {C m off : Nat} {tab : Int32} {mb : Nat → Option Nat} {vs : Nat → Int32} {K B N : Nat → Nat} {P : Nat → Nat → Int32} {S : Nat → Nat → Nat} (hC : C ≤ 8) (hm : m ≤ 4) (ho : off + m ≤ C) (D : BDat tq C mb K B N P) (H : sOK C K B N S) : f_X2_holdsAt (nI off) (pHf S C 0) (pHf S C 1) m tq (nI m) tab vs mb = some (nI (if bt tab (stB (fun i => decide (nI (vS (K (off + i)) (N (off + i)) (S (off + i))) = vs i)) m) = true then 1 else 0)) := by
  obtain ⟨bb, hbb⟩ : ∃ bb : Nat → Bool, bb = fun i => decide (nI (vS (K (off + i)) (N (off + i)) (S (off + i))) = vs i) := ⟨_, rfl⟩
  rw [← hbb]
  have hlt := stB_lt (b := bb) m
  have hpm : 2 ^ m ≤ 16 := Nat.pow_le_pow_right (n := 2) (by omega) hm
  have key : Wp (loopN (fun v => b_X2_holdsAt_6 m tq (nI m) vs mb (nI off) (pHf S C 0) (pHf S C 1) v.1 v.2) FU ((0 : Int32), (0 : Int32))) (fun u => u = nI (stB bb m)) := by
    refine wp_up (fun i v => v.2 = nI i ∧ v.1 = nI (stB bb i)) 0 m ⟨rfl, rfl⟩ (by omega) (by omega) ?_ ?_
    · rintro i ⟨x, y⟩ h1 h2 ⟨hy, hx⟩
      simp only at hy hx
      subst hy hx
      show Wp (b_X2_holdsAt_6 m tq (nI m) vs mb (nI off) (pHf S C 0) (pHf S C 1) (nI (stB bb i)) (nI i)) _
      unfold b_X2_holdsAt_6
      rw [if_neg (show ¬ nI m ≤ nI i by rw [pI_le_iff (by omega) (by omega)]; omega), pI_add, bval_ok hC (by omega) D H, ob_s, ldA_n h2 (by omega), set_or i (by omega) _ (stB_lt i)]
      by_cases c : nI (vS (K (off + i)) (N (off + i)) (S (off + i))) = vs i
      · rw [if_pos c]
        refine wp_l ⟨pI_add, ?_⟩
        show nI (stB bb i + 2 ^ i) = nI (stB bb i + (if bb i = true then 2 ^ i else 0))
        rw [show bb i = true from by rw [hbb]; exact decide_eq_true c, if_pos rfl]
      · rw [if_neg c]
        refine wp_l ⟨pI_add, ?_⟩
        show nI (stB bb i) = nI (stB bb i + (if bb i = true then 2 ^ i else 0))
        rw [show bb i = false from by rw [hbb]; exact decide_eq_false c, if_neg (by decide), Nat.add_zero]
    · rintro ⟨x, y⟩ ⟨hy, hx⟩
      simp only at hy hx
      subst hy hx
      show Wp (b_X2_holdsAt_6 m tq (nI m) vs mb (nI off) (pHf S C 0) (pHf S C 1) (nI (stB bb m)) (nI m)) _
      unfold b_X2_holdsAt_6
      rw [if_pos (Int32.le_refl _)]
      exact wp_r rfl
  obtain ⟨u, e, rfl⟩ := key
  unfold f_X2_holdsAt
  rw [e, ob_s, acc_ok (by omega), ob_s]
  by_cases c : bt tab (stB bb m) = true
  · rw [if_pos c, bitZ1]
  · rw [if_neg c, bitZ0]
