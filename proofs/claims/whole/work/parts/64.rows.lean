set_option linter.unusedVariables false
/-! rows -/
def RQ (r : Nat) (ty sz : Int32) (f ty' rl' it' tyA rlA itA : Nat → Int32) : Prop := RowR ty sz f (ty' r) (rl' r) it' (21 * r) ∧ (∀ v, v ≠ r → ty' v = tyA v ∧ rl' v = rlA v) ∧ ∀ j, j < 21 * r ∨ 21 * r + 21 ≤ j → it' j = itA j
theorem RowR_fr {ty sz ty' rl ty2 rl2 : Int32} {f it it2 : Nat → Int32} {o : Nat} (h : RowR ty sz f ty' rl it o) (h1 : ty2 = ty' ∧ rl2 = rl) (h2 : ∀ i, i < 21 → it2 (o + i) = it (o + i)) : RowR ty sz f ty2 rl2 it2 o := by
  obtain ⟨a, b, c, d⟩ := h
  rw [h1.1, h1.2]
  exact ⟨a, b, c, fun i hi => by rw [h2 i hi]; exact d i hi⟩
theorem nr_ok {r : Nat} {x2 x3 : Int32} {tyA rlA itA : Nat → Int32} (hr : r < 3) : Wp (j_X12_newRow_39 tyA rlA itA (nI r) x2 x3) (fun m => m.1 = 1 ∧ m.2.1 = va_up tyA r x2 ∧ m.2.2.1 = va_up rlA r (if 0 ≤ x2 then x3 else 0) ∧ ∀ j, m.2.2.2 j = if 21 * r + 0 ≤ j ∧ j < 21 * r + 21 then 0 else itA j) := by
  have key : ∀ t, Wp (j_X12_newRow_60 (va_up tyA r x2) rlA itA (nI r) t (nI r)) (fun m => m.1 = 1 ∧ m.2.1 = va_up tyA r x2 ∧ m.2.2.1 = va_up rlA r t ∧ ∀ j, m.2.2.2 j = if 21 * r + 0 ≤ j ∧ j < 21 * r + 21 then 0 else itA j) := by
    intro t
    unfold j_X12_newRow_60
    rw [stA_n hr (by omega)]
    refine wp_seq (Q := fun g => ∀ j, g j = if 21 * r + 0 ≤ j ∧ j < 21 * r + 21 then 0 else itA j) (wp_fill (21 * r) 0 21 (fun _ => 0) (by omega) (by omega) (fun i f h3 h4 hf => ?_) (fun f hf => ?_)) (fun u hu => wp_some ⟨rfl, rfl, rfl, hu⟩)
    · show b_X12_newRow_64 (nI r) f (nI i) = _
      unfold b_X12_newRow_64
      simp (disch := omega) only [↓reduceIte, if_pos, if_neg, ldA_n, stA_n, pI_add, pI_mul, pI_sub, pI_lt_iff, pI_le_iff, pI_eq_iff, ob_s, upE, upN, pI_dec2, asR_some, bitZ0, bitZ1, Sum.elim_inl, Sum.elim_inr, pL0, pL1, pL2, pL3, pL4, pL5, pL6, pL7, pL8, pL10, pL12, pL15, pL16, pL20, pL21, pL22, pL23, pL29, pL31, pL35, pL37, pL48, pL49, pL50, pL52, pL57, pL94, pL97, pL99, pL100, pL127, pL400, pL1000, pL1023, pL1024, pL2000, pL2001, pL2187, pL4095, pL4096, pL8191, pL8192, pL65535]
    · show Wp (b_X12_newRow_64 (nI r) f (nI 21)) _
      unfold b_X12_newRow_64
      rw [if_pos (show (21 : Int32) ≤ nI 21 by decide)]
      exact wp_r hf
  unfold j_X12_newRow_39
  rw [stA_n hr (by omega)]
  by_cases h : 0 ≤ x2
  · rw [if_pos h, if_pos h]
    exact key x3
  · rw [if_neg h, if_neg h]
    exact key 0
theorem x2_cases (x : Int32) : (x < -1 ∧ x < 0) ∨ x = -1 ∨ x = nI 0 ∨ x = nI 1 ∨ ∃ j, 1 < j ∧ j < 2 ^ 31 ∧ x = nI j := by
  rcases i_cases x with h | ⟨j, rfl, hj⟩
  · by_cases e : x = -1
    · exact Or.inr (Or.inl e)
    · refine Or.inl ⟨?_, h⟩
      have e2 : x.toInt ≠ (-1 : Int32).toInt := fun h2 => e (Int32.toInt_inj.mp h2)
      rw [Int32.lt_iff_toInt_lt] at h ⊢
      have e3 : (-1 : Int32).toInt = -1 := by decide
      have e4 : (0 : Int32).toInt = 0 := by decide
      omega
  · rcases (show j = 0 ∨ j = 1 ∨ 1 < j by omega) with rfl | rfl | h
    · exact Or.inr (Or.inr (Or.inl rfl))
    · exact Or.inr (Or.inr (Or.inr (Or.inl rfl)))
    · exact Or.inr (Or.inr (Or.inr (Or.inr ⟨j, h, hj, rfl⟩)))
theorem i_nle {x : Int32} (h : x < 0) : ¬ 0 ≤ x := Int32.not_le.mpr h
theorem n_ge_m1 {j : Nat} (h : j < 2 ^ 31) : ¬ nI j < (-1 : Int32) := by
  intro h2
  rw [Int32.lt_iff_toInt_lt, nI_toInt h] at h2
  have e3 : (-1 : Int32).toInt = -1 := by decide
  omega
theorem n_ne_m1 {j : Nat} (h : j < 2 ^ 31) : ¬ nI j = (-1 : Int32) := nI_ne_m1 h
theorem rw_put {r : Nat} {x2 : Int32} {tyA rlA itA m1 m2 m3 g : Nat → Int32} {S : Nat} (hr : r < 3) (hS : S ≤ 21) (hx : x2 = -1 ∨ x2 = 0 ∨ x2 = 1) (hz : x2 = -1 → S = 0) (e1 : m1 = va_up tyA r x2) (e2 : m2 = va_up rlA r (nI S)) (e3 : ∀ j, m3 j = if 21 * r + 0 ≤ j ∧ j < 21 * r + 21 then 0 else itA j) (hg : ∀ j, j < 21 → g j = 0) : RQ r x2 (nI S) g m1 m2 m3 tyA rlA itA := by
  subst e1 e2
  refine ⟨⟨(upE rfl).symm, hx, ⟨S, hS, rfl, upE rfl, hz⟩, fun i hi => ?_⟩, fun v hv => ⟨upN hv, upN hv⟩, fun j hj => ?_⟩
  · rw [hg i hi, e3, if_pos (by omega)]
  · rw [e3, if_neg (by omega)]
theorem nr_01 {c r q : Nat} {x3 ty sz : Int32} {rf : Nat → Option Nat} {f tyA rlA itA : Nat → Int32} (hc : c < 2) (hr : r < 3) (hq : rf r = some q) (h0 : RQ r ty sz f tyA rlA itA tyA rlA itA) : W2 (if nI c < (-1 : Int32) then (some ((-1 : Int32), ty, sz, f)) else (if nI c ≤ (1 : Int32) then (if nI c = (-1 : Int32) then (ldA rf 3 (nI r) (fun r10 => asR r10 q (((f_J7_fill_53178 (0 : Int32) 21 f).bind (fun u1 => some ((-1 : Int32), (0 : Int32), u1))).bind (fun u13 => some ((1 : Int32), u13.1, u13.2.1, u13.2.2))))) else (if x3 ≤ (21 : Int32) then (if 0 ≤ x3 then (ldA rf 3 (nI r) (fun r4 => asR r4 q (((f_J7_fill_53178 (0 : Int32) 21 f).bind (fun u1 => some (nI c, x3, u1))).bind (fun u7 => some ((1 : Int32), u7.1, u7.2.1, u7.2.2))))) else (some ((-14 : Int32), ty, sz, f))) else (some ((-1 : Int32), ty, sz, f)))) else (some ((-1 : Int32), ty, sz, f)))) ((f_X12_isBetween (nI c) (-1 : Int32) (1 : Int32)).bind (fun u14 => if u14 = 0 then (some ((-1 : Int32), tyA, rlA, itA)) else (if nI c < 0 then (j_X12_newRow_28 tyA rlA itA (nI r) (nI c) x3) else (if x3 ≤ (21 : Int32) then (j_X12_newRow_28 tyA rlA itA (nI r) (nI c) x3) else (some ((-1 : Int32), tyA, rlA, itA)))))) (fun o m => o.1 = m.1 ∧ RQ r o.2.1 o.2.2.1 o.2.2.2 m.2.1 m.2.2.1 m.2.2.2 tyA rlA itA) := by
  have e : f_X12_isBetween (nI c) (-1) 1 = some 1 := by
    rcases (show c = 0 ∨ c = 1 by omega) with rfl | rfl <;> decide
  have c1 : nI c ≤ (1 : Int32) := (pI_le_iff (b := 1) (by omega) (by omega)).mpr (by omega)
  rw [e, if_neg (n_ge_m1 (by omega)), if_pos c1, if_neg (n_ne_m1 (by omega)), ob_s, if_neg (show ¬ (1 : Int32) = 0 by decide), if_neg (show ¬ nI c < 0 from pI_nneg (by omega))]
  unfold j_X12_newRow_28
  rw [if_neg (show ¬ nI c < 0 from pI_nneg (by omega))]
  by_cases h21 : x3 ≤ (21 : Int32)
  · rw [if_pos h21, if_pos h21]
    rcases i_cases x3 with hx | ⟨S, rfl, hS⟩
    · rw [if_neg (i_nle hx), if_neg (i_nle hx)]
      exact w2_s ⟨rfl, h0⟩
    · have hS21 : S ≤ 21 := (pI_le_iff (b := 21) hS (by omega)).mp h21
      rw [if_pos (nI_pos' hS), if_pos (nI_pos' hS), ldA_n hr (by omega), hq, asR_some]
      refine w2_l (wp_seq (fill_ok (by omega)) (fun g hg => wp_some (P := fun (u : Int32 × Int32 × (Nat → Int32)) => u.1 = nI c ∧ u.2.1 = nI S ∧ ∀ j, j < 21 → u.2.2 j = 0) ⟨rfl, rfl, hg.1⟩)) (fun u hu => w2_of (wp_some (P := fun o => o = ((1 : Int32), u.1, u.2.1, u.2.2)) rfl) (nr_ok hr) (fun o m ho hm => ?_))
      subst ho
      obtain ⟨u1, u2, u3⟩ := hu
      obtain ⟨m1, m2, m3, m4⟩ := hm
      rw [if_pos (nI_pos' (by omega))] at m3
      refine ⟨m1.symm, ?_⟩
      rw [u1, u2]
      refine rw_put (S := S) hr hS21 ?_ (fun h => absurd h (n_ne_m1 (by omega))) m2 m3 m4 u3
      rcases (show c = 0 ∨ c = 1 by omega) with rfl | rfl
      · exact Or.inr (Or.inl rfl)
      · exact Or.inr (Or.inr rfl)
  · rw [if_neg h21, if_neg h21]
    exact w2_s ⟨rfl, h0⟩
theorem p_newRow {x2 x3 ty sz : Int32} {q : Nat} {rf : Nat → Option Nat} {f tyA rlA itA : Nat → Int32} (r : Nat) (hr : r < 3) (hq : rf r = some q) (hR : RowR ty sz f (tyA r) (rlA r) itA (21 * r)) : W2 (f_X11_newRow (nI r) x2 x3 q rf ty sz f) (f_X12_newRow (nI r) x2 x3 tyA rlA itA) (fun o m => o.1 = m.1 ∧ RQ r o.2.1 o.2.2.1 o.2.2.2 m.2.1 m.2.2.1 m.2.2.2 tyA rlA itA) := by
  have h0 : RQ r ty sz f tyA rlA itA tyA rlA itA := ⟨hR, fun _ _ => ⟨rfl, rfl⟩, fun _ _ => rfl⟩
  unfold f_X11_newRow f_X12_newRow f_X6_restart
  rw [isRw1 hr, isRw2 hr]
  rw [ob_s, ob_s, if_neg (show ¬ nI 1 = (0 : Int32) by decide), if_neg (show ¬ nI 1 = (0 : Int32) by decide)]
  rcases x2_cases x2 with ⟨hx, hx0⟩ | rfl | rfl | rfl | ⟨j, hj1, hj, rfl⟩
  · have e : f_X12_isBetween x2 (-1) 1 = some 0 := by
      unfold f_X12_isBetween
      rw [if_pos hx]
    rw [e, if_pos hx]
    exact w2_s ⟨rfl, h0⟩
  · have e : f_X12_isBetween (-1) (-1) 1 = some 1 := by decide
    rw [e, if_neg (show ¬ (-1 : Int32) < -1 by decide), if_pos (show (-1 : Int32) ≤ 1 by decide), if_pos rfl, ob_s, if_neg (show ¬ (1 : Int32) = 0 by decide), if_pos (show (-1 : Int32) < 0 by decide), ldA_n hr (by omega), hq, asR_some]
    unfold j_X12_newRow_28
    rw [if_pos (show (-1 : Int32) < 0 by decide)]
    refine w2_l (wp_seq (fill_ok (by omega)) (fun g hg => wp_some (P := fun (u : Int32 × Int32 × (Nat → Int32)) => u.1 = (-1 : Int32) ∧ u.2.1 = (0 : Int32) ∧ ∀ j, j < 21 → u.2.2 j = 0) ⟨rfl, rfl, hg.1⟩)) (fun u hu => w2_of (wp_some (P := fun o => o = ((1 : Int32), u.1, u.2.1, u.2.2)) rfl) (nr_ok hr) (fun o m ho hm => ?_))
    subst ho
    obtain ⟨u1, u2, u3⟩ := hu
    obtain ⟨m1, m2, m3, m4⟩ := hm
    rw [if_neg (show ¬ (0 : Int32) ≤ -1 by decide)] at m3
    refine ⟨m1.symm, ?_⟩
    rw [u1, u2]
    exact rw_put (S := 0) hr (by omega) (Or.inl rfl) (fun _ => rfl) m2 m3 m4 u3
  · exact nr_01 (c := 0) (by omega) hr hq h0
  · exact nr_01 (c := 1) (by omega) hr hq h0
  · have e : f_X12_isBetween (nI j) (-1) 1 = some 0 := by
      unfold f_X12_isBetween
      rw [if_neg (n_ge_m1 hj), if_pos (show (1 : Int32) < nI j from (pI_lt_iff (a := 1) (by omega) hj).mpr hj1)]
    rw [e, if_neg (n_ge_m1 hj), if_neg (show ¬ nI j ≤ (1 : Int32) from fun h => by have := (pI_le_iff (b := 1) hj (by omega)).mp h; omega)]
    exact w2_s ⟨rfl, h0⟩
theorem n_newRow {x x2 x3 ty sz : Int32} {q : Nat} {rf : Nat → Option Nat} {f tyA rlA itA : Nat → Int32} (h : f_X11_isRow x = some (nI 0) ∧ f_X12_isRow x = some (nI 0)) : f_X11_newRow x x2 x3 q rf ty sz f = some (-1, ty, sz, f) ∧ f_X12_newRow x x2 x3 tyA rlA itA = some (-1, tyA, rlA, itA) := by
  unfold f_X11_newRow f_X12_newRow
  rw [h.1, h.2]
  exact ⟨rfl, rfl⟩
theorem ty_neg {ty : Int32} (h : ty = -1 ∨ ty = 0 ∨ ty = 1) : (ty = -1 ∧ ¬ 0 ≤ ty ∧ ty < 0) ∨ (¬ ty = -1 ∧ 0 ≤ ty ∧ ¬ ty < 0) := by
  rcases h with rfl | rfl | rfl
  · exact Or.inl ⟨rfl, by decide, by decide⟩
  · exact Or.inr ⟨by decide, by decide, by decide⟩
  · exact Or.inr ⟨by decide, by decide, by decide⟩
theorem l_i32 {x : Int32} : x.toInt64.toInt32 = x := by
  apply Int32.toInt_inj.mp
  simp
theorem put_ok {ty x3 : Int32} {i r : Nat} {f itA tyA : Nat → Int32} (hi : i < 21) (hr : r < 3) (e : ty = tyA r) (hf : ∀ i, i < 21 → f i = itA (21 * r + i)) : W2 (f_X6_put (nI i) x3 ty f) (f_X12_setItem (nI r) (nI i) (x3.toInt64) tyA itA) (fun o m => (∀ i, i < 21 → o i = m (21 * r + i)) ∧ ∀ j, j < 21 * r ∨ 21 * r + 21 ≤ j → m j = itA j) := by
  have key : ∀ x, (∀ c, c < 21 → va_up f i x c = va_up itA (21 * r + i) x (21 * r + c)) ∧ ∀ j, j < 21 * r ∨ 21 * r + 21 ≤ j → va_up itA (21 * r + i) x j = itA j := by
    intro x
    refine ⟨fun c hc => ?_, fun j hj => upN (by omega)⟩
    by_cases h : c = i
    · rw [upE h, upE (by omega)]
    · rw [upN h, upN (by omega), hf c hc]
  unfold f_X6_put f_X12_setItem
  rw [ldA_n hr (by omega), ← e, l_i32]
  by_cases h : ty = 0
  · rw [if_pos h, if_pos h]
    simp (disch := omega) only [↓reduceIte, if_pos, if_neg, ldA_n, stA_n, pI_add, pI_mul, pI_sub, pI_lt_iff, pI_le_iff, pI_eq_iff, ob_s, upE, upN, pI_dec2, asR_some, bitZ0, bitZ1, Sum.elim_inl, Sum.elim_inr, pL0, pL1, pL2, pL3, pL4, pL5, pL6, pL7, pL8, pL10, pL12, pL15, pL16, pL20, pL21, pL22, pL23, pL29, pL31, pL35, pL37, pL48, pL49, pL50, pL52, pL57, pL94, pL97, pL99, pL100, pL127, pL400, pL1000, pL1023, pL1024, pL2000, pL2001, pL2187, pL4095, pL4096, pL8191, pL8192, pL65535]
    exact w2_s (key _)
  · rw [if_neg h, if_neg h]
    simp (disch := omega) only [↓reduceIte, if_pos, if_neg, ldA_n, stA_n, pI_add, pI_mul, pI_sub, pI_lt_iff, pI_le_iff, pI_eq_iff, ob_s, upE, upN, pI_dec2, asR_some, bitZ0, bitZ1, Sum.elim_inl, Sum.elim_inr, pL0, pL1, pL2, pL3, pL4, pL5, pL6, pL7, pL8, pL10, pL12, pL15, pL16, pL20, pL21, pL22, pL23, pL29, pL31, pL35, pL37, pL48, pL49, pL50, pL52, pL57, pL94, pL97, pL99, pL100, pL127, pL400, pL1000, pL1023, pL1024, pL2000, pL2001, pL2187, pL4095, pL4096, pL8191, pL8192, pL65535]
    exact w2_s (key _)
theorem p_setElement {x2 x3 ty sz : Int32} {q : Nat} {rf : Nat → Option Nat} {f tyA rlA itA : Nat → Int32} (r : Nat) (hr : r < 3) (hq : rf r = some q) (hR : RowR ty sz f (tyA r) (rlA r) itA (21 * r)) : W2 (f_X11_setElement (nI r) x2 x3 q ty sz rf f) (f_X12_setElement (nI r) x2 x3 tyA rlA itA) (fun o m => o.1 = m.1 ∧ RQ r ty sz o.2 tyA rlA m.2 tyA rlA itA) := by
  have h0 : RQ r ty sz f tyA rlA itA tyA rlA itA := ⟨hR, fun _ _ => ⟨rfl, rfl⟩, fun _ _ => rfl⟩
  obtain ⟨e1, e2, ⟨S, hS, rfl, e4, e5⟩, e6⟩ := hR
  unfold f_X11_setElement f_X12_setElement
  rw [isRw1 hr, isRw2 hr, ob_s, ob_s, if_neg (show ¬ nI 1 = (0 : Int32) by decide), if_neg (show ¬ nI 1 = (0 : Int32) by decide), ldA_n hr (by omega), hq, asR_some, ldA_n hr (by omega), ← e1]
  rcases ty_neg e2 with ⟨t1, t2, t3⟩ | ⟨t1, t2, t3⟩
  · rw [if_pos t1, if_neg t2]
    exact w2_s ⟨rfl, h0⟩
  · rw [if_neg t1, if_pos t2, ldA_n hr (by omega), e4]
    rcases btw_T (x := x2) (T := S) (by omega) with ⟨i, hi, rfl, e⟩ | ⟨e, e'⟩
    · rw [if_neg (show ¬ nI i < 0 from pI_nneg (by omega)), if_pos ((pI_lt_iff (by omega) (by omega)).mpr hi), show f_X12_isBetween (nI i) 0 (nI S - 1) = some (nI 1) from e, ob_s, if_neg (show ¬ nI 1 = (0 : Int32) by decide)]
      refine w2_b (put_ok (by omega) hr e1 e6) (fun u w huw => w2_s ⟨rfl, ⟨e1, e2, ⟨S, hS, rfl, e4, e5⟩, huw.1⟩, fun _ _ => ⟨rfl, rfl⟩, huw.2⟩)
    · rw [show f_X12_isBetween x2 0 (nI S - 1) = some (nI 0) from e, ob_s, if_pos (show nI 0 = (0 : Int32) from rfl)]
      by_cases hx : x2 < 0
      · rw [if_pos hx]
        exact w2_s ⟨rfl, h0⟩
      · rw [if_neg hx, if_neg (show ¬ x2 < nI S from fun h => by
          rcases e' with h1 | h1
          · exact hx h1
          · exact absurd h (Int32.not_lt.mpr h1))]
        exact w2_s ⟨rfl, h0⟩
theorem n_setElement {x x2 x3 ty sz : Int32} {q : Nat} {rf : Nat → Option Nat} {f tyA rlA itA : Nat → Int32} (h : f_X11_isRow x = some (nI 0) ∧ f_X12_isRow x = some (nI 0)) : f_X11_setElement x x2 x3 q ty sz rf f = some (-1, f) ∧ f_X12_setElement x x2 x3 tyA rlA itA = some (-1, itA) := by
  unfold f_X11_setElement f_X12_setElement
  rw [h.1, h.2]
  exact ⟨rfl, rfl⟩
theorem p_element {x2 ty sz : Int32} {q : Nat} {rf : Nat → Option Nat} {f tyA rlA itA : Nat → Int32} (r : Nat) (hr : r < 3) (hq : rf r = some q) (hR : RowR ty sz f (tyA r) (rlA r) itA (21 * r)) : W2 (f_X11_element (nI r) x2 q sz rf f) (f_X12_element (nI r) x2 tyA rlA itA) (fun o m => o = m) := by
  obtain ⟨e1, e2, ⟨S, hS, rfl, e4, e5⟩, e6⟩ := hR
  unfold f_X11_element f_X12_element
  rw [isRw1 hr, isRw2 hr, ob_s, ob_s, if_neg (show ¬ nI 1 = (0 : Int32) by decide), if_neg (show ¬ nI 1 = (0 : Int32) by decide), ldA_n hr (by omega), hq, asR_some, ldA_n hr (by omega), hq, asR_some, ldA_n hr (by omega), ← e1]
  rcases ty_neg e2 with ⟨t1, t2, t3⟩ | ⟨t1, t2, t3⟩
  · have hS0 := e5 t1
    subst hS0
    rw [if_pos t3]
    by_cases hx : x2 < 0
    · rw [if_pos hx]
      exact w2_s rfl
    · rw [if_neg hx, if_neg (show ¬ x2 < nI 0 from hx)]
      exact w2_s rfl
  · rw [if_neg t3, ldA_n hr (by omega), e4]
    rcases btw_T (x := x2) (T := S) (by omega) with ⟨i, hi, rfl, e⟩ | ⟨e, e'⟩
    · rw [if_neg (show ¬ nI i < 0 from pI_nneg (by omega)), if_pos ((pI_lt_iff (by omega) (by omega)).mpr hi), show f_X12_isBetween (nI i) 0 (nI S - 1) = some (nI 1) from e, ob_s, if_neg (show ¬ nI 1 = (0 : Int32) by decide), ldA_n (by omega) (by omega)]
      simp (disch := omega) only [↓reduceIte, if_pos, if_neg, ldA_n, stA_n, pI_add, pI_mul, pI_sub, pI_lt_iff, pI_le_iff, pI_eq_iff, ob_s, upE, upN, pI_dec2, asR_some, bitZ0, bitZ1, Sum.elim_inl, Sum.elim_inr, pL0, pL1, pL2, pL3, pL4, pL5, pL6, pL7, pL8, pL10, pL12, pL15, pL16, pL20, pL21, pL22, pL23, pL29, pL31, pL35, pL37, pL48, pL49, pL50, pL52, pL57, pL94, pL97, pL99, pL100, pL127, pL400, pL1000, pL1023, pL1024, pL2000, pL2001, pL2187, pL4095, pL4096, pL8191, pL8192, pL65535]
      exact w2_s (by rw [e6 i (by omega)])
    · rw [show f_X12_isBetween x2 0 (nI S - 1) = some (nI 0) from e, ob_s, if_pos (show nI 0 = (0 : Int32) from rfl)]
      by_cases hx : x2 < 0
      · rw [if_pos hx]
        exact w2_s rfl
      · rw [if_neg hx, if_neg (show ¬ x2 < nI S from fun h => by
          rcases e' with h1 | h1
          · exact hx h1
          · exact absurd h (Int32.not_lt.mpr h1))]
        exact w2_s rfl
theorem n_element {x x2 sz : Int32} {q : Nat} {rf : Nat → Option Nat} {f tyA rlA itA : Nat → Int32} (h : f_X11_isRow x = some (nI 0) ∧ f_X12_isRow x = some (nI 0)) : f_X11_element x x2 q sz rf f = some (-9223372036854775808) ∧ f_X12_element x x2 tyA rlA itA = some (-9223372036854775808) := by
  unfold f_X11_element f_X12_element
  rw [h.1, h.2]
  exact ⟨rfl, rfl⟩
theorem lN_leW {a b : Nat} (ha : a < 2 ^ 62) (hb : b < 2 ^ 62) : lN a ≤ lN b ↔ a ≤ b := by
  rw [Int64.le_iff_toInt_le, show (lN a).toInt = (a : Int) from lg_ofNat_toInt (by omega), show (lN b).toInt = (b : Int) from lg_ofNat_toInt (by omega)]
  omega
theorem lN_ltW {a b : Nat} (ha : a < 2 ^ 62) (hb : b < 2 ^ 62) : lN a < lN b ↔ a < b := by
  rw [Int64.lt_iff_toInt_lt, show (lN a).toInt = (a : Int) from lg_ofNat_toInt (by omega), show (lN b).toInt = (b : Int) from lg_ofNat_toInt (by omega)]
  omega
theorem hasR {a c S : Nat} (ha : a < 2 ^ 31) (hc : c < 2 ^ 31) (hS : S ≤ 21) : f_X6_hasRange (nI a) (nI c) (nI S) = some (if a + c ≤ S then nI 1 else nI 0) := by
  unfold f_X6_hasRange
  by_cases h1 : S < c
  · simp (disch := omega) only [↓reduceIte, if_pos, if_neg, ldA_n, stA_n, pI_add, pI_mul, pI_sub, pI_lt_iff, pI_le_iff, pI_eq_iff, ob_s, upE, upN, pI_dec2, asR_some, bitZ0, bitZ1, Sum.elim_inl, Sum.elim_inr, pL0, pL1, pL2, pL3, pL4, pL5, pL6, pL7, pL8, pL10, pL12, pL15, pL16, pL20, pL21, pL22, pL23, pL29, pL31, pL35, pL37, pL48, pL49, pL50, pL52, pL57, pL94, pL97, pL99, pL100, pL127, pL400, pL1000, pL1023, pL1024, pL2000, pL2001, pL2187, pL4095, pL4096, pL8191, pL8192, pL65535]
  · by_cases h2 : S - c < a
    · simp (disch := omega) only [↓reduceIte, if_pos, if_neg, ldA_n, stA_n, pI_add, pI_mul, pI_sub, pI_lt_iff, pI_le_iff, pI_eq_iff, ob_s, upE, upN, pI_dec2, asR_some, bitZ0, bitZ1, Sum.elim_inl, Sum.elim_inr, pL0, pL1, pL2, pL3, pL4, pL5, pL6, pL7, pL8, pL10, pL12, pL15, pL16, pL20, pL21, pL22, pL23, pL29, pL31, pL35, pL37, pL48, pL49, pL50, pL52, pL57, pL94, pL97, pL99, pL100, pL127, pL400, pL1000, pL1023, pL1024, pL2000, pL2001, pL2187, pL4095, pL4096, pL8191, pL8192, pL65535]
    · simp (disch := omega) only [↓reduceIte, if_pos, if_neg, ldA_n, stA_n, pI_add, pI_mul, pI_sub, pI_lt_iff, pI_le_iff, pI_eq_iff, ob_s, upE, upN, pI_dec2, asR_some, bitZ0, bitZ1, Sum.elim_inl, Sum.elim_inr, pL0, pL1, pL2, pL3, pL4, pL5, pL6, pL7, pL8, pL10, pL12, pL15, pL16, pL20, pL21, pL22, pL23, pL29, pL31, pL35, pL37, pL48, pL49, pL50, pL52, pL57, pL94, pL97, pL99, pL100, pL127, pL400, pL1000, pL1023, pL1024, pL2000, pL2001, pL2187, pL4095, pL4096, pL8191, pL8192, pL65535]
theorem hasR_neg {x1 x2 : Int32} {S : Nat} (hS : S ≤ 21) (h : x2 < 0 ∨ x1 < 0) : f_X6_hasRange x1 x2 (nI S) = some (nI 0) := by
  unfold f_X6_hasRange
  by_cases h2 : x2 < 0
  · rw [if_pos h2]
    rfl
  · rw [if_neg h2]
    by_cases h3 : nI S < x2
    · rw [if_pos h3]
      rfl
    · rw [if_neg h3, if_pos (h.resolve_left h2)]
      rfl
theorem cpl_ok {a b c r v : Nat} {itA mv : Nat → Int32} (hr : r < 3) (hv : v < 3) (h1 : a + c ≤ 21) (h2 : b + c ≤ 21) : Wp ((loopN (fun w => b_X12_copyElements_110 itA (nI r) (nI a) (nI c) w.1 w.2) FU (mv, (0 : Int32))).bind (fun u35 => (loopN (fun w => b_X12_copyElements_147 u35 (nI v) (nI b) (nI c) w.1 w.2) FU (itA, (0 : Int32))).bind (fun u37 => some (nI c, u37, u35)))) (fun m => m.1 = nI c ∧ ∀ j, m.2.1 j = if 21 * v + b ≤ j ∧ j < 21 * v + b + c then itA (21 * r + a + (j - (21 * v + b))) else itA j) := by
  refine wp_seq (Q := fun g => ∀ i, i < c → g i = itA (21 * r + a + i)) (wp_fill 0 0 c (fun i => itA (21 * r + a + i)) (by omega) (by omega) (fun i f h3 h4 hf => ?_) (fun f hf => ?_)) (fun g hg => wp_seq (Q := fun g => ∀ j, g j = if 21 * v + b ≤ j ∧ j < 21 * v + b + c then itA (21 * r + a + (j - (21 * v + b))) else itA j) (wp_fill (21 * v + b) 0 c (fun i => itA (21 * r + a + i)) (by omega) (by omega) (fun i f h3 h4 hf => ?_) (fun f hf => ?_)) (fun u hu => wp_some ⟨rfl, hu⟩))
  · show b_X12_copyElements_110 itA (nI r) (nI a) (nI c) f (nI i) = _
    unfold b_X12_copyElements_110
    simp (disch := omega) only [↓reduceIte, if_pos, if_neg, ldA_n, stA_n, pI_add, pI_mul, pI_sub, pI_lt_iff, pI_le_iff, pI_eq_iff, ob_s, upE, upN, pI_dec2, asR_some, bitZ0, bitZ1, Sum.elim_inl, Sum.elim_inr, pL0, pL1, pL2, pL3, pL4, pL5, pL6, pL7, pL8, pL10, pL12, pL15, pL16, pL20, pL21, pL22, pL23, pL29, pL31, pL35, pL37, pL48, pL49, pL50, pL52, pL57, pL94, pL97, pL99, pL100, pL127, pL400, pL1000, pL1023, pL1024, pL2000, pL2001, pL2187, pL4095, pL4096, pL8191, pL8192, pL65535, Nat.zero_add]
  · show Wp (b_X12_copyElements_110 itA (nI r) (nI a) (nI c) f (nI c)) _
    unfold b_X12_copyElements_110
    rw [if_pos (Int32.le_refl _)]
    exact wp_r (fun i hi => by rw [hf, if_pos (by omega), Nat.sub_zero])
  · show b_X12_copyElements_147 g (nI v) (nI b) (nI c) f (nI i) = _
    unfold b_X12_copyElements_147
    have e := hg i h4
    simp (disch := omega) only [↓reduceIte, if_pos, if_neg, ldA_n, stA_n, pI_add, pI_mul, pI_sub, pI_lt_iff, pI_le_iff, pI_eq_iff, ob_s, upE, upN, pI_dec2, asR_some, bitZ0, bitZ1, Sum.elim_inl, Sum.elim_inr, pL0, pL1, pL2, pL3, pL4, pL5, pL6, pL7, pL8, pL10, pL12, pL15, pL16, pL20, pL21, pL22, pL23, pL29, pL31, pL35, pL37, pL48, pL49, pL50, pL52, pL57, pL94, pL97, pL99, pL100, pL127, pL400, pL1000, pL1023, pL1024, pL2000, pL2001, pL2187, pL4095, pL4096, pL8191, pL8192, pL65535, e]
  · show Wp (b_X12_copyElements_147 g (nI v) (nI b) (nI c) f (nI c)) _
    unfold b_X12_copyElements_147
    rw [if_pos (Int32.le_refl _)]
    exact wp_r hf
/-- the reference's copyElements behind its checks of the rows -/
def cpT (x1 x2 x3 x4 x5 : Int32) (rlA itA mv : Nat → Int32) : Option (Int32 × (Nat → Int32) × (Nat → Int32)) := if x5 < 0 then (some ((-13 : Int32), itA, mv)) else (if x2 < 0 then (some ((-13 : Int32), itA, mv)) else (if x4 < 0 then (some ((-13 : Int32), itA, mv)) else (ldA rlA 3 x1 (fun v30 => if 0 < (lg_cmp ((x2.toInt64) + (x5.toInt64)) (v30.toInt64)) then (some ((-13 : Int32), itA, mv)) else (ldA rlA 3 x3 (fun v33 => if (lg_cmp ((x4.toInt64) + (x5.toInt64)) (v33.toInt64)) ≤ 0 then ((loopN (fun v => b_X12_copyElements_110 itA x1 x2 x5 v.1 v.2) FU (mv, (0 : Int32))).bind (fun u35 => (loopN (fun v => b_X12_copyElements_147 u35 x3 x4 x5 v.1 v.2) FU (itA, (0 : Int32))).bind (fun u37 => some (x5, u37, u35)))) else (some ((-13 : Int32), itA, mv))))))))
theorem cpT_ok {r v S1 S2 : Nat} {x2 x4 x5 : Int32} {f1 f3 rlA itA mv : Nat → Int32} (hr : r < 3) (hv : v < 3) (e1 : rlA r = nI S1) (e2 : rlA v = nI S2) (hS1 : S1 ≤ 21) (hS2 : S2 ≤ 21) (hf1 : ∀ i, i < 21 → f1 i = itA (21 * r + i)) (hf3 : ∀ i, i < 21 → f3 i = itA (21 * v + i)) :
    W2 ((f_X6_hasRange x2 x5 (nI S1)).bind (fun u13 => if u13 = 0 then (some ((-13 : Int32), f3)) else ((f_X6_hasRange x4 x5 (nI S2)).bind (fun u15 => if u15 = 0 then (some ((-13 : Int32), f3)) else (cpA f1 f3 21 21 x2 x4 x5 (fun g => some (x5, g))))))) (cpT (nI r) x2 (nI v) x4 x5 rlA itA mv) (fun o m => o.1 = m.1 ∧ (∀ i, i < 21 → o.2 i = m.2.1 (21 * v + i)) ∧ ∀ j, j < 21 * v ∨ 21 * v + 21 ≤ j → m.2.1 j = itA j) := by
  have bad : ∀ (mo : Int32 × (Nat → Int32) × (Nat → Int32)), mo = ((-13 : Int32), itA, mv) → (((-13 : Int32), f3) : Int32 × (Nat → Int32)).1 = mo.1 ∧ (∀ i, i < 21 → f3 i = mo.2.1 (21 * v + i)) ∧ ∀ j, j < 21 * v ∨ 21 * v + 21 ≤ j → mo.2.1 j = itA j := by
    rintro mo rfl
    exact ⟨rfl, hf3, fun _ _ => rfl⟩
  unfold cpT
  rcases i_cases x5 with h5 | ⟨c, rfl, hc⟩
  · rw [hasR_neg hS1 (Or.inl h5), if_pos h5]
    exact w2_s (bad _ rfl)
  · rw [if_neg (pI_nneg hc)]
    rcases i_cases x2 with h2 | ⟨a, rfl, ha⟩
    · rw [hasR_neg hS1 (Or.inr h2), if_pos h2]
      exact w2_s (bad _ rfl)
    · rw [if_neg (pI_nneg ha), hasR ha hc hS1, ob_s]
      rcases i_cases x4 with h4 | ⟨b, rfl, hb⟩
      · rw [hasR_neg hS2 (Or.inr h4), if_pos h4]
        by_cases q : a + c ≤ S1
        · rw [if_pos q]
          exact w2_s (bad _ rfl)
        · rw [if_neg q]
          exact w2_s (bad _ rfl)
      · rw [if_neg (pI_nneg hb), hasR hb hc hS2, ldA_n hr (by omega), ldA_n hv (by omega), e1, e2]
        simp only [lg_cmp_gt, lg_cmp_le]
        rw [nI_l ha, nI_l hc, nI_l (show S1 < 2 ^ 31 by omega), nI_l hb, nI_l (show S2 < 2 ^ 31 by omega), lN_add, lN_add]
        by_cases q : a + c ≤ S1
        · rw [if_pos q, if_neg (show ¬ lN S1 < lN (a + c) by rw [lN_ltW (by omega) (by omega)]; omega), if_neg (show ¬ nI 1 = (0 : Int32) by decide), ob_s]
          by_cases q2 : b + c ≤ S2
          · rw [if_pos q2, if_pos (show lN (b + c) ≤ lN S2 from (lN_leW (by omega) (by omega)).mpr q2), if_neg (show ¬ nI 1 = (0 : Int32) by decide), cpA_n (by omega) (by omega) (by omega) (by omega)]
            refine w2_of (wp_some (P := fun o => o = (nI c, va_cpy f1 f3 a b c)) rfl) (cpl_ok hr hv (by omega) (by omega)) (fun o m ho hm => ?_)
            subst ho
            refine ⟨hm.1.symm, fun i hi => ?_, fun j hj => ?_⟩
            · show va_cpy f1 f3 a b c i = _
              rw [hm.2]
              by_cases k : b ≤ i ∧ i < b + c
              · rw [pk_cpy_in k.1 k.2, if_pos (by omega), hf1 _ (by omega)]
                congr 1
                omega
              · rw [pk_cpy_out (by omega), if_neg (by omega), hf3 i hi]
            · rw [hm.2, if_neg (by omega)]
          · rw [if_neg q2, if_neg (show ¬ lN (b + c) ≤ lN S2 from fun h => q2 ((lN_leW (by omega) (by omega)).mp h)), if_pos (show nI 0 = (0 : Int32) from rfl)]
            exact w2_s (bad _ rfl)
        · rw [if_neg q, if_pos (show lN S1 < lN (a + c) from (lN_ltW (by omega) (by omega)).mpr (by omega)), if_pos (show nI 0 = (0 : Int32) from rfl)]
          exact w2_s (bad _ rfl)
theorem p_copyElements {x2 x4 x5 ty1 sz1 ty3 sz3 : Int32} {q1 q3 : Nat} {rf : Nat → Option Nat} {f1 f3 tyA rlA itA mv : Nat → Int32} (r v : Nat) (hr : r < 3) (hv : v < 3) (h1 : rf r = some q1) (h3 : rf v = some q3) (R1 : RowR ty1 sz1 f1 (tyA r) (rlA r) itA (21 * r)) (R3 : RowR ty3 sz3 f3 (tyA v) (rlA v) itA (21 * v)) : W2 (f_X11_copyElements (nI r) x2 (nI v) x4 x5 q1 q3 ty1 sz1 ty3 sz3 rf f1 f3) (f_X12_copyElements (nI r) x2 (nI v) x4 x5 tyA rlA itA mv) (fun o m => o.1 = m.1 ∧ (∀ i, i < 21 → o.2 i = m.2.1 (21 * v + i)) ∧ ∀ j, j < 21 * v ∨ 21 * v + 21 ≤ j → m.2.1 j = itA j) := by
  obtain ⟨e1, e2, ⟨S1, hS1, rfl, e4, e5⟩, e6⟩ := R1
  obtain ⟨g1, g2, ⟨S3, hS3, rfl, g4, g5⟩, g6⟩ := R3
  have bad : ∀ (z : Int32), W2 (some (z, f3)) (some (z, itA, mv)) (fun o m => o.1 = m.1 ∧ (∀ i, i < 21 → o.2 i = m.2.1 (21 * v + i)) ∧ ∀ j, j < 21 * v ∨ 21 * v + 21 ≤ j → m.2.1 j = itA j) := fun z => w2_s ⟨rfl, g6, fun _ _ => rfl⟩
  have T := cpT_ok (x2 := x2) (x4 := x4) (x5 := x5) (mv := mv) hr hv e4 g4 hS1 hS3 e6 g6
  unfold cpT at T
  unfold f_X11_copyElements f_X12_copyElements
  rw [isRw1 hr, isRw1 hv, isRw2 hr, isRw2 hv, ob_s, ob_s, if_neg (show ¬ nI 1 = (0 : Int32) by decide), if_neg (show ¬ nI 1 = (0 : Int32) by decide), ob_s, ob_s, if_neg (show ¬ nI 1 = (0 : Int32) by decide), if_neg (show ¬ nI 1 = (0 : Int32) by decide), ldA_n hr (by omega), h1, asR_some, ldA_n hv (by omega), h3, asR_some, ldA_n hr (by omega), ldA_n hv (by omega), ldA_n hr (by omega), ldA_n hv (by omega), ← e1, ← g1]
  rcases ty_neg e2 with ⟨t1, t2, t3⟩ | ⟨t1, t2, t3⟩
  · rw [if_pos t1, if_pos t3]
    exact bad _
  · rw [if_neg t1, if_neg t3]
    rcases ty_neg g2 with ⟨s1, s2, s3⟩ | ⟨s1, s2, s3⟩
    · rw [if_pos s1, if_neg s2]
      exact bad _
    · rw [if_neg s1, if_pos s2]
      by_cases c : ty1 = ty3
      · rw [if_pos c, if_pos c]
        exact T
      · rw [if_neg c, if_neg c]
        exact bad _
theorem p_copySelf {x2 x4 x5 ty1 sz1 : Int32} {q1 : Nat} {rf : Nat → Option Nat} {f1 tyA rlA itA mv : Nat → Int32} (r : Nat) (hr : r < 3) (h1 : rf r = some q1) (R1 : RowR ty1 sz1 f1 (tyA r) (rlA r) itA (21 * r)) : W2 (f_X11_copyElements__self (nI r) x2 (nI r) x4 x5 q1 ty1 sz1 rf f1) (f_X12_copyElements (nI r) x2 (nI r) x4 x5 tyA rlA itA mv) (fun o m => o.1 = m.1 ∧ (∀ i, i < 21 → o.2 i = m.2.1 (21 * r + i)) ∧ ∀ j, j < 21 * r ∨ 21 * r + 21 ≤ j → m.2.1 j = itA j) := p_copyElements r r hr hr h1 h1 R1 R1
theorem n_copy1 {x x2 x3 x4 x5 ty1 sz1 ty3 sz3 : Int32} {q1 q3 : Nat} {rf : Nat → Option Nat} {f1 f3 tyA rlA itA mv : Nat → Int32} (h : f_X11_isRow x = some (nI 0) ∧ f_X12_isRow x = some (nI 0)) : f_X11_copyElements x x2 x3 x4 x5 q1 q3 ty1 sz1 ty3 sz3 rf f1 f3 = some (-1, f3) ∧ f_X12_copyElements x x2 x3 x4 x5 tyA rlA itA mv = some (-1, itA, mv) := by
  unfold f_X11_copyElements f_X12_copyElements
  rw [h.1, h.2]
  exact ⟨rfl, rfl⟩
theorem n_copy2 {x2 x3 x4 x5 ty1 sz1 ty3 sz3 : Int32} {r q1 q3 : Nat} (hr : r < 3) {rf : Nat → Option Nat} {f1 f3 tyA rlA itA mv : Nat → Int32} (h : f_X11_isRow x3 = some (nI 0) ∧ f_X12_isRow x3 = some (nI 0)) : f_X11_copyElements (nI r) x2 x3 x4 x5 q1 q3 ty1 sz1 ty3 sz3 rf f1 f3 = some (-1, f3) ∧ f_X12_copyElements (nI r) x2 x3 x4 x5 tyA rlA itA mv = some (-1, itA, mv) := by
  unfold f_X11_copyElements f_X12_copyElements
  rw [isRw1 hr, isRw2 hr, h.1, h.2]
  exact ⟨rfl, rfl⟩
