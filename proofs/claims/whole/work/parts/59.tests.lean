set_option linter.unusedVariables false
/-! feed, addTest, removeTest, testCount, test -/
theorem tsA_s {β : Type} {tq : Nat → Option TV} {a : Nat} {v : TV} {k : Nat → TV → Option β} (h : tq a = some v) : tsA tq (some a) k = k a v := by
  show (tq a).bind (fun v => k a v) = _
  rw [h]
  rfl
theorem ofN_nI {a : Nat} : Int32.ofNat a = nI a := rfl
theorem mkN_n {β : Type} {a : Nat} {k : Nat → Option β} (h : a ≤ 64) : mkN (nI a) k = k a := by
  unfold mkN
  rw [nI_clamp (by omega), if_neg]
  rintro (h1 | h1)
  · exact pI_nneg (by omega) h1
  · omega
theorem p_feed {x1 a b : Int32} {f g : Nat → Int32} (h : InputR a f b g) : W2 (f_X11_feed x1 a f) (f_X12_feed x1 b g) (fun o m => o.1 = m.1 ∧ InputR o.2.1 o.2.2 m.2.1 m.2.2) := by
  have h0 := h
  obtain ⟨I, hI, rfl, rfl, hf⟩ := h
  unfold f_X11_feed f_X12_feed
  rcases iC x1 with hx | ⟨j, rfl, hj⟩
  · rw [if_pos (show x1 < 1 from i_neg_lt (b := 1) hx (by omega)), show f_X12_isBetween x1 1 127 = some 0 from btw_negL (a := 1) (b := 127) hx (by omega)]
    exact w2_s ⟨rfl, h0⟩
  · by_cases h1 : j < 1
    · simp (disch := omega) only [↓reduceIte, if_pos, if_neg, ldA_n, stA_n, pI_add, pI_mul, pI_sub, pI_lt_iff, pI_le_iff, pI_eq_iff, ob_s, upE, upN, pI_dec2, asR_some, bitZ0, bitZ1, Sum.elim_inl, Sum.elim_inr, pL0, pL1, pL2, pL3, pL4, pL5, pL6, pL7, pL8, pL10, pL12, pL15, pL16, pL20, pL21, pL22, pL23, pL29, pL31, pL35, pL37, pL48, pL49, pL50, pL52, pL57, pL94, pL97, pL99, pL100, pL127, pL400, pL1000, pL1023, pL1024, pL2000, pL2001, pL2187, pL4095, pL4096, pL8191, pL8192, pL65535, btw_lo]
      exact w2_s ⟨rfl, h0⟩
    · by_cases h2 : j ≤ 127
      · by_cases h3 : I = 8
        · subst h3
          simp (disch := omega) only [↓reduceIte, if_pos, if_neg, ldA_n, stA_n, pI_add, pI_mul, pI_sub, pI_lt_iff, pI_le_iff, pI_eq_iff, ob_s, upE, upN, pI_dec2, asR_some, bitZ0, bitZ1, Sum.elim_inl, Sum.elim_inr, pL0, pL1, pL2, pL3, pL4, pL5, pL6, pL7, pL8, pL10, pL12, pL15, pL16, pL20, pL21, pL22, pL23, pL29, pL31, pL35, pL37, pL48, pL49, pL50, pL52, pL57, pL94, pL97, pL99, pL100, pL127, pL400, pL1000, pL1023, pL1024, pL2000, pL2001, pL2187, pL4095, pL4096, pL8191, pL8192, pL65535, btw_in]
          exact w2_s ⟨rfl, h0⟩
        · simp (disch := omega) only [↓reduceIte, if_pos, if_neg, ldA_n, stA_n, pI_add, pI_mul, pI_sub, pI_lt_iff, pI_le_iff, pI_eq_iff, ob_s, upE, upN, pI_dec2, asR_some, bitZ0, bitZ1, Sum.elim_inl, Sum.elim_inr, pL0, pL1, pL2, pL3, pL4, pL5, pL6, pL7, pL8, pL10, pL12, pL15, pL16, pL20, pL21, pL22, pL23, pL29, pL31, pL35, pL37, pL48, pL49, pL50, pL52, pL57, pL94, pL97, pL99, pL100, pL127, pL400, pL1000, pL1023, pL1024, pL2000, pL2001, pL2187, pL4095, pL4096, pL8191, pL8192, pL65535, btw_in]
          refine w2_s ⟨rfl, I + 1, by omega, rfl, rfl, fun i hi => ?_⟩
          by_cases hiI : i = I
          · show va_up f I (nI j) i = va_up g I (nI j) i ∧ ∃ x, va_up f I (nI j) i = nI x ∧ x < 128
            rw [upE hiI, upE hiI]
            exact ⟨rfl, j, rfl, by omega⟩
          · show va_up f I (nI j) i = va_up g I (nI j) i ∧ ∃ x, va_up f I (nI j) i = nI x ∧ x < 128
            rw [upN hiI, upN hiI]
            exact hf i (by omega)
      · simp (disch := omega) only [↓reduceIte, if_pos, if_neg, ldA_n, stA_n, pI_add, pI_mul, pI_sub, pI_lt_iff, pI_le_iff, pI_eq_iff, ob_s, upE, upN, pI_dec2, asR_some, bitZ0, bitZ1, Sum.elim_inl, Sum.elim_inr, pL0, pL1, pL2, pL3, pL4, pL5, pL6, pL7, pL8, pL10, pL12, pL15, pL16, pL20, pL21, pL22, pL23, pL29, pL31, pL35, pL37, pL48, pL49, pL50, pL52, pL57, pL94, pL97, pL99, pL100, pL127, pL400, pL1000, pL1023, pL1024, pL2000, pL2001, pL2187, pL4095, pL4096, pL8191, pL8192, pL65535, btw_hi]
        exact w2_s ⟨rfl, h0⟩
theorem TestR_fr {tq : Nat → Option TV} {r : Option Nat} {kd bd ln kd' bd' ln' : Int32} {pt pt' : Nat → Int32} (h : TestR tq r kd bd ln pt) (e1 : kd' = kd) (e2 : bd' = bd) (e3 : ln' = ln) (e4 : ∀ i, i < 4 → pt' i = pt i) : TestR tq r kd' bd' ln' pt' := by
  obtain ⟨a, v, k, b, l, h1, h2, h3, h4, h5, h6, h7⟩ := h
  refine ⟨a, v, k, b, l, h1, h2, h3, e1.trans h4, e2.trans h5, e3.trans h6, fun i hi => ?_⟩
  have hl : l ≤ 4 := by
    obtain ⟨_, _, _, _, _, _, h⟩ := h3
    omega
  rw [h7 i hi, e4 i (by omega)]
theorem rem1_ok {tq : Nat → Option TV} {T t : Nat} {mb : Nat → Option Nat} (hT : T ≤ 6) (ht : t < T) (hm : ∀ j, j < T → ∃ a v, mb j = some a ∧ tq a = some v) : Wp (f_X1_remove (nI t) tq (nI T) mb) (fun o => o.1 = nI (T - 1) ∧ ∀ j, o.2 j = if t ≤ j ∧ j < T - 1 then mb (j + 1) else mb j) := by
  unfold f_X1_remove
  refine wp_seq (Q := fun u => ∀ j, u j = if t ≤ j ∧ j < T - 1 then mb (j + 1) else mb j) ?_ (fun u hu => ?_)
  · refine wp_up (fun i v => v.2 = nI i ∧ ∀ j, v.1 j = if t ≤ j ∧ j < i then mb (j + 1) else mb j) t (T - 1) ⟨rfl, fun j => (if_neg (by omega)).symm⟩ (by omega) (by omega) ?_ ?_
    · rintro i ⟨g, x⟩ h1 h2 ⟨hx, hg⟩
      simp only at hx hg
      subst hx
      obtain ⟨a, v, e1, e2⟩ := hm (i + 1) (by omega)
      have e3 : g (i + 1) = some a := by rw [hg, if_neg (by omega), e1]
      show Wp (b_X1_remove_2 tq (nI T) g (nI i)) _
      unfold b_X1_remove_2
      simp (disch := omega) only [↓reduceIte, if_pos, if_neg, ldA_n, stA_n, pI_add, pI_mul, pI_sub, pI_lt_iff, pI_le_iff, pI_eq_iff, ob_s, upE, upN, pI_dec2, asR_some, bitZ0, bitZ1, Sum.elim_inl, Sum.elim_inr, pL0, pL1, pL2, pL3, pL4, pL5, pL6, pL7, pL8, pL10, pL12, pL15, pL16, pL20, pL21, pL22, pL23, pL29, pL31, pL35, pL37, pL48, pL49, pL50, pL52, pL57, pL94, pL97, pL99, pL100, pL127, pL400, pL1000, pL1023, pL1024, pL2000, pL2001, pL2187, pL4095, pL4096, pL8191, pL8192, pL65535, e3, tsA_s e2]
      refine wp_l ⟨rfl, fun j => ?_⟩
      show va_up g i (some a) j = _
      by_cases hj : j = i
      · rw [upE hj, if_pos (by omega), hj, e1]
      · rw [upN hj, hg j]
        by_cases hk : t ≤ j ∧ j < i
        · rw [if_pos hk, if_pos (by omega)]
        · rw [if_neg hk, if_neg (by omega)]
    · rintro ⟨g, x⟩ ⟨hx, hg⟩
      simp only at hx hg
      subst hx
      show Wp (b_X1_remove_2 tq (nI T) g (nI (T - 1))) _
      unfold b_X1_remove_2
      simp (disch := omega) only [↓reduceIte, if_pos, if_neg, ldA_n, stA_n, pI_add, pI_mul, pI_sub, pI_lt_iff, pI_le_iff, pI_eq_iff, ob_s, upE, upN, pI_dec2, asR_some, bitZ0, bitZ1, Sum.elim_inl, Sum.elim_inr, pL0, pL1, pL2, pL3, pL4, pL5, pL6, pL7, pL8, pL10, pL12, pL15, pL16, pL20, pL21, pL22, pL23, pL29, pL31, pL35, pL37, pL48, pL49, pL50, pL52, pL57, pL94, pL97, pL99, pL100, pL127, pL400, pL1000, pL1023, pL1024, pL2000, pL2001, pL2187, pL4095, pL4096, pL8191, pL8192, pL65535]
      exact wp_r hg
  · refine wp_some ⟨?_, hu⟩
    show nI T - (1 : Int32) = nI (T - 1)
    exact pI_sub (a := T) (b := 1) (by omega)
theorem rem2_ok {T t : Nat} {kd bd ln pt : Nat → Int32} (hT : T ≤ 6) (ht : t < T) (hx : f_X12_isTest (nI t) (nI T) = some (nI 1)) : Wp (f_X12_removeTest (nI t) (nI T) kd bd ln pt) (fun o => o.1 = nI (T - 1) ∧ o.2.1 = nI (T - 1) ∧ (∀ j, o.2.2.1 j = if t ≤ j ∧ j < T - 1 then kd (j + 1) else kd j) ∧ (∀ j, o.2.2.2.1 j = if t ≤ j ∧ j < T - 1 then bd (j + 1) else bd j) ∧ (∀ j, o.2.2.2.2.1 j = if t ≤ j ∧ j < T - 1 then ln (j + 1) else ln j) ∧ ∀ j, o.2.2.2.2.2 j = if 4 * t ≤ j ∧ j < 4 * (T - 1) then pt (j + 4) else pt j) := by
  unfold f_X12_removeTest
  rw [hx]
  simp (disch := omega) only [↓reduceIte, if_pos, if_neg, ldA_n, stA_n, pI_add, pI_mul, pI_sub, pI_lt_iff, pI_le_iff, pI_eq_iff, ob_s, upE, upN, pI_dec2, asR_some, bitZ0, bitZ1, Sum.elim_inl, Sum.elim_inr, pL0, pL1, pL2, pL3, pL4, pL5, pL6, pL7, pL8, pL10, pL12, pL15, pL16, pL20, pL21, pL22, pL23, pL29, pL31, pL35, pL37, pL48, pL49, pL50, pL52, pL57, pL94, pL97, pL99, pL100, pL127, pL400, pL1000, pL1023, pL1024, pL2000, pL2001, pL2187, pL4095, pL4096, pL8191, pL8192, pL65535]
  refine wp_seq (Q := fun o => (∀ j, o.1 j = if t ≤ j ∧ j < T - 1 then kd (j + 1) else kd j) ∧ (∀ j, o.2.1 j = if t ≤ j ∧ j < T - 1 then bd (j + 1) else bd j) ∧ (∀ j, o.2.2.1 j = if t ≤ j ∧ j < T - 1 then ln (j + 1) else ln j) ∧ ∀ j, o.2.2.2 j = if 4 * t ≤ j ∧ j < 4 * (T - 1) then pt (j + 4) else pt j) ?_ (fun u hu => wp_some ⟨rfl, rfl, hu⟩)
  refine wp_up (fun i v => v.2.2.2.2 = nI i ∧ (∀ j, v.1 j = if t ≤ j ∧ j < i then kd (j + 1) else kd j) ∧ (∀ j, v.2.1 j = if t ≤ j ∧ j < i then bd (j + 1) else bd j) ∧ (∀ j, v.2.2.1 j = if t ≤ j ∧ j < i then ln (j + 1) else ln j) ∧ ∀ j, v.2.2.2.1 j = if 4 * t ≤ j ∧ j < 4 * i then pt (j + 4) else pt j) t (T - 1) ⟨rfl, fun j => (if_neg (by omega)).symm, fun j => (if_neg (by omega)).symm, fun j => (if_neg (by omega)).symm, fun j => (if_neg (by omega)).symm⟩ (by omega) (by omega) ?_ ?_
  · rintro i ⟨f1, f2, f3, f4, x⟩ h1 h2 ⟨hx, k1, k2, k3, k4⟩
    simp only at hx k1 k2 k3 k4
    subst hx
    have up : ∀ (f g : Nat → Int32), (∀ j, f j = if t ≤ j ∧ j < i then g (j + 1) else g j) → ∀ j, va_up f i (f (i + 1)) j = if t ≤ j ∧ j < i + 1 then g (j + 1) else g j := by
      intro f g hf j
      by_cases hj : j = i
      · rw [upE hj, if_pos (by omega), hj, hf, if_neg (by omega)]
      · rw [upN hj, hf j]
        by_cases hk : t ≤ j ∧ j < i
        · rw [if_pos hk, if_pos (by omega)]
        · rw [if_neg hk, if_neg (by omega)]
    show Wp (b_X12_removeTest_22 (nI (T - 1)) f1 f2 f3 f4 (nI i)) _
    unfold b_X12_removeTest_22
    simp (disch := omega) only [↓reduceIte, if_pos, if_neg, ldA_n, stA_n, pI_add, pI_mul, pI_sub, pI_lt_iff, pI_le_iff, pI_eq_iff, ob_s, upE, upN, pI_dec2, asR_some, bitZ0, bitZ1, Sum.elim_inl, Sum.elim_inr, pL0, pL1, pL2, pL3, pL4, pL5, pL6, pL7, pL8, pL10, pL12, pL15, pL16, pL20, pL21, pL22, pL23, pL29, pL31, pL35, pL37, pL48, pL49, pL50, pL52, pL57, pL94, pL97, pL99, pL100, pL127, pL400, pL1000, pL1023, pL1024, pL2000, pL2001, pL2187, pL4095, pL4096, pL8191, pL8192, pL65535]
    refine wp_seq (Q := fun g => ∀ j, g j = if 4 * t ≤ j ∧ j < 4 * (i + 1) then pt (j + 4) else pt j) ?_ (fun u hu => wp_l ⟨rfl, up f1 kd k1, up f2 bd k2, up f3 ln k3, hu⟩)
    refine wp_fill (4 * i) 0 4 (fun c => pt (4 * i + c + 4)) (by omega) (by omega) (fun c g h3 h4 hg => ?_) (fun g hg => ?_)
    · have e : g (4 * i + 4 + c) = pt (4 * i + c + 4) := by
        rw [hg, if_neg (by omega), k4, if_neg (by omega)]
        congr 1
        omega
      show b_X12_removeTest_74 (nI i) g (nI c) = _
      unfold b_X12_removeTest_74
      simp (disch := omega) only [↓reduceIte, if_pos, if_neg, ldA_n, stA_n, pI_add, pI_mul, pI_sub, pI_lt_iff, pI_le_iff, pI_eq_iff, ob_s, upE, upN, pI_dec2, asR_some, bitZ0, bitZ1, Sum.elim_inl, Sum.elim_inr, pL0, pL1, pL2, pL3, pL4, pL5, pL6, pL7, pL8, pL10, pL12, pL15, pL16, pL20, pL21, pL22, pL23, pL29, pL31, pL35, pL37, pL48, pL49, pL50, pL52, pL57, pL94, pL97, pL99, pL100, pL127, pL400, pL1000, pL1023, pL1024, pL2000, pL2001, pL2187, pL4095, pL4096, pL8191, pL8192, pL65535, e]
    · show Wp (b_X12_removeTest_74 (nI i) g (nI 4)) _
      unfold b_X12_removeTest_74
      simp (disch := omega) only [↓reduceIte, if_pos, if_neg, ldA_n, stA_n, pI_add, pI_mul, pI_sub, pI_lt_iff, pI_le_iff, pI_eq_iff, ob_s, upE, upN, pI_dec2, asR_some, bitZ0, bitZ1, Sum.elim_inl, Sum.elim_inr, pL0, pL1, pL2, pL3, pL4, pL5, pL6, pL7, pL8, pL10, pL12, pL15, pL16, pL20, pL21, pL22, pL23, pL29, pL31, pL35, pL37, pL48, pL49, pL50, pL52, pL57, pL94, pL97, pL99, pL100, pL127, pL400, pL1000, pL1023, pL1024, pL2000, pL2001, pL2187, pL4095, pL4096, pL8191, pL8192, pL65535]
      refine wp_r (fun j => ?_)
      rw [hg j]
      by_cases hj : 4 * i + 0 ≤ j ∧ j < 4 * i + 4
      · rw [if_pos hj, if_pos (by omega)]
        congr 1
        omega
      · rw [if_neg hj, k4 j]
        by_cases hk : 4 * t ≤ j ∧ j < 4 * i
        · rw [if_pos hk, if_pos (by omega)]
        · rw [if_neg hk, if_neg (by omega)]
  · rintro ⟨f1, f2, f3, f4, x⟩ ⟨hx, k1, k2, k3, k4⟩
    simp only at hx k1 k2 k3 k4
    subst hx
    show Wp (b_X12_removeTest_22 (nI (T - 1)) f1 f2 f3 f4 (nI (T - 1))) _
    unfold b_X12_removeTest_22
    rw [if_pos (Int32.le_refl _)]
    exact wp_r ⟨k1, k2, k3, k4⟩
theorem p_removeTest {x1 cnt ts : Int32} {tq : Nat → Option TV} {mb : Nat → Option Nat} {kd bd ln pt : Nat → Int32} (h : TestsR tq cnt mb ts kd bd ln pt) : W2 (f_X11_removeTest x1 tq cnt mb) (f_X12_removeTest x1 ts kd bd ln pt) (fun o m => o.1 = m.1 ∧ TestsR tq o.2.1 o.2.2 m.2.1 m.2.2.1 m.2.2.2.1 m.2.2.2.2.1 m.2.2.2.2.2) := by
  have h0 := h
  obtain ⟨⟨T, hT, rfl, rfl, ht⟩, hM⟩ := h
  rcases testC x1 hT with ⟨j, hj, rfl, e1, e2⟩ | ⟨e1, e2⟩
  · have hm : ∀ j, j < T → ∃ a v, mb j = some a ∧ tq a = some v := by
      intro j hj
      obtain ⟨a, v, _, _, _, h1, h2, _⟩ := ht j hj
      exact ⟨a, v, h1, h2⟩
    unfold f_X11_removeTest
    rw [e1]
    simp (disch := omega) only [↓reduceIte, if_pos, if_neg, ldA_n, stA_n, pI_add, pI_mul, pI_sub, pI_lt_iff, pI_le_iff, pI_eq_iff, ob_s, upE, upN, pI_dec2, asR_some, bitZ0, bitZ1, Sum.elim_inl, Sum.elim_inr, pL0, pL1, pL2, pL3, pL4, pL5, pL6, pL7, pL8, pL10, pL12, pL15, pL16, pL20, pL21, pL22, pL23, pL29, pL31, pL35, pL37, pL48, pL49, pL50, pL52, pL57, pL94, pL97, pL99, pL100, pL127, pL400, pL1000, pL1023, pL1024, pL2000, pL2001, pL2187, pL4095, pL4096, pL8191, pL8192, pL65535]
    refine w2_l (rem1_ok hT hj hm) (fun u hu => w2_of (wp_some (P := fun o => o = (u.1, u.1, u.2)) rfl) (rem2_ok hT hj e2) (fun o m ho hm2 => ?_))
    subst ho
    obtain ⟨m1, m2, k1, k2, k3, k4⟩ := hm2
    refine ⟨hu.1.trans m1.symm, ⟨T - 1, by omega, hu.1, m2, fun t ht' => ?_⟩, fun i hi a ha => ?_⟩
    · show TestR tq (u.2 t) _ _ _ _
      rw [hu.2 t, k1 t, k2 t, k3 t]
      by_cases hjt : j ≤ t
      · rw [if_pos ⟨hjt, ht'⟩, if_pos ⟨hjt, ht'⟩, if_pos ⟨hjt, ht'⟩, if_pos ⟨hjt, ht'⟩]
        refine TestR_fr (ht (t + 1) (by omega)) rfl rfl rfl (fun i hi => ?_)
        show m.2.2.2.2.2 (4 * t + i) = pt (4 * (t + 1) + i)
        rw [k4, if_pos (by omega)]
        congr 1
        omega
      · rw [if_neg (fun h => hjt h.1), if_neg (fun h => hjt h.1), if_neg (fun h => hjt h.1), if_neg (fun h => hjt h.1)]
        refine TestR_fr (ht t (by omega)) rfl rfl rfl (fun i hi => ?_)
        show m.2.2.2.2.2 (4 * t + i) = pt (4 * t + i)
        rw [k4, if_neg (by omega)]
    · rw [hu.2 i] at ha
      by_cases hk : j ≤ i ∧ i < T - 1
      · rw [if_pos hk] at ha
        exact hM (i + 1) (by omega) a ha
      · rw [if_neg hk] at ha
        exact hM i hi a ha
  · unfold f_X11_removeTest f_X12_removeTest
    rw [e1, e2]
    exact w2_s ⟨rfl, h0⟩
theorem e_testCount {cnt ts : Int32} {tq : Nat → Option TV} {mb : Nat → Option Nat} {kd bd ln pt : Nat → Int32} (h : TestsR tq cnt mb ts kd bd ln pt) : cnt = ts := by
  obtain ⟨⟨T, _, rfl, rfl, _⟩, _⟩ := h
  rfl
theorem rangeOf_ok {t k b : Nat} {kd bd : Nat → Int32} (ht : t < 6) (hk : k < 3) (hb : b ≤ 9) (e1 : kd t = nI k) (e2 : bd t = nI b) : f_X12_rangeOf (nI t) kd bd = some (nI (if k = 2 then b + 1 else b)) := by
  unfold f_X12_rangeOf
  by_cases h : k = 2
  · subst h
    simp (disch := omega) only [↓reduceIte, if_pos, if_neg, ldA_n, stA_n, pI_add, pI_mul, pI_sub, pI_lt_iff, pI_le_iff, pI_eq_iff, ob_s, upE, upN, pI_dec2, asR_some, bitZ0, bitZ1, Sum.elim_inl, Sum.elim_inr, pL0, pL1, pL2, pL3, pL4, pL5, pL6, pL7, pL8, pL10, pL12, pL15, pL16, pL20, pL21, pL22, pL23, pL29, pL31, pL35, pL37, pL48, pL49, pL50, pL52, pL57, pL94, pL97, pL99, pL100, pL127, pL400, pL1000, pL1023, pL1024, pL2000, pL2001, pL2187, pL4095, pL4096, pL8191, pL8192, pL65535, e1, e2]
  · simp (disch := omega) only [↓reduceIte, if_pos, if_neg, ldA_n, stA_n, pI_add, pI_mul, pI_sub, pI_lt_iff, pI_le_iff, pI_eq_iff, ob_s, upE, upN, pI_dec2, asR_some, bitZ0, bitZ1, Sum.elim_inl, Sum.elim_inr, pL0, pL1, pL2, pL3, pL4, pL5, pL6, pL7, pL8, pL10, pL12, pL15, pL16, pL20, pL21, pL22, pL23, pL29, pL31, pL35, pL37, pL48, pL49, pL50, pL52, pL57, pL94, pL97, pL99, pL100, pL127, pL400, pL1000, pL1023, pL1024, pL2000, pL2001, pL2187, pL4095, pL4096, pL8191, pL8192, pL65535, e1, e2]
theorem p_test {x1 x2 cnt ts : Int32} {tq : Nat → Option TV} {mb : Nat → Option Nat} {kd bd ln pt : Nat → Int32} (h : TestsR tq cnt mb ts kd bd ln pt) : W2 (f_X11_test x1 x2 tq cnt mb) (f_X12_test x1 x2 ts kd bd ln) (fun o m => o = m) := by
  obtain ⟨⟨T, hT, rfl, rfl, ht⟩, hM⟩ := h
  rcases testC x1 hT with ⟨j, hj, rfl, e1, e2⟩ | ⟨e1, e2⟩
  · obtain ⟨a, v, k, b, l, h1, h2, h3, h4, h5, h6, h7⟩ := ht j hj
    obtain ⟨t1, t2, t3, t4, t5, t6, t7⟩ := h3
    unfold f_X11_test f_X12_test
    rw [e1, e2]
    rcases iC x2 with hx | ⟨c, rfl, hc⟩
    · have n0 : ¬ x2 = nI 0 := fun h => by rw [h] at hx; exact absurd hx (by decide)
      have n1 : ¬ x2 = nI 1 := fun h => by rw [h] at hx; exact absurd hx (by decide)
      have n2 : ¬ x2 = nI 2 := fun h => by rw [h] at hx; exact absurd hx (by decide)
      simp (disch := omega) only [↓reduceIte, if_pos, if_neg, ldA_n, stA_n, pI_add, pI_mul, pI_sub, pI_lt_iff, pI_le_iff, pI_eq_iff, ob_s, upE, upN, pI_dec2, asR_some, bitZ0, bitZ1, Sum.elim_inl, Sum.elim_inr, pL0, pL1, pL2, pL3, pL4, pL5, pL6, pL7, pL8, pL10, pL12, pL15, pL16, pL20, pL21, pL22, pL23, pL29, pL31, pL35, pL37, pL48, pL49, pL50, pL52, pL57, pL94, pL97, pL99, pL100, pL127, pL400, pL1000, pL1023, pL1024, pL2000, pL2001, pL2187, pL4095, pL4096, pL8191, pL8192, pL65535, h1, tsA_s h2, btw_neg hx, n0, n1, n2]
      exact w2_s rfl
    · by_cases c0 : c = 0
      · subst c0
        simp (disch := omega) only [↓reduceIte, if_pos, if_neg, ldA_n, stA_n, pI_add, pI_mul, pI_sub, pI_lt_iff, pI_le_iff, pI_eq_iff, ob_s, upE, upN, pI_dec2, asR_some, bitZ0, bitZ1, Sum.elim_inl, Sum.elim_inr, pL0, pL1, pL2, pL3, pL4, pL5, pL6, pL7, pL8, pL10, pL12, pL15, pL16, pL20, pL21, pL22, pL23, pL29, pL31, pL35, pL37, pL48, pL49, pL50, pL52, pL57, pL94, pL97, pL99, pL100, pL127, pL400, pL1000, pL1023, pL1024, pL2000, pL2001, pL2187, pL4095, pL4096, pL8191, pL8192, pL65535, h1, tsA_s h2, btw_in, t1, h4]
        exact w2_s rfl
      · by_cases c1 : c = 1
        · subst c1
          simp (disch := omega) only [↓reduceIte, if_pos, if_neg, ldA_n, stA_n, pI_add, pI_mul, pI_sub, pI_lt_iff, pI_le_iff, pI_eq_iff, ob_s, upE, upN, pI_dec2, asR_some, bitZ0, bitZ1, Sum.elim_inl, Sum.elim_inr, pL0, pL1, pL2, pL3, pL4, pL5, pL6, pL7, pL8, pL10, pL12, pL15, pL16, pL20, pL21, pL22, pL23, pL29, pL31, pL35, pL37, pL48, pL49, pL50, pL52, pL57, pL94, pL97, pL99, pL100, pL127, pL400, pL1000, pL1023, pL1024, pL2000, pL2001, pL2187, pL4095, pL4096, pL8191, pL8192, pL65535, h1, tsA_s h2, btw_in, t3, rangeOf_ok (show j < 6 by omega) (show k < 3 by omega) t6 h4 h5]
          exact w2_s rfl
        · by_cases c2 : c = 2
          · subst c2
            simp (disch := omega) only [↓reduceIte, if_pos, if_neg, ldA_n, stA_n, pI_add, pI_mul, pI_sub, pI_lt_iff, pI_le_iff, pI_eq_iff, ob_s, upE, upN, pI_dec2, asR_some, bitZ0, bitZ1, Sum.elim_inl, Sum.elim_inr, pL0, pL1, pL2, pL3, pL4, pL5, pL6, pL7, pL8, pL10, pL12, pL15, pL16, pL20, pL21, pL22, pL23, pL29, pL31, pL35, pL37, pL48, pL49, pL50, pL52, pL57, pL94, pL97, pL99, pL100, pL127, pL400, pL1000, pL1023, pL1024, pL2000, pL2001, pL2187, pL4095, pL4096, pL8191, pL8192, pL65535, h1, tsA_s h2, btw_in, t4, h6]
            exact w2_s rfl
          · simp (disch := omega) only [↓reduceIte, if_pos, if_neg, ldA_n, stA_n, pI_add, pI_mul, pI_sub, pI_lt_iff, pI_le_iff, pI_eq_iff, ob_s, upE, upN, pI_dec2, asR_some, bitZ0, bitZ1, Sum.elim_inl, Sum.elim_inr, pL0, pL1, pL2, pL3, pL4, pL5, pL6, pL7, pL8, pL10, pL12, pL15, pL16, pL20, pL21, pL22, pL23, pL29, pL31, pL35, pL37, pL48, pL49, pL50, pL52, pL57, pL94, pL97, pL99, pL100, pL127, pL400, pL1000, pL1023, pL1024, pL2000, pL2001, pL2187, pL4095, pL4096, pL8191, pL8192, pL65535, h1, tsA_s h2, btw_hi]
            exact w2_s rfl
  · unfold f_X11_test f_X12_test
    rw [e1, e2]
    exact w2_s rfl
/-- the first h bytes are letters, and no more -/
def HL (g : Nat → Nat) (I k h : Nat) : Prop := h ≤ 4 ∧ h ≤ I ∧ (∀ i, i < h → 97 ≤ g i ∧ g i < 97 + k) ∧ (h < 4 → h < I → ¬ (97 ≤ g h ∧ g h < 97 + k))
theorem HL_un {g : Nat → Nat} {I k h h' : Nat} (a : HL g I k h) (b : HL g I k h') : h = h' := by
  obtain ⟨a1, a2, a3, a4⟩ := a
  obtain ⟨b1, b2, b3, b4⟩ := b
  rcases Nat.lt_trichotomy h h' with e | e | e
  · exact absurd (b3 h e) (a4 (by omega) (by omega))
  · exact e
  · exact absurd (a3 h' e) (b4 (by omega) (by omega))
def prs1 (g : Nat → Nat) (I s k : Nat) : Nat ⊕ (Nat × Nat) :=
  if s < I ∧ (g s = 37 ∨ (g s = 94 ∧ k = 0)) then
    if s + 1 < I ∧ (if g s = 37 then 50 else 49) ≤ g (s + 1) ∧ g (s + 1) ≤ 57 then
      if s + 2 < I then .inl (s + 2) else .inr (if g s = 37 then k else 2, g (s + 1) - 48)
    else .inl (s + 1)
  else .inl s
/-- what an input is: an error's place, or kind and bound -/
def prs (g : Nat → Nat) (I h : Nat) : Nat ⊕ (Nat × Nat) := if h = 0 then (if 0 < I ∧ g 0 = 35 then prs1 g I 1 1 else .inl 0) else prs1 g I h 0
theorem head_ok {g : Nat → Nat} {I k : Nat} {f : Nat → Int32} (hI : I ≤ 8) (hk : k ≤ 3) (hf : ∀ i, i < I → f i = nI (g i)) (hb : ∀ i, i < I → g i < 128) (hh : ¬ (0 < I ∧ g 0 = 35)) : ∃ h, HL g I k h ∧ f_X7_headLength (nI I) (nI k) 8 f = some (nI h) := by
  have key : Wp (j_X7_headLength_14 8 f (nI I) (nI k)) (fun o => ∃ h, HL g I k h ∧ o = nI h) := by
    unfold j_X7_headLength_14
    refine wp_seq (Q := fun u => ∃ h, HL g I k h ∧ (u = Sum.inl (nI h) ∨ u = Sum.inr (nI h))) ?_ (fun u hu => ?_)
    · refine wp_up (fun i v => v.1 = nI i ∧ v.2 = nI i ∧ i ≤ I ∧ ∀ c, c < i → 97 ≤ g c ∧ g c < 97 + k) 0 4 ⟨rfl, rfl, by omega, fun c hc => by omega⟩ (by omega) (by omega) ?_ ?_
      · rintro i ⟨x, y⟩ h1 h2 ⟨hx, hy, h3, h4⟩
        simp only at hx hy
        subst hx hy
        show Wp (b_X7_headLength_19 8 f (nI I) (nI k) (nI i) (nI i)) _
        unfold b_X7_headLength_19
        by_cases hi : I ≤ i
        · simp (disch := omega) only [↓reduceIte, if_pos, if_neg, ldA_n, stA_n, pI_add, pI_mul, pI_sub, pI_lt_iff, pI_le_iff, pI_eq_iff, ob_s, upE, upN, pI_dec2, asR_some, bitZ0, bitZ1, Sum.elim_inl, Sum.elim_inr, pL0, pL1, pL2, pL3, pL4, pL5, pL6, pL7, pL8, pL10, pL12, pL15, pL16, pL20, pL21, pL22, pL23, pL29, pL31, pL35, pL37, pL48, pL49, pL50, pL52, pL57, pL94, pL97, pL99, pL100, pL127, pL400, pL1000, pL1023, pL1024, pL2000, pL2001, pL2187, pL4095, pL4096, pL8191, pL8192, pL65535]
          exact wp_r ⟨i, ⟨by omega, by omega, h4, fun _ h => by omega⟩, Or.inr rfl⟩
        · have b1 := hb i (by omega)
          by_cases c1 : g i < 97
          · simp (disch := omega) only [↓reduceIte, if_pos, if_neg, ldA_n, stA_n, pI_add, pI_mul, pI_sub, pI_lt_iff, pI_le_iff, pI_eq_iff, ob_s, upE, upN, pI_dec2, asR_some, bitZ0, bitZ1, Sum.elim_inl, Sum.elim_inr, pL0, pL1, pL2, pL3, pL4, pL5, pL6, pL7, pL8, pL10, pL12, pL15, pL16, pL20, pL21, pL22, pL23, pL29, pL31, pL35, pL37, pL48, pL49, pL50, pL52, pL57, pL94, pL97, pL99, pL100, pL127, pL400, pL1000, pL1023, pL1024, pL2000, pL2001, pL2187, pL4095, pL4096, pL8191, pL8192, pL65535, hf]
            exact wp_r ⟨i, ⟨by omega, by omega, h4, fun _ _ h => by omega⟩, Or.inl rfl⟩
          · by_cases c2 : g i < 97 + k
            · simp (disch := omega) only [↓reduceIte, if_pos, if_neg, ldA_n, stA_n, pI_add, pI_mul, pI_sub, pI_lt_iff, pI_le_iff, pI_eq_iff, ob_s, upE, upN, pI_dec2, asR_some, bitZ0, bitZ1, Sum.elim_inl, Sum.elim_inr, pL0, pL1, pL2, pL3, pL4, pL5, pL6, pL7, pL8, pL10, pL12, pL15, pL16, pL20, pL21, pL22, pL23, pL29, pL31, pL35, pL37, pL48, pL49, pL50, pL52, pL57, pL94, pL97, pL99, pL100, pL127, pL400, pL1000, pL1023, pL1024, pL2000, pL2001, pL2187, pL4095, pL4096, pL8191, pL8192, pL65535, hf]
              refine wp_l ⟨rfl, rfl, by omega, fun c hc => ?_⟩
              by_cases hci : c = i
              · subst hci
                omega
              · exact h4 c (by omega)
            · simp (disch := omega) only [↓reduceIte, if_pos, if_neg, ldA_n, stA_n, pI_add, pI_mul, pI_sub, pI_lt_iff, pI_le_iff, pI_eq_iff, ob_s, upE, upN, pI_dec2, asR_some, bitZ0, bitZ1, Sum.elim_inl, Sum.elim_inr, pL0, pL1, pL2, pL3, pL4, pL5, pL6, pL7, pL8, pL10, pL12, pL15, pL16, pL20, pL21, pL22, pL23, pL29, pL31, pL35, pL37, pL48, pL49, pL50, pL52, pL57, pL94, pL97, pL99, pL100, pL127, pL400, pL1000, pL1023, pL1024, pL2000, pL2001, pL2187, pL4095, pL4096, pL8191, pL8192, pL65535, hf]
              exact wp_r ⟨i, ⟨by omega, by omega, h4, fun _ _ h => by omega⟩, Or.inl rfl⟩
      · rintro ⟨x, y⟩ ⟨hx, hy, h3, h4⟩
        simp only at hx hy
        subst hx hy
        show Wp (b_X7_headLength_19 8 f (nI I) (nI k) (nI 4) (nI 4)) _
        unfold b_X7_headLength_19
        by_cases hi : I ≤ 4
        · simp (disch := omega) only [↓reduceIte, if_pos, if_neg, ldA_n, stA_n, pI_add, pI_mul, pI_sub, pI_lt_iff, pI_le_iff, pI_eq_iff, ob_s, upE, upN, pI_dec2, asR_some, bitZ0, bitZ1, Sum.elim_inl, Sum.elim_inr, pL0, pL1, pL2, pL3, pL4, pL5, pL6, pL7, pL8, pL10, pL12, pL15, pL16, pL20, pL21, pL22, pL23, pL29, pL31, pL35, pL37, pL48, pL49, pL50, pL52, pL57, pL94, pL97, pL99, pL100, pL127, pL400, pL1000, pL1023, pL1024, pL2000, pL2001, pL2187, pL4095, pL4096, pL8191, pL8192, pL65535]
          exact wp_r ⟨4, ⟨by omega, by omega, h4, fun h _ => by omega⟩, Or.inr rfl⟩
        · simp (disch := omega) only [↓reduceIte, if_pos, if_neg, ldA_n, stA_n, pI_add, pI_mul, pI_sub, pI_lt_iff, pI_le_iff, pI_eq_iff, ob_s, upE, upN, pI_dec2, asR_some, bitZ0, bitZ1, Sum.elim_inl, Sum.elim_inr, pL0, pL1, pL2, pL3, pL4, pL5, pL6, pL7, pL8, pL10, pL12, pL15, pL16, pL20, pL21, pL22, pL23, pL29, pL31, pL35, pL37, pL48, pL49, pL50, pL52, pL57, pL94, pL97, pL99, pL100, pL127, pL400, pL1000, pL1023, pL1024, pL2000, pL2001, pL2187, pL4095, pL4096, pL8191, pL8192, pL65535]
          exact wp_r ⟨4, ⟨by omega, by omega, h4, fun h _ => by omega⟩, Or.inr rfl⟩
    · obtain ⟨h, h1, h2⟩ := hu
      rcases h2 with rfl | rfl
      · exact wp_some ⟨h, h1, rfl⟩
      · exact wp_some ⟨h, h1, rfl⟩
  obtain ⟨o, e, h, h1, rfl⟩ := key
  refine ⟨h, h1, ?_⟩
  unfold f_X7_headLength
  by_cases c0 : I = 0
  · subst c0
    rw [if_pos (show nI 0 ≤ 0 from Int32.le_refl _)]
    exact e
  · have b0 := hb 0 (by omega)
    simp (disch := omega) only [↓reduceIte, if_pos, if_neg, ldA_n, stA_n, pI_add, pI_mul, pI_sub, pI_lt_iff, pI_le_iff, pI_eq_iff, ob_s, upE, upN, pI_dec2, asR_some, bitZ0, bitZ1, Sum.elim_inl, Sum.elim_inr, pL0, pL1, pL2, pL3, pL4, pL5, pL6, pL7, pL8, pL10, pL12, pL15, pL16, pL20, pL21, pL22, pL23, pL29, pL31, pL35, pL37, pL48, pL49, pL50, pL52, pL57, pL94, pL97, pL99, pL100, pL127, pL400, pL1000, pL1023, pL1024, pL2000, pL2001, pL2187, pL4095, pL4096, pL8191, pL8192, pL65535, hf]
    exact e
theorem head_35 {g : Nat → Nat} {I k : Nat} {f : Nat → Int32} (hI : I ≤ 8) (hf : ∀ i, i < I → f i = nI (g i)) (h0 : 0 < I) (h35 : g 0 = 35) : f_X7_headLength (nI I) (nI k) 8 f = some (nI 1) := by
  have hf0 := hf 0 h0
  rw [h35] at hf0
  unfold f_X7_headLength
  simp (disch := omega) only [↓reduceIte, if_pos, if_neg, ldA_n, stA_n, pI_add, pI_mul, pI_sub, pI_lt_iff, pI_le_iff, pI_eq_iff, ob_s, upE, upN, pI_dec2, asR_some, bitZ0, bitZ1, Sum.elim_inl, Sum.elim_inr, pL0, pL1, pL2, pL3, pL4, pL5, pL6, pL7, pL8, pL10, pL12, pL15, pL16, pL20, pL21, pL22, pL23, pL29, pL31, pL35, pL37, pL48, pL49, pL50, pL52, pL57, pL94, pL97, pL99, pL100, pL127, pL400, pL1000, pL1023, pL1024, pL2000, pL2001, pL2187, pL4095, pL4096, pL8191, pL8192, pL65535, hf0]
theorem err_ok {g : Nat → Nat} {I k s c : Nat} {f : Nat → Int32} (hI : I ≤ 8) (hf : ∀ i, i < I → f i = nI (g i)) (hb : ∀ i, i < I → g i < 128) (hs : 1 ≤ s) (hs4 : s ≤ 4) (hc : (c = 0 ∧ g 0 ≠ 35) ∨ (c = 1 ∧ g 0 = 35)) (e : f_X7_headLength (nI I) (nI k) 8 f = some (nI s)) : f_X7_errorAt (nI I) (nI k) 8 f = some (Sum.elim (fun x => nI x) (fun _ => -nI 1) (prs1 g I s c)) := by
  unfold f_X7_errorAt prs1
  rw [e]
  by_cases c1 : I ≤ s
  · simp (disch := omega) only [↓reduceIte, if_pos, if_neg, ldA_n, stA_n, pI_add, pI_mul, pI_sub, pI_lt_iff, pI_le_iff, pI_eq_iff, ob_s, upE, upN, pI_dec2, asR_some, bitZ0, bitZ1, Sum.elim_inl, Sum.elim_inr, pL0, pL1, pL2, pL3, pL4, pL5, pL6, pL7, pL8, pL10, pL12, pL15, pL16, pL20, pL21, pL22, pL23, pL29, pL31, pL35, pL37, pL48, pL49, pL50, pL52, pL57, pL94, pL97, pL99, pL100, pL127, pL400, pL1000, pL1023, pL1024, pL2000, pL2001, pL2187, pL4095, pL4096, pL8191, pL8192, pL65535]
  · have b0 := hb 0 (by omega)
    have b1 := hb s (by omega)
    by_cases c2 : g s = 37 ∨ (g s = 94 ∧ c = 0)
    · have e9 : f_X7_isSign (nI (g 0)) (nI (g s)) = some (nI 1) := by
        unfold f_X7_isSign
        by_cases c3 : g s = 37
        · simp (disch := omega) only [↓reduceIte, if_pos, if_neg, ldA_n, stA_n, pI_add, pI_mul, pI_sub, pI_lt_iff, pI_le_iff, pI_eq_iff, ob_s, upE, upN, pI_dec2, asR_some, bitZ0, bitZ1, Sum.elim_inl, Sum.elim_inr, pL0, pL1, pL2, pL3, pL4, pL5, pL6, pL7, pL8, pL10, pL12, pL15, pL16, pL20, pL21, pL22, pL23, pL29, pL31, pL35, pL37, pL48, pL49, pL50, pL52, pL57, pL94, pL97, pL99, pL100, pL127, pL400, pL1000, pL1023, pL1024, pL2000, pL2001, pL2187, pL4095, pL4096, pL8191, pL8192, pL65535, c3]
        · have c4 : g s = 94 := by omega
          simp (disch := omega) only [↓reduceIte, if_pos, if_neg, ldA_n, stA_n, pI_add, pI_mul, pI_sub, pI_lt_iff, pI_le_iff, pI_eq_iff, ob_s, upE, upN, pI_dec2, asR_some, bitZ0, bitZ1, Sum.elim_inl, Sum.elim_inr, pL0, pL1, pL2, pL3, pL4, pL5, pL6, pL7, pL8, pL10, pL12, pL15, pL16, pL20, pL21, pL22, pL23, pL29, pL31, pL35, pL37, pL48, pL49, pL50, pL52, pL57, pL94, pL97, pL99, pL100, pL127, pL400, pL1000, pL1023, pL1024, pL2000, pL2001, pL2187, pL4095, pL4096, pL8191, pL8192, pL65535, c4]
      by_cases c5 : I ≤ s + 1
      · simp (disch := omega) only [↓reduceIte, if_pos, if_neg, ldA_n, stA_n, pI_add, pI_mul, pI_sub, pI_lt_iff, pI_le_iff, pI_eq_iff, ob_s, upE, upN, pI_dec2, asR_some, bitZ0, bitZ1, Sum.elim_inl, Sum.elim_inr, pL0, pL1, pL2, pL3, pL4, pL5, pL6, pL7, pL8, pL10, pL12, pL15, pL16, pL20, pL21, pL22, pL23, pL29, pL31, pL35, pL37, pL48, pL49, pL50, pL52, pL57, pL94, pL97, pL99, pL100, pL127, pL400, pL1000, pL1023, pL1024, pL2000, pL2001, pL2187, pL4095, pL4096, pL8191, pL8192, pL65535, hf, e9]
      · have b2 := hb (s + 1) (by omega)
        by_cases c6 : (if g s = 37 then 50 else 49) ≤ g (s + 1) ∧ g (s + 1) ≤ 57
        · have e17 : f_X7_isLimit (nI (g s)) (nI (g (s + 1))) = some (nI 1) := by
            unfold f_X7_isLimit j_X7_isLimit_14
            by_cases c3 : g s = 37
            · rw [if_pos c3] at c6
              simp (disch := omega) only [↓reduceIte, if_pos, if_neg, ldA_n, stA_n, pI_add, pI_mul, pI_sub, pI_lt_iff, pI_le_iff, pI_eq_iff, ob_s, upE, upN, pI_dec2, asR_some, bitZ0, bitZ1, Sum.elim_inl, Sum.elim_inr, pL0, pL1, pL2, pL3, pL4, pL5, pL6, pL7, pL8, pL10, pL12, pL15, pL16, pL20, pL21, pL22, pL23, pL29, pL31, pL35, pL37, pL48, pL49, pL50, pL52, pL57, pL94, pL97, pL99, pL100, pL127, pL400, pL1000, pL1023, pL1024, pL2000, pL2001, pL2187, pL4095, pL4096, pL8191, pL8192, pL65535, c3]
            · rw [if_neg c3] at c6
              simp (disch := omega) only [↓reduceIte, if_pos, if_neg, ldA_n, stA_n, pI_add, pI_mul, pI_sub, pI_lt_iff, pI_le_iff, pI_eq_iff, ob_s, upE, upN, pI_dec2, asR_some, bitZ0, bitZ1, Sum.elim_inl, Sum.elim_inr, pL0, pL1, pL2, pL3, pL4, pL5, pL6, pL7, pL8, pL10, pL12, pL15, pL16, pL20, pL21, pL22, pL23, pL29, pL31, pL35, pL37, pL48, pL49, pL50, pL52, pL57, pL94, pL97, pL99, pL100, pL127, pL400, pL1000, pL1023, pL1024, pL2000, pL2001, pL2187, pL4095, pL4096, pL8191, pL8192, pL65535, c3]
          by_cases c7 : I ≤ s + 2
          · rw [if_pos ⟨by omega, c2⟩, if_pos ⟨by omega, c6⟩]
            simp (disch := omega) only [↓reduceIte, if_pos, if_neg, ldA_n, stA_n, pI_add, pI_mul, pI_sub, pI_lt_iff, pI_le_iff, pI_eq_iff, ob_s, upE, upN, pI_dec2, asR_some, bitZ0, bitZ1, Sum.elim_inl, Sum.elim_inr, pL0, pL1, pL2, pL3, pL4, pL5, pL6, pL7, pL8, pL10, pL12, pL15, pL16, pL20, pL21, pL22, pL23, pL29, pL31, pL35, pL37, pL48, pL49, pL50, pL52, pL57, pL94, pL97, pL99, pL100, pL127, pL400, pL1000, pL1023, pL1024, pL2000, pL2001, pL2187, pL4095, pL4096, pL8191, pL8192, pL65535, hf, e9, e17]
          · rw [if_pos ⟨by omega, c2⟩, if_pos ⟨by omega, c6⟩]
            simp (disch := omega) only [↓reduceIte, if_pos, if_neg, ldA_n, stA_n, pI_add, pI_mul, pI_sub, pI_lt_iff, pI_le_iff, pI_eq_iff, ob_s, upE, upN, pI_dec2, asR_some, bitZ0, bitZ1, Sum.elim_inl, Sum.elim_inr, pL0, pL1, pL2, pL3, pL4, pL5, pL6, pL7, pL8, pL10, pL12, pL15, pL16, pL20, pL21, pL22, pL23, pL29, pL31, pL35, pL37, pL48, pL49, pL50, pL52, pL57, pL94, pL97, pL99, pL100, pL127, pL400, pL1000, pL1023, pL1024, pL2000, pL2001, pL2187, pL4095, pL4096, pL8191, pL8192, pL65535, hf, e9, e17]
        · have e17 : f_X7_isLimit (nI (g s)) (nI (g (s + 1))) = some (nI 0) := by
            unfold f_X7_isLimit j_X7_isLimit_14
            by_cases c3 : g s = 37
            · rw [if_pos c3] at c6
              by_cases c8 : g (s + 1) < 50
              · simp (disch := omega) only [↓reduceIte, if_pos, if_neg, ldA_n, stA_n, pI_add, pI_mul, pI_sub, pI_lt_iff, pI_le_iff, pI_eq_iff, ob_s, upE, upN, pI_dec2, asR_some, bitZ0, bitZ1, Sum.elim_inl, Sum.elim_inr, pL0, pL1, pL2, pL3, pL4, pL5, pL6, pL7, pL8, pL10, pL12, pL15, pL16, pL20, pL21, pL22, pL23, pL29, pL31, pL35, pL37, pL48, pL49, pL50, pL52, pL57, pL94, pL97, pL99, pL100, pL127, pL400, pL1000, pL1023, pL1024, pL2000, pL2001, pL2187, pL4095, pL4096, pL8191, pL8192, pL65535, c3]
              · simp (disch := omega) only [↓reduceIte, if_pos, if_neg, ldA_n, stA_n, pI_add, pI_mul, pI_sub, pI_lt_iff, pI_le_iff, pI_eq_iff, ob_s, upE, upN, pI_dec2, asR_some, bitZ0, bitZ1, Sum.elim_inl, Sum.elim_inr, pL0, pL1, pL2, pL3, pL4, pL5, pL6, pL7, pL8, pL10, pL12, pL15, pL16, pL20, pL21, pL22, pL23, pL29, pL31, pL35, pL37, pL48, pL49, pL50, pL52, pL57, pL94, pL97, pL99, pL100, pL127, pL400, pL1000, pL1023, pL1024, pL2000, pL2001, pL2187, pL4095, pL4096, pL8191, pL8192, pL65535, c3]
            · rw [if_neg c3] at c6
              by_cases c8 : g (s + 1) < 49
              · simp (disch := omega) only [↓reduceIte, if_pos, if_neg, ldA_n, stA_n, pI_add, pI_mul, pI_sub, pI_lt_iff, pI_le_iff, pI_eq_iff, ob_s, upE, upN, pI_dec2, asR_some, bitZ0, bitZ1, Sum.elim_inl, Sum.elim_inr, pL0, pL1, pL2, pL3, pL4, pL5, pL6, pL7, pL8, pL10, pL12, pL15, pL16, pL20, pL21, pL22, pL23, pL29, pL31, pL35, pL37, pL48, pL49, pL50, pL52, pL57, pL94, pL97, pL99, pL100, pL127, pL400, pL1000, pL1023, pL1024, pL2000, pL2001, pL2187, pL4095, pL4096, pL8191, pL8192, pL65535, c3]
              · simp (disch := omega) only [↓reduceIte, if_pos, if_neg, ldA_n, stA_n, pI_add, pI_mul, pI_sub, pI_lt_iff, pI_le_iff, pI_eq_iff, ob_s, upE, upN, pI_dec2, asR_some, bitZ0, bitZ1, Sum.elim_inl, Sum.elim_inr, pL0, pL1, pL2, pL3, pL4, pL5, pL6, pL7, pL8, pL10, pL12, pL15, pL16, pL20, pL21, pL22, pL23, pL29, pL31, pL35, pL37, pL48, pL49, pL50, pL52, pL57, pL94, pL97, pL99, pL100, pL127, pL400, pL1000, pL1023, pL1024, pL2000, pL2001, pL2187, pL4095, pL4096, pL8191, pL8192, pL65535, c3]
          rw [if_pos ⟨by omega, c2⟩, if_neg (fun h => c6 h.2)]
          simp (disch := omega) only [↓reduceIte, if_pos, if_neg, ldA_n, stA_n, pI_add, pI_mul, pI_sub, pI_lt_iff, pI_le_iff, pI_eq_iff, ob_s, upE, upN, pI_dec2, asR_some, bitZ0, bitZ1, Sum.elim_inl, Sum.elim_inr, pL0, pL1, pL2, pL3, pL4, pL5, pL6, pL7, pL8, pL10, pL12, pL15, pL16, pL20, pL21, pL22, pL23, pL29, pL31, pL35, pL37, pL48, pL49, pL50, pL52, pL57, pL94, pL97, pL99, pL100, pL127, pL400, pL1000, pL1023, pL1024, pL2000, pL2001, pL2187, pL4095, pL4096, pL8191, pL8192, pL65535, hf, e9, e17]
    · have e9 : f_X7_isSign (nI (g 0)) (nI (g s)) = some (nI 0) := by
        unfold f_X7_isSign
        by_cases c3 : g s = 94
        · have c4 : g 0 = 35 := by omega
          simp (disch := omega) only [↓reduceIte, if_pos, if_neg, ldA_n, stA_n, pI_add, pI_mul, pI_sub, pI_lt_iff, pI_le_iff, pI_eq_iff, ob_s, upE, upN, pI_dec2, asR_some, bitZ0, bitZ1, Sum.elim_inl, Sum.elim_inr, pL0, pL1, pL2, pL3, pL4, pL5, pL6, pL7, pL8, pL10, pL12, pL15, pL16, pL20, pL21, pL22, pL23, pL29, pL31, pL35, pL37, pL48, pL49, pL50, pL52, pL57, pL94, pL97, pL99, pL100, pL127, pL400, pL1000, pL1023, pL1024, pL2000, pL2001, pL2187, pL4095, pL4096, pL8191, pL8192, pL65535, c3, c4]
        · simp (disch := omega) only [↓reduceIte, if_pos, if_neg, ldA_n, stA_n, pI_add, pI_mul, pI_sub, pI_lt_iff, pI_le_iff, pI_eq_iff, ob_s, upE, upN, pI_dec2, asR_some, bitZ0, bitZ1, Sum.elim_inl, Sum.elim_inr, pL0, pL1, pL2, pL3, pL4, pL5, pL6, pL7, pL8, pL10, pL12, pL15, pL16, pL20, pL21, pL22, pL23, pL29, pL31, pL35, pL37, pL48, pL49, pL50, pL52, pL57, pL94, pL97, pL99, pL100, pL127, pL400, pL1000, pL1023, pL1024, pL2000, pL2001, pL2187, pL4095, pL4096, pL8191, pL8192, pL65535]
      rw [if_neg (fun h => c2 h.2)]
      simp (disch := omega) only [↓reduceIte, if_pos, if_neg, ldA_n, stA_n, pI_add, pI_mul, pI_sub, pI_lt_iff, pI_le_iff, pI_eq_iff, ob_s, upE, upN, pI_dec2, asR_some, bitZ0, bitZ1, Sum.elim_inl, Sum.elim_inr, pL0, pL1, pL2, pL3, pL4, pL5, pL6, pL7, pL8, pL10, pL12, pL15, pL16, pL20, pL21, pL22, pL23, pL29, pL31, pL35, pL37, pL48, pL49, pL50, pL52, pL57, pL94, pL97, pL99, pL100, pL127, pL400, pL1000, pL1023, pL1024, pL2000, pL2001, pL2187, pL4095, pL4096, pL8191, pL8192, pL65535, hf, e9]
theorem isAt_t {lo hi I a : Nat} {g : Nat → Nat} {f : Nat → Int32} (hf : ∀ i, i < I → f i = nI (g i)) (hb : ∀ i, i < I → g i < 128) (hI : I ≤ 8) (hhi : hi < 1000) (h : a < I ∧ lo ≤ g a ∧ g a ≤ hi) : f_X12_isAt (nI lo) (nI hi) (nI I) (nI a) f = some (nI 1) := by
  have b := hb a h.1
  unfold f_X12_isAt
  simp (disch := omega) only [↓reduceIte, if_pos, if_neg, ldA_n, stA_n, pI_add, pI_mul, pI_sub, pI_lt_iff, pI_le_iff, pI_eq_iff, ob_s, upE, upN, pI_dec2, asR_some, bitZ0, bitZ1, Sum.elim_inl, Sum.elim_inr, pL0, pL1, pL2, pL3, pL4, pL5, pL6, pL7, pL8, pL10, pL12, pL15, pL16, pL20, pL21, pL22, pL23, pL29, pL31, pL35, pL37, pL48, pL49, pL50, pL52, pL57, pL94, pL97, pL99, pL100, pL127, pL400, pL1000, pL1023, pL1024, pL2000, pL2001, pL2187, pL4095, pL4096, pL8191, pL8192, pL65535, hf, btw_in]
theorem isAt_f {lo hi I a : Nat} {g : Nat → Nat} {f : Nat → Int32} (hf : ∀ i, i < I → f i = nI (g i)) (hb : ∀ i, i < I → g i < 128) (hI : I ≤ 8) (ha : a < 100) (hlo : lo ≤ hi) (hhi : hi < 1000) (h : ¬ (a < I ∧ lo ≤ g a ∧ g a ≤ hi)) : f_X12_isAt (nI lo) (nI hi) (nI I) (nI a) f = some (nI 0) := by
  unfold f_X12_isAt
  by_cases c : I ≤ a
  · simp (disch := omega) only [↓reduceIte, if_pos, if_neg, ldA_n, stA_n, pI_add, pI_mul, pI_sub, pI_lt_iff, pI_le_iff, pI_eq_iff, ob_s, upE, upN, pI_dec2, asR_some, bitZ0, bitZ1, Sum.elim_inl, Sum.elim_inr, pL0, pL1, pL2, pL3, pL4, pL5, pL6, pL7, pL8, pL10, pL12, pL15, pL16, pL20, pL21, pL22, pL23, pL29, pL31, pL35, pL37, pL48, pL49, pL50, pL52, pL57, pL94, pL97, pL99, pL100, pL127, pL400, pL1000, pL1023, pL1024, pL2000, pL2001, pL2187, pL4095, pL4096, pL8191, pL8192, pL65535]
  · have b := hb a (by omega)
    by_cases c2 : g a < lo
    · simp (disch := omega) only [↓reduceIte, if_pos, if_neg, ldA_n, stA_n, pI_add, pI_mul, pI_sub, pI_lt_iff, pI_le_iff, pI_eq_iff, ob_s, upE, upN, pI_dec2, asR_some, bitZ0, bitZ1, Sum.elim_inl, Sum.elim_inr, pL0, pL1, pL2, pL3, pL4, pL5, pL6, pL7, pL8, pL10, pL12, pL15, pL16, pL20, pL21, pL22, pL23, pL29, pL31, pL35, pL37, pL48, pL49, pL50, pL52, pL57, pL94, pL97, pL99, pL100, pL127, pL400, pL1000, pL1023, pL1024, pL2000, pL2001, pL2187, pL4095, pL4096, pL8191, pL8192, pL65535, hf, btw_lo]
    · simp (disch := omega) only [↓reduceIte, if_pos, if_neg, ldA_n, stA_n, pI_add, pI_mul, pI_sub, pI_lt_iff, pI_le_iff, pI_eq_iff, ob_s, upE, upN, pI_dec2, asR_some, bitZ0, bitZ1, Sum.elim_inl, Sum.elim_inr, pL0, pL1, pL2, pL3, pL4, pL5, pL6, pL7, pL8, pL10, pL12, pL15, pL16, pL20, pL21, pL22, pL23, pL29, pL31, pL35, pL37, pL48, pL49, pL50, pL52, pL57, pL94, pL97, pL99, pL100, pL127, pL400, pL1000, pL1023, pL1024, pL2000, pL2001, pL2187, pL4095, pL4096, pL8191, pL8192, pL65535, hf, btw_hi]
