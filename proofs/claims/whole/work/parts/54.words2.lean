set_option linter.unusedVariables false
/-! concatenate, compare, setLetters -/
theorem push_ok {x : Int32} {L : Nat} {f : Nat → Int32} (h : L < 12) : f_X9_push x (nI L) f = some (nI (L + 1), va_up f L x) := by
  unfold f_X9_push
  simp (disch := omega) only [↓reduceIte, if_pos, if_neg, ldA_n, stA_n, pI_add, pI_mul, pI_sub, pI_lt_iff, pI_le_iff, pI_eq_iff, ob_s, upE, upN, pI_dec2, asR_some, bitZ0, bitZ1, Sum.elim_inl, Sum.elim_inr, pL0, pL1, pL2, pL3, pL4, pL5, pL6, pL7, pL8, pL10, pL12, pL15, pL16, pL20, pL21, pL22, pL23, pL29, pL31, pL35, pL37, pL48, pL49, pL50, pL52, pL57, pL94, pL97, pL99, pL100, pL127, pL400, pL1000, pL1023, pL1024, pL2000, pL2001, pL2187, pL4095, pL4096, pL8191, pL8192, pL65535]
theorem pushAll_ok {L1 L2 : Nat} {g f : Nat → Int32} (h : L1 + L2 ≤ 12) : Wp (f_X9_pushAll (nI L2) g (nI L1) f) (fun o => o.1 = nI (L1 + L2) ∧ ∀ j, o.2 j = if L1 ≤ j ∧ j < L1 + L2 then g (j - L1) else f j) := by
  unfold f_X9_pushAll
  refine wp_seq (Q := fun o => o.1 = nI (L1 + L2) ∧ ∀ j, o.2 j = if L1 ≤ j ∧ j < L1 + L2 then g (j - L1) else f j) ?_ (fun u hu => wp_some hu)
  refine wp_up (fun i v => v.2.2 = nI i ∧ v.1 = nI (L1 + i) ∧ ∀ j, v.2.1 j = if L1 ≤ j ∧ j < L1 + i then g (j - L1) else f j) 0 L2 ⟨rfl, rfl, fun j => (if_neg (by omega)).symm⟩ (by omega) (by omega) ?_ ?_
  · rintro i ⟨s, v, z⟩ h1 h2 ⟨hz, hs, hv⟩
    simp only at hz hs hv
    subst hz hs
    show Wp (b_X9_pushAll_7 g (nI L2) (nI (L1 + i)) v (nI i)) _
    unfold b_X9_pushAll_7
    simp (disch := omega) only [↓reduceIte, if_pos, if_neg, ldA_n, stA_n, pI_add, pI_mul, pI_sub, pI_lt_iff, pI_le_iff, pI_eq_iff, ob_s, upE, upN, pI_dec2, asR_some, bitZ0, bitZ1, Sum.elim_inl, Sum.elim_inr, pL0, pL1, pL2, pL3, pL4, pL5, pL6, pL7, pL8, pL10, pL12, pL15, pL16, pL20, pL21, pL22, pL23, pL29, pL31, pL35, pL37, pL48, pL49, pL50, pL52, pL57, pL94, pL97, pL99, pL100, pL127, pL400, pL1000, pL1023, pL1024, pL2000, pL2001, pL2187, pL4095, pL4096, pL8191, pL8192, pL65535, push_ok]
    refine wp_l ⟨rfl, rfl, fun j => ?_⟩
    show va_up v (L1 + i) (g i) j = _
    by_cases hj : j = L1 + i
    · rw [upE hj, if_pos (by omega), hj, Nat.add_sub_cancel_left]
    · rw [upN hj, hv j]
      by_cases hk : L1 ≤ j ∧ j < L1 + i
      · rw [if_pos hk, if_pos (by omega)]
      · rw [if_neg hk, if_neg (by omega)]
  · rintro ⟨s, v, z⟩ ⟨hz, hs, hv⟩
    simp only at hz hs hv
    subst hz hs
    show Wp (b_X9_pushAll_7 g (nI L2) (nI (L1 + L2)) v (nI L2)) _
    unfold b_X9_pushAll_7
    simp (disch := omega) only [↓reduceIte, if_pos, if_neg, ldA_n, stA_n, pI_add, pI_mul, pI_sub, pI_lt_iff, pI_le_iff, pI_eq_iff, ob_s, upE, upN, pI_dec2, asR_some, bitZ0, bitZ1, Sum.elim_inl, Sum.elim_inr, pL0, pL1, pL2, pL3, pL4, pL5, pL6, pL7, pL8, pL10, pL12, pL15, pL16, pL20, pL21, pL22, pL23, pL29, pL31, pL35, pL37, pL48, pL49, pL50, pL52, pL57, pL94, pL97, pL99, pL100, pL127, pL400, pL1000, pL1023, pL1024, pL2000, pL2001, pL2187, pL4095, pL4096, pL8191, pL8192, pL65535]
    exact wp_r ⟨rfl, hv⟩
theorem pushSelf_ok {L1 : Nat} {f : Nat → Int32} (h : L1 + L1 ≤ 12) : Wp (f_X9_pushAll__self (nI L1) f) (fun o => o.1 = nI (L1 + L1) ∧ ∀ j, o.2 j = if L1 ≤ j ∧ j < L1 + L1 then f (j - L1) else f j) := by
  unfold f_X9_pushAll__self
  refine wp_seq (Q := fun o => o.1 = nI (L1 + L1) ∧ ∀ j, o.2 j = if L1 ≤ j ∧ j < L1 + L1 then f (j - L1) else f j) ?_ (fun u hu => wp_some hu)
  refine wp_up (fun i v => v.2.2 = nI i ∧ v.1 = nI (L1 + i) ∧ ∀ j, v.2.1 j = if L1 ≤ j ∧ j < L1 + i then f (j - L1) else f j) 0 L1 ⟨rfl, rfl, fun j => (if_neg (by omega)).symm⟩ (by omega) (by omega) ?_ ?_
  · rintro i ⟨s, v, z⟩ h1 h2 ⟨hz, hs, hv⟩
    simp only at hz hs hv
    subst hz hs
    show Wp (b_X9_pushAll__self_7 (nI L1) (nI (L1 + i)) v (nI i)) _
    have hi : v i = f i := by rw [hv i, if_neg (by omega)]
    unfold b_X9_pushAll__self_7
    simp (disch := omega) only [↓reduceIte, if_pos, if_neg, ldA_n, stA_n, pI_add, pI_mul, pI_sub, pI_lt_iff, pI_le_iff, pI_eq_iff, ob_s, upE, upN, pI_dec2, asR_some, bitZ0, bitZ1, Sum.elim_inl, Sum.elim_inr, pL0, pL1, pL2, pL3, pL4, pL5, pL6, pL7, pL8, pL10, pL12, pL15, pL16, pL20, pL21, pL22, pL23, pL29, pL31, pL35, pL37, pL48, pL49, pL50, pL52, pL57, pL94, pL97, pL99, pL100, pL127, pL400, pL1000, pL1023, pL1024, pL2000, pL2001, pL2187, pL4095, pL4096, pL8191, pL8192, pL65535, push_ok, hi]
    refine wp_l ⟨rfl, rfl, fun j => ?_⟩
    show va_up v (L1 + i) (f i) j = _
    by_cases hj : j = L1 + i
    · rw [upE hj, if_pos (by omega), hj, Nat.add_sub_cancel_left]
    · rw [upN hj, hv j]
      by_cases hk : L1 ≤ j ∧ j < L1 + i
      · rw [if_pos hk, if_pos (by omega)]
      · rw [if_neg hk, if_neg (by omega)]
  · rintro ⟨s, v, z⟩ ⟨hz, hs, hv⟩
    simp only at hz hs hv
    subst hz hs
    show Wp (b_X9_pushAll__self_7 (nI L1) (nI (L1 + L1)) v (nI L1)) _
    unfold b_X9_pushAll__self_7
    simp (disch := omega) only [↓reduceIte, if_pos, if_neg, ldA_n, stA_n, pI_add, pI_mul, pI_sub, pI_lt_iff, pI_le_iff, pI_eq_iff, ob_s, upE, upN, pI_dec2, asR_some, bitZ0, bitZ1, Sum.elim_inl, Sum.elim_inr, pL0, pL1, pL2, pL3, pL4, pL5, pL6, pL7, pL8, pL10, pL12, pL15, pL16, pL20, pL21, pL22, pL23, pL29, pL31, pL35, pL37, pL48, pL49, pL50, pL52, pL57, pL94, pL97, pL99, pL100, pL127, pL400, pL1000, pL1023, pL1024, pL2000, pL2001, pL2187, pL4095, pL4096, pL8191, pL8192, pL65535]
    exact wp_r ⟨rfl, hv⟩
theorem cat2_ok {w1 w2 L1 L2 : Nat} {wl wd : Nat → Int32} (h1 : w1 < 3) (h2 : w2 < 3) (e1 : wl w1 = nI L1) (e2 : wl w2 = nI L2) (h : L1 + L2 ≤ 12) :
    Wp (f_X12_concatenate (nI w1) (nI w2) wl wd) (fun m => m.1 = nI (L1 + L2) ∧ m.2.1 = va_up wl w1 (nI (L1 + L2)) ∧ ∀ j, m.2.2 j = if 12 * w1 + L1 ≤ j ∧ j < 12 * w1 + L1 + L2 then wd (12 * w2 + (j - (12 * w1 + L1))) else wd j) := by
  unfold f_X12_concatenate
  simp (disch := omega) only [↓reduceIte, if_pos, if_neg, ldA_n, stA_n, pI_add, pI_mul, pI_sub, pI_lt_iff, pI_le_iff, pI_eq_iff, ob_s, upE, upN, pI_dec2, asR_some, bitZ0, bitZ1, Sum.elim_inl, Sum.elim_inr, pL0, pL1, pL2, pL3, pL4, pL5, pL6, pL7, pL8, pL10, pL12, pL15, pL16, pL20, pL21, pL22, pL23, pL29, pL31, pL35, pL37, pL48, pL49, pL50, pL52, pL57, pL94, pL97, pL99, pL100, pL127, pL400, pL1000, pL1023, pL1024, pL2000, pL2001, pL2187, pL4095, pL4096, pL8191, pL8192, pL65535, isW2, e1, e2]
  refine wp_seq (Q := fun g => ∀ j, g j = if 12 * w1 + L1 ≤ j ∧ j < 12 * w1 + L1 + L2 then wd (12 * w2 + (j - (12 * w1 + L1))) else wd j) ?_ (fun u hu => wp_some ⟨rfl, rfl, hu⟩)
  refine wp_fill (12 * w1 + L1) 0 L2 (fun i => wd (12 * w2 + i)) (by omega) (by omega) (fun i f h3 h4 hf => ?_) (fun f hf => ?_)
  · show b_X12_concatenate_42 wl (nI w1) (nI w2) (nI L2) f (nI i) = _
    have hr : f (12 * w2 + i) = wd (12 * w2 + i) := by
      rw [hf, if_neg]
      by_cases hw : w1 = w2
      · subst hw
        have : L1 = L2 := pI_inj (by omega) (by omega) (e1.symm.trans e2)
        omega
      · omega
    unfold b_X12_concatenate_42
    simp (disch := omega) only [↓reduceIte, if_pos, if_neg, ldA_n, stA_n, pI_add, pI_mul, pI_sub, pI_lt_iff, pI_le_iff, pI_eq_iff, ob_s, upE, upN, pI_dec2, asR_some, bitZ0, bitZ1, Sum.elim_inl, Sum.elim_inr, pL0, pL1, pL2, pL3, pL4, pL5, pL6, pL7, pL8, pL10, pL12, pL15, pL16, pL20, pL21, pL22, pL23, pL29, pL31, pL35, pL37, pL48, pL49, pL50, pL52, pL57, pL94, pL97, pL99, pL100, pL127, pL400, pL1000, pL1023, pL1024, pL2000, pL2001, pL2187, pL4095, pL4096, pL8191, pL8192, pL65535, e1, hr]
  · show Wp (b_X12_concatenate_42 wl (nI w1) (nI w2) (nI L2) f (nI L2)) _
    unfold b_X12_concatenate_42
    simp (disch := omega) only [↓reduceIte, if_pos, if_neg, ldA_n, stA_n, pI_add, pI_mul, pI_sub, pI_lt_iff, pI_le_iff, pI_eq_iff, ob_s, upE, upN, pI_dec2, asR_some, bitZ0, bitZ1, Sum.elim_inl, Sum.elim_inr, pL0, pL1, pL2, pL3, pL4, pL5, pL6, pL7, pL8, pL10, pL12, pL15, pL16, pL20, pL21, pL22, pL23, pL29, pL31, pL35, pL37, pL48, pL49, pL50, pL52, pL57, pL94, pL97, pL99, pL100, pL127, pL400, pL1000, pL1023, pL1024, pL2000, pL2001, pL2187, pL4095, pL4096, pL8191, pL8192, pL65535]
    exact wp_r hf
theorem cat2_full {w1 w2 L1 L2 : Nat} {wl wd : Nat → Int32} (h1 : w1 < 3) (h2 : w2 < 3) (e1 : wl w1 = nI L1) (e2 : wl w2 = nI L2) (h : 12 < L1 + L2) (hb : L1 + L2 < 2 ^ 31) :
    f_X12_concatenate (nI w1) (nI w2) wl wd = some (-nI 3, wl, wd) := by
  unfold f_X12_concatenate
  simp (disch := omega) only [↓reduceIte, if_pos, if_neg, ldA_n, stA_n, pI_add, pI_mul, pI_sub, pI_lt_iff, pI_le_iff, pI_eq_iff, ob_s, upE, upN, pI_dec2, asR_some, bitZ0, bitZ1, Sum.elim_inl, Sum.elim_inr, pL0, pL1, pL2, pL3, pL4, pL5, pL6, pL7, pL8, pL10, pL12, pL15, pL16, pL20, pL21, pL22, pL23, pL29, pL31, pL35, pL37, pL48, pL49, pL50, pL52, pL57, pL94, pL97, pL99, pL100, pL127, pL400, pL1000, pL1023, pL1024, pL2000, pL2001, pL2187, pL4095, pL4096, pL8191, pL8192, pL65535, isW2, e1, e2]
theorem p_concatenate {q1 q2 : Nat} {s1 s2 : Int32} {rf : Nat → Option Nat} {l1 l2 wl wd : Nat → Int32} (w1 w2 : Nat) (h1 : w1 < 3) (h2 : w2 < 3) (r1 : rf w1 = some q1) (r2 : rf w2 = some q2) (W1 : WordR s1 l1 (wl w1) wd (12 * w1)) (W2 : WordR s2 l2 (wl w2) wd (12 * w2)) :
    Wp (f_X11_concatenate (nI w1) (nI w2) q1 q2 s2 l2 rf s1 l1) (fun o => Wp (f_X12_concatenate (nI w1) (nI w2) wl wd) (fun m => o.1 = m.1 ∧ WQ w1 o.2.1 o.2.2 m.2.1 m.2.2 wl wd)) := by
  have hW0 := W1
  obtain ⟨L1, hL1, rfl, hl1, hd1⟩ := W1
  obtain ⟨L2, hL2, rfl, hl2, hd2⟩ := W2
  unfold f_X11_concatenate
  by_cases hc : L1 + L2 ≤ 12
  · simp (disch := omega) only [↓reduceIte, if_pos, if_neg, ldA_n, stA_n, pI_add, pI_mul, pI_sub, pI_lt_iff, pI_le_iff, pI_eq_iff, ob_s, upE, upN, pI_dec2, asR_some, bitZ0, bitZ1, Sum.elim_inl, Sum.elim_inr, pL0, pL1, pL2, pL3, pL4, pL5, pL6, pL7, pL8, pL10, pL12, pL15, pL16, pL20, pL21, pL22, pL23, pL29, pL31, pL35, pL37, pL48, pL49, pL50, pL52, pL57, pL94, pL97, pL99, pL100, pL127, pL400, pL1000, pL1023, pL1024, pL2000, pL2001, pL2187, pL4095, pL4096, pL8191, pL8192, pL65535, isW1, r1, r2]
    refine wp_seq (pushAll_ok hc) (fun u hu => wp_some (wp_mono (cat2_ok h1 h2 hl1 hl2 hc) (fun m hm => ⟨hu.1.trans hm.1.symm, ⟨L1 + L2, hc, hu.1, ?_, fun i hi => ?_⟩, fun v hv => ?_, fun j hj => ?_⟩)))
    · rw [hm.2.1, upE rfl]
    · show u.2 i = m.2.2 (12 * w1 + i)
      rw [hu.2 i, hm.2.2 (12 * w1 + i)]
      by_cases hi2 : L1 ≤ i
      · rw [if_pos (by omega), if_pos (by omega), hd2 _ (by omega)]
        congr 1
        omega
      · rw [if_neg (by omega), if_neg (by omega), hd1 i (by omega)]
    · rw [hm.2.1, upN hv]
    · rw [hm.2.2 j, if_neg (by omega)]
  · simp (disch := omega) only [↓reduceIte, if_pos, if_neg, ldA_n, stA_n, pI_add, pI_mul, pI_sub, pI_lt_iff, pI_le_iff, pI_eq_iff, ob_s, upE, upN, pI_dec2, asR_some, bitZ0, bitZ1, Sum.elim_inl, Sum.elim_inr, pL0, pL1, pL2, pL3, pL4, pL5, pL6, pL7, pL8, pL10, pL12, pL15, pL16, pL20, pL21, pL22, pL23, pL29, pL31, pL35, pL37, pL48, pL49, pL50, pL52, pL57, pL94, pL97, pL99, pL100, pL127, pL400, pL1000, pL1023, pL1024, pL2000, pL2001, pL2187, pL4095, pL4096, pL8191, pL8192, pL65535, isW1, r1, r2]
    refine wp_some ?_
    rw [cat2_full h1 h2 hl1 hl2 (by omega) (by omega)]
    exact wp_some ⟨rfl, hW0, fun _ _ => rfl, fun _ _ => rfl⟩
theorem p_concatSelf {q1 : Nat} {s1 : Int32} {rf : Nat → Option Nat} {l1 wl wd : Nat → Int32} (w1 : Nat) (h1 : w1 < 3) (r1 : rf w1 = some q1) (W1 : WordR s1 l1 (wl w1) wd (12 * w1)) :
    Wp (f_X11_concatenate__self (nI w1) (nI w1) q1 rf s1 l1) (fun o => Wp (f_X12_concatenate (nI w1) (nI w1) wl wd) (fun m => o.1 = m.1 ∧ WQ w1 o.2.1 o.2.2 m.2.1 m.2.2 wl wd)) := by
  have hW0 := W1
  obtain ⟨L1, hL1, rfl, hl1, hd1⟩ := W1
  unfold f_X11_concatenate__self
  by_cases hc : L1 + L1 ≤ 12
  · simp (disch := omega) only [↓reduceIte, if_pos, if_neg, ldA_n, stA_n, pI_add, pI_mul, pI_sub, pI_lt_iff, pI_le_iff, pI_eq_iff, ob_s, upE, upN, pI_dec2, asR_some, bitZ0, bitZ1, Sum.elim_inl, Sum.elim_inr, pL0, pL1, pL2, pL3, pL4, pL5, pL6, pL7, pL8, pL10, pL12, pL15, pL16, pL20, pL21, pL22, pL23, pL29, pL31, pL35, pL37, pL48, pL49, pL50, pL52, pL57, pL94, pL97, pL99, pL100, pL127, pL400, pL1000, pL1023, pL1024, pL2000, pL2001, pL2187, pL4095, pL4096, pL8191, pL8192, pL65535, isW1, r1]
    refine wp_seq (pushSelf_ok hc) (fun u hu => wp_some (wp_mono (cat2_ok h1 h1 hl1 hl1 hc) (fun m hm => ⟨hu.1.trans hm.1.symm, ⟨L1 + L1, hc, hu.1, ?_, fun i hi => ?_⟩, fun v hv => ?_, fun j hj => ?_⟩)))
    · rw [hm.2.1, upE rfl]
    · show u.2 i = m.2.2 (12 * w1 + i)
      rw [hu.2 i, hm.2.2 (12 * w1 + i)]
      by_cases hi2 : L1 ≤ i
      · rw [if_pos (by omega), if_pos (by omega), hd1 _ (by omega)]
        congr 1
        omega
      · rw [if_neg (by omega), if_neg (by omega), hd1 i (by omega)]
    · rw [hm.2.1, upN hv]
    · rw [hm.2.2 j, if_neg (by omega)]
  · simp (disch := omega) only [↓reduceIte, if_pos, if_neg, ldA_n, stA_n, pI_add, pI_mul, pI_sub, pI_lt_iff, pI_le_iff, pI_eq_iff, ob_s, upE, upN, pI_dec2, asR_some, bitZ0, bitZ1, Sum.elim_inl, Sum.elim_inr, pL0, pL1, pL2, pL3, pL4, pL5, pL6, pL7, pL8, pL10, pL12, pL15, pL16, pL20, pL21, pL22, pL23, pL29, pL31, pL35, pL37, pL48, pL49, pL50, pL52, pL57, pL94, pL97, pL99, pL100, pL127, pL400, pL1000, pL1023, pL1024, pL2000, pL2001, pL2187, pL4095, pL4096, pL8191, pL8192, pL65535, isW1, r1]
    refine wp_some ?_
    rw [cat2_full h1 h1 hl1 hl1 (by omega) (by omega)]
    exact wp_some ⟨rfl, hW0, fun _ _ => rfl, fun _ _ => rfl⟩
theorem n_concat1 {x x2 : Int32} {q1 q2 : Nat} {s1 s2 : Int32} {rf : Nat → Option Nat} {l1 l2 wl wd : Nat → Int32} (h : f_X11_isWord x = some (nI 0) ∧ f_X12_isWord x = some (nI 0)) : f_X11_concatenate x x2 q1 q2 s2 l2 rf s1 l1 = some (-1, s1, l1) ∧ f_X12_concatenate x x2 wl wd = some (-1, wl, wd) := by
  unfold f_X11_concatenate f_X12_concatenate
  rw [h.1, h.2]
  exact ⟨rfl, rfl⟩
theorem n_concat2 {x2 : Int32} {w : Nat} (hw : w < 3) {q1 q2 : Nat} {s1 s2 : Int32} {rf : Nat → Option Nat} {l1 l2 wl wd : Nat → Int32} (h : f_X11_isWord x2 = some (nI 0) ∧ f_X12_isWord x2 = some (nI 0)) : f_X11_concatenate (nI w) x2 q1 q2 s2 l2 rf s1 l1 = some (-1, s1, l1) ∧ f_X12_concatenate (nI w) x2 wl wd = some (-1, wl, wd) := by
  unfold f_X11_concatenate f_X12_concatenate
  rw [isW1 hw, isW2 hw, h.1, h.2]
  exact ⟨rfl, rfl⟩
/-- where two words first differ below L -/
def fstD (f g : Nat → Int32) (L j : Nat) : Prop := j < L ∧ f j ≠ g j ∧ ∀ i, i < j → f i = g i
theorem fstD_un {f g : Nat → Int32} {L j k : Nat} (h : fstD f g L j) (h2 : fstD f g L k) : j = k := by
  rcases Nat.lt_trichotomy j k with e | e | e
  · exact absurd (h2.2.2 j e) h.2.1
  · exact e
  · exact absurd (h.2.2 k e) h2.2.1
theorem ord_ok {L : Nat} {f g : Nat → Int32} (hL : L ≤ 12) : Wp (f_X9_orderAgainst (nI L) (nI L) f g) (fun o => ((∀ i, i < L → f i = g i) ∧ o = nI 1) ∨ ∃ j, fstD f g L j ∧ o = if g j ≤ f j then nI 2 else nI 0) := by
  unfold f_X9_orderAgainst
  simp (disch := omega) only [↓reduceIte, if_pos, if_neg, ldA_n, stA_n, pI_add, pI_mul, pI_sub, pI_lt_iff, pI_le_iff, pI_eq_iff, ob_s, upE, upN, pI_dec2, asR_some, bitZ0, bitZ1, Sum.elim_inl, Sum.elim_inr, pL0, pL1, pL2, pL3, pL4, pL5, pL6, pL7, pL8, pL10, pL12, pL15, pL16, pL20, pL21, pL22, pL23, pL29, pL31, pL35, pL37, pL48, pL49, pL50, pL52, pL57, pL94, pL97, pL99, pL100, pL127, pL400, pL1000, pL1023, pL1024, pL2000, pL2001, pL2187, pL4095, pL4096, pL8191, pL8192, pL65535]
  refine wp_seq (Q := fun u => (u = Sum.inr () ∧ ∀ i, i < L → f i = g i) ∨ ∃ j, fstD f g L j ∧ u = Sum.inl (nI j)) ?_ (fun u hu => ?_)
  · refine wp_up (fun i v => v = nI i ∧ ∀ k, k < i → f k = g k) 0 L ⟨rfl, fun k hk => by omega⟩ (by omega) (by omega) ?_ ?_
    · rintro i v h1 h2 ⟨rfl, hv⟩
      show Wp (b_X9_orderAgainst_30 (nI L) f g (nI i)) _
      unfold b_X9_orderAgainst_30
      simp (disch := omega) only [↓reduceIte, if_pos, if_neg, ldA_n, stA_n, pI_add, pI_mul, pI_sub, pI_lt_iff, pI_le_iff, pI_eq_iff, ob_s, upE, upN, pI_dec2, asR_some, bitZ0, bitZ1, Sum.elim_inl, Sum.elim_inr, pL0, pL1, pL2, pL3, pL4, pL5, pL6, pL7, pL8, pL10, pL12, pL15, pL16, pL20, pL21, pL22, pL23, pL29, pL31, pL35, pL37, pL48, pL49, pL50, pL52, pL57, pL94, pL97, pL99, pL100, pL127, pL400, pL1000, pL1023, pL1024, pL2000, pL2001, pL2187, pL4095, pL4096, pL8191, pL8192, pL65535]
      refine wp_if (fun e => wp_l ⟨rfl, fun k hk => ?_⟩) (fun e => wp_r (Or.inr ⟨i, ⟨h2, e, hv⟩, rfl⟩))
      by_cases hki : k = i
      · rw [hki]; exact e
      · exact hv k (by omega)
    · rintro v ⟨rfl, hv⟩
      show Wp (b_X9_orderAgainst_30 (nI L) f g (nI L)) _
      unfold b_X9_orderAgainst_30
      simp (disch := omega) only [↓reduceIte, if_pos, if_neg, ldA_n, stA_n, pI_add, pI_mul, pI_sub, pI_lt_iff, pI_le_iff, pI_eq_iff, ob_s, upE, upN, pI_dec2, asR_some, bitZ0, bitZ1, Sum.elim_inl, Sum.elim_inr, pL0, pL1, pL2, pL3, pL4, pL5, pL6, pL7, pL8, pL10, pL12, pL15, pL16, pL20, pL21, pL22, pL23, pL29, pL31, pL35, pL37, pL48, pL49, pL50, pL52, pL57, pL94, pL97, pL99, pL100, pL127, pL400, pL1000, pL1023, pL1024, pL2000, pL2001, pL2187, pL4095, pL4096, pL8191, pL8192, pL65535]
      exact wp_r (Or.inl ⟨rfl, hv⟩)
  · rcases hu with ⟨rfl, hv⟩ | ⟨j, hj, rfl⟩
    · simp (disch := omega) only [↓reduceIte, if_pos, if_neg, ldA_n, stA_n, pI_add, pI_mul, pI_sub, pI_lt_iff, pI_le_iff, pI_eq_iff, ob_s, upE, upN, pI_dec2, asR_some, bitZ0, bitZ1, Sum.elim_inl, Sum.elim_inr, pL0, pL1, pL2, pL3, pL4, pL5, pL6, pL7, pL8, pL10, pL12, pL15, pL16, pL20, pL21, pL22, pL23, pL29, pL31, pL35, pL37, pL48, pL49, pL50, pL52, pL57, pL94, pL97, pL99, pL100, pL127, pL400, pL1000, pL1023, pL1024, pL2000, pL2001, pL2187, pL4095, pL4096, pL8191, pL8192, pL65535]
      exact wp_some (Or.inl ⟨hv, rfl⟩)
    · have := hj.1
      simp (disch := omega) only [↓reduceIte, if_pos, if_neg, ldA_n, stA_n, pI_add, pI_mul, pI_sub, pI_lt_iff, pI_le_iff, pI_eq_iff, ob_s, upE, upN, pI_dec2, asR_some, bitZ0, bitZ1, Sum.elim_inl, Sum.elim_inr, pL0, pL1, pL2, pL3, pL4, pL5, pL6, pL7, pL8, pL10, pL12, pL15, pL16, pL20, pL21, pL22, pL23, pL29, pL31, pL35, pL37, pL48, pL49, pL50, pL52, pL57, pL94, pL97, pL99, pL100, pL127, pL400, pL1000, pL1023, pL1024, pL2000, pL2001, pL2187, pL4095, pL4096, pL8191, pL8192, pL65535]
      exact wp_if (fun e => wp_some (Or.inr ⟨j, hj, (if_pos e).symm⟩)) (fun e => wp_some (Or.inr ⟨j, hj, (if_neg e).symm⟩))
theorem cmp2_ok {w1 w2 L : Nat} {wl wd : Nat → Int32} (h1 : w1 < 3) (h2 : w2 < 3) (e1 : wl w1 = nI L) (e2 : wl w2 = nI L) (hL : L ≤ 12) : Wp (f_X12_compare (nI w1) (nI w2) wl wd) (fun o => ((∀ i, i < L → wd (12 * w1 + i) = wd (12 * w2 + i)) ∧ o = nI 1) ∨ ∃ j, fstD (fun i => wd (12 * w1 + i)) (fun i => wd (12 * w2 + i)) L j ∧ o = if wd (12 * w2 + j) ≤ wd (12 * w1 + j) then nI 2 else nI 0) := by
  unfold f_X12_compare
  simp (disch := omega) only [↓reduceIte, if_pos, if_neg, ldA_n, stA_n, pI_add, pI_mul, pI_sub, pI_lt_iff, pI_le_iff, pI_eq_iff, ob_s, upE, upN, pI_dec2, asR_some, bitZ0, bitZ1, Sum.elim_inl, Sum.elim_inr, pL0, pL1, pL2, pL3, pL4, pL5, pL6, pL7, pL8, pL10, pL12, pL15, pL16, pL20, pL21, pL22, pL23, pL29, pL31, pL35, pL37, pL48, pL49, pL50, pL52, pL57, pL94, pL97, pL99, pL100, pL127, pL400, pL1000, pL1023, pL1024, pL2000, pL2001, pL2187, pL4095, pL4096, pL8191, pL8192, pL65535, isW2, e1, e2]
  refine wp_seq (Q := fun u => (u = Sum.inr () ∧ ∀ i, i < L → wd (12 * w1 + i) = wd (12 * w2 + i)) ∨ ∃ j, fstD (fun i => wd (12 * w1 + i)) (fun i => wd (12 * w2 + i)) L j ∧ u = Sum.inl (wd (12 * w1 + j), wd (12 * w2 + j))) ?_ (fun u hu => ?_)
  · refine wp_up (fun i v => v = nI i ∧ ∀ k, k < i → wd (12 * w1 + k) = wd (12 * w2 + k)) 0 L ⟨rfl, fun k hk => by omega⟩ (by omega) (by omega) ?_ ?_
    · rintro i v h3 h4 ⟨rfl, hv⟩
      show Wp (b_X12_compare_54 wl wd (nI w1) (nI w2) (nI i)) _
      unfold b_X12_compare_54
      simp (disch := omega) only [↓reduceIte, if_pos, if_neg, ldA_n, stA_n, pI_add, pI_mul, pI_sub, pI_lt_iff, pI_le_iff, pI_eq_iff, ob_s, upE, upN, pI_dec2, asR_some, bitZ0, bitZ1, Sum.elim_inl, Sum.elim_inr, pL0, pL1, pL2, pL3, pL4, pL5, pL6, pL7, pL8, pL10, pL12, pL15, pL16, pL20, pL21, pL22, pL23, pL29, pL31, pL35, pL37, pL48, pL49, pL50, pL52, pL57, pL94, pL97, pL99, pL100, pL127, pL400, pL1000, pL1023, pL1024, pL2000, pL2001, pL2187, pL4095, pL4096, pL8191, pL8192, pL65535, e1]
      refine wp_if (fun e => wp_l ⟨rfl, fun k hk => ?_⟩) (fun e => wp_r (Or.inr ⟨i, ⟨h4, e, hv⟩, rfl⟩))
      by_cases hki : k = i
      · rw [hki]; exact e
      · exact hv k (by omega)
    · rintro v ⟨rfl, hv⟩
      show Wp (b_X12_compare_54 wl wd (nI w1) (nI w2) (nI L)) _
      unfold b_X12_compare_54
      simp (disch := omega) only [↓reduceIte, if_pos, if_neg, ldA_n, stA_n, pI_add, pI_mul, pI_sub, pI_lt_iff, pI_le_iff, pI_eq_iff, ob_s, upE, upN, pI_dec2, asR_some, bitZ0, bitZ1, Sum.elim_inl, Sum.elim_inr, pL0, pL1, pL2, pL3, pL4, pL5, pL6, pL7, pL8, pL10, pL12, pL15, pL16, pL20, pL21, pL22, pL23, pL29, pL31, pL35, pL37, pL48, pL49, pL50, pL52, pL57, pL94, pL97, pL99, pL100, pL127, pL400, pL1000, pL1023, pL1024, pL2000, pL2001, pL2187, pL4095, pL4096, pL8191, pL8192, pL65535, e1]
      exact wp_r (Or.inl ⟨rfl, hv⟩)
  · rcases hu with ⟨rfl, hv⟩ | ⟨j, hj, rfl⟩
    · simp (disch := omega) only [↓reduceIte, if_pos, if_neg, ldA_n, stA_n, pI_add, pI_mul, pI_sub, pI_lt_iff, pI_le_iff, pI_eq_iff, ob_s, upE, upN, pI_dec2, asR_some, bitZ0, bitZ1, Sum.elim_inl, Sum.elim_inr, pL0, pL1, pL2, pL3, pL4, pL5, pL6, pL7, pL8, pL10, pL12, pL15, pL16, pL20, pL21, pL22, pL23, pL29, pL31, pL35, pL37, pL48, pL49, pL50, pL52, pL57, pL94, pL97, pL99, pL100, pL127, pL400, pL1000, pL1023, pL1024, pL2000, pL2001, pL2187, pL4095, pL4096, pL8191, pL8192, pL65535]
      exact wp_some (Or.inl ⟨hv, rfl⟩)
    · simp (disch := omega) only [↓reduceIte, if_pos, if_neg, ldA_n, stA_n, pI_add, pI_mul, pI_sub, pI_lt_iff, pI_le_iff, pI_eq_iff, ob_s, upE, upN, pI_dec2, asR_some, bitZ0, bitZ1, Sum.elim_inl, Sum.elim_inr, pL0, pL1, pL2, pL3, pL4, pL5, pL6, pL7, pL8, pL10, pL12, pL15, pL16, pL20, pL21, pL22, pL23, pL29, pL31, pL35, pL37, pL48, pL49, pL50, pL52, pL57, pL94, pL97, pL99, pL100, pL127, pL400, pL1000, pL1023, pL1024, pL2000, pL2001, pL2187, pL4095, pL4096, pL8191, pL8192, pL65535]
      exact wp_if (fun e => wp_some (Or.inr ⟨j, hj, (if_pos e).symm⟩)) (fun e => wp_some (Or.inr ⟨j, hj, (if_neg e).symm⟩))
theorem p_compare {q1 q2 : Nat} {s1 s2 : Int32} {rf : Nat → Option Nat} {l1 l2 wl wd : Nat → Int32} (w1 w2 : Nat) (h1 : w1 < 3) (h2 : w2 < 3) (r1 : rf w1 = some q1) (r2 : rf w2 = some q2) (W1 : WordR s1 l1 (wl w1) wd (12 * w1)) (W2 : WordR s2 l2 (wl w2) wd (12 * w2)) :
    Wp (f_X11_compare (nI w1) (nI w2) q1 q2 s1 s2 l1 l2 rf) (fun o => Wp (f_X12_compare (nI w1) (nI w2) wl wd) (fun m => o = m)) := by
  obtain ⟨L1, hL1, rfl, hl1, hd1⟩ := W1
  obtain ⟨L2, hL2, rfl, hl2, hd2⟩ := W2
  unfold f_X11_compare
  simp (disch := omega) only [↓reduceIte, if_pos, if_neg, ldA_n, stA_n, pI_add, pI_mul, pI_sub, pI_lt_iff, pI_le_iff, pI_eq_iff, ob_s, upE, upN, pI_dec2, asR_some, bitZ0, bitZ1, Sum.elim_inl, Sum.elim_inr, pL0, pL1, pL2, pL3, pL4, pL5, pL6, pL7, pL8, pL10, pL12, pL15, pL16, pL20, pL21, pL22, pL23, pL29, pL31, pL35, pL37, pL48, pL49, pL50, pL52, pL57, pL94, pL97, pL99, pL100, pL127, pL400, pL1000, pL1023, pL1024, pL2000, pL2001, pL2187, pL4095, pL4096, pL8191, pL8192, pL65535, isW1, r1, r2]
  by_cases hc : L1 = L2
  · subst hc
    refine wp_seq (ord_ok hL1) (fun u hu => wp_some (wp_mono (cmp2_ok h1 h2 hl1 hl2 hL1) (fun m hm => ?_)))
    rcases hu with ⟨a, rfl⟩ | ⟨j, a, rfl⟩
    · rcases hm with ⟨b, rfl⟩ | ⟨k, b, rfl⟩
      · rfl
      · refine absurd ?_ b.2.1
        show wd (12 * w1 + k) = wd (12 * w2 + k)
        rw [← hd1 k b.1, ← hd2 k b.1]
        exact a k b.1
    · rcases hm with ⟨b, rfl⟩ | ⟨k, b, rfl⟩
      · refine absurd ?_ a.2.1
        rw [hd1 j a.1, hd2 j a.1]
        exact b j a.1
      · have hb' : fstD l1 l2 L1 k := by
          refine ⟨b.1, ?_, fun i hi => ?_⟩
          · rw [hd1 k b.1, hd2 k b.1]
            exact b.2.1
          · have := b.1
            rw [hd1 i (by omega), hd2 i (by omega)]
            exact b.2.2 i hi
        have hjk := fstD_un a hb'
        subst hjk
        rw [hd1 j a.1, hd2 j a.1]
  · unfold f_X9_orderAgainst f_X12_compare
    by_cases hlt : L1 < L2
    · simp (disch := omega) only [↓reduceIte, if_pos, if_neg, ldA_n, stA_n, pI_add, pI_mul, pI_sub, pI_lt_iff, pI_le_iff, pI_eq_iff, ob_s, upE, upN, pI_dec2, asR_some, bitZ0, bitZ1, Sum.elim_inl, Sum.elim_inr, pL0, pL1, pL2, pL3, pL4, pL5, pL6, pL7, pL8, pL10, pL12, pL15, pL16, pL20, pL21, pL22, pL23, pL29, pL31, pL35, pL37, pL48, pL49, pL50, pL52, pL57, pL94, pL97, pL99, pL100, pL127, pL400, pL1000, pL1023, pL1024, pL2000, pL2001, pL2187, pL4095, pL4096, pL8191, pL8192, pL65535, isW2, hl1, hl2]
      exact wp_some (wp_some rfl)
    · simp (disch := omega) only [↓reduceIte, if_pos, if_neg, ldA_n, stA_n, pI_add, pI_mul, pI_sub, pI_lt_iff, pI_le_iff, pI_eq_iff, ob_s, upE, upN, pI_dec2, asR_some, bitZ0, bitZ1, Sum.elim_inl, Sum.elim_inr, pL0, pL1, pL2, pL3, pL4, pL5, pL6, pL7, pL8, pL10, pL12, pL15, pL16, pL20, pL21, pL22, pL23, pL29, pL31, pL35, pL37, pL48, pL49, pL50, pL52, pL57, pL94, pL97, pL99, pL100, pL127, pL400, pL1000, pL1023, pL1024, pL2000, pL2001, pL2187, pL4095, pL4096, pL8191, pL8192, pL65535, isW2, hl1, hl2]
      exact wp_some (wp_some rfl)
theorem n_compare1 {x x2 : Int32} {q1 q2 : Nat} {s1 s2 : Int32} {rf : Nat → Option Nat} {l1 l2 wl wd : Nat → Int32} (h : f_X11_isWord x = some (nI 0) ∧ f_X12_isWord x = some (nI 0)) : f_X11_compare x x2 q1 q2 s1 s2 l1 l2 rf = some (-1) ∧ f_X12_compare x x2 wl wd = some (-1) := by
  unfold f_X11_compare f_X12_compare
  rw [h.1, h.2]
  exact ⟨rfl, rfl⟩
theorem n_compare2 {x2 : Int32} {w : Nat} (hw : w < 3) {q1 q2 : Nat} {s1 s2 : Int32} {rf : Nat → Option Nat} {l1 l2 wl wd : Nat → Int32} (h : f_X11_isWord x2 = some (nI 0) ∧ f_X12_isWord x2 = some (nI 0)) : f_X11_compare (nI w) x2 q1 q2 s1 s2 l1 l2 rf = some (-1) ∧ f_X12_compare (nI w) x2 wl wd = some (-1) := by
  unfold f_X11_compare f_X12_compare
  rw [isW1 hw, isW2 hw, h.1, h.2]
  exact ⟨rfl, rfl⟩
theorem p_setLetters {x1 : Int32} {q0 q1 q2 : Nat} {rf lg : Nat → Option Nat} {s0 s1 s2 le le' tc ts : Int32} {wl fm : Nat → Int32} (h0 : rf 0 = some q0) (h1 : rf 1 = some q1) (h2 : rf 2 = some q2) (hL : LetR le le') :
    (f_X11_setLetters x1 q0 q1 q2 rf s0 s1 s2 le tc lg = some (-1, s0, s1, s2, le, tc, lg) ∧ f_X12_setLetters x1 le' ts wl fm = some (-1, le', ts, wl, fm)) ∨
    ∃ k, 1 ≤ k ∧ k ≤ 3 ∧ f_X11_setLetters x1 q0 q1 q2 rf s0 s1 s2 le tc lg = some (le, 0, 0, 0, nI k, 0, va_up (va_up (va_up (va_up lg 0 none) 1 none) 2 none) 3 none) ∧ Wp (f_X12_setLetters x1 le' ts wl fm) (fun m => m.1 = le ∧ m.2.1 = nI k ∧ m.2.2.1 = 0 ∧ (∀ w, w < 3 → m.2.2.2.1 w = 0) ∧ ∀ l, l < 4 → m.2.2.2.2 l = -1) := by
  obtain ⟨k0, hk1, hk2, rfl, rfl⟩ := hL
  rcases iC x1 with h | ⟨k, rfl, hk⟩
  · refine Or.inl ⟨?_, ?_⟩
    · unfold f_X11_setLetters
      rw [if_pos (show x1 < 1 from i_neg_lt (b := 1) h (by omega))]
    · unfold f_X12_setLetters
      rw [show f_X12_isBetween x1 1 3 = some 0 from btw_negL (a := 1) (b := 3) h (by omega)]
      rfl
  · by_cases hr : 1 ≤ k ∧ k ≤ 3
    · refine Or.inr ⟨k, hr.1, hr.2, ?_, ?_⟩
      · unfold f_X11_setLetters f_X5_restart
        simp (disch := omega) only [↓reduceIte, if_pos, if_neg, ldA_n, stA_n, pI_add, pI_mul, pI_sub, pI_lt_iff, pI_le_iff, pI_eq_iff, ob_s, upE, upN, pI_dec2, asR_some, bitZ0, bitZ1, Sum.elim_inl, Sum.elim_inr, pL0, pL1, pL2, pL3, pL4, pL5, pL6, pL7, pL8, pL10, pL12, pL15, pL16, pL20, pL21, pL22, pL23, pL29, pL31, pL35, pL37, pL48, pL49, pL50, pL52, pL57, pL94, pL97, pL99, pL100, pL127, pL400, pL1000, pL1023, pL1024, pL2000, pL2001, pL2187, pL4095, pL4096, pL8191, pL8192, pL65535, h0, h1, h2]
      · unfold f_X12_setLetters
        simp (disch := omega) only [↓reduceIte, if_pos, if_neg, ldA_n, stA_n, pI_add, pI_mul, pI_sub, pI_lt_iff, pI_le_iff, pI_eq_iff, ob_s, upE, upN, pI_dec2, asR_some, bitZ0, bitZ1, Sum.elim_inl, Sum.elim_inr, pL0, pL1, pL2, pL3, pL4, pL5, pL6, pL7, pL8, pL10, pL12, pL15, pL16, pL20, pL21, pL22, pL23, pL29, pL31, pL35, pL37, pL48, pL49, pL50, pL52, pL57, pL94, pL97, pL99, pL100, pL127, pL400, pL1000, pL1023, pL1024, pL2000, pL2001, pL2187, pL4095, pL4096, pL8191, pL8192, pL65535, btw_in]
        refine wp_seq (Q := fun g => ∀ w, w < 3 → g w = nI 0) (wp_fill 0 0 3 (fun _ => nI 0) (by omega) (by omega) (fun i f h3 h4 hf => ?_) (fun f hf => ?_)) (fun u hu => ?_)
        · show b_X12_setLetters_23 f (nI i) = _
          unfold b_X12_setLetters_23
          simp (disch := omega) only [↓reduceIte, if_pos, if_neg, ldA_n, stA_n, pI_add, pI_mul, pI_sub, pI_lt_iff, pI_le_iff, pI_eq_iff, ob_s, upE, upN, pI_dec2, asR_some, bitZ0, bitZ1, Sum.elim_inl, Sum.elim_inr, pL0, pL1, pL2, pL3, pL4, pL5, pL6, pL7, pL8, pL10, pL12, pL15, pL16, pL20, pL21, pL22, pL23, pL29, pL31, pL35, pL37, pL48, pL49, pL50, pL52, pL57, pL94, pL97, pL99, pL100, pL127, pL400, pL1000, pL1023, pL1024, pL2000, pL2001, pL2187, pL4095, pL4096, pL8191, pL8192, pL65535, Nat.zero_add]
        · show Wp (b_X12_setLetters_23 f (nI 3)) _
          unfold b_X12_setLetters_23
          simp (disch := omega) only [↓reduceIte, if_pos, if_neg, ldA_n, stA_n, pI_add, pI_mul, pI_sub, pI_lt_iff, pI_le_iff, pI_eq_iff, ob_s, upE, upN, pI_dec2, asR_some, bitZ0, bitZ1, Sum.elim_inl, Sum.elim_inr, pL0, pL1, pL2, pL3, pL4, pL5, pL6, pL7, pL8, pL10, pL12, pL15, pL16, pL20, pL21, pL22, pL23, pL29, pL31, pL35, pL37, pL48, pL49, pL50, pL52, pL57, pL94, pL97, pL99, pL100, pL127, pL400, pL1000, pL1023, pL1024, pL2000, pL2001, pL2187, pL4095, pL4096, pL8191, pL8192, pL65535]
          exact wp_r (fun w hw => by rw [hf w, if_pos (by omega)])
        · refine wp_seq (Q := fun g => ∀ l, l < 4 → g l = -nI 1) (wp_fill 0 0 4 (fun _ => -nI 1) (by omega) (by omega) (fun i f h3 h4 hf => ?_) (fun f hf => ?_)) (fun v hv => wp_some ⟨rfl, rfl, rfl, hu, hv⟩)
          · show b_X12_setLetters_43 f (nI i) = _
            unfold b_X12_setLetters_43
            simp (disch := omega) only [↓reduceIte, if_pos, if_neg, ldA_n, stA_n, pI_add, pI_mul, pI_sub, pI_lt_iff, pI_le_iff, pI_eq_iff, ob_s, upE, upN, pI_dec2, asR_some, bitZ0, bitZ1, Sum.elim_inl, Sum.elim_inr, pL0, pL1, pL2, pL3, pL4, pL5, pL6, pL7, pL8, pL10, pL12, pL15, pL16, pL20, pL21, pL22, pL23, pL29, pL31, pL35, pL37, pL48, pL49, pL50, pL52, pL57, pL94, pL97, pL99, pL100, pL127, pL400, pL1000, pL1023, pL1024, pL2000, pL2001, pL2187, pL4095, pL4096, pL8191, pL8192, pL65535, Nat.zero_add]
          · show Wp (b_X12_setLetters_43 f (nI 4)) _
            unfold b_X12_setLetters_43
            simp (disch := omega) only [↓reduceIte, if_pos, if_neg, ldA_n, stA_n, pI_add, pI_mul, pI_sub, pI_lt_iff, pI_le_iff, pI_eq_iff, ob_s, upE, upN, pI_dec2, asR_some, bitZ0, bitZ1, Sum.elim_inl, Sum.elim_inr, pL0, pL1, pL2, pL3, pL4, pL5, pL6, pL7, pL8, pL10, pL12, pL15, pL16, pL20, pL21, pL22, pL23, pL29, pL31, pL35, pL37, pL48, pL49, pL50, pL52, pL57, pL94, pL97, pL99, pL100, pL127, pL400, pL1000, pL1023, pL1024, pL2000, pL2001, pL2187, pL4095, pL4096, pL8191, pL8192, pL65535]
            exact wp_r (fun w hw => by rw [hf w, if_pos (by omega)])
    · refine Or.inl ⟨?_, ?_⟩
      · unfold f_X11_setLetters
        by_cases h1k : k < 1
        · simp (disch := omega) only [↓reduceIte, if_pos, if_neg, ldA_n, stA_n, pI_add, pI_mul, pI_sub, pI_lt_iff, pI_le_iff, pI_eq_iff, ob_s, upE, upN, pI_dec2, asR_some, bitZ0, bitZ1, Sum.elim_inl, Sum.elim_inr, pL0, pL1, pL2, pL3, pL4, pL5, pL6, pL7, pL8, pL10, pL12, pL15, pL16, pL20, pL21, pL22, pL23, pL29, pL31, pL35, pL37, pL48, pL49, pL50, pL52, pL57, pL94, pL97, pL99, pL100, pL127, pL400, pL1000, pL1023, pL1024, pL2000, pL2001, pL2187, pL4095, pL4096, pL8191, pL8192, pL65535]
        · simp (disch := omega) only [↓reduceIte, if_pos, if_neg, ldA_n, stA_n, pI_add, pI_mul, pI_sub, pI_lt_iff, pI_le_iff, pI_eq_iff, ob_s, upE, upN, pI_dec2, asR_some, bitZ0, bitZ1, Sum.elim_inl, Sum.elim_inr, pL0, pL1, pL2, pL3, pL4, pL5, pL6, pL7, pL8, pL10, pL12, pL15, pL16, pL20, pL21, pL22, pL23, pL29, pL31, pL35, pL37, pL48, pL49, pL50, pL52, pL57, pL94, pL97, pL99, pL100, pL127, pL400, pL1000, pL1023, pL1024, pL2000, pL2001, pL2187, pL4095, pL4096, pL8191, pL8192, pL65535]
      · unfold f_X12_setLetters
        by_cases h1k : k < 1
        · simp (disch := omega) only [↓reduceIte, if_pos, if_neg, ldA_n, stA_n, pI_add, pI_mul, pI_sub, pI_lt_iff, pI_le_iff, pI_eq_iff, ob_s, upE, upN, pI_dec2, asR_some, bitZ0, bitZ1, Sum.elim_inl, Sum.elim_inr, pL0, pL1, pL2, pL3, pL4, pL5, pL6, pL7, pL8, pL10, pL12, pL15, pL16, pL20, pL21, pL22, pL23, pL29, pL31, pL35, pL37, pL48, pL49, pL50, pL52, pL57, pL94, pL97, pL99, pL100, pL127, pL400, pL1000, pL1023, pL1024, pL2000, pL2001, pL2187, pL4095, pL4096, pL8191, pL8192, pL65535, btw_lo]
        · simp (disch := omega) only [↓reduceIte, if_pos, if_neg, ldA_n, stA_n, pI_add, pI_mul, pI_sub, pI_lt_iff, pI_le_iff, pI_eq_iff, ob_s, upE, upN, pI_dec2, asR_some, bitZ0, bitZ1, Sum.elim_inl, Sum.elim_inr, pL0, pL1, pL2, pL3, pL4, pL5, pL6, pL7, pL8, pL10, pL12, pL15, pL16, pL20, pL21, pL22, pL23, pL29, pL31, pL35, pL37, pL48, pL49, pL50, pL52, pL57, pL94, pL97, pL99, pL100, pL127, pL400, pL1000, pL1023, pL1024, pL2000, pL2001, pL2187, pL4095, pL4096, pL8191, pL8192, pL65535, btw_hi]
