set_option linter.unusedVariables false
/-! addTest -/
theorem rt_loop {g : Nat → Nat} {I k T : Nat} {f pat : Nat → Int32} (hI : I ≤ 8) (hk : 1 ≤ k) (hk3 : k ≤ 3) (hT : T < 6) (hf : ∀ i, i < I → f i = nI (g i)) (hb : ∀ i, i < I → g i < 128) : Wp (loopN (fun v => b_X12_readsTest_2 f (nI k) (nI T) (nI I) v.1 v.2.1 v.2.2) FU ((0 : Int32), pat, (0 : Int32))) (fun u => ∃ h, HL g I k h ∧ u.1 = nI h ∧ u.2.2 = nI h ∧ ∀ j, u.2.1 j = if 4 * T ≤ j ∧ j < 4 * T + h then nI (g (j - 4 * T) - 97) else pat j) := by
  refine wp_up (fun i v => v.1 = nI i ∧ v.2.2 = nI i ∧ i ≤ I ∧ (∀ c, c < i → 97 ≤ g c ∧ g c < 97 + k) ∧ ∀ j, v.2.1 j = if 4 * T ≤ j ∧ j < 4 * T + i then nI (g (j - 4 * T) - 97) else pat j) 0 4 ⟨rfl, rfl, by omega, fun c hc => by omega, fun j => (if_neg (by omega)).symm⟩ (by omega) (by omega) ?_ ?_
  · rintro i ⟨x, p, y⟩ h1 h2 ⟨hx, hy, h3, h4, h5⟩
    simp only at hx hy h5
    subst hx hy
    show Wp (b_X12_readsTest_2 f (nI k) (nI T) (nI I) (nI i) p (nI i)) _
    unfold b_X12_readsTest_2
    by_cases c : i < I ∧ 97 ≤ g i ∧ g i ≤ 97 + k - 1
    · have b1 := hb i c.1
      simp (disch := omega) only [↓reduceIte, if_pos, if_neg, ldA_n, stA_n, pI_add, pI_mul, pI_sub, pI_lt_iff, pI_le_iff, pI_eq_iff, ob_s, upE, upN, pI_dec2, asR_some, bitZ0, bitZ1, Sum.elim_inl, Sum.elim_inr, pL0, pL1, pL2, pL3, pL4, pL5, pL6, pL7, pL8, pL10, pL12, pL15, pL16, pL20, pL21, pL22, pL23, pL29, pL31, pL35, pL37, pL48, pL49, pL50, pL52, pL57, pL94, pL97, pL99, pL100, pL127, pL400, pL1000, pL1023, pL1024, pL2000, pL2001, pL2187, pL4095, pL4096, pL8191, pL8192, pL65535, isAt_t hf hb hI, hf]
      refine wp_l ⟨rfl, rfl, by omega, fun c' hc => ?_, fun j => ?_⟩
      · by_cases hci : c' = i
        · subst hci
          omega
        · exact h4 c' (by omega)
      · show va_up p (4 * T + i) (nI (g i - 97)) j = _
        by_cases hj : j = 4 * T + i
        · rw [upE hj, if_pos (by omega), hj, Nat.add_sub_cancel_left]
        · rw [upN hj, h5 j]
          by_cases hk : 4 * T ≤ j ∧ j < 4 * T + i
          · rw [if_pos hk, if_pos (by omega)]
          · rw [if_neg hk, if_neg (by omega)]
    · simp (disch := omega) only [↓reduceIte, if_pos, if_neg, ldA_n, stA_n, pI_add, pI_mul, pI_sub, pI_lt_iff, pI_le_iff, pI_eq_iff, ob_s, upE, upN, pI_dec2, asR_some, bitZ0, bitZ1, Sum.elim_inl, Sum.elim_inr, pL0, pL1, pL2, pL3, pL4, pL5, pL6, pL7, pL8, pL10, pL12, pL15, pL16, pL20, pL21, pL22, pL23, pL29, pL31, pL35, pL37, pL48, pL49, pL50, pL52, pL57, pL94, pL97, pL99, pL100, pL127, pL400, pL1000, pL1023, pL1024, pL2000, pL2001, pL2187, pL4095, pL4096, pL8191, pL8192, pL65535, isAt_f hf hb hI]
      exact wp_r ⟨i, ⟨by omega, h3, h4, fun _ h6 h7 => by omega⟩, rfl, rfl, h5⟩
  · rintro ⟨x, p, y⟩ ⟨hx, hy, h3, h4, h5⟩
    simp only at hx hy h5
    subst hx hy
    show Wp (b_X12_readsTest_2 f (nI k) (nI T) (nI I) (nI 4) p (nI 4)) _
    unfold b_X12_readsTest_2
    simp (disch := omega) only [↓reduceIte, if_pos, if_neg, ldA_n, stA_n, pI_add, pI_mul, pI_sub, pI_lt_iff, pI_le_iff, pI_eq_iff, ob_s, upE, upN, pI_dec2, asR_some, bitZ0, bitZ1, Sum.elim_inl, Sum.elim_inr, pL0, pL1, pL2, pL3, pL4, pL5, pL6, pL7, pL8, pL10, pL12, pL15, pL16, pL20, pL21, pL22, pL23, pL29, pL31, pL35, pL37, pL48, pL49, pL50, pL52, pL57, pL94, pL97, pL99, pL100, pL127, pL400, pL1000, pL1023, pL1024, pL2000, pL2001, pL2187, pL4095, pL4096, pL8191, pL8192, pL65535]
    exact wp_r ⟨4, ⟨by omega, h3, h4, fun h => by omega⟩, rfl, rfl, h5⟩
/-- what the reference's parser leaves -/
def RT (T h : Nat) (kd bd ln pat : Nat → Int32) (r : Int32 × Int32 × (Nat → Int32) × (Nat → Int32) × (Nat → Int32) × (Nat → Int32)) (p : Nat ⊕ (Nat × Nat)) : Prop := (∀ t, t ≠ T → r.2.2.1 t = kd t ∧ r.2.2.2.1 t = bd t ∧ r.2.2.2.2.1 t = ln t) ∧ r.2.2.2.2.2 = pat ∧ Sum.elim (fun e => r.1 = nI 0 ∧ r.2.1 = nI e) (fun q => r.1 = nI 1 ∧ r.2.2.1 T = nI q.1 ∧ r.2.2.2.1 T = nI q.2 ∧ r.2.2.2.2.1 T = nI h) p
theorem rt_139 {g : Nat → Nat} {I T s h c x : Nat} {f kd bd ln pat : Nat → Int32} (hI : I ≤ 8) (hT : T < 6) (hf : ∀ i, i < I → f i = nI (g i)) (hb : ∀ i, i < I → g i < 128) (hs : s < I) (hh4 : h ≤ 4) (hx : (x = 0 ∧ g s = 37) ∨ (x = 1 ∧ g s = 94 ∧ c = 0)) (hh : (h = 0 ∧ c = 1) ∨ (0 < h ∧ c = 0)) :
    Wp (j_X12_readsTest_139 f (nI T) (nI I) (nI s) kd bd ln pat (nI h) (nI x)) (fun r => RT T h kd bd ln pat r (prs1 g I s c)) := by
  have hc1 : s < I ∧ (g s = 37 ∨ (g s = 94 ∧ c = 0)) := by omega
  unfold j_X12_readsTest_139 j_X12_readsTest_161 j_X12_readsTest_196 prs1
  rw [if_pos hc1]
  by_cases c6 : s + 1 < I ∧ (if g s = 37 then 50 else 49) ≤ g (s + 1) ∧ g (s + 1) ≤ 57
  · rw [if_pos c6]
    have b2 := hb (s + 1) c6.1
    by_cases c7 : s + 2 < I
    · rw [if_pos c7]
      rcases hx with ⟨rfl, e⟩ | ⟨rfl, e, rfl⟩
      · rw [if_pos e] at c6
        rcases hh with ⟨rfl, rfl⟩ | ⟨h0, rfl⟩
        · simp (disch := omega) only [↓reduceIte, if_pos, if_neg, ldA_n, stA_n, pI_add, pI_mul, pI_sub, pI_lt_iff, pI_le_iff, pI_eq_iff, ob_s, upE, upN, pI_dec2, asR_some, bitZ0, bitZ1, Sum.elim_inl, Sum.elim_inr, pL0, pL1, pL2, pL3, pL4, pL5, pL6, pL7, pL8, pL10, pL12, pL15, pL16, pL20, pL21, pL22, pL23, pL29, pL31, pL35, pL37, pL48, pL49, pL50, pL52, pL57, pL94, pL97, pL99, pL100, pL127, pL400, pL1000, pL1023, pL1024, pL2000, pL2001, pL2187, pL4095, pL4096, pL8191, pL8192, pL65535, isAt_t hf hb hI, hf]
          exact wp_some ⟨fun t ht => ⟨upN ht, upN ht, upN ht⟩, rfl, rfl, rfl⟩
        · simp (disch := omega) only [↓reduceIte, if_pos, if_neg, ldA_n, stA_n, pI_add, pI_mul, pI_sub, pI_lt_iff, pI_le_iff, pI_eq_iff, ob_s, upE, upN, pI_dec2, asR_some, bitZ0, bitZ1, Sum.elim_inl, Sum.elim_inr, pL0, pL1, pL2, pL3, pL4, pL5, pL6, pL7, pL8, pL10, pL12, pL15, pL16, pL20, pL21, pL22, pL23, pL29, pL31, pL35, pL37, pL48, pL49, pL50, pL52, pL57, pL94, pL97, pL99, pL100, pL127, pL400, pL1000, pL1023, pL1024, pL2000, pL2001, pL2187, pL4095, pL4096, pL8191, pL8192, pL65535, isAt_t hf hb hI, hf]
          exact wp_some ⟨fun t ht => ⟨upN ht, upN ht, upN ht⟩, rfl, rfl, rfl⟩
      · rw [if_neg (by omega)] at c6
        simp (disch := omega) only [↓reduceIte, if_pos, if_neg, ldA_n, stA_n, pI_add, pI_mul, pI_sub, pI_lt_iff, pI_le_iff, pI_eq_iff, ob_s, upE, upN, pI_dec2, asR_some, bitZ0, bitZ1, Sum.elim_inl, Sum.elim_inr, pL0, pL1, pL2, pL3, pL4, pL5, pL6, pL7, pL8, pL10, pL12, pL15, pL16, pL20, pL21, pL22, pL23, pL29, pL31, pL35, pL37, pL48, pL49, pL50, pL52, pL57, pL94, pL97, pL99, pL100, pL127, pL400, pL1000, pL1023, pL1024, pL2000, pL2001, pL2187, pL4095, pL4096, pL8191, pL8192, pL65535, isAt_t hf hb hI, hf]
        exact wp_some ⟨fun t ht => ⟨upN ht, upN ht, upN ht⟩, rfl, rfl, rfl⟩
    · rw [if_neg c7]
      rcases hx with ⟨rfl, e⟩ | ⟨rfl, e, rfl⟩
      · rw [if_pos e] at c6
        rw [if_pos e]
        rcases hh with ⟨rfl, rfl⟩ | ⟨h0, rfl⟩
        · simp (disch := omega) only [↓reduceIte, if_pos, if_neg, ldA_n, stA_n, pI_add, pI_mul, pI_sub, pI_lt_iff, pI_le_iff, pI_eq_iff, ob_s, upE, upN, pI_dec2, asR_some, bitZ0, bitZ1, Sum.elim_inl, Sum.elim_inr, pL0, pL1, pL2, pL3, pL4, pL5, pL6, pL7, pL8, pL10, pL12, pL15, pL16, pL20, pL21, pL22, pL23, pL29, pL31, pL35, pL37, pL48, pL49, pL50, pL52, pL57, pL94, pL97, pL99, pL100, pL127, pL400, pL1000, pL1023, pL1024, pL2000, pL2001, pL2187, pL4095, pL4096, pL8191, pL8192, pL65535, isAt_t hf hb hI, hf]
          exact wp_some ⟨fun t ht => ⟨upN ht, upN ht, upN ht⟩, rfl, rfl, upE rfl, upE rfl, upE rfl⟩
        · simp (disch := omega) only [↓reduceIte, if_pos, if_neg, ldA_n, stA_n, pI_add, pI_mul, pI_sub, pI_lt_iff, pI_le_iff, pI_eq_iff, ob_s, upE, upN, pI_dec2, asR_some, bitZ0, bitZ1, Sum.elim_inl, Sum.elim_inr, pL0, pL1, pL2, pL3, pL4, pL5, pL6, pL7, pL8, pL10, pL12, pL15, pL16, pL20, pL21, pL22, pL23, pL29, pL31, pL35, pL37, pL48, pL49, pL50, pL52, pL57, pL94, pL97, pL99, pL100, pL127, pL400, pL1000, pL1023, pL1024, pL2000, pL2001, pL2187, pL4095, pL4096, pL8191, pL8192, pL65535, isAt_t hf hb hI, hf]
          exact wp_some ⟨fun t ht => ⟨upN ht, upN ht, upN ht⟩, rfl, rfl, upE rfl, upE rfl, upE rfl⟩
      · rw [if_neg (show ¬ g s = 37 by omega)] at c6
        rw [if_neg (show ¬ g s = 37 by omega)]
        simp (disch := omega) only [↓reduceIte, if_pos, if_neg, ldA_n, stA_n, pI_add, pI_mul, pI_sub, pI_lt_iff, pI_le_iff, pI_eq_iff, ob_s, upE, upN, pI_dec2, asR_some, bitZ0, bitZ1, Sum.elim_inl, Sum.elim_inr, pL0, pL1, pL2, pL3, pL4, pL5, pL6, pL7, pL8, pL10, pL12, pL15, pL16, pL20, pL21, pL22, pL23, pL29, pL31, pL35, pL37, pL48, pL49, pL50, pL52, pL57, pL94, pL97, pL99, pL100, pL127, pL400, pL1000, pL1023, pL1024, pL2000, pL2001, pL2187, pL4095, pL4096, pL8191, pL8192, pL65535, isAt_t hf hb hI, hf]
        exact wp_some ⟨fun t ht => ⟨upN ht, upN ht, upN ht⟩, rfl, rfl, upE rfl, upE rfl, upE rfl⟩
  · rw [if_neg c6]
    rcases hx with ⟨rfl, e⟩ | ⟨rfl, e, rfl⟩
    · rw [if_pos e] at c6
      simp (disch := omega) only [↓reduceIte, if_pos, if_neg, ldA_n, stA_n, pI_add, pI_mul, pI_sub, pI_lt_iff, pI_le_iff, pI_eq_iff, ob_s, upE, upN, pI_dec2, asR_some, bitZ0, bitZ1, Sum.elim_inl, Sum.elim_inr, pL0, pL1, pL2, pL3, pL4, pL5, pL6, pL7, pL8, pL10, pL12, pL15, pL16, pL20, pL21, pL22, pL23, pL29, pL31, pL35, pL37, pL48, pL49, pL50, pL52, pL57, pL94, pL97, pL99, pL100, pL127, pL400, pL1000, pL1023, pL1024, pL2000, pL2001, pL2187, pL4095, pL4096, pL8191, pL8192, pL65535, isAt_f hf hb hI]
      exact wp_some ⟨fun t ht => ⟨rfl, rfl, rfl⟩, rfl, rfl, rfl⟩
    · rw [if_neg (show ¬ g s = 37 by omega)] at c6
      simp (disch := omega) only [↓reduceIte, if_pos, if_neg, ldA_n, stA_n, pI_add, pI_mul, pI_sub, pI_lt_iff, pI_le_iff, pI_eq_iff, ob_s, upE, upN, pI_dec2, asR_some, bitZ0, bitZ1, Sum.elim_inl, Sum.elim_inr, pL0, pL1, pL2, pL3, pL4, pL5, pL6, pL7, pL8, pL10, pL12, pL15, pL16, pL20, pL21, pL22, pL23, pL29, pL31, pL35, pL37, pL48, pL49, pL50, pL52, pL57, pL94, pL97, pL99, pL100, pL127, pL400, pL1000, pL1023, pL1024, pL2000, pL2001, pL2187, pL4095, pL4096, pL8191, pL8192, pL65535, isAt_f hf hb hI]
      exact wp_some ⟨fun t ht => ⟨rfl, rfl, rfl⟩, rfl, rfl, rfl⟩
theorem rt_ok {g : Nat → Nat} {I k T : Nat} {f kd bd ln pat : Nat → Int32} (hI : I ≤ 8) (hk : 1 ≤ k) (hk3 : k ≤ 3) (hT : T < 6) (hf : ∀ i, i < I → f i = nI (g i)) (hb : ∀ i, i < I → g i < 128) : Wp (f_X12_readsTest f (nI k) (nI T) (nI I) (0 : Int32) kd bd ln pat) (fun r => ∃ h p, HL g I k h ∧ (∀ j, p j = if 4 * T ≤ j ∧ j < 4 * T + h then nI (g (j - 4 * T) - 97) else pat j) ∧ RT T h kd bd ln p r (prs g I h)) := by
  unfold f_X12_readsTest
  refine wp_seq (rt_loop hI hk hk3 hT hf hb) (fun u hu => ?_)
  obtain ⟨h, hh, e1, e2, hp⟩ := hu
  obtain ⟨ua, up, um⟩ := u
  simp only at e1 e2 hp
  subst e1 e2
  have hh0 := hh
  obtain ⟨hh4, hhI, _, _⟩ := hh
  refine wp_mono (P := fun r => RT T h kd bd ln up r (prs g I h)) ?_ (fun r hr => ⟨h, up, hh0, hp, hr⟩)
  dsimp only
  unfold prs
  by_cases h0 : h = 0
  · subst h0
    by_cases c1 : 0 < I ∧ g 0 = 35
    · rw [if_pos (show (0 : Nat) = 0 from rfl), if_pos c1]
      unfold j_X12_readsTest_83 j_X12_readsTest_97 j_X12_readsTest_120 j_X12_readsTest_121
      by_cases c2 : 1 < I ∧ g 1 = 37
      · simp (disch := omega) only [↓reduceIte, if_pos, if_neg, ldA_n, stA_n, pI_add, pI_mul, pI_sub, pI_lt_iff, pI_le_iff, pI_eq_iff, ob_s, upE, upN, pI_dec2, asR_some, bitZ0, bitZ1, Sum.elim_inl, Sum.elim_inr, pL0, pL1, pL2, pL3, pL4, pL5, pL6, pL7, pL8, pL10, pL12, pL15, pL16, pL20, pL21, pL22, pL23, pL29, pL31, pL35, pL37, pL48, pL49, pL50, pL52, pL57, pL94, pL97, pL99, pL100, pL127, pL400, pL1000, pL1023, pL1024, pL2000, pL2001, pL2187, pL4095, pL4096, pL8191, pL8192, pL65535, isAt_t hf hb hI, Nat.zero_add]
        exact rt_139 (x := 0) (c := 1) hI hT hf hb (by omega) (by omega) (by omega) (by omega)
      · have e : prs1 g I 1 1 = .inl 1 := by
          unfold prs1
          rw [if_neg (by omega)]
        rw [e]
        simp (disch := omega) only [↓reduceIte, if_pos, if_neg, ldA_n, stA_n, pI_add, pI_mul, pI_sub, pI_lt_iff, pI_le_iff, pI_eq_iff, ob_s, upE, upN, pI_dec2, asR_some, bitZ0, bitZ1, Sum.elim_inl, Sum.elim_inr, pL0, pL1, pL2, pL3, pL4, pL5, pL6, pL7, pL8, pL10, pL12, pL15, pL16, pL20, pL21, pL22, pL23, pL29, pL31, pL35, pL37, pL48, pL49, pL50, pL52, pL57, pL94, pL97, pL99, pL100, pL127, pL400, pL1000, pL1023, pL1024, pL2000, pL2001, pL2187, pL4095, pL4096, pL8191, pL8192, pL65535, isAt_t hf hb hI, isAt_f hf hb hI, Nat.zero_add, Nat.add_zero]
        exact wp_some ⟨fun t ht => ⟨rfl, rfl, rfl⟩, rfl, rfl, rfl⟩
    · rw [if_pos (show (0 : Nat) = 0 from rfl), if_neg c1]
      simp (disch := omega) only [↓reduceIte, if_pos, if_neg, ldA_n, stA_n, pI_add, pI_mul, pI_sub, pI_lt_iff, pI_le_iff, pI_eq_iff, ob_s, upE, upN, pI_dec2, asR_some, bitZ0, bitZ1, Sum.elim_inl, Sum.elim_inr, pL0, pL1, pL2, pL3, pL4, pL5, pL6, pL7, pL8, pL10, pL12, pL15, pL16, pL20, pL21, pL22, pL23, pL29, pL31, pL35, pL37, pL48, pL49, pL50, pL52, pL57, pL94, pL97, pL99, pL100, pL127, pL400, pL1000, pL1023, pL1024, pL2000, pL2001, pL2187, pL4095, pL4096, pL8191, pL8192, pL65535, isAt_f hf hb hI]
      exact wp_some ⟨fun t ht => ⟨rfl, rfl, rfl⟩, rfl, rfl, rfl⟩
  · rw [if_neg h0]
    unfold j_X12_readsTest_83 j_X12_readsTest_97 j_X12_readsTest_120 j_X12_readsTest_121
    by_cases c2 : h < I ∧ g h = 37
    · simp (disch := omega) only [↓reduceIte, if_pos, if_neg, ldA_n, stA_n, pI_add, pI_mul, pI_sub, pI_lt_iff, pI_le_iff, pI_eq_iff, ob_s, upE, upN, pI_dec2, asR_some, bitZ0, bitZ1, Sum.elim_inl, Sum.elim_inr, pL0, pL1, pL2, pL3, pL4, pL5, pL6, pL7, pL8, pL10, pL12, pL15, pL16, pL20, pL21, pL22, pL23, pL29, pL31, pL35, pL37, pL48, pL49, pL50, pL52, pL57, pL94, pL97, pL99, pL100, pL127, pL400, pL1000, pL1023, pL1024, pL2000, pL2001, pL2187, pL4095, pL4096, pL8191, pL8192, pL65535, isAt_t hf hb hI, isAt_f hf hb hI, Nat.zero_add, Nat.add_zero]
      exact rt_139 (x := 0) (c := 0) hI hT hf hb (by omega) (by omega) (by omega) (by omega)
    · by_cases c3 : h < I ∧ g h = 94
      · simp (disch := omega) only [↓reduceIte, if_pos, if_neg, ldA_n, stA_n, pI_add, pI_mul, pI_sub, pI_lt_iff, pI_le_iff, pI_eq_iff, ob_s, upE, upN, pI_dec2, asR_some, bitZ0, bitZ1, Sum.elim_inl, Sum.elim_inr, pL0, pL1, pL2, pL3, pL4, pL5, pL6, pL7, pL8, pL10, pL12, pL15, pL16, pL20, pL21, pL22, pL23, pL29, pL31, pL35, pL37, pL48, pL49, pL50, pL52, pL57, pL94, pL97, pL99, pL100, pL127, pL400, pL1000, pL1023, pL1024, pL2000, pL2001, pL2187, pL4095, pL4096, pL8191, pL8192, pL65535, isAt_t hf hb hI, isAt_f hf hb hI, Nat.zero_add, Nat.add_zero]
        exact rt_139 (x := 1) (c := 0) hI hT hf hb (by omega) (by omega) (by omega) (by omega)
      · have e : prs1 g I h 0 = .inl h := by
          unfold prs1
          rw [if_neg (by omega)]
        rw [e]
        simp (disch := omega) only [↓reduceIte, if_pos, if_neg, ldA_n, stA_n, pI_add, pI_mul, pI_sub, pI_lt_iff, pI_le_iff, pI_eq_iff, ob_s, upE, upN, pI_dec2, asR_some, bitZ0, bitZ1, Sum.elim_inl, Sum.elim_inr, pL0, pL1, pL2, pL3, pL4, pL5, pL6, pL7, pL8, pL10, pL12, pL15, pL16, pL20, pL21, pL22, pL23, pL29, pL31, pL35, pL37, pL48, pL49, pL50, pL52, pL57, pL94, pL97, pL99, pL100, pL127, pL400, pL1000, pL1023, pL1024, pL2000, pL2001, pL2187, pL4095, pL4096, pL8191, pL8192, pL65535, isAt_t hf hb hI, isAt_f hf hb hI, Nat.zero_add, Nat.add_zero]
        exact wp_some ⟨fun t ht => ⟨rfl, rfl, rfl⟩, rfl, rfl, rfl⟩
theorem ld0 {α β : Type} {f : Nat → α} {n : Nat} {k : α → Option β} (hj : 0 < n) (hn : n < 2 ^ 31) : ldA f n (0 : Int32) k = k (f 0) := ldA_n (j := 0) hj hn
theorem st0 {α β : Type} {f : Nat → α} {n : Nat} {x : α} {k : (Nat → α) → Option β} (hj : 0 < n) (hn : n < 2 ^ 31) : stA f n (0 : Int32) x k = k (va_up f 0 x) := stA_n (j := 0) hj hn
theorem ld1 {α β : Type} {f : Nat → α} {n : Nat} {k : α → Option β} (hj : 1 < n) (hn : n < 2 ^ 31) : ldA f n (1 : Int32) k = k (f 1) := ldA_n (j := 1) hj hn
theorem st1 {α β : Type} {f : Nat → α} {n : Nat} {x : α} {k : (Nat → α) → Option β} (hj : 1 < n) (hn : n < 2 ^ 31) : stA f n (1 : Int32) x k = k (va_up f 1 x) := stA_n (j := 1) hj hn
theorem ld2 {α β : Type} {f : Nat → α} {n : Nat} {k : α → Option β} (hj : 2 < n) (hn : n < 2 ^ 31) : ldA f n (2 : Int32) k = k (f 2) := ldA_n (j := 2) hj hn
theorem st2 {α β : Type} {f : Nat → α} {n : Nat} {x : α} {k : (Nat → α) → Option β} (hj : 2 < n) (hn : n < 2 ^ 31) : stA f n (2 : Int32) x k = k (va_up f 2 x) := stA_n (j := 2) hj hn
theorem ld3 {α β : Type} {f : Nat → α} {n : Nat} {k : α → Option β} (hj : 3 < n) (hn : n < 2 ^ 31) : ldA f n (3 : Int32) k = k (f 3) := ldA_n (j := 3) hj hn
theorem st3 {α β : Type} {f : Nat → α} {n : Nat} {x : α} {k : (Nat → α) → Option β} (hj : 3 < n) (hn : n < 2 ^ 31) : stA f n (3 : Int32) x k = k (va_up f 3 x) := stA_n (j := 3) hj hn
theorem ld4 {α β : Type} {f : Nat → α} {n : Nat} {k : α → Option β} (hj : 4 < n) (hn : n < 2 ^ 31) : ldA f n (4 : Int32) k = k (f 4) := ldA_n (j := 4) hj hn
theorem st4 {α β : Type} {f : Nat → α} {n : Nat} {x : α} {k : (Nat → α) → Option β} (hj : 4 < n) (hn : n < 2 ^ 31) : stA f n (4 : Int32) x k = k (va_up f 4 x) := stA_n (j := 4) hj hn
theorem rd_35 {g : Nat → Nat} {f : Nat → Int32} (hf : ∀ i, i < 3 → f i = nI (g i)) (h35 : g 0 = 35) (hd : 50 ≤ g 2) (hd2 : g 2 ≤ 57) : f_X7_read (nI 3) 8 f = some (nI 1, nI (g 2 - 48), nI (g 2 - 48), nI 0, 0, fun _ => 0) := by
  unfold f_X7_read f_X8_init
  rw [show nI 3 - (1 : Int32) = nI 2 from rfl, ldA_n (by omega) (by omega), ld0 (by omega) (by omega), hf 2 (by omega), hf 0 (by omega), h35, if_pos (show nI 35 = (35 : Int32) from rfl), if_neg (show ¬ (1 : Int32) = 2 by decide), pL48, pI_sub (by omega)]
  rfl
theorem rd_k {g : Nat → Nat} {h : Nat} {f : Nat → Int32} (x : Int32) (w : Nat → Int32) (hf : f h = nI (g h)) (hb : h < 8) (hs : g h = 37 ∨ g h = 94) (d : Nat) : (ldA f 8 (nI h) (fun v30 => if v30 = (37 : Int32) then ((f_X8_init (0 : Int32) (nI d) h).bind (fun w36 => some (w36.1, w36.2.1, w36.2.2.1, w36.2.2.2, h, w))) else ((f_X8_init (2 : Int32) (nI d) h).bind (fun w33 => some (w33.1, w33.2.1, w33.2.2.1, w33.2.2.2, h, w))))) = some (nI (if g h = 37 then 0 else 2), nI d, nI (if g h = 37 then d else d + 1), nI h, h, w) := by
  unfold f_X8_init
  rw [ldA_n hb (by omega), hf]
  rcases hs with e | e
  · rw [e, if_pos (show nI 37 = (37 : Int32) from rfl), if_neg (show ¬ (0 : Int32) = 2 by decide), if_pos rfl, if_pos rfl]
    rfl
  · rw [e, if_neg (show ¬ nI 94 = (37 : Int32) by decide), if_pos (show (2 : Int32) = 2 from rfl), if_neg (by omega), if_neg (by omega), ← show nI d + 1 = nI (d + 1) from pI_add]
    rfl
theorem rd_h {g : Nat → Nat} {h : Nat} {f : Nat → Int32} (h1 : 1 ≤ h) (h4 : h ≤ 4) (hf : ∀ i, i < h + 2 → f i = nI (g i)) (hb : ∀ i, i < h + 2 → g i < 128) (hl : ∀ i, i < h → 97 ≤ g i) (hs : g h = 37 ∨ g h = 94) (hd : 49 ≤ g (h + 1)) : ∃ pt, f_X7_read (nI (h + 2)) 8 f = some (nI (if g h = 37 then 0 else 2), nI (g (h + 1) - 48), nI (if g h = 37 then g (h + 1) - 48 else g (h + 1) - 48 + 1), nI h, h, pt) ∧ ∀ i, i < h → pt i = nI (g i - 97) := by
  have l0 := hl 0 (by omega)
  have b0 := hb 0 (by omega)
  have n35 : ¬ nI (g 0) = (35 : Int32) := fun e => by
    have := pI_inj (b := 35) (show g 0 < 2 ^ 31 by omega) (by omega) e
    omega
  unfold f_X7_read
  rcases (show h = 1 ∨ h = 2 ∨ h = 3 ∨ h = 4 by omega) with rfl | rfl | rfl | rfl
  · have fh := hf 1 (by omega)
    have f0 := hf 0 (by omega)
    have l0 := hl 0 (by omega)
    refine ⟨(va_up (fun _ => (0 : Int32)) 0 (nI (g 0 - 97))), ?_, fun i hi => ?_⟩
    · rw [show nI (1 + 2) - (1 : Int32) = nI (1 + 1) from rfl, show nI (1 + 2) - (2 : Int32) = nI 1 from rfl, ldA_n (by omega) (by omega), ld0 (by omega) (by omega), hf (1 + 1) (by omega), f0, if_neg n35, mkN_n (by omega), pL48, pI_sub (by omega), if_neg (show ¬ Int32.ofNat 1 ≤ (0 : Int32) by decide), ld0 (by omega) (by omega), f0, st0 (by omega) (by omega), if_pos (show Int32.ofNat 1 ≤ (1 : Int32) by decide), rd_k 0 _ fh (by omega) hs]
      rw [pL97, pI_sub l0]
    · rcases (show i = 0 by omega) with rfl
      · rfl
  · have fh := hf 2 (by omega)
    have f0 := hf 0 (by omega)
    have l0 := hl 0 (by omega)
    have f1 := hf 1 (by omega)
    have l1 := hl 1 (by omega)
    refine ⟨(va_up (va_up (fun _ => (0 : Int32)) 0 (nI (g 0 - 97))) 1 (nI (g 1 - 97))), ?_, fun i hi => ?_⟩
    · rw [show nI (2 + 2) - (1 : Int32) = nI (2 + 1) from rfl, show nI (2 + 2) - (2 : Int32) = nI 2 from rfl, ldA_n (by omega) (by omega), ld0 (by omega) (by omega), hf (2 + 1) (by omega), f0, if_neg n35, mkN_n (by omega), pL48, pI_sub (by omega), if_neg (show ¬ Int32.ofNat 2 ≤ (0 : Int32) by decide), ld0 (by omega) (by omega), f0, st0 (by omega) (by omega), if_neg (show ¬ Int32.ofNat 2 ≤ (1 : Int32) by decide), ld1 (by omega) (by omega), f1, st1 (by omega) (by omega), if_pos (show Int32.ofNat 2 ≤ (2 : Int32) by decide), rd_k 0 _ fh (by omega) hs]
      rw [pL97, pI_sub l0, pI_sub l1]
    · rcases (show i = 0 ∨ i = 1 by omega) with rfl | rfl
      · rfl
      · rfl
  · have fh := hf 3 (by omega)
    have f0 := hf 0 (by omega)
    have l0 := hl 0 (by omega)
    have f1 := hf 1 (by omega)
    have l1 := hl 1 (by omega)
    have f2 := hf 2 (by omega)
    have l2 := hl 2 (by omega)
    refine ⟨(va_up (va_up (va_up (fun _ => (0 : Int32)) 0 (nI (g 0 - 97))) 1 (nI (g 1 - 97))) 2 (nI (g 2 - 97))), ?_, fun i hi => ?_⟩
    · rw [show nI (3 + 2) - (1 : Int32) = nI (3 + 1) from rfl, show nI (3 + 2) - (2 : Int32) = nI 3 from rfl, ldA_n (by omega) (by omega), ld0 (by omega) (by omega), hf (3 + 1) (by omega), f0, if_neg n35, mkN_n (by omega), pL48, pI_sub (by omega), if_neg (show ¬ Int32.ofNat 3 ≤ (0 : Int32) by decide), ld0 (by omega) (by omega), f0, st0 (by omega) (by omega), if_neg (show ¬ Int32.ofNat 3 ≤ (1 : Int32) by decide), ld1 (by omega) (by omega), f1, st1 (by omega) (by omega), if_neg (show ¬ Int32.ofNat 3 ≤ (2 : Int32) by decide), ld2 (by omega) (by omega), f2, st2 (by omega) (by omega), if_pos (show Int32.ofNat 3 ≤ (3 : Int32) by decide), rd_k 0 _ fh (by omega) hs]
      rw [pL97, pI_sub l0, pI_sub l1, pI_sub l2]
    · rcases (show i = 0 ∨ i = 1 ∨ i = 2 by omega) with rfl | rfl | rfl
      · rfl
      · rfl
      · rfl
  · have fh := hf 4 (by omega)
    have f0 := hf 0 (by omega)
    have l0 := hl 0 (by omega)
    have f1 := hf 1 (by omega)
    have l1 := hl 1 (by omega)
    have f2 := hf 2 (by omega)
    have l2 := hl 2 (by omega)
    have f3 := hf 3 (by omega)
    have l3 := hl 3 (by omega)
    refine ⟨(va_up (va_up (va_up (va_up (fun _ => (0 : Int32)) 0 (nI (g 0 - 97))) 1 (nI (g 1 - 97))) 2 (nI (g 2 - 97))) 3 (nI (g 3 - 97))), ?_, fun i hi => ?_⟩
    · rw [show nI (4 + 2) - (1 : Int32) = nI (4 + 1) from rfl, show nI (4 + 2) - (2 : Int32) = nI 4 from rfl, ldA_n (by omega) (by omega), ld0 (by omega) (by omega), hf (4 + 1) (by omega), f0, if_neg n35, mkN_n (by omega), pL48, pI_sub (by omega), if_neg (show ¬ Int32.ofNat 4 ≤ (0 : Int32) by decide), ld0 (by omega) (by omega), f0, st0 (by omega) (by omega), if_neg (show ¬ Int32.ofNat 4 ≤ (1 : Int32) by decide), ld1 (by omega) (by omega), f1, st1 (by omega) (by omega), if_neg (show ¬ Int32.ofNat 4 ≤ (2 : Int32) by decide), ld2 (by omega) (by omega), f2, st2 (by omega) (by omega), if_neg (show ¬ Int32.ofNat 4 ≤ (3 : Int32) by decide), ld3 (by omega) (by omega), f3, st3 (by omega) (by omega), if_pos (show Int32.ofNat 4 ≤ (4 : Int32) by decide), rd_k 0 _ fh (by omega) hs]
      rw [pL97, pI_sub l0, pI_sub l1, pI_sub l2, pI_sub l3]
    · rcases (show i = 0 ∨ i = 1 ∨ i = 2 ∨ i = 3 by omega) with rfl | rfl | rfl | rfl
      · rfl
      · rfl
      · rfl
      · rfl
/-- what the class's parser answers -/
def RC (h : Nat) (g : Nat → Nat) (x : Int32 × Int32 × Int32 × Int32 × Nat × (Nat → Int32)) (q : Nat × Nat) : Prop := x.1 = nI q.1 ∧ x.2.1 = nI q.2 ∧ x.2.2.1 = nI (if q.1 = 2 then q.2 + 1 else q.2) ∧ x.2.2.2.1 = nI h ∧ x.2.2.2.2.1 = h ∧ q.2 ≤ 9 ∧ ((q.1 = 1 ∧ h = 0 ∧ 2 ≤ q.2) ∨ (q.1 = 0 ∧ 1 ≤ h ∧ h ≤ 4 ∧ 2 ≤ q.2) ∨ (q.1 = 2 ∧ 1 ≤ h ∧ h ≤ 4 ∧ 1 ≤ q.2)) ∧ ∀ i, i < h → x.2.2.2.2.2 i = nI (g i - 97)
theorem prs1_c {g : Nat → Nat} {I s k : Nat} : (∃ e, prs1 g I s k = .inl e ∧ e ≤ s + 2) ∨ (I = s + 2 ∧ (g s = 37 ∨ (g s = 94 ∧ k = 0)) ∧ (if g s = 37 then 50 else 49) ≤ g (s + 1) ∧ g (s + 1) ≤ 57 ∧ prs1 g I s k = .inr (if g s = 37 then k else 2, g (s + 1) - 48)) := by
  unfold prs1
  by_cases c1 : s < I ∧ (g s = 37 ∨ (g s = 94 ∧ k = 0))
  · rw [if_pos c1]
    by_cases c2 : s + 1 < I ∧ (if g s = 37 then 50 else 49) ≤ g (s + 1) ∧ g (s + 1) ≤ 57
    · rw [if_pos c2]
      by_cases c3 : s + 2 < I
      · rw [if_pos c3]
        exact Or.inl ⟨_, rfl, by omega⟩
      · rw [if_neg c3]
        exact Or.inr ⟨by omega, c1.2, c2.2.1, c2.2.2, rfl⟩
    · rw [if_neg c2]
      exact Or.inl ⟨_, rfl, by omega⟩
  · rw [if_neg c1]
    exact Or.inl ⟨_, rfl, by omega⟩
theorem rc_ok {g : Nat → Nat} {I k h : Nat} {f : Nat → Int32} (hI : I ≤ 8) (hk3 : k ≤ 3) (hf : ∀ i, i < I → f i = nI (g i)) (hb : ∀ i, i < I → g i < 128) (hh : HL g I k h) : f_X7_errorAt (nI I) (nI k) 8 f = some (Sum.elim (fun x => nI x) (fun _ => -nI 1) (prs g I h)) ∧ (∀ e, prs g I h = .inl e → e ≤ 8) ∧ ∀ q, prs g I h = .inr q → ∃ x, f_X7_read (nI I) 8 f = some x ∧ RC h g x q := by
  have hh0 := hh
  obtain ⟨hh4, hhI, hl, _⟩ := hh
  by_cases c35 : 0 < I ∧ g 0 = 35
  · have h0 : h = 0 := by
      refine Nat.eq_zero_of_not_pos (fun h0 => ?_)
      have := hl 0 h0
      omega
    subst h0
    have ep : prs g I 0 = prs1 g I 1 1 := by
      unfold prs
      rw [if_pos rfl, if_pos c35]
    rw [ep]
    refine ⟨err_ok (c := 1) hI hf hb (by omega) (by omega) (by omega) (head_35 hI hf c35.1 c35.2), fun e he => ?_, fun q hq => ?_⟩
    · rcases prs1_c (g := g) (I := I) (s := 1) (k := 1) with ⟨e', h1, h2⟩ | ⟨_, _, _, _, h1⟩
      · rw [h1] at he
        cases he
        omega
      · rw [h1] at he
        cases he
    · rcases prs1_c (g := g) (I := I) (s := 1) (k := 1) with ⟨e', h1, h2⟩ | ⟨a1, a2, a3, a4, h1⟩
      · rw [h1] at hq
        cases hq
      · rw [h1] at hq
        subst a1
        have e37 : g 1 = 37 := by omega
        rw [if_pos e37] at a3 hq
        cases hq
        have a3 : 50 ≤ g 2 := a3
        have a4 : g 2 ≤ 57 := a4
        exact ⟨_, rd_35 hf c35.2 a3 a4, rfl, rfl, rfl, rfl, rfl, by show g 2 - 48 ≤ 9; omega, Or.inl ⟨rfl, rfl, by show 2 ≤ g 2 - 48; omega⟩, fun i hi => by omega⟩
  · obtain ⟨h', hh', e⟩ := head_ok (k := k) hI hk3 hf hb c35
    have := HL_un hh0 hh'
    subst this
    by_cases h0 : h = 0
    · subst h0
      have ep : prs g I 0 = .inl 0 := by
        unfold prs
        rw [if_pos rfl, if_neg c35]
      rw [ep]
      refine ⟨?_, fun e he => ?_, fun q hq => ?_⟩
      · unfold f_X7_errorAt
        rw [e]
        rfl
      · cases he; omega
      · cases hq
    · have ep : prs g I h = prs1 g I h 0 := by
        unfold prs
        rw [if_neg h0]
      have g0 := hl 0 (by omega)
      rw [ep]
      refine ⟨err_ok (c := 0) hI hf hb (by omega) (by omega) (by omega) e, fun e he => ?_, fun q hq => ?_⟩
      · rcases prs1_c (g := g) (I := I) (s := h) (k := 0) with ⟨e', h1, h2⟩ | ⟨_, _, _, _, h1⟩
        · rw [h1] at he
          cases he
          omega
        · rw [h1] at he
          cases he
      · rcases prs1_c (g := g) (I := I) (s := h) (k := 0) with ⟨e', h1, h2⟩ | ⟨a1, a2, a3, a4, h1⟩
        · rw [h1] at hq
          cases hq
        · rw [h1] at hq
          subst a1
          by_cases e37 : g h = 37
          · rw [if_pos e37] at a3 hq
            cases hq
            obtain ⟨pt, r1, r2⟩ := rd_h (by omega) hh4 hf hb (fun i hi => (hl i hi).1) (Or.inl e37) (by omega)
            rw [if_pos e37, if_pos e37] at r1
            exact ⟨_, r1, rfl, rfl, rfl, rfl, rfl, by show g (h + 1) - 48 ≤ 9; omega, Or.inr (Or.inl ⟨rfl, by omega, hh4, by show 2 ≤ g (h + 1) - 48; omega⟩), r2⟩
          · rw [if_neg e37] at a3 hq
            cases hq
            obtain ⟨pt, r1, r2⟩ := rd_h (by omega) hh4 hf hb (fun i hi => (hl i hi).1) (by omega) (by omega)
            rw [if_neg e37, if_neg e37] at r1
            exact ⟨_, r1, rfl, rfl, rfl, rfl, rfl, by show g (h + 1) - 48 ≤ 9; omega, Or.inr (Or.inr ⟨rfl, by omega, hh4, by show 1 ≤ g (h + 1) - 48; omega⟩), r2⟩
/-- what addTest leaves -/
def ATR (tq : Nat → Option TV) (cnt ts : Int32) (mb : Nat → Option Nat) (f g : Nat → Int32) (o : Int32 × Int32 × Int32 × ((Nat → Nat) → Nat → Option Nat) × (Option (Int32 × Int32 × Int32 × Int32 × Nat × (Nat → Int32)))) (m : Int32 × Int32 × Int32 × Int32 × (Nat → Int32) × (Nat → Int32) × (Nat → Int32) × (Nat → Int32)) : Prop :=
  InputR o.2.1 f m.2.2.1 g ∧ ((o.2.2.2.2 = none ∧ o.2.2.1 = cnt ∧ (∀ u, o.2.2.2.1 u = mb) ∧ TestsR tq cnt mb m.2.1 m.2.2.2.2.1 m.2.2.2.2.2.1 m.2.2.2.2.2.2.1 m.2.2.2.2.2.2.2) ∨
  ∃ x T k b l, o.2.2.2.2 = some x ∧ T < 6 ∧ o.2.2.1 = nI (T + 1) ∧ (∀ u, o.2.2.2.1 u = va_up mb T (some (u 0))) ∧ m.2.1 = nI (T + 1) ∧ MemOK tq mb ∧ (∀ t, t < T → TestR tq (mb t) (m.2.2.2.2.1 t) (m.2.2.2.2.2.1 t) (m.2.2.2.2.2.2.1 t) (fun i => m.2.2.2.2.2.2.2 (4 * t + i))) ∧ (∀ p q, TestOK (x.1, x.2.1, x.2.2.1, x.2.2.2.1, p, x.2.2.2.2.1, q) k b l) ∧ m.2.2.2.2.1 T = nI k ∧ m.2.2.2.2.2.1 T = nI b ∧ m.2.2.2.2.2.2.1 T = nI l ∧ ∀ i, i < l → x.2.2.2.2.2 i = m.2.2.2.2.2.2.2 (4 * T + i))
theorem p_addTest {tq : Nat → Option TV} {a b at_ cnt ts le le' : Int32} {mb : Nat → Option Nat} {f g kd bd ln pt : Nat → Int32} (hIn : InputR a f b g) (hL : LetR le le') (hT : TestsR tq cnt mb ts kd bd ln pt) : W2 (f_X11_addTest le f a cnt mb) (f_X12_addTest g le' ts b at_ kd bd ln pt) (fun o m => o.1 = m.1 ∧ ATR tq cnt ts mb f g o m) := by
  have hIn0 := hIn
  have hT0 := hT
  obtain ⟨I, hI, rfl, rfl, hfg⟩ := hIn
  obtain ⟨k, hk1, hk3, rfl, rfl⟩ := hL
  obtain ⟨⟨T, hT6, rfl, rfl, ht⟩, hM⟩ := hT
  obtain ⟨G, hG⟩ : ∃ G : Nat → Nat, ∀ i, i < I → f i = nI (G i) ∧ G i < 128 := ⟨fun i => (f i).toNatClampNeg, fun i hi => by
    obtain ⟨_, x, e, hx⟩ := hfg i hi
    show f i = nI (f i).toNatClampNeg ∧ (f i).toNatClampNeg < 128
    rw [e, nI_clamp (by omega)]
    exact ⟨rfl, hx⟩⟩
  have hf : ∀ i, i < I → f i = nI (G i) := fun i hi => (hG i hi).1
  have hg : ∀ i, i < I → g i = nI (G i) := fun i hi => by rw [← (hfg i hi).1]; exact hf i hi
  have hb : ∀ i, i < I → G i < 128 := fun i hi => (hG i hi).2
  unfold f_X11_addTest f_X12_addTest
  by_cases h6 : T = 6
  · subst h6
    simp (disch := omega) only [↓reduceIte, if_pos, if_neg, ldA_n, stA_n, pI_add, pI_mul, pI_sub, pI_lt_iff, pI_le_iff, pI_eq_iff, ob_s, upE, upN, pI_dec2, asR_some, bitZ0, bitZ1, Sum.elim_inl, Sum.elim_inr, pL0, pL1, pL2, pL3, pL4, pL5, pL6, pL7, pL8, pL10, pL12, pL15, pL16, pL20, pL21, pL22, pL23, pL29, pL31, pL35, pL37, pL48, pL49, pL50, pL52, pL57, pL94, pL97, pL99, pL100, pL127, pL400, pL1000, pL1023, pL1024, pL2000, pL2001, pL2187, pL4095, pL4096, pL8191, pL8192, pL65535]
    exact w2_s ⟨rfl, hIn0, Or.inl ⟨rfl, rfl, fun _ => rfl, hT0⟩⟩
  · rw [if_pos (show nI T < (6 : Int32) from (pI_lt_iff (b := 6) (by omega) (by omega)).mpr (by omega)), if_neg (show ¬ nI T = (6 : Int32) from fun h => h6 (pI_inj (by omega) (by omega) h))]
    refine w2_r (rt_ok hI hk1 hk3 (by omega) hg hb) (fun r hr => ?_)
    obtain ⟨h, p, hh, hp, fr1, fr2, hr⟩ := hr
    obtain ⟨rc1, rc2, rc3⟩ := rc_ok hI hk3 hf hb hh
    obtain ⟨r1, r2, r3, r4, r5, r6⟩ := r
    simp only at fr1 fr2 hr
    subst fr2
    have hfr : ∀ t, t < T → TestR tq (mb t) (r3 t) (r4 t) (r5 t) (fun i => r6 (4 * t + i)) := fun t ht' => TestR_fr (ht t ht') (fr1 t (by omega)).1 (fr1 t (by omega)).2.1 (fr1 t (by omega)).2.2 (fun i hi => by show r6 (4 * t + i) = pt (4 * t + i); rw [hp, if_neg (by omega)])
    have hIn1 : InputR (0 : Int32) f (0 : Int32) g := ⟨0, by omega, rfl, rfl, fun i hi => by omega⟩
    rw [rc1]
    cases hprs : prs G I h with
    | inl e =>
      rw [hprs] at hr
      obtain ⟨e1, e2⟩ := hr
      subst e1 e2
      have he := rc2 e hprs
      simp (disch := omega) only [↓reduceIte, if_pos, if_neg, ldA_n, stA_n, pI_add, pI_mul, pI_sub, pI_lt_iff, pI_le_iff, pI_eq_iff, ob_s, upE, upN, pI_dec2, asR_some, bitZ0, bitZ1, Sum.elim_inl, Sum.elim_inr, pL0, pL1, pL2, pL3, pL4, pL5, pL6, pL7, pL8, pL10, pL12, pL15, pL16, pL20, pL21, pL22, pL23, pL29, pL31, pL35, pL37, pL48, pL49, pL50, pL52, pL57, pL94, pL97, pL99, pL100, pL127, pL400, pL1000, pL1023, pL1024, pL2000, pL2001, pL2187, pL4095, pL4096, pL8191, pL8192, pL65535, pI_nneg]
      exact w2_s ⟨rfl, hIn1, Or.inl ⟨rfl, rfl, fun _ => rfl, ⟨T, by omega, rfl, rfl, hfr⟩, hM⟩⟩
    | inr q =>
      rw [hprs] at hr
      obtain ⟨e1, e2, e3, e4⟩ := hr
      subst e1
      obtain ⟨x, x1, x2⟩ := rc3 q hprs
      obtain ⟨q1, q2, q3, q4, q5, q6, q7, q8⟩ := x2
      unfold f_X1_add
      have m1 : -nI 1 < nI 0 := by decide
      simp (disch := omega) only [↓reduceIte, if_pos, if_neg, ldA_n, stA_n, pI_add, pI_mul, pI_sub, pI_lt_iff, pI_le_iff, pI_eq_iff, ob_s, upE, upN, pI_dec2, asR_some, bitZ0, bitZ1, Sum.elim_inl, Sum.elim_inr, pL0, pL1, pL2, pL3, pL4, pL5, pL6, pL7, pL8, pL10, pL12, pL15, pL16, pL20, pL21, pL22, pL23, pL29, pL31, pL35, pL37, pL48, pL49, pL50, pL52, pL57, pL94, pL97, pL99, pL100, pL127, pL400, pL1000, pL1023, pL1024, pL2000, pL2001, pL2187, pL4095, pL4096, pL8191, pL8192, pL65535, x1, m1]
      refine w2_s ⟨rfl, hIn1, Or.inr ⟨x, T, q.1, q.2, h, rfl, by omega, rfl, fun u => ?_, rfl, hM, hfr, fun p q' => ⟨q1, q2, q3, q4, q5, q6, q7⟩, e2, e3, e4, fun i hi => ?_⟩⟩
      · show addM (nI T) mb (u 0) = _
        unfold addM
        rw [if_neg (show ¬ (8 : Int32) ≤ nI T from fun h => by have := (pI_le_iff (a := 8) (by omega) (by omega)).mp h; omega), nI_clamp (by omega)]
      · show x.2.2.2.2.2 i = r6 (4 * T + i)
        have := hh.1
        rw [q8 i hi, hp, if_pos (by omega), Nat.add_sub_cancel_left]
