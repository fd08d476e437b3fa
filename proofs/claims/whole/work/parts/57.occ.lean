set_option linter.unusedVariables false
/-! occurrences, separate -/
/-- how often the first j letters of p occur in the first k letters of t -/
def occN (p t : Nat → Int32) : Nat → Nat → Nat
  | 0, j => if j = 0 then 1 else 0
  | k + 1, j => occN p t k j + (if 0 < j ∧ p (j - 1) = t k then occN p t k (j - 1) else 0)
theorem occN_s {p t : Nat → Int32} {k j : Nat} : occN p t (k + 1) j = occN p t k j + (if 0 < j ∧ p (j - 1) = t k then occN p t k (j - 1) else 0) := rfl
theorem occN_0 {p t : Nat → Int32} {k : Nat} : occN p t k 0 = 1 := by
  induction k with
  | zero => rfl
  | succ k ih => rw [occN_s, if_neg (by omega), ih]
theorem occN_le {p t : Nat → Int32} {k j : Nat} : occN p t k j ≤ 2 ^ k := by
  induction k generalizing j with
  | zero =>
    show (if j = 0 then 1 else 0) ≤ 1
    by_cases h : j = 0
    · rw [if_pos h]; omega
    · rw [if_neg h]; omega
  | succ k ih =>
    rw [occN_s, Nat.pow_succ]
    have h1 := ih (j := j)
    have h2 := ih (j := j - 1)
    by_cases h : 0 < j ∧ p (j - 1) = t k
    · rw [if_pos h]; omega
    · rw [if_neg h]; omega
theorem occN_b {p t : Nat → Int32} {k j : Nat} (h : k ≤ 12) : occN p t k j ≤ 4096 := Nat.le_trans occN_le (Nat.pow_le_pow_right (by omega) h)
theorem occN_congr {p p' t t' : Nat → Int32} {m L : Nat} (hp : ∀ i, i < m → p i = p' i) (ht : ∀ i, i < L → t i = t' i) : ∀ j, j ≤ m → occN p t L j = occN p' t' L j := by
  induction L with
  | zero => intro j _; rfl
  | succ k ih =>
    intro j hj
    have ih := ih (fun i hi => ht i (by omega))
    rw [occN_s, occN_s, ih j hj, ih (j - 1) (by omega), ht k (by omega)]
    by_cases h0 : 0 < j
    · rw [hp (j - 1) (by omega)]
    · rw [if_neg (by omega), if_neg (by omega)]
theorem occ_upd {p t : Nat → Int32} {k i L : Nat} {f g : Nat → Int32} (h0 : 0 < i) (hf : ∀ j, j ≤ L → f j = nI (if i < j then occN p t (k + 1) j else occN p t k j)) (hg : ∀ j, j ≠ i → g j = f j) (hi : g i = nI (occN p t (k + 1) i)) : ∀ j, j ≤ L → g j = nI (if i - 1 < j then occN p t (k + 1) j else occN p t k j) := by
  intro j hj
  by_cases h : j = i
  · rw [h, hi, if_pos (by omega)]
  · rw [hg j h, hf j hj]
    by_cases h1 : i < j
    · rw [if_pos h1, if_pos (by omega)]
    · rw [if_neg h1, if_neg (by omega)]
theorem occ1_in {p t ws : Nat → Int32} {L k : Nat} (hL : L ≤ 12) (hk : k < 12) (hw : ∀ j, j ≤ L → ws j = nI (occN p t k j)) : Wp (loopN (fun v => b_X9_occurrencesIn_30 p t (nI k) v.1 v.2) FU (ws, nI L)) (fun u => ∀ j, j ≤ L → u j = nI (occN p t (k + 1) j)) := by
  refine wp_dn (fun i v => v.2 = nI i ∧ ∀ j, j ≤ L → v.1 j = nI (if i < j then occN p t (k + 1) j else occN p t k j)) 0 L ⟨rfl, fun j hj => by rw [if_neg (by omega)]; exact hw j hj⟩ (by omega) (by omega) ?_ ?_
  · rintro i ⟨f, x⟩ h1 h2 ⟨hx, hf⟩
    simp only at hx hf
    subst hx
    have e1 : f i = nI (occN p t k i) := by rw [hf i h2, if_neg (by omega)]
    have e2 : f (i - 1) = nI (occN p t k (i - 1)) := by rw [hf (i - 1) (by omega), if_neg (by omega)]
    show Wp (b_X9_occurrencesIn_30 p t (nI k) f (nI i)) _
    unfold b_X9_occurrencesIn_30
    simp (disch := omega) only [↓reduceIte, if_pos, if_neg, ldA_n, stA_n, pI_add, pI_mul, pI_sub, pI_lt_iff, pI_le_iff, pI_eq_iff, ob_s, upE, upN, pI_dec2, asR_some, bitZ0, bitZ1, Sum.elim_inl, Sum.elim_inr, pL0, pL1, pL2, pL3, pL4, pL5, pL6, pL7, pL8, pL10, pL12, pL15, pL16, pL20, pL21, pL22, pL23, pL29, pL31, pL35, pL37, pL48, pL49, pL50, pL52, pL57, pL94, pL97, pL99, pL100, pL127, pL400, pL1000, pL1023, pL1024, pL2000, pL2001, pL2187, pL4095, pL4096, pL8191, pL8192, pL65535, e1, e2]
    refine wp_if (fun e => wp_l ⟨rfl, ?_⟩) (fun e => wp_l ⟨rfl, ?_⟩)
    · refine occ_upd h1 hf (fun j hj => upN hj) ?_
      show va_up f i _ i = _
      rw [upE rfl, occN_s, if_pos ⟨h1, e⟩]
    · refine occ_upd h1 hf (fun j hj => rfl) ?_
      show f i = _
      rw [e1, occN_s, if_neg (fun h => e h.2), Nat.add_zero]
  · rintro ⟨f, x⟩ ⟨hx, hf⟩
    simp only at hx hf
    subst hx
    show Wp (b_X9_occurrencesIn_30 p t (nI k) f (nI 0)) _
    unfold b_X9_occurrencesIn_30
    rw [if_pos (show nI 0 < (1 : Int32) by decide)]
    refine wp_r (fun j hj => ?_)
    rw [hf j hj]
    by_cases h : 0 < j
    · rw [if_pos h]
    · rw [if_neg h, show j = 0 by omega, occN_0, occN_0]
theorem occ1_ok {p t ws : Nat → Int32} {L1 L2 : Nat} (h1 : L1 ≤ 12) (h2 : L2 ≤ 12) : Wp (f_X9_occurrencesIn (nI L1) (nI L2) p t ws) (fun o => o.1 = nI (occN p t L2 L1)) := by
  unfold f_X9_occurrencesIn
  refine wp_seq (fill_ok (by omega)) (fun u hu => ?_)
  simp (disch := omega) only [↓reduceIte, if_pos, if_neg, ldA_n, stA_n, pI_add, pI_mul, pI_sub, pI_lt_iff, pI_le_iff, pI_eq_iff, ob_s, upE, upN, pI_dec2, asR_some, bitZ0, bitZ1, Sum.elim_inl, Sum.elim_inr, pL0, pL1, pL2, pL3, pL4, pL5, pL6, pL7, pL8, pL10, pL12, pL15, pL16, pL20, pL21, pL22, pL23, pL29, pL31, pL35, pL37, pL48, pL49, pL50, pL52, pL57, pL94, pL97, pL99, pL100, pL127, pL400, pL1000, pL1023, pL1024, pL2000, pL2001, pL2187, pL4095, pL4096, pL8191, pL8192, pL65535]
  refine wp_seq (Q := fun u => ∀ j, j ≤ L1 → u j = nI (occN p t L2 j)) ?_ (fun v hv => ?_)
  · refine wp_up (fun k v => v.2 = nI k ∧ ∀ j, j ≤ L1 → v.1 j = nI (occN p t k j)) 0 L2 ⟨rfl, fun j hj => ?_⟩ (by omega) (by omega) ?_ ?_
    · show va_up u 0 (nI 1) j = nI (if j = 0 then 1 else 0)
      by_cases h : j = 0
      · rw [upE h, if_pos h]
      · rw [upN h, if_neg h, hu.1 j (by omega)]
        rfl
    · rintro k ⟨f, x⟩ h3 h4 ⟨hx, hf⟩
      simp only at hx hf
      subst hx
      show Wp (b_X9_occurrencesIn_17 (nI L1) (nI L2) p t f (nI k)) _
      unfold b_X9_occurrencesIn_17
      simp (disch := omega) only [↓reduceIte, if_pos, if_neg, ldA_n, stA_n, pI_add, pI_mul, pI_sub, pI_lt_iff, pI_le_iff, pI_eq_iff, ob_s, upE, upN, pI_dec2, asR_some, bitZ0, bitZ1, Sum.elim_inl, Sum.elim_inr, pL0, pL1, pL2, pL3, pL4, pL5, pL6, pL7, pL8, pL10, pL12, pL15, pL16, pL20, pL21, pL22, pL23, pL29, pL31, pL35, pL37, pL48, pL49, pL50, pL52, pL57, pL94, pL97, pL99, pL100, pL127, pL400, pL1000, pL1023, pL1024, pL2000, pL2001, pL2187, pL4095, pL4096, pL8191, pL8192, pL65535]
      exact wp_seq (occ1_in h1 (by omega) hf) (fun w hw => wp_l ⟨rfl, hw⟩)
    · rintro ⟨f, x⟩ ⟨hx, hf⟩
      simp only at hx hf
      subst hx
      show Wp (b_X9_occurrencesIn_17 (nI L1) (nI L2) p t f (nI L2)) _
      unfold b_X9_occurrencesIn_17
      simp (disch := omega) only [↓reduceIte, if_pos, if_neg, ldA_n, stA_n, pI_add, pI_mul, pI_sub, pI_lt_iff, pI_le_iff, pI_eq_iff, ob_s, upE, upN, pI_dec2, asR_some, bitZ0, bitZ1, Sum.elim_inl, Sum.elim_inr, pL0, pL1, pL2, pL3, pL4, pL5, pL6, pL7, pL8, pL10, pL12, pL15, pL16, pL20, pL21, pL22, pL23, pL29, pL31, pL35, pL37, pL48, pL49, pL50, pL52, pL57, pL94, pL97, pL99, pL100, pL127, pL400, pL1000, pL1023, pL1024, pL2000, pL2001, pL2187, pL4095, pL4096, pL8191, pL8192, pL65535]
      exact wp_r hf
  · exact wp_some (hv L1 (Nat.le_refl _))
theorem occ2_in {p wd ws : Nat → Int32} {n o L w k : Nat} (hL : L ≤ 12) (ho : o + L ≤ n) (hn : n < 1000) (hw3 : w < 3) (hk : k < 12) (hw : ∀ j, j ≤ L → ws j = nI (occN (fun i => p (o + i)) (fun i => wd (12 * w + i)) k j)) : Wp (loopN (fun v => b_X12_occurrencesIn_50 n p wd (nI o) (nI w) (nI k) v.1 v.2) FU (ws, nI L)) (fun u => ∀ j, j ≤ L → u j = nI (occN (fun i => p (o + i)) (fun i => wd (12 * w + i)) (k + 1) j)) := by
  refine wp_dn (fun i v => v.2 = nI i ∧ ∀ j, j ≤ L → v.1 j = nI (if i < j then occN (fun i => p (o + i)) (fun i => wd (12 * w + i)) (k + 1) j else occN (fun i => p (o + i)) (fun i => wd (12 * w + i)) k j)) 0 L ⟨rfl, fun j hj => by rw [if_neg (by omega)]; exact hw j hj⟩ (by omega) (by omega) ?_ ?_
  · rintro i ⟨f, x⟩ h1 h2 ⟨hx, hf⟩
    simp only at hx hf
    subst hx
    have e1 : f i = nI (occN (fun i => p (o + i)) (fun i => wd (12 * w + i)) k i) := by rw [hf i h2, if_neg (by omega)]
    have e2 : f (i - 1) = nI (occN (fun i => p (o + i)) (fun i => wd (12 * w + i)) k (i - 1)) := by rw [hf (i - 1) (by omega), if_neg (by omega)]
    have e3 : o + i - 1 = o + (i - 1) := by omega
    show Wp (b_X12_occurrencesIn_50 n p wd (nI o) (nI w) (nI k) f (nI i)) _
    unfold b_X12_occurrencesIn_50
    simp (disch := omega) only [↓reduceIte, if_pos, if_neg, ldA_n, stA_n, pI_add, pI_mul, pI_sub, pI_lt_iff, pI_le_iff, pI_eq_iff, ob_s, upE, upN, pI_dec2, asR_some, bitZ0, bitZ1, Sum.elim_inl, Sum.elim_inr, pL0, pL1, pL2, pL3, pL4, pL5, pL6, pL7, pL8, pL10, pL12, pL15, pL16, pL20, pL21, pL22, pL23, pL29, pL31, pL35, pL37, pL48, pL49, pL50, pL52, pL57, pL94, pL97, pL99, pL100, pL127, pL400, pL1000, pL1023, pL1024, pL2000, pL2001, pL2187, pL4095, pL4096, pL8191, pL8192, pL65535, e1, e2, e3]
    refine wp_if (fun e => wp_l ⟨rfl, ?_⟩) (fun e => wp_l ⟨rfl, ?_⟩)
    · refine occ_upd h1 hf (fun j hj => upN hj) ?_
      show va_up f i _ i = _
      rw [upE rfl, occN_s, if_pos ⟨h1, e⟩]
    · refine occ_upd h1 hf (fun j hj => upN hj) ?_
      show va_up f i _ i = _
      rw [upE rfl, occN_s, if_neg (fun h => e h.2)]
  · rintro ⟨f, x⟩ ⟨hx, hf⟩
    simp only at hx hf
    subst hx
    show Wp (b_X12_occurrencesIn_50 n p wd (nI o) (nI w) (nI k) f (nI 0)) _
    unfold b_X12_occurrencesIn_50
    simp (disch := omega) only [↓reduceIte, if_pos, if_neg, ldA_n, stA_n, pI_add, pI_mul, pI_sub, pI_lt_iff, pI_le_iff, pI_eq_iff, ob_s, upE, upN, pI_dec2, asR_some, bitZ0, bitZ1, Sum.elim_inl, Sum.elim_inr, pL0, pL1, pL2, pL3, pL4, pL5, pL6, pL7, pL8, pL10, pL12, pL15, pL16, pL20, pL21, pL22, pL23, pL29, pL31, pL35, pL37, pL48, pL49, pL50, pL52, pL57, pL94, pL97, pL99, pL100, pL127, pL400, pL1000, pL1023, pL1024, pL2000, pL2001, pL2187, pL4095, pL4096, pL8191, pL8192, pL65535]
    refine wp_r (fun j hj => ?_)
    rw [hf j hj]
    by_cases h : 0 < j
    · rw [if_pos h]
    · rw [if_neg h, show j = 0 by omega, occN_0, occN_0]
theorem occ2_ok {p wl wd ws : Nat → Int32} {n o L w L2 : Nat} (hL : L ≤ 12) (ho : o + L ≤ n) (hn : n < 1000) (hw3 : w < 3) (hl : wl w = nI L2) (h2 : L2 ≤ 12) : Wp (f_X12_occurrencesIn (nI o) (nI L) (nI w) n p wl wd ws) (fun r => r.1 = nI (occN (fun i => p (o + i)) (fun i => wd (12 * w + i)) L2 L)) := by
  unfold f_X12_occurrencesIn
  refine wp_seq (Q := fun g => ∀ j, j ≤ L → g j = nI (if j = 0 then 1 else 0)) (wp_fill 0 0 (L + 1) (fun j => nI (if j = 0 then 1 else 0)) (by omega) (by omega) (fun i f h3 h4 hf => ?_) (fun f hf => ?_)) (fun u hu => ?_)
  · show b_X12_occurrencesIn_3 n (nI L) f (nI i) = _
    unfold b_X12_occurrencesIn_3
    by_cases h : i = 0
    · subst h
      simp (disch := omega) only [↓reduceIte, if_pos, if_neg, ldA_n, stA_n, pI_add, pI_mul, pI_sub, pI_lt_iff, pI_le_iff, pI_eq_iff, ob_s, upE, upN, pI_dec2, asR_some, bitZ0, bitZ1, Sum.elim_inl, Sum.elim_inr, pL0, pL1, pL2, pL3, pL4, pL5, pL6, pL7, pL8, pL10, pL12, pL15, pL16, pL20, pL21, pL22, pL23, pL29, pL31, pL35, pL37, pL48, pL49, pL50, pL52, pL57, pL94, pL97, pL99, pL100, pL127, pL400, pL1000, pL1023, pL1024, pL2000, pL2001, pL2187, pL4095, pL4096, pL8191, pL8192, pL65535, Nat.zero_add]
    · simp (disch := omega) only [↓reduceIte, if_pos, if_neg, ldA_n, stA_n, pI_add, pI_mul, pI_sub, pI_lt_iff, pI_le_iff, pI_eq_iff, ob_s, upE, upN, pI_dec2, asR_some, bitZ0, bitZ1, Sum.elim_inl, Sum.elim_inr, pL0, pL1, pL2, pL3, pL4, pL5, pL6, pL7, pL8, pL10, pL12, pL15, pL16, pL20, pL21, pL22, pL23, pL29, pL31, pL35, pL37, pL48, pL49, pL50, pL52, pL57, pL94, pL97, pL99, pL100, pL127, pL400, pL1000, pL1023, pL1024, pL2000, pL2001, pL2187, pL4095, pL4096, pL8191, pL8192, pL65535, Nat.zero_add]
  · show Wp (b_X12_occurrencesIn_3 n (nI L) f (nI (L + 1))) _
    unfold b_X12_occurrencesIn_3
    simp (disch := omega) only [↓reduceIte, if_pos, if_neg, ldA_n, stA_n, pI_add, pI_mul, pI_sub, pI_lt_iff, pI_le_iff, pI_eq_iff, ob_s, upE, upN, pI_dec2, asR_some, bitZ0, bitZ1, Sum.elim_inl, Sum.elim_inr, pL0, pL1, pL2, pL3, pL4, pL5, pL6, pL7, pL8, pL10, pL12, pL15, pL16, pL20, pL21, pL22, pL23, pL29, pL31, pL35, pL37, pL48, pL49, pL50, pL52, pL57, pL94, pL97, pL99, pL100, pL127, pL400, pL1000, pL1023, pL1024, pL2000, pL2001, pL2187, pL4095, pL4096, pL8191, pL8192, pL65535]
    exact wp_r (fun j hj => by rw [hf j, if_pos (by omega), Nat.sub_zero])
  · refine wp_seq (Q := fun u => ∀ j, j ≤ L → u j = nI (occN (fun i => p (o + i)) (fun i => wd (12 * w + i)) L2 j)) ?_ (fun v hv => ?_)
    · refine wp_up (fun k v => v.2 = nI k ∧ ∀ j, j ≤ L → v.1 j = nI (occN (fun i => p (o + i)) (fun i => wd (12 * w + i)) k j)) 0 L2 ⟨rfl, hu⟩ (by omega) (by omega) ?_ ?_
      · rintro k ⟨f, x⟩ h3 h4 ⟨hx, hf⟩
        simp only at hx hf
        subst hx
        show Wp (b_X12_occurrencesIn_35 n p wl wd (nI o) (nI L) (nI w) f (nI k)) _
        unfold b_X12_occurrencesIn_35
        simp (disch := omega) only [↓reduceIte, if_pos, if_neg, ldA_n, stA_n, pI_add, pI_mul, pI_sub, pI_lt_iff, pI_le_iff, pI_eq_iff, ob_s, upE, upN, pI_dec2, asR_some, bitZ0, bitZ1, Sum.elim_inl, Sum.elim_inr, pL0, pL1, pL2, pL3, pL4, pL5, pL6, pL7, pL8, pL10, pL12, pL15, pL16, pL20, pL21, pL22, pL23, pL29, pL31, pL35, pL37, pL48, pL49, pL50, pL52, pL57, pL94, pL97, pL99, pL100, pL127, pL400, pL1000, pL1023, pL1024, pL2000, pL2001, pL2187, pL4095, pL4096, pL8191, pL8192, pL65535, hl]
        exact wp_seq (occ2_in hL ho hn hw3 (by omega) hf) (fun w hw => wp_l ⟨rfl, hw⟩)
      · rintro ⟨f, x⟩ ⟨hx, hf⟩
        simp only at hx hf
        subst hx
        show Wp (b_X12_occurrencesIn_35 n p wl wd (nI o) (nI L) (nI w) f (nI L2)) _
        unfold b_X12_occurrencesIn_35
        simp (disch := omega) only [↓reduceIte, if_pos, if_neg, ldA_n, stA_n, pI_add, pI_mul, pI_sub, pI_lt_iff, pI_le_iff, pI_eq_iff, ob_s, upE, upN, pI_dec2, asR_some, bitZ0, bitZ1, Sum.elim_inl, Sum.elim_inr, pL0, pL1, pL2, pL3, pL4, pL5, pL6, pL7, pL8, pL10, pL12, pL15, pL16, pL20, pL21, pL22, pL23, pL29, pL31, pL35, pL37, pL48, pL49, pL50, pL52, pL57, pL94, pL97, pL99, pL100, pL127, pL400, pL1000, pL1023, pL1024, pL2000, pL2001, pL2187, pL4095, pL4096, pL8191, pL8192, pL65535, hl]
        exact wp_r hf
    · simp (disch := omega) only [↓reduceIte, if_pos, if_neg, ldA_n, stA_n, pI_add, pI_mul, pI_sub, pI_lt_iff, pI_le_iff, pI_eq_iff, ob_s, upE, upN, pI_dec2, asR_some, bitZ0, bitZ1, Sum.elim_inl, Sum.elim_inr, pL0, pL1, pL2, pL3, pL4, pL5, pL6, pL7, pL8, pL10, pL12, pL15, pL16, pL20, pL21, pL22, pL23, pL29, pL31, pL35, pL37, pL48, pL49, pL50, pL52, pL57, pL94, pL97, pL99, pL100, pL127, pL400, pL1000, pL1023, pL1024, pL2000, pL2001, pL2187, pL4095, pL4096, pL8191, pL8192, pL65535]
      exact wp_some (hv L (Nat.le_refl _))
theorem p_occurrences {q1 q2 : Nat} {s1 s2 : Int32} {rf : Nat → Option Nat} {l1 l2 wl wd ws ws' : Nat → Int32} (w1 w2 : Nat) (h1 : w1 < 3) (h2 : w2 < 3) (r1 : rf w1 = some q1) (r2 : rf w2 = some q2) (W1 : WordR s1 l1 (wl w1) wd (12 * w1)) (W2' : WordR s2 l2 (wl w2) wd (12 * w2)) :
    W2 (f_X11_occurrences (nI w1) (nI w2) q1 q2 s1 s2 l1 l2 rf ws) (f_X12_occurrences (nI w1) (nI w2) wl wd ws') (fun o m => o.1 = m.1) := by
  obtain ⟨L1, hL1, rfl, hl1, hd1⟩ := W1
  obtain ⟨L2, hL2, rfl, hl2, hd2⟩ := W2'
  unfold f_X11_occurrences f_X12_occurrences
  simp (disch := omega) only [↓reduceIte, if_pos, if_neg, ldA_n, stA_n, pI_add, pI_mul, pI_sub, pI_lt_iff, pI_le_iff, pI_eq_iff, ob_s, upE, upN, pI_dec2, asR_some, bitZ0, bitZ1, Sum.elim_inl, Sum.elim_inr, pL0, pL1, pL2, pL3, pL4, pL5, pL6, pL7, pL8, pL10, pL12, pL15, pL16, pL20, pL21, pL22, pL23, pL29, pL31, pL35, pL37, pL48, pL49, pL50, pL52, pL57, pL94, pL97, pL99, pL100, pL127, pL400, pL1000, pL1023, pL1024, pL2000, pL2001, pL2187, pL4095, pL4096, pL8191, pL8192, pL65535, isW1, isW2, r1, r2, hl1]
  refine w2_l (occ1_ok hL1 hL2) (fun u hu => w2_r (occ2_ok hL1 (by omega) (by omega) h2 hl2 hL2) (fun v hv => w2_s ?_))
  show u.1 = v.1
  rw [hu, hv, occN_congr (p' := fun i => wd (12 * w1 + i)) (t' := fun i => wd (12 * w2 + i)) hd1 hd2 L1 (Nat.le_refl _)]
theorem n_occ1 {x x2 : Int32} {q1 q2 : Nat} {s1 s2 : Int32} {rf : Nat → Option Nat} {l1 l2 wl wd ws ws' : Nat → Int32} (h : f_X11_isWord x = some (nI 0) ∧ f_X12_isWord x = some (nI 0)) : f_X11_occurrences x x2 q1 q2 s1 s2 l1 l2 rf ws = some (-1, ws) ∧ f_X12_occurrences x x2 wl wd ws' = some (-1, ws') := by
  unfold f_X11_occurrences f_X12_occurrences
  rw [h.1, h.2]
  exact ⟨rfl, rfl⟩
theorem n_occ2 {x2 : Int32} {w : Nat} (hw : w < 3) {q1 q2 : Nat} {s1 s2 : Int32} {rf : Nat → Option Nat} {l1 l2 wl wd ws ws' : Nat → Int32} (h : f_X11_isWord x2 = some (nI 0) ∧ f_X12_isWord x2 = some (nI 0)) : f_X11_occurrences (nI w) x2 q1 q2 s1 s2 l1 l2 rf ws = some (-1, ws) ∧ f_X12_occurrences (nI w) x2 wl wd ws' = some (-1, ws') := by
  unfold f_X11_occurrences f_X12_occurrences
  rw [isW1 hw, isW2 hw, h.1, h.2]
  exact ⟨rfl, rfl⟩
/-- the letters of the word of length n that has number x -/
def spl (k : Nat) : Nat → Nat → Nat → Nat
  | 0, _, _ => 0
  | n + 1, x, j => if j = n then x % k else spl k n (x / k) j
theorem spl_lt {k n x j : Nat} (h : 0 < k) : spl k n x j < k := by
  induction n generalizing x with
  | zero => exact h
  | succ n ih =>
    show (if j = n then x % k else spl k n (x / k) j) < k
    by_cases hj : j = n
    · rw [if_pos hj]; exact Nat.mod_lt _ h
    · rw [if_neg hj]; exact ih
/-- a loop that spells from the end -/
theorem spell_st {k n x o m r : Nat} {f : Nat → Int32} (hm : 0 < m) (h : ∀ j, j < n → nI (spl k n x j) = if j < m then nI (spl k m r j) else f (o + j)) : ∀ j, j < n → nI (spl k n x j) = if j < m - 1 then nI (spl k (m - 1) (r / k) j) else va_up f (o + (m - 1)) (nI (r % k)) (o + j) := by
  intro j hj
  rw [h j hj]
  obtain ⟨m, rfl⟩ : ∃ m', m = m' + 1 := ⟨m - 1, by omega⟩
  rw [Nat.add_sub_cancel]
  by_cases h1 : j < m
  · rw [if_pos (by omega), if_pos h1]
    show nI (if j = m then r % k else spl k m (r / k) j) = _
    rw [if_neg (by omega)]
  · rw [if_neg h1]
    by_cases h2 : j = m
    · rw [if_pos (by omega), upE (by omega)]
      show nI (if j = m then r % k else spl k m (r / k) j) = _
      rw [if_pos h2]
    · rw [if_neg (by omega), upN (by omega)]
theorem listed_ok {n x k : Nat} {sz : Int32} {f : Nat → Int32} (hn : n ≤ 12) (hx : x < 2 ^ 31) (hk : 1 ≤ k) (hk3 : k ≤ 3) : Wp (f_X9_setListed (nI n) (nI x) (nI k) sz f) (fun o => o.1 = nI n ∧ ∀ j, j < n → o.2 j = nI (spl k n x j)) := by
  unfold f_X9_setListed
  have e1 : mnI (nI n) (12 : Int32) = nI n := by
    unfold mnI
    by_cases h : n = 12
    · subst h; rfl
    · simp (disch := omega) only [↓reduceIte, if_pos, if_neg, ldA_n, stA_n, pI_add, pI_mul, pI_sub, pI_lt_iff, pI_le_iff, pI_eq_iff, ob_s, upE, upN, pI_dec2, asR_some, bitZ0, bitZ1, Sum.elim_inl, Sum.elim_inr, pL0, pL1, pL2, pL3, pL4, pL5, pL6, pL7, pL8, pL10, pL12, pL15, pL16, pL20, pL21, pL22, pL23, pL29, pL31, pL35, pL37, pL48, pL49, pL50, pL52, pL57, pL94, pL97, pL99, pL100, pL127, pL400, pL1000, pL1023, pL1024, pL2000, pL2001, pL2187, pL4095, pL4096, pL8191, pL8192, pL65535]
  have e2 : mxI (nI k) (1 : Int32) = nI k := by
    unfold mxI
    simp (disch := omega) only [↓reduceIte, if_pos, if_neg, ldA_n, stA_n, pI_add, pI_mul, pI_sub, pI_lt_iff, pI_le_iff, pI_eq_iff, ob_s, upE, upN, pI_dec2, asR_some, bitZ0, bitZ1, Sum.elim_inl, Sum.elim_inr, pL0, pL1, pL2, pL3, pL4, pL5, pL6, pL7, pL8, pL10, pL12, pL15, pL16, pL20, pL21, pL22, pL23, pL29, pL31, pL35, pL37, pL48, pL49, pL50, pL52, pL57, pL94, pL97, pL99, pL100, pL127, pL400, pL1000, pL1023, pL1024, pL2000, pL2001, pL2187, pL4095, pL4096, pL8191, pL8192, pL65535]
  rw [e1, e2]
  refine wp_seq (Q := fun u => ∀ j, j < n → nI (spl k n x j) = u j) ?_ (fun u hu => wp_some ⟨rfl, fun j hj => (hu j hj).symm⟩)
  refine wp_dn (fun m v => v.2.2 = nI m - nI 1 ∧ ∃ r, r < 2 ^ 31 ∧ v.2.1 = nI r ∧ ∀ j, j < n → nI (spl k n x j) = if j < m then nI (spl k m r j) else v.1 (0 + j)) 0 n ⟨rfl, x, hx, rfl, fun j hj => by rw [if_pos hj]⟩ (by omega) (by omega) ?_ ?_
  · rintro m ⟨g, y, z⟩ h1 h2 ⟨hz, r, hr, hy, hg⟩
    simp only at hz hy hg
    subst hz hy
    have hrk : r / k < 2 ^ 31 := Nat.lt_of_le_of_lt (Nat.div_le_self _ _) hr
    show Wp (b_X9_setListed_28 (nI k) g (nI r) (nI m - nI 1)) _
    unfold b_X9_setListed_28
    have hs := spell_st h1 hg
    rw [Nat.zero_add] at hs
    simp (disch := omega) only [↓reduceIte, if_pos, if_neg, ldA_n, stA_n, pI_add, pI_mul, pI_sub, pI_lt_iff, pI_le_iff, pI_eq_iff, ob_s, upE, upN, pI_dec2, asR_some, bitZ0, bitZ1, Sum.elim_inl, Sum.elim_inr, pL0, pL1, pL2, pL3, pL4, pL5, pL6, pL7, pL8, pL10, pL12, pL15, pL16, pL20, pL21, pL22, pL23, pL29, pL31, pL35, pL37, pL48, pL49, pL50, pL52, pL57, pL94, pL97, pL99, pL100, pL127, pL400, pL1000, pL1023, pL1024, pL2000, pL2001, pL2187, pL4095, pL4096, pL8191, pL8192, pL65535, rmI_n, dvI_n, n_sub1]
    exact wp_l ⟨rfl, r / k, hrk, rfl, hs⟩
  · rintro ⟨g, y, z⟩ ⟨hz, r, hr, hy, hg⟩
    simp only at hz hy hg
    subst hz hy
    show Wp (b_X9_setListed_28 (nI k) g (nI r) (nI 0 - nI 1)) _
    unfold b_X9_setListed_28
    rw [if_pos (show nI 0 - nI 1 < 0 from n1_neg)]
    refine wp_r (fun j hj => ?_)
    rw [hg j hj, if_neg (by omega), Nat.zero_add]
theorem cand_ok {n x k : Nat} {f : Nat → Int32} (hn : n ≤ 4) (hx : x < 2 ^ 31) (hk : 1 ≤ k) (hk3 : k ≤ 3) : Wp (loopN (fun v => b_X12_separate_58 (nI k) v.1 v.2.1 v.2.2) FU (f, nI x, nI n - (1 : Int32))) (fun o => ∀ j, j < n → o j = nI (spl k n x j)) := by
  refine wp_dn (fun m v => v.2.2 = nI m - nI 1 ∧ ∃ r, r < 2 ^ 31 ∧ v.2.1 = nI r ∧ ∀ j, j < n → nI (spl k n x j) = if j < m then nI (spl k m r j) else v.1 (0 + j)) 0 n ⟨rfl, x, hx, rfl, fun j hj => by rw [if_pos hj]⟩ (by omega) (by omega) ?_ ?_
  · rintro m ⟨g, y, z⟩ h1 h2 ⟨hz, r, hr, hy, hg⟩
    simp only at hz hy hg
    subst hz hy
    have hrk : r / k < 2 ^ 31 := Nat.lt_of_le_of_lt (Nat.div_le_self _ _) hr
    show Wp (b_X12_separate_58 (nI k) g (nI r) (nI m - nI 1)) _
    unfold b_X12_separate_58
    have hs := spell_st h1 hg
    rw [Nat.zero_add] at hs
    simp (disch := omega) only [↓reduceIte, if_pos, if_neg, ldA_n, stA_n, pI_add, pI_mul, pI_sub, pI_lt_iff, pI_le_iff, pI_eq_iff, ob_s, upE, upN, pI_dec2, asR_some, bitZ0, bitZ1, Sum.elim_inl, Sum.elim_inr, pL0, pL1, pL2, pL3, pL4, pL5, pL6, pL7, pL8, pL10, pL12, pL15, pL16, pL20, pL21, pL22, pL23, pL29, pL31, pL35, pL37, pL48, pL49, pL50, pL52, pL57, pL94, pL97, pL99, pL100, pL127, pL400, pL1000, pL1023, pL1024, pL2000, pL2001, pL2187, pL4095, pL4096, pL8191, pL8192, pL65535, rmI_n, dvI_n, n_sub1]
    exact wp_l ⟨rfl, r / k, hrk, rfl, hs⟩
  · rintro ⟨g, y, z⟩ ⟨hz, r, hr, hy, hg⟩
    simp only at hz hy hg
    subst hz hy
    show Wp (b_X12_separate_58 (nI k) g (nI r) (nI 0 - nI 1)) _
    unfold b_X12_separate_58
    rw [if_pos (show nI 0 - nI 1 < 0 from n1_neg)]
    refine wp_r (fun j hj => ?_)
    have := hg j hj
    rw [if_neg (by omega), Nat.zero_add] at this
    exact this.symm
/-- the smallest modulus from 2 on that tells a from b -/
def sepM (a b m : Nat) : Prop := 2 ≤ m ∧ a % m ≠ b % m ∧ ∀ j, 2 ≤ j → j < m → a % j = b % j
theorem sepM_un {a b m m' : Nat} (h : sepM a b m) (h' : sepM a b m') : m = m' := by
  rcases Nat.lt_trichotomy m m' with e | e | e
  · exact absurd (h'.2.2 m h.1 e) h.2.1
  · exact e
  · exact absurd (h.2.2 m' h'.1 e) h'.2.1
theorem l35 {d : Nat} (h5 : d % 5 = 0) (h7 : d % 7 = 0) : d % 35 = 0 := by omega
theorem l143 {d : Nat} (h5 : d % 11 = 0) (h7 : d % 13 = 0) : d % 143 = 0 := by omega
theorem l5005 {d : Nat} (h5 : d % 35 = 0) (h7 : d % 143 = 0) (h : d ≤ 4096) : d = 0 := by omega
theorem l_md {a b m : Nat} (hab : a ≤ b) (h : a % m = b % m) : (b - a) % m = 0 := Nat.sub_mod_eq_zero_of_mod_eq h.symm
/-- numbers up to 4096 that differ are told apart by a modulus up to 13 -/
theorem sep_13 {a b : Nat} (ha : a ≤ 4096) (hb : b ≤ 4096) (h : ∀ j, 2 ≤ j → j < 14 → a % j = b % j) : a = b := by
  rcases Nat.le_total a b with c | c
  · have := l5005 (l35 (l_md c (h 5 (by omega) (by omega))) (l_md c (h 7 (by omega) (by omega)))) (l143 (l_md c (h 11 (by omega) (by omega))) (l_md c (h 13 (by omega) (by omega)))) (by omega)
    omega
  · have := l5005 (l35 (l_md c (h 5 (by omega) (by omega)).symm) (l_md c (h 7 (by omega) (by omega)).symm)) (l143 (l_md c (h 11 (by omega) (by omega)).symm) (l_md c (h 13 (by omega) (by omega)).symm)) (by omega)
    omega
theorem mod1_ok {a b : Nat} (ha : a ≤ 4096) (hb : b ≤ 4096) (hab : a ≠ b) : Wp (loopN (fun v => b_X11_separatingModulus_25 (nI a) (nI b) v) FU (2 : Int32)) (fun u => ∃ m, u = Sum.inl (nI m) ∧ m < 100 ∧ sepM a b m) := by
  refine wp_up (fun i v => v = nI i ∧ ∀ j, 2 ≤ j → j < i → a % j = b % j) 2 14 ⟨rfl, fun j h1 h2 => by omega⟩ (by omega) (by omega) ?_ ?_
  · rintro i v h1 h2 ⟨rfl, hv⟩
    have m1 := Nat.mod_lt a (show 0 < i by omega)
    have m2 := Nat.mod_lt b (show 0 < i by omega)
    show Wp (b_X11_separatingModulus_25 (nI a) (nI b) (nI i)) _
    unfold b_X11_separatingModulus_25
    simp (disch := omega) only [↓reduceIte, if_pos, if_neg, ldA_n, stA_n, pI_add, pI_mul, pI_sub, pI_lt_iff, pI_le_iff, pI_eq_iff, ob_s, upE, upN, pI_dec2, asR_some, bitZ0, bitZ1, Sum.elim_inl, Sum.elim_inr, pL0, pL1, pL2, pL3, pL4, pL5, pL6, pL7, pL8, pL10, pL12, pL15, pL16, pL20, pL21, pL22, pL23, pL29, pL31, pL35, pL37, pL48, pL49, pL50, pL52, pL57, pL94, pL97, pL99, pL100, pL127, pL400, pL1000, pL1023, pL1024, pL2000, pL2001, pL2187, pL4095, pL4096, pL8191, pL8192, pL65535, rmI_n]
    refine wp_if (fun e => wp_l ⟨rfl, fun j h3 h4 => ?_⟩) (fun e => wp_r ⟨i, rfl, by omega, h1, e, hv⟩)
    by_cases hj : j = i
    · rw [hj]; exact e
    · exact hv j h3 (by omega)
  · rintro v ⟨rfl, hv⟩
    exact absurd (sep_13 ha hb hv) hab
theorem mod2_ok {a b : Nat} (ha : a ≤ 4096) (hb : b ≤ 4096) (hab : a ≠ b) : Wp (loopN (fun v => b_X12_separate_185 (nI a) (nI b) v) FU (2 : Int32)) (fun u => ∃ m, u = nI m ∧ m < 100 ∧ sepM a b m) := by
  refine wp_up (fun i v => v = nI i ∧ ∀ j, 2 ≤ j → j < i → a % j = b % j) 2 14 ⟨rfl, fun j h1 h2 => by omega⟩ (by omega) (by omega) ?_ ?_
  · rintro i v h1 h2 ⟨rfl, hv⟩
    have m1 := Nat.mod_lt a (show 0 < i by omega)
    have m2 := Nat.mod_lt b (show 0 < i by omega)
    show Wp (b_X12_separate_185 (nI a) (nI b) (nI i)) _
    unfold b_X12_separate_185
    simp (disch := omega) only [↓reduceIte, if_pos, if_neg, ldA_n, stA_n, pI_add, pI_mul, pI_sub, pI_lt_iff, pI_le_iff, pI_eq_iff, ob_s, upE, upN, pI_dec2, asR_some, bitZ0, bitZ1, Sum.elim_inl, Sum.elim_inr, pL0, pL1, pL2, pL3, pL4, pL5, pL6, pL7, pL8, pL10, pL12, pL15, pL16, pL20, pL21, pL22, pL23, pL29, pL31, pL35, pL37, pL48, pL49, pL50, pL52, pL57, pL94, pL97, pL99, pL100, pL127, pL400, pL1000, pL1023, pL1024, pL2000, pL2001, pL2187, pL4095, pL4096, pL8191, pL8192, pL65535, rmI_n]
    refine wp_if (fun e => wp_l ⟨rfl, fun j h3 h4 => ?_⟩) (fun e => wp_r ⟨i, rfl, by omega, h1, e, hv⟩)
    by_cases hj : j = i
    · rw [hj]; exact e
    · exact hv j h3 (by omega)
  · rintro v ⟨rfl, hv⟩
    exact absurd (sep_13 ha hb hv) hab
