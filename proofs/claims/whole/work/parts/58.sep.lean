set_option linter.unusedVariables false
/-! separate -/
theorem sepmod_ok {n L1 L2 : Nat} {p l1 l2 ws : Nat → Int32} (hn : n ≤ 12) (h1 : L1 ≤ 12) (h2 : L2 ≤ 12) : Wp (f_X11_separatingModulus (nI n) (nI L1) (nI L2) p l1 l2 ws) (fun o => (occN p l1 L1 n = occN p l2 L2 n ∧ o.1 = -nI 2) ∨ (occN p l1 L1 n ≠ occN p l2 L2 n ∧ ∃ m, o.1 = nI m ∧ m < 100 ∧ sepM (occN p l1 L1 n) (occN p l2 L2 n) m)) := by
  unfold f_X11_separatingModulus
  refine wp_seq (occ1_ok hn h1) (fun u hu => wp_seq (occ1_ok hn h2) (fun v hv => ?_))
  have b1 := occN_b (p := p) (t := l1) (j := n) h1
  have b2 := occN_b (p := p) (t := l2) (j := n) h2
  rw [hu, hv]
  by_cases e : occN p l1 L1 n = occN p l2 L2 n
  · rw [e, if_pos rfl]
    exact wp_some (Or.inl ⟨rfl, rfl⟩)
  · rw [if_neg (fun h => e (pI_inj (by omega) (by omega) h))]
    refine wp_seq (mod1_ok b1 b2 e) (fun w hw => ?_)
    obtain ⟨m, rfl, h3, h4⟩ := hw
    exact wp_some (Or.inr ⟨e, m, rfl, h3, h4⟩)
/-- what both find -/
def SepX (n : Nat) (o : Int32 × (Nat → Int32) × (Nat → Int32) × Int32) (m : (Nat → Int32) × (Nat → Int32) × Int32 × Int32) : Prop := o.1 = nI n ∧ (∀ j, j < n → o.2.1 j = m.2.1 j) ∧ ∃ a b c, a ≤ 4096 ∧ b ≤ 4096 ∧ a ≠ b ∧ m.2.2.1 = nI a ∧ m.2.2.2 = nI b ∧ o.2.2.2 = nI c ∧ sepM a b c
theorem sep_in {q3 q1 q2 w1 w2 L1 L2 M n k : Nat} {d : Nat → Nat} {rf : Nat → Option Nat} {l1 l2 wl wd cl cw pf cd : Nat → Int32} {cs : Int32} (h1 : w1 < 3) (h2 : w2 < 3) (r1 : rf w1 = some q1) (r2 : rf w2 = some q2) (hL1 : L1 ≤ 12) (hL2 : L2 ≤ 12) (e1 : wl w1 = nI L1) (e2 : wl w2 = nI L2) (d1 : ∀ i, i < L1 → l1 i = wd (12 * w1 + i)) (d2 : ∀ i, i < L2 → l2 i = wd (12 * w2 + i)) (hM : M ≤ 100) (hn : n ≤ 4) (hk : 1 ≤ k) (hk3 : k ≤ 3) :
    W2 (loopN (fun v => b_X11_separate_45 q3 d q1 q2 (nI L1) (nI L2) (nI k) l1 l2 rf (nI w1) (nI w2) (nI M) (nI n) v.1 v.2.1 v.2.2.1 v.2.2.2) FU (cs, cl, cw, (0 : Int32))) (loopN (fun v => b_X12_separate_42 (nI k) wl wd (nI w1) (nI w2) (nI M) (nI n) v.1 v.2.1 v.2.2) FU (pf, cd, (0 : Int32))) (SR (SepX n) (fun _ _ => True)) := by
  refine w2_up (fun i v w => v.2.2.2 = nI i ∧ w.2.2 = nI i) 0 M ⟨rfl, rfl⟩ (by omega) (by omega) ?_ ?_
  · rintro i ⟨cs, cl, cw, x⟩ ⟨pf, cd, y⟩ h3 h4 ⟨hx, hy⟩
    simp only at hx hy
    subst hx hy
    show W2 (b_X11_separate_45 q3 d q1 q2 (nI L1) (nI L2) (nI k) l1 l2 rf (nI w1) (nI w2) (nI M) (nI n) cs cl cw (nI i)) (b_X12_separate_42 (nI k) wl wd (nI w1) (nI w2) (nI M) (nI n) pf cd (nI i)) _
    unfold b_X11_separate_45 b_X12_separate_42
    rw [if_neg (show ¬ nI M ≤ nI i by rw [pI_le_iff (by omega) (by omega)]; omega), if_neg (show ¬ nI M ≤ nI i by rw [pI_le_iff (by omega) (by omega)]; omega)]
    refine w2_l (listed_ok (by omega) (by omega) hk hk3) (fun u hu => ?_)
    obtain ⟨us, ul⟩ := u
    obtain ⟨hu1, hu2⟩ := hu
    simp only at hu1 hu2
    subst hu1
    simp (disch := omega) only [↓reduceIte, if_pos, if_neg, ldA_n, stA_n, pI_add, pI_mul, pI_sub, pI_lt_iff, pI_le_iff, pI_eq_iff, ob_s, upE, upN, pI_dec2, asR_some, bitZ0, bitZ1, Sum.elim_inl, Sum.elim_inr, pL0, pL1, pL2, pL3, pL4, pL5, pL6, pL7, pL8, pL10, pL12, pL15, pL16, pL20, pL21, pL22, pL23, pL29, pL31, pL35, pL37, pL48, pL49, pL50, pL52, pL57, pL94, pL97, pL99, pL100, pL127, pL400, pL1000, pL1023, pL1024, pL2000, pL2001, pL2187, pL4095, pL4096, pL8191, pL8192, pL65535, r1, r2]
    refine w2_l (sepmod_ok (by omega) hL1 hL2) (fun z hz => w2_r (cand_ok hn (by omega) hk hk3) (fun c hc => w2_r (occ2_ok (o := 0) (by omega) (by omega) (by omega) h1 e1 hL1) (fun a ha => w2_r (occ2_ok (o := 0) (by omega) (by omega) (by omega) h2 e2 hL2) (fun b hb => ?_))))
    have c1 : occN ul l1 L1 n = occN (fun i => c (0 + i)) (fun i => wd (12 * w1 + i)) L1 n := occN_congr (m := n) (fun i hi => by rw [Nat.zero_add, hu2 i hi, hc i hi]) d1 n (Nat.le_refl _)
    have c2 : occN ul l2 L2 n = occN (fun i => c (0 + i)) (fun i => wd (12 * w2 + i)) L2 n := occN_congr (m := n) (fun i hi => by rw [Nat.zero_add, hu2 i hi, hc i hi]) d2 n (Nat.le_refl _)
    have b1 := occN_b (p := ul) (t := l1) (j := n) hL1
    have b2 := occN_b (p := ul) (t := l2) (j := n) hL2
    rw [← c1] at ha
    rw [← c2] at hb
    obtain ⟨a1, a2⟩ := a
    obtain ⟨b1', b2'⟩ := b
    simp only at ha hb
    subst ha hb
    rcases hz with ⟨e, hz⟩ | ⟨e, m, hz, hm, hs⟩
    · rw [hz, e, if_pos rfl, if_pos rfl]
      exact w2_ll ⟨rfl, rfl⟩
    · rw [hz, if_neg (show ¬ nI m = -nI 2 from fun h => nI_ne_m2 (by omega) h), if_neg (fun h => e (pI_inj (by omega) (by omega) h))]
      exact w2_rr ⟨rfl, fun j hj => by show ul j = c j; rw [hu2 j hj, hc j hj], _, _, m, b1, b2, e, rfl, rfl, rfl, hs⟩
  · rintro ⟨cs, cl, cw, x⟩ ⟨pf, cd, y⟩ ⟨hx, hy⟩
    simp only at hx hy
    subst hx hy
    show W2 (b_X11_separate_45 q3 d q1 q2 (nI L1) (nI L2) (nI k) l1 l2 rf (nI w1) (nI w2) (nI M) (nI n) cs cl cw (nI M)) (b_X12_separate_42 (nI k) wl wd (nI w1) (nI w2) (nI M) (nI n) pf cd (nI M)) _
    unfold b_X11_separate_45 b_X12_separate_42
    rw [if_pos (Int32.le_refl _), if_pos (Int32.le_refl _)]
    exact w2_rr trivial
theorem third_ok {w1 w2 w3 q3 : Nat} {d : Nat → Nat} {rf : Nat → Option Nat} (h3 : w3 < 3) (h1 : w1 < 3) (h2 : w2 < 3) (n1 : w3 ≠ w1) (n2 : w3 ≠ w2) (n3 : w1 ≠ w2) (r3 : rf w3 = some q3) : f_X11_thirdWord (nI w1) (nI w2) d rf = some q3 := by
  have key : Wp (loopN (fun v => b_X11_thirdWord_2 d (nI w1) (nI w2) v) FU (0 : Int32)) (fun u => u = Sum.inl (nI w3)) := by
    refine wp_up (fun i v => v = nI i) 0 w3 rfl (by omega) (by omega) ?_ ?_
    · rintro i v h4 h5 rfl
      show Wp (b_X11_thirdWord_2 d (nI w1) (nI w2) (nI i)) _
      unfold b_X11_thirdWord_2
      by_cases e : i = w1
      · simp (disch := omega) only [↓reduceIte, if_pos, if_neg, ldA_n, stA_n, pI_add, pI_mul, pI_sub, pI_lt_iff, pI_le_iff, pI_eq_iff, ob_s, upE, upN, pI_dec2, asR_some, bitZ0, bitZ1, Sum.elim_inl, Sum.elim_inr, pL0, pL1, pL2, pL3, pL4, pL5, pL6, pL7, pL8, pL10, pL12, pL15, pL16, pL20, pL21, pL22, pL23, pL29, pL31, pL35, pL37, pL48, pL49, pL50, pL52, pL57, pL94, pL97, pL99, pL100, pL127, pL400, pL1000, pL1023, pL1024, pL2000, pL2001, pL2187, pL4095, pL4096, pL8191, pL8192, pL65535]
        exact wp_l rfl
      · have e2 : i = w2 := by omega
        simp (disch := omega) only [↓reduceIte, if_pos, if_neg, ldA_n, stA_n, pI_add, pI_mul, pI_sub, pI_lt_iff, pI_le_iff, pI_eq_iff, ob_s, upE, upN, pI_dec2, asR_some, bitZ0, bitZ1, Sum.elim_inl, Sum.elim_inr, pL0, pL1, pL2, pL3, pL4, pL5, pL6, pL7, pL8, pL10, pL12, pL15, pL16, pL20, pL21, pL22, pL23, pL29, pL31, pL35, pL37, pL48, pL49, pL50, pL52, pL57, pL94, pL97, pL99, pL100, pL127, pL400, pL1000, pL1023, pL1024, pL2000, pL2001, pL2187, pL4095, pL4096, pL8191, pL8192, pL65535]
        exact wp_l rfl
    · rintro v rfl
      show Wp (b_X11_thirdWord_2 d (nI w1) (nI w2) (nI w3)) _
      unfold b_X11_thirdWord_2
      simp (disch := omega) only [↓reduceIte, if_pos, if_neg, ldA_n, stA_n, pI_add, pI_mul, pI_sub, pI_lt_iff, pI_le_iff, pI_eq_iff, ob_s, upE, upN, pI_dec2, asR_some, bitZ0, bitZ1, Sum.elim_inl, Sum.elim_inr, pL0, pL1, pL2, pL3, pL4, pL5, pL6, pL7, pL8, pL10, pL12, pL15, pL16, pL20, pL21, pL22, pL23, pL29, pL31, pL35, pL37, pL48, pL49, pL50, pL52, pL57, pL94, pL97, pL99, pL100, pL127, pL400, pL1000, pL1023, pL1024, pL2000, pL2001, pL2187, pL4095, pL4096, pL8191, pL8192, pL65535]
      exact wp_r rfl
  obtain ⟨u, e, rfl⟩ := key
  unfold f_X11_thirdWord
  rw [e]
  simp (disch := omega) only [↓reduceIte, if_pos, if_neg, ldA_n, stA_n, pI_add, pI_mul, pI_sub, pI_lt_iff, pI_le_iff, pI_eq_iff, ob_s, upE, upN, pI_dec2, asR_some, bitZ0, bitZ1, Sum.elim_inl, Sum.elim_inr, pL0, pL1, pL2, pL3, pL4, pL5, pL6, pL7, pL8, pL10, pL12, pL15, pL16, pL20, pL21, pL22, pL23, pL29, pL31, pL35, pL37, pL48, pL49, pL50, pL52, pL57, pL94, pL97, pL99, pL100, pL127, pL400, pL1000, pL1023, pL1024, pL2000, pL2001, pL2187, pL4095, pL4096, pL8191, pL8192, pL65535, r3]
theorem p_separate {q1 q2 q3 : Nat} {d : Nat → Nat} {s1 s2 s3 le le' cs : Int32} {rf : Nat → Option Nat} {l1 l2 l3 cl cw wl wd pf cd : Nat → Int32} (w1 w2 w3 : Nat) (h1 : w1 < 3) (h2 : w2 < 3) (hs : w1 + w2 + w3 = 3) (n1 : w3 ≠ w1) (n2 : w3 ≠ w2) (n3 : w1 ≠ w2) (r1 : rf w1 = some q1) (r2 : rf w2 = some q2) (r3 : rf w3 = some q3) (hL : LetR le le') (W1 : WordR s1 l1 (wl w1) wd (12 * w1)) (W2' : WordR s2 l2 (wl w2) wd (12 * w2)) (W3 : WordR s3 l3 (wl w3) wd (12 * w3)) :
    W2 (f_X11_separate (nI w1) (nI w2) q3 d q1 q2 s1 s2 le l1 l2 rf s3 cs l3 cl cw) (f_X12_separate (nI w1) (nI w2) le' wl wd pf cd) (fun o m => o.1 = m.1 ∧ WQ w3 o.2.1 o.2.2.2.1 m.2.1 m.2.2.1 wl wd) := by
  obtain ⟨k, hk1, hk3, rfl, rfl⟩ := hL
  obtain ⟨L1, hL1, rfl, hl1, hd1⟩ := W1
  obtain ⟨L2, hL2, rfl, hl2, hd2⟩ := W2'
  unfold f_X11_separate f_X12_separate
  simp (disch := omega) only [↓reduceIte, if_pos, if_neg, ldA_n, stA_n, pI_add, pI_mul, pI_sub, pI_lt_iff, pI_le_iff, pI_eq_iff, ob_s, upE, upN, pI_dec2, asR_some, bitZ0, bitZ1, Sum.elim_inl, Sum.elim_inr, pL0, pL1, pL2, pL3, pL4, pL5, pL6, pL7, pL8, pL10, pL12, pL15, pL16, pL20, pL21, pL22, pL23, pL29, pL31, pL35, pL37, pL48, pL49, pL50, pL52, pL57, pL94, pL97, pL99, pL100, pL127, pL400, pL1000, pL1023, pL1024, pL2000, pL2001, pL2187, pL4095, pL4096, pL8191, pL8192, pL65535, isW1, isW2]
  refine w2_b (Q := SR (fun o m => ∃ n, n ≤ 4 ∧ m.2.2.1 = nI n ∧ SepX n o (m.1, m.2.1, m.2.2.2.1, m.2.2.2.2)) (fun _ _ => True)) ?_ (fun u w huw => ?_)
  · refine w2_up (fun n v w => v.2.2.2.2 = nI n ∧ w.2.2.2 = nI n ∧ ∃ M, M ≤ 3 ^ (n - 1) ∧ v.2.2.2.1 = nI M ∧ w.2.2.1 = nI M) 1 5 ⟨rfl, rfl, 1, by decide, rfl, rfl⟩ (by omega) (by omega) ?_ ?_
    · rintro n ⟨cs, cl, cw, x3, x4⟩ ⟨pf, cd, y3, y4⟩ h3 h4 ⟨hx4, hy4, M, hM, hx3, hy3⟩
      simp only at hx4 hy4 hx3 hy3
      subst hx4 hy4 hx3 hy3
      have hp : 3 ^ (n - 1) ≤ 3 ^ 3 := Nat.pow_le_pow_right (by omega) (by omega)
      have hMk : M * k ≤ 3 ^ (n - 1) * 3 := Nat.mul_le_mul hM hk3
      have hMk2 : M * k ≤ 3 ^ (n + 1 - 1) := by
        rw [show n + 1 - 1 = n - 1 + 1 by omega, Nat.pow_succ]
        exact hMk
      have hM100 : M * k ≤ 100 := by
        have : (3 : Nat) ^ 3 = 27 := by decide
        omega
      show W2 (b_X11_separate_26 q3 d q1 q2 (nI L1) (nI L2) (nI k) l1 l2 rf (nI w1) (nI w2) cs cl cw (nI M) (nI n)) (b_X12_separate_26 (nI k) wl wd (nI w1) (nI w2) pf cd (nI M) (nI n)) _
      unfold b_X11_separate_26 b_X12_separate_26
      rw [if_neg (show ¬ (4 : Int32) < nI n by rw [pL4, pI_lt_iff (by omega) (by omega)]; omega), if_neg (show ¬ (4 : Int32) < nI n by rw [pL4, pI_lt_iff (by omega) (by omega)]; omega), pI_mul]
      refine w2_b (sep_in h1 h2 r1 r2 hL1 hL2 hl1 hl2 hd1 hd2 hM100 (by omega) hk1 hk3) (fun u w huw => ?_)
      cases u with
      | inl u =>
        cases w with
        | inl w => exact w2_rr ⟨n, by omega, rfl, huw⟩
        | inr w => exact absurd huw id
      | inr u =>
        cases w with
        | inl w => exact absurd huw id
        | inr w => exact w2_ll ⟨pI_add, pI_add, M * k, hMk2, rfl, rfl⟩
    · rintro ⟨cs, cl, cw, x3, x4⟩ ⟨pf, cd, y3, y4⟩ ⟨hx4, hy4, M, hM, hx3, hy3⟩
      simp only at hx4 hy4 hx3 hy3
      subst hx4 hy4 hx3 hy3
      show W2 (b_X11_separate_26 q3 d q1 q2 (nI L1) (nI L2) (nI k) l1 l2 rf (nI w1) (nI w2) cs cl cw (nI M) (nI 5)) (b_X12_separate_26 (nI k) wl wd (nI w1) (nI w2) pf cd (nI M) (nI 5)) _
      unfold b_X11_separate_26 b_X12_separate_26
      rw [if_pos (show (4 : Int32) < nI 5 by decide), if_pos (show (4 : Int32) < nI 5 by decide)]
      exact w2_rr trivial
  · cases u with
    | inl u =>
      cases w with
      | inl w =>
        obtain ⟨us, ul, uw, um⟩ := u
        obtain ⟨wp, wc, wn, wa, wb⟩ := w
        obtain ⟨n, hn, e1, e2, e3, a, b, c, ha, hb, hab, e4, e5, e6, hsep⟩ := huw
        simp only at e1 e2 e3 e4 e5 e6
        subst e1 e2 e4 e5 e6
        have hw3 : w3 < 3 := by omega
        have e7 : 3 - w1 - w2 = w3 := by omega
        unfold f_X9_copyFrom
        simp (disch := omega) only [↓reduceIte, if_pos, if_neg, ldA_n, stA_n, pI_add, pI_mul, pI_sub, pI_lt_iff, pI_le_iff, pI_eq_iff, ob_s, upE, upN, pI_dec2, asR_some, bitZ0, bitZ1, Sum.elim_inl, Sum.elim_inr, pL0, pL1, pL2, pL3, pL4, pL5, pL6, pL7, pL8, pL10, pL12, pL15, pL16, pL20, pL21, pL22, pL23, pL29, pL31, pL35, pL37, pL48, pL49, pL50, pL52, pL57, pL94, pL97, pL99, pL100, pL127, pL400, pL1000, pL1023, pL1024, pL2000, pL2001, pL2187, pL4095, pL4096, pL8191, pL8192, pL65535, e7, third_ok hw3 h1 h2 n1 n2 n3 r3, cpA_n]
        refine w2_r (wp_fill (P := fun g => ∀ j, g j = if 12 * w3 + 0 ≤ j ∧ j < 12 * w3 + n then wc (j - 12 * w3) else wd j) (12 * w3) 0 n (fun i => wc i) (by omega) (by omega) (fun i f h3 h4 hf => ?_) (fun f hf => ?_)) (fun g hg => w2_r (mod2_ok ha hb hab) (fun z hz => ?_))
        · show b_X12_separate_149 wc (nI n) (nI w3) f (nI i) = _
          unfold b_X12_separate_149
          simp (disch := omega) only [↓reduceIte, if_pos, if_neg, ldA_n, stA_n, pI_add, pI_mul, pI_sub, pI_lt_iff, pI_le_iff, pI_eq_iff, ob_s, upE, upN, pI_dec2, asR_some, bitZ0, bitZ1, Sum.elim_inl, Sum.elim_inr, pL0, pL1, pL2, pL3, pL4, pL5, pL6, pL7, pL8, pL10, pL12, pL15, pL16, pL20, pL21, pL22, pL23, pL29, pL31, pL35, pL37, pL48, pL49, pL50, pL52, pL57, pL94, pL97, pL99, pL100, pL127, pL400, pL1000, pL1023, pL1024, pL2000, pL2001, pL2187, pL4095, pL4096, pL8191, pL8192, pL65535]
        · show Wp (b_X12_separate_149 wc (nI n) (nI w3) f (nI n)) _
          unfold b_X12_separate_149
          simp (disch := omega) only [↓reduceIte, if_pos, if_neg, ldA_n, stA_n, pI_add, pI_mul, pI_sub, pI_lt_iff, pI_le_iff, pI_eq_iff, ob_s, upE, upN, pI_dec2, asR_some, bitZ0, bitZ1, Sum.elim_inl, Sum.elim_inr, pL0, pL1, pL2, pL3, pL4, pL5, pL6, pL7, pL8, pL10, pL12, pL15, pL16, pL20, pL21, pL22, pL23, pL29, pL31, pL35, pL37, pL48, pL49, pL50, pL52, pL57, pL94, pL97, pL99, pL100, pL127, pL400, pL1000, pL1023, pL1024, pL2000, pL2001, pL2187, pL4095, pL4096, pL8191, pL8192, pL65535]
          exact wp_r hf
        · obtain ⟨m, rfl, hm, hm2⟩ := hz
          refine w2_s ⟨?_, ⟨n, by omega, rfl, upE rfl, fun i hi => ?_⟩, fun v hv => upN hv, fun j hj => ?_⟩
          · show nI c = nI m
            rw [sepM_un hsep hm2]
          · show va_cpy ul l3 0 0 12 i = g (12 * w3 + i)
            rw [pk_cpy_in (by omega) (by omega), hg, if_pos (by omega), Nat.zero_add, Nat.sub_zero, Nat.add_sub_cancel_left]
            exact e3 i hi
          · show g j = wd j
            rw [hg, if_neg (by omega)]
      | inr w => exact absurd huw id
    | inr u =>
      cases w with
      | inl w => exact absurd huw id
      | inr w => exact w2_s ⟨rfl, W3, fun _ _ => rfl, fun _ _ => rfl⟩
theorem n_sep1 {x x2 : Int32} {q1 q2 q3 : Nat} {d : Nat → Nat} {s1 s2 s3 le le' cs : Int32} {rf : Nat → Option Nat} {l1 l2 l3 cl cw wl wd pf cd : Nat → Int32} (h : f_X11_isWord x = some (nI 0) ∧ f_X12_isWord x = some (nI 0)) : f_X11_separate x x2 q3 d q1 q2 s1 s2 le l1 l2 rf s3 cs l3 cl cw = some (-1, s3, cs, l3, cl, cw) ∧ f_X12_separate x x2 le' wl wd pf cd = some (-1, wl, wd, pf, cd) := by
  unfold f_X11_separate f_X12_separate
  rw [h.1, h.2]
  exact ⟨rfl, rfl⟩
theorem n_sep2 {x2 : Int32} {w : Nat} (hw : w < 3) {q1 q2 q3 : Nat} {d : Nat → Nat} {s1 s2 s3 le le' cs : Int32} {rf : Nat → Option Nat} {l1 l2 l3 cl cw wl wd pf cd : Nat → Int32} (h : f_X11_isWord x2 = some (nI 0) ∧ f_X12_isWord x2 = some (nI 0)) : f_X11_separate (nI w) x2 q3 d q1 q2 s1 s2 le l1 l2 rf s3 cs l3 cl cw = some (-1, s3, cs, l3, cl, cw) ∧ f_X12_separate (nI w) x2 le' wl wd pf cd = some (-1, wl, wd, pf, cd) := by
  unfold f_X11_separate f_X12_separate
  rw [isW1 hw, isW2 hw, h.1, h.2]
  exact ⟨rfl, rfl⟩
theorem n_sep3 {w : Nat} (hw : w < 3) {q1 q2 q3 : Nat} {d : Nat → Nat} {s1 s2 s3 le le' cs : Int32} {rf : Nat → Option Nat} {l1 l2 l3 cl cw wl wd pf cd : Nat → Int32} : f_X11_separate (nI w) (nI w) q3 d q1 q2 s1 s2 le l1 l2 rf s3 cs l3 cl cw = some (-1, s3, cs, l3, cl, cw) ∧ f_X12_separate (nI w) (nI w) le' wl wd pf cd = some (-1, wl, wd, pf, cd) := by
  unfold f_X11_separate f_X12_separate
  simp (disch := omega) only [↓reduceIte, if_pos, if_neg, ldA_n, stA_n, pI_add, pI_mul, pI_sub, pI_lt_iff, pI_le_iff, pI_eq_iff, ob_s, upE, upN, pI_dec2, asR_some, bitZ0, bitZ1, Sum.elim_inl, Sum.elim_inr, pL0, pL1, pL2, pL3, pL4, pL5, pL6, pL7, pL8, pL10, pL12, pL15, pL16, pL20, pL21, pL22, pL23, pL29, pL31, pL35, pL37, pL48, pL49, pL50, pL52, pL57, pL94, pL97, pL99, pL100, pL127, pL400, pL1000, pL1023, pL1024, pL2000, pL2001, pL2187, pL4095, pL4096, pL8191, pL8192, pL65535, isW1, isW2]
  exact ⟨trivial, trivial⟩
