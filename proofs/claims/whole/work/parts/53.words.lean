set_option linter.unusedVariables false
/-! the words' calls: 0 to 8 -/
theorem e_letters {a b : Int32} (h : LetR a b) : a = b := by
  obtain ⟨k, _, _, rfl, rfl⟩ := h
  rfl
theorem p_length {q : Nat} {sz : Int32} {rf : Nat → Option Nat} {ls wl wd : Nat → Int32} (w : Nat) (hw : w < 3) (hr : rf w = some q) (hW : WordR sz ls (wl w) wd (12 * w)) :
    Wp (f_X11_length (nI w) q sz rf) (fun o => Wp (f_X12_length (nI w) wl) (fun m => o = m)) := by
  obtain ⟨L, hL, rfl, hl, hd⟩ := hW
  unfold f_X11_length f_X12_length
  simp (disch := omega) only [↓reduceIte, if_pos, if_neg, ldA_n, stA_n, pI_add, pI_mul, pI_sub, pI_lt_iff, pI_le_iff, pI_eq_iff, ob_s, upE, upN, pI_dec2, asR_some, bitZ0, bitZ1, Sum.elim_inl, Sum.elim_inr, pL0, pL1, pL2, pL3, pL4, pL5, pL6, pL7, pL8, pL10, pL12, pL15, pL16, pL20, pL21, pL22, pL23, pL29, pL31, pL35, pL37, pL48, pL49, pL50, pL52, pL57, pL94, pL97, pL99, pL100, pL127, pL400, pL1000, pL1023, pL1024, pL2000, pL2001, pL2187, pL4095, pL4096, pL8191, pL8192, pL65535, isW1, isW2, hr, hl]
  exact wp_some (wp_some rfl)
theorem n_length {x : Int32} {q : Nat} {sz : Int32} {rf : Nat → Option Nat} {wl : Nat → Int32} (h : f_X11_isWord x = some (nI 0) ∧ f_X12_isWord x = some (nI 0)) : f_X11_length x q sz rf = some (-1) ∧ f_X12_length x wl = some (-1) := by
  unfold f_X11_length f_X12_length
  rw [h.1, h.2]
  exact ⟨rfl, rfl⟩
theorem p_letter {x2 : Int32} {q : Nat} {sz : Int32} {rf : Nat → Option Nat} {ls wl wd : Nat → Int32} (w : Nat) (hw : w < 3) (hr : rf w = some q) (hW : WordR sz ls (wl w) wd (12 * w)) :
    Wp (f_X11_letter (nI w) x2 q sz ls rf) (fun o => Wp (f_X12_letter (nI w) x2 wl wd) (fun m => o = m)) := by
  obtain ⟨L, hL, rfl, hl, hd⟩ := hW
  unfold f_X11_letter f_X12_letter
  rcases iC x2 with h | ⟨c, rfl, hc⟩
  · simp (disch := omega) only [↓reduceIte, if_pos, if_neg, ldA_n, stA_n, pI_add, pI_mul, pI_sub, pI_lt_iff, pI_le_iff, pI_eq_iff, ob_s, upE, upN, pI_dec2, asR_some, bitZ0, bitZ1, Sum.elim_inl, Sum.elim_inr, pL0, pL1, pL2, pL3, pL4, pL5, pL6, pL7, pL8, pL10, pL12, pL15, pL16, pL20, pL21, pL22, pL23, pL29, pL31, pL35, pL37, pL48, pL49, pL50, pL52, pL57, pL94, pL97, pL99, pL100, pL127, pL400, pL1000, pL1023, pL1024, pL2000, pL2001, pL2187, pL4095, pL4096, pL8191, pL8192, pL65535, isW1, isW2, hr, hl, h, btw_neg h]
    exact wp_some (wp_some rfl)
  · by_cases hcL : c < L
    · simp (disch := omega) only [↓reduceIte, if_pos, if_neg, ldA_n, stA_n, pI_add, pI_mul, pI_sub, pI_lt_iff, pI_le_iff, pI_eq_iff, ob_s, upE, upN, pI_dec2, asR_some, bitZ0, bitZ1, Sum.elim_inl, Sum.elim_inr, pL0, pL1, pL2, pL3, pL4, pL5, pL6, pL7, pL8, pL10, pL12, pL15, pL16, pL20, pL21, pL22, pL23, pL29, pL31, pL35, pL37, pL48, pL49, pL50, pL52, pL57, pL94, pL97, pL99, pL100, pL127, pL400, pL1000, pL1023, pL1024, pL2000, pL2001, pL2187, pL4095, pL4096, pL8191, pL8192, pL65535, isW1, isW2, hr, hl, btw_in]
      exact wp_some (wp_some (hd c hcL))
    · by_cases h0 : L = 0
      · subst h0
        simp (disch := omega) only [↓reduceIte, if_pos, if_neg, ldA_n, stA_n, pI_add, pI_mul, pI_sub, pI_lt_iff, pI_le_iff, pI_eq_iff, ob_s, upE, upN, pI_dec2, asR_some, bitZ0, bitZ1, Sum.elim_inl, Sum.elim_inr, pL0, pL1, pL2, pL3, pL4, pL5, pL6, pL7, pL8, pL10, pL12, pL15, pL16, pL20, pL21, pL22, pL23, pL29, pL31, pL35, pL37, pL48, pL49, pL50, pL52, pL57, pL94, pL97, pL99, pL100, pL127, pL400, pL1000, pL1023, pL1024, pL2000, pL2001, pL2187, pL4095, pL4096, pL8191, pL8192, pL65535, isW1, isW2, hr, hl, btw_0]
        exact wp_some (wp_some rfl)
      · simp (disch := omega) only [↓reduceIte, if_pos, if_neg, ldA_n, stA_n, pI_add, pI_mul, pI_sub, pI_lt_iff, pI_le_iff, pI_eq_iff, ob_s, upE, upN, pI_dec2, asR_some, bitZ0, bitZ1, Sum.elim_inl, Sum.elim_inr, pL0, pL1, pL2, pL3, pL4, pL5, pL6, pL7, pL8, pL10, pL12, pL15, pL16, pL20, pL21, pL22, pL23, pL29, pL31, pL35, pL37, pL48, pL49, pL50, pL52, pL57, pL94, pL97, pL99, pL100, pL127, pL400, pL1000, pL1023, pL1024, pL2000, pL2001, pL2187, pL4095, pL4096, pL8191, pL8192, pL65535, isW1, isW2, hr, hl, btw_hi]
        exact wp_some (wp_some rfl)
theorem n_letter {x x2 : Int32} {q : Nat} {sz : Int32} {rf : Nat → Option Nat} {ls wl wd : Nat → Int32} (h : f_X11_isWord x = some (nI 0) ∧ f_X12_isWord x = some (nI 0)) : f_X11_letter x x2 q sz ls rf = some (-1) ∧ f_X12_letter x x2 wl wd = some (-1) := by
  unfold f_X11_letter f_X12_letter
  rw [h.1, h.2]
  exact ⟨rfl, rfl⟩
/-- what a call leaves of the words: word w anew, the others as they were -/
def WQ (w : Nat) (sz : Int32) (ls : Nat → Int32) (wl' wd' wl wd : Nat → Int32) : Prop := WordR sz ls (wl' w) wd' (12 * w) ∧ (∀ v, v ≠ w → wl' v = wl v) ∧ ∀ j, j < 12 * w ∨ 12 * w + 12 ≤ j → wd' j = wd j
theorem p_append {x2 : Int32} {q : Nat} {le le' sz : Int32} {rf : Nat → Option Nat} {ls wl wd : Nat → Int32} (w : Nat) (hw : w < 3) (hr : rf w = some q) (hL : LetR le le') (hW : WordR sz ls (wl w) wd (12 * w)) :
    Wp (f_X11_append (nI w) x2 q le rf sz ls) (fun o => Wp (f_X12_append (nI w) x2 le' wl wd) (fun m => o.1 = m.1 ∧ WQ w o.2.1 o.2.2 m.2.1 m.2.2 wl wd)) := by
  have hW0 := hW
  obtain ⟨k, hk1, hk2, rfl, rfl⟩ := hL
  obtain ⟨L, hL, rfl, hl, hd⟩ := hW
  unfold f_X11_append f_X12_append
  rcases iC x2 with h | ⟨c, rfl, hc⟩
  · simp (disch := omega) only [↓reduceIte, if_pos, if_neg, ldA_n, stA_n, pI_add, pI_mul, pI_sub, pI_lt_iff, pI_le_iff, pI_eq_iff, ob_s, upE, upN, pI_dec2, asR_some, bitZ0, bitZ1, Sum.elim_inl, Sum.elim_inr, pL0, pL1, pL2, pL3, pL4, pL5, pL6, pL7, pL8, pL10, pL12, pL15, pL16, pL20, pL21, pL22, pL23, pL29, pL31, pL35, pL37, pL48, pL49, pL50, pL52, pL57, pL94, pL97, pL99, pL100, pL127, pL400, pL1000, pL1023, pL1024, pL2000, pL2001, pL2187, pL4095, pL4096, pL8191, pL8192, pL65535, isW1, isW2, hr, hl, h, btw_neg h]
    exact wp_some (wp_some ⟨rfl, hW0, fun _ _ => rfl, fun _ _ => rfl⟩)
  · by_cases hck : c < k
    · by_cases h12 : L = 12
      · subst h12
        simp (disch := omega) only [↓reduceIte, if_pos, if_neg, ldA_n, stA_n, pI_add, pI_mul, pI_sub, pI_lt_iff, pI_le_iff, pI_eq_iff, ob_s, upE, upN, pI_dec2, asR_some, bitZ0, bitZ1, Sum.elim_inl, Sum.elim_inr, pL0, pL1, pL2, pL3, pL4, pL5, pL6, pL7, pL8, pL10, pL12, pL15, pL16, pL20, pL21, pL22, pL23, pL29, pL31, pL35, pL37, pL48, pL49, pL50, pL52, pL57, pL94, pL97, pL99, pL100, pL127, pL400, pL1000, pL1023, pL1024, pL2000, pL2001, pL2187, pL4095, pL4096, pL8191, pL8192, pL65535, isW1, isW2, hr, hl, btw_in]
        exact wp_some (wp_some ⟨rfl, hW0, fun _ _ => rfl, fun _ _ => rfl⟩)
      · unfold f_X9_push
        simp (disch := omega) only [↓reduceIte, if_pos, if_neg, ldA_n, stA_n, pI_add, pI_mul, pI_sub, pI_lt_iff, pI_le_iff, pI_eq_iff, ob_s, upE, upN, pI_dec2, asR_some, bitZ0, bitZ1, Sum.elim_inl, Sum.elim_inr, pL0, pL1, pL2, pL3, pL4, pL5, pL6, pL7, pL8, pL10, pL12, pL15, pL16, pL20, pL21, pL22, pL23, pL29, pL31, pL35, pL37, pL48, pL49, pL50, pL52, pL57, pL94, pL97, pL99, pL100, pL127, pL400, pL1000, pL1023, pL1024, pL2000, pL2001, pL2187, pL4095, pL4096, pL8191, pL8192, pL65535, isW1, isW2, hr, hl, btw_in]
        refine wp_some (wp_some ⟨rfl, ⟨L + 1, by omega, rfl, upE rfl, fun i hi => ?_⟩, fun v hv => upN hv, fun j hj => upN (by omega)⟩)
        show va_up ls L (nI c) i = va_up wd (12 * w + L) (nI c) (12 * w + i)
        by_cases hi2 : i = L
        · rw [upE hi2, upE (by omega)]
        · rw [upN hi2, upN (by omega), hd i (by omega)]
    · simp (disch := omega) only [↓reduceIte, if_pos, if_neg, ldA_n, stA_n, pI_add, pI_mul, pI_sub, pI_lt_iff, pI_le_iff, pI_eq_iff, ob_s, upE, upN, pI_dec2, asR_some, bitZ0, bitZ1, Sum.elim_inl, Sum.elim_inr, pL0, pL1, pL2, pL3, pL4, pL5, pL6, pL7, pL8, pL10, pL12, pL15, pL16, pL20, pL21, pL22, pL23, pL29, pL31, pL35, pL37, pL48, pL49, pL50, pL52, pL57, pL94, pL97, pL99, pL100, pL127, pL400, pL1000, pL1023, pL1024, pL2000, pL2001, pL2187, pL4095, pL4096, pL8191, pL8192, pL65535, isW1, isW2, hr, hl, btw_hi]
      exact wp_some (wp_some ⟨rfl, hW0, fun _ _ => rfl, fun _ _ => rfl⟩)
theorem n_append {x x2 : Int32} {q : Nat} {le le' sz : Int32} {rf : Nat → Option Nat} {ls wl wd : Nat → Int32} (h : f_X11_isWord x = some (nI 0) ∧ f_X12_isWord x = some (nI 0)) : f_X11_append x x2 q le rf sz ls = some (-1, sz, ls) ∧ f_X12_append x x2 le' wl wd = some (-1, wl, wd) := by
  unfold f_X11_append f_X12_append
  rw [h.1, h.2]
  exact ⟨rfl, rfl⟩
theorem p_clearWord {q : Nat} {sz : Int32} {rf : Nat → Option Nat} {ls wl wd : Nat → Int32} (w : Nat) (hw : w < 3) (hr : rf w = some q) (hW : WordR sz ls (wl w) wd (12 * w)) :
    Wp (f_X11_clearWord (nI w) q rf sz) (fun o => Wp (f_X12_clearWord (nI w) wl) (fun m => o.1 = m.1 ∧ WQ w o.2 ls m.2 wd wl wd)) := by
  obtain ⟨L, hL, rfl, hl, hd⟩ := hW
  unfold f_X11_clearWord f_X12_clearWord
  simp (disch := omega) only [↓reduceIte, if_pos, if_neg, ldA_n, stA_n, pI_add, pI_mul, pI_sub, pI_lt_iff, pI_le_iff, pI_eq_iff, ob_s, upE, upN, pI_dec2, asR_some, bitZ0, bitZ1, Sum.elim_inl, Sum.elim_inr, pL0, pL1, pL2, pL3, pL4, pL5, pL6, pL7, pL8, pL10, pL12, pL15, pL16, pL20, pL21, pL22, pL23, pL29, pL31, pL35, pL37, pL48, pL49, pL50, pL52, pL57, pL94, pL97, pL99, pL100, pL127, pL400, pL1000, pL1023, pL1024, pL2000, pL2001, pL2187, pL4095, pL4096, pL8191, pL8192, pL65535, isW1, isW2, hr, hl]
  exact wp_some (wp_some ⟨rfl, ⟨0, by omega, rfl, upE rfl, fun i hi => by omega⟩, fun v hv => upN hv, fun _ _ => rfl⟩)
theorem n_clearWord {x : Int32} {q : Nat} {sz : Int32} {rf : Nat → Option Nat} {wl : Nat → Int32} (h : f_X11_isWord x = some (nI 0) ∧ f_X12_isWord x = some (nI 0)) : f_X11_clearWord x q rf sz = some (-1, sz) ∧ f_X12_clearWord x wl = some (-1, wl) := by
  unfold f_X11_clearWord f_X12_clearWord
  rw [h.1, h.2]
  exact ⟨rfl, rfl⟩
/-- cells o .. o+L-1 read backwards, as far as i from both ends -/
def revF (f : Nat → Int32) (o L i : Nat) : Nat → Int32 := fun j => if o ≤ j ∧ j < o + L ∧ (j < o + i ∨ o + L ≤ j + i) then f (o + (o + L - 1 - j)) else f j
def palF (f : Nat → Int32) (o L i : Nat) (x : Int32) : Prop := (x = nI 1 ∧ ∀ j, j < i → f (o + j) = f (o + (L - 1 - j))) ∨ (x = nI 0 ∧ ∃ j, j < i ∧ f (o + j) ≠ f (o + (L - 1 - j)))
theorem revF_st {f g : Nat → Int32} {o L i : Nat} (hg : ∀ j, g j = revF f o L i j) (hi : 2 * i < L) : ∀ j, va_up (va_up g (o + i) (f (o + (L - 1 - i)))) (o + (L - 1 - i)) (f (o + i)) j = revF f o L (i + 1) j := by
  intro j
  by_cases h1 : j = o + (L - 1 - i)
  · rw [upE h1]
    unfold revF
    rw [if_pos (by omega)]
    congr 1
    omega
  · rw [upN h1]
    by_cases h2 : j = o + i
    · rw [upE h2]
      unfold revF
      rw [if_pos (by omega)]
      congr 1
      omega
    · rw [upN h2, hg j]
      unfold revF
      by_cases h3 : o ≤ j ∧ j < o + L ∧ (j < o + i ∨ o + L ≤ j + i)
      · rw [if_pos h3, if_pos (by omega)]
      · rw [if_neg h3, if_neg (by omega)]
theorem revF_rd {f : Nat → Int32} {o L i : Nat} (hi : 2 * i < L) : revF f o L i (o + i) = f (o + i) ∧ revF f o L i (o + (L - 1 - i)) = f (o + (L - 1 - i)) := by
  unfold revF
  exact ⟨if_neg (by omega), if_neg (by omega)⟩
theorem palF_st {f : Nat → Int32} {o L i : Nat} {x : Int32} (h : palF f o L i x) : (f (o + i) = f (o + (L - 1 - i)) → palF f o L (i + 1) x) ∧ (¬ f (o + i) = f (o + (L - 1 - i)) → palF f o L (i + 1) (nI 0)) := by
  refine ⟨fun e => ?_, fun e => Or.inr ⟨rfl, i, by omega, e⟩⟩
  rcases h with ⟨a, b⟩ | ⟨a, j, b, c⟩
  · refine Or.inl ⟨a, fun j hj => ?_⟩
    by_cases hji : j = i
    · rw [hji]; exact e
    · exact b j (by omega)
  · exact Or.inr ⟨a, j, by omega, c⟩
theorem turn_ok {L : Nat} {f : Nat → Int32} (hL : L ≤ 12) : Wp (f_X9_turnRound (nI L) f) (fun o => palF f 0 L (L / 2) o.1 ∧ ∀ j, o.2 j = revF f 0 L (L / 2) j) := by
  unfold f_X9_turnRound
  refine wp_seq (Q := fun u => palF f 0 L (L / 2) u.2 ∧ ∀ j, u.1 j = revF f 0 L (L / 2) j) ?_ (fun u hu => ?_)
  · refine wp_up (fun i v => v.2.2 = nI i ∧ palF f 0 L i v.2.1 ∧ ∀ j, v.1 j = revF f 0 L i j) 0 (L / 2) ⟨rfl, Or.inl ⟨rfl, fun j hj => by omega⟩, fun j => (if_neg (by omega)).symm⟩ (by omega) (by omega) ?_ ?_
    · rintro i ⟨g, x, z⟩ h1 h2 ⟨hz, hp, hg⟩
      simp only at hz hp hg
      subst hz
      have hr := revF_rd (f := f) (o := 0) (show 2 * i < L by omega)
      rw [Nat.zero_add, Nat.zero_add] at hr
      have hs := revF_st hg (show 2 * i < L by omega)
      rw [Nat.zero_add, Nat.zero_add] at hs
      have hq := palF_st hp
      rw [Nat.zero_add, Nat.zero_add] at hq
      show Wp (b_X9_turnRound_4 (nI L) g x (nI i)) _
      unfold b_X9_turnRound_4 j_X9_turnRound_50 j_X9_turnRound_51
      simp (disch := omega) only [↓reduceIte, if_pos, if_neg, ldA_n, stA_n, pI_add, pI_mul, pI_sub, pI_lt_iff, pI_le_iff, pI_eq_iff, ob_s, upE, upN, pI_dec2, asR_some, bitZ0, bitZ1, Sum.elim_inl, Sum.elim_inr, pL0, pL1, pL2, pL3, pL4, pL5, pL6, pL7, pL8, pL10, pL12, pL15, pL16, pL20, pL21, pL22, pL23, pL29, pL31, pL35, pL37, pL48, pL49, pL50, pL52, pL57, pL94, pL97, pL99, pL100, pL127, pL400, pL1000, pL1023, pL1024, pL2000, pL2001, pL2187, pL4095, pL4096, pL8191, pL8192, pL65535, dvI_n, hg, hr.1, hr.2]
      refine wp_if (fun hx => wp_l ⟨rfl, ?_, hs⟩) (fun hx => wp_if (fun he => wp_l ⟨rfl, ?_, hs⟩) (fun he => wp_l ⟨rfl, hq.2 he, hs⟩))
      · rcases hp with ⟨a, b⟩ | ⟨a, j, b, c⟩
        · rw [a] at hx
          exact absurd hx (by decide)
        · exact Or.inr ⟨rfl, j, by omega, c⟩
      · rcases hp with ⟨a, b⟩ | ⟨a, j, b, c⟩
        · rw [← a]
          exact hq.1 he
        · exact absurd a hx
    · rintro ⟨g, x, z⟩ ⟨hz, hp, hg⟩
      simp only at hz hp hg
      subst hz
      show Wp (b_X9_turnRound_4 (nI L) g x (nI (L / 2))) _
      unfold b_X9_turnRound_4
      simp (disch := omega) only [↓reduceIte, if_pos, if_neg, ldA_n, stA_n, pI_add, pI_mul, pI_sub, pI_lt_iff, pI_le_iff, pI_eq_iff, ob_s, upE, upN, pI_dec2, asR_some, bitZ0, bitZ1, Sum.elim_inl, Sum.elim_inr, pL0, pL1, pL2, pL3, pL4, pL5, pL6, pL7, pL8, pL10, pL12, pL15, pL16, pL20, pL21, pL22, pL23, pL29, pL31, pL35, pL37, pL48, pL49, pL50, pL52, pL57, pL94, pL97, pL99, pL100, pL127, pL400, pL1000, pL1023, pL1024, pL2000, pL2001, pL2187, pL4095, pL4096, pL8191, pL8192, pL65535, dvI_n]
      exact wp_r ⟨hp, hg⟩
  · rcases hu.1 with ⟨a, b⟩ | ⟨a, b⟩
    · rw [a]
      simp (disch := omega) only [↓reduceIte, if_pos, if_neg, ldA_n, stA_n, pI_add, pI_mul, pI_sub, pI_lt_iff, pI_le_iff, pI_eq_iff, ob_s, upE, upN, pI_dec2, asR_some, bitZ0, bitZ1, Sum.elim_inl, Sum.elim_inr, pL0, pL1, pL2, pL3, pL4, pL5, pL6, pL7, pL8, pL10, pL12, pL15, pL16, pL20, pL21, pL22, pL23, pL29, pL31, pL35, pL37, pL48, pL49, pL50, pL52, pL57, pL94, pL97, pL99, pL100, pL127, pL400, pL1000, pL1023, pL1024, pL2000, pL2001, pL2187, pL4095, pL4096, pL8191, pL8192, pL65535]
      exact wp_some ⟨Or.inl ⟨rfl, b⟩, hu.2⟩
    · rw [a]
      simp (disch := omega) only [↓reduceIte, if_pos, if_neg, ldA_n, stA_n, pI_add, pI_mul, pI_sub, pI_lt_iff, pI_le_iff, pI_eq_iff, ob_s, upE, upN, pI_dec2, asR_some, bitZ0, bitZ1, Sum.elim_inl, Sum.elim_inr, pL0, pL1, pL2, pL3, pL4, pL5, pL6, pL7, pL8, pL10, pL12, pL15, pL16, pL20, pL21, pL22, pL23, pL29, pL31, pL35, pL37, pL48, pL49, pL50, pL52, pL57, pL94, pL97, pL99, pL100, pL127, pL400, pL1000, pL1023, pL1024, pL2000, pL2001, pL2187, pL4095, pL4096, pL8191, pL8192, pL65535]
      exact wp_some ⟨Or.inr ⟨rfl, b⟩, hu.2⟩
theorem rev_ok {w L : Nat} {wl f : Nat → Int32} (hw : w < 3) (hL : L ≤ 12) (hl : wl w = nI L) : Wp (f_X12_reverse (nI w) wl f) (fun o => palF f (12 * w) L ((L + 1) / 2) o.1 ∧ ∀ j, o.2 j = revF f (12 * w) L ((L + 1) / 2) j) := by
  unfold f_X12_reverse
  simp (disch := omega) only [↓reduceIte, if_pos, if_neg, ldA_n, stA_n, pI_add, pI_mul, pI_sub, pI_lt_iff, pI_le_iff, pI_eq_iff, ob_s, upE, upN, pI_dec2, asR_some, bitZ0, bitZ1, Sum.elim_inl, Sum.elim_inr, pL0, pL1, pL2, pL3, pL4, pL5, pL6, pL7, pL8, pL10, pL12, pL15, pL16, pL20, pL21, pL22, pL23, pL29, pL31, pL35, pL37, pL48, pL49, pL50, pL52, pL57, pL94, pL97, pL99, pL100, pL127, pL400, pL1000, pL1023, pL1024, pL2000, pL2001, pL2187, pL4095, pL4096, pL8191, pL8192, pL65535, isW2, hl]
  refine wp_seq (Q := fun u => palF f (12 * w) L ((L + 1) / 2) u.2 ∧ ∀ j, u.1 j = revF f (12 * w) L ((L + 1) / 2) j) ?_ (fun u hu => wp_some hu)
  refine wp_up (fun i v => v.2.2 = nI i ∧ palF f (12 * w) L i v.2.1 ∧ ∀ j, v.1 j = revF f (12 * w) L i j) 0 ((L + 1) / 2) ⟨rfl, Or.inl ⟨rfl, fun j hj => by omega⟩, fun j => (if_neg (by omega)).symm⟩ (by omega) (by omega) ?_ ?_
  · rintro i ⟨g, x, z⟩ h1 h2 ⟨hz, hp, hg⟩
    simp only at hz hp hg
    subst hz
    have hr := revF_rd (f := f) (o := 12 * w) (show 2 * i < L by omega)
    have hs := revF_st hg (show 2 * i < L by omega)
    have hq := palF_st hp
    have he : 12 * w + (L - 1 - i) = 12 * w + L - 1 - i := by omega
    rw [he] at hr hs hq
    show Wp (b_X12_reverse_21 (nI w) (nI L) g x (nI i)) _
    unfold b_X12_reverse_21 j_X12_reverse_77
    simp (disch := omega) only [↓reduceIte, if_pos, if_neg, ldA_n, stA_n, pI_add, pI_mul, pI_sub, pI_lt_iff, pI_le_iff, pI_eq_iff, ob_s, upE, upN, pI_dec2, asR_some, bitZ0, bitZ1, Sum.elim_inl, Sum.elim_inr, pL0, pL1, pL2, pL3, pL4, pL5, pL6, pL7, pL8, pL10, pL12, pL15, pL16, pL20, pL21, pL22, pL23, pL29, pL31, pL35, pL37, pL48, pL49, pL50, pL52, pL57, pL94, pL97, pL99, pL100, pL127, pL400, pL1000, pL1023, pL1024, pL2000, pL2001, pL2187, pL4095, pL4096, pL8191, pL8192, pL65535, hg, hr.1, hr.2]
    exact wp_if (fun e => wp_l ⟨rfl, hq.1 e, hs⟩) (fun e => wp_l ⟨rfl, hq.2 e, hs⟩)
  · rintro ⟨g, x, z⟩ ⟨hz, hp, hg⟩
    simp only at hz hp hg
    subst hz
    show Wp (b_X12_reverse_21 (nI w) (nI L) g x (nI ((L + 1) / 2))) _
    unfold b_X12_reverse_21
    simp (disch := omega) only [↓reduceIte, if_pos, if_neg, ldA_n, stA_n, pI_add, pI_mul, pI_sub, pI_lt_iff, pI_le_iff, pI_eq_iff, ob_s, upE, upN, pI_dec2, asR_some, bitZ0, bitZ1, Sum.elim_inl, Sum.elim_inr, pL0, pL1, pL2, pL3, pL4, pL5, pL6, pL7, pL8, pL10, pL12, pL15, pL16, pL20, pL21, pL22, pL23, pL29, pL31, pL35, pL37, pL48, pL49, pL50, pL52, pL57, pL94, pL97, pL99, pL100, pL127, pL400, pL1000, pL1023, pL1024, pL2000, pL2001, pL2187, pL4095, pL4096, pL8191, pL8192, pL65535]
    exact wp_r ⟨hp, hg⟩
theorem p_reverse {q : Nat} {sz : Int32} {rf : Nat → Option Nat} {ls wl wd : Nat → Int32} (w : Nat) (hw : w < 3) (hr : rf w = some q) (hW : WordR sz ls (wl w) wd (12 * w)) :
    Wp (f_X11_reverse (nI w) q sz rf ls) (fun o => Wp (f_X12_reverse (nI w) wl wd) (fun m => o.1 = m.1 ∧ WQ w sz o.2 wl m.2 wl wd)) := by
  obtain ⟨L, hL, rfl, hl, hd⟩ := hW
  unfold f_X11_reverse
  simp (disch := omega) only [↓reduceIte, if_pos, if_neg, ldA_n, stA_n, pI_add, pI_mul, pI_sub, pI_lt_iff, pI_le_iff, pI_eq_iff, ob_s, upE, upN, pI_dec2, asR_some, bitZ0, bitZ1, Sum.elim_inl, Sum.elim_inr, pL0, pL1, pL2, pL3, pL4, pL5, pL6, pL7, pL8, pL10, pL12, pL15, pL16, pL20, pL21, pL22, pL23, pL29, pL31, pL35, pL37, pL48, pL49, pL50, pL52, pL57, pL94, pL97, pL99, pL100, pL127, pL400, pL1000, pL1023, pL1024, pL2000, pL2001, pL2187, pL4095, pL4096, pL8191, pL8192, pL65535, isW1, hr]
  refine wp_seq (turn_ok hL) (fun u hu => ?_)
  have key : ∀ x, x = u.1 → Wp (f_X12_reverse (nI w) wl wd) (fun m => x = m.1 ∧ WQ w (nI L) u.2 wl m.2 wl wd) := by
    intro x hx
    refine wp_mono (rev_ok hw hL hl) (fun m hm => ⟨?_, ⟨L, hL, rfl, hl, fun i hi => ?_⟩, fun _ _ => rfl, fun j hj => ?_⟩)
    · rw [hx]
      rcases hu.1 with ⟨a, b⟩ | ⟨a, j, b, c⟩
      · rcases hm.1 with ⟨a', b'⟩ | ⟨a', j', b', c'⟩
        · rw [a, a']
        · refine absurd ?_ c'
          by_cases hj : j' < L / 2
          · rw [← hd j' (by omega), ← hd (L - 1 - j') (by omega)]
            have := b j' hj
            rw [Nat.zero_add, Nat.zero_add] at this
            exact this
          · rw [show L - 1 - j' = j' by omega]
      · rcases hm.1 with ⟨a', b'⟩ | ⟨a', j', b', c'⟩
        · refine absurd ?_ c
          rw [Nat.zero_add, Nat.zero_add, hd j (by omega), hd (L - 1 - j) (by omega)]
          exact b' j (by omega)
        · rw [a, a']
    · rw [hu.2 i, hm.2 (12 * w + i)]
      unfold revF
      by_cases h1 : i < L / 2 ∨ L ≤ i + L / 2
      · rw [if_pos (by omega), if_pos (by omega), hd _ (by omega)]
        congr 1
        omega
      · rw [if_neg (by omega), hd i hi]
        by_cases h2 : 12 * w ≤ 12 * w + i ∧ 12 * w + i < 12 * w + L ∧ (12 * w + i < 12 * w + (L + 1) / 2 ∨ 12 * w + L ≤ 12 * w + i + (L + 1) / 2)
        · rw [if_pos h2]
          congr 1
          omega
        · rw [if_neg h2]
    · rw [hm.2 j]
      exact if_neg (by omega)
  rcases hu.1 with ⟨a, b⟩ | ⟨a, b⟩
  · rw [a]
    simp (disch := omega) only [↓reduceIte, if_pos, if_neg, ldA_n, stA_n, pI_add, pI_mul, pI_sub, pI_lt_iff, pI_le_iff, pI_eq_iff, ob_s, upE, upN, pI_dec2, asR_some, bitZ0, bitZ1, Sum.elim_inl, Sum.elim_inr, pL0, pL1, pL2, pL3, pL4, pL5, pL6, pL7, pL8, pL10, pL12, pL15, pL16, pL20, pL21, pL22, pL23, pL29, pL31, pL35, pL37, pL48, pL49, pL50, pL52, pL57, pL94, pL97, pL99, pL100, pL127, pL400, pL1000, pL1023, pL1024, pL2000, pL2001, pL2187, pL4095, pL4096, pL8191, pL8192, pL65535]
    exact wp_some (key (nI 1) a.symm)
  · rw [a]
    simp (disch := omega) only [↓reduceIte, if_pos, if_neg, ldA_n, stA_n, pI_add, pI_mul, pI_sub, pI_lt_iff, pI_le_iff, pI_eq_iff, ob_s, upE, upN, pI_dec2, asR_some, bitZ0, bitZ1, Sum.elim_inl, Sum.elim_inr, pL0, pL1, pL2, pL3, pL4, pL5, pL6, pL7, pL8, pL10, pL12, pL15, pL16, pL20, pL21, pL22, pL23, pL29, pL31, pL35, pL37, pL48, pL49, pL50, pL52, pL57, pL94, pL97, pL99, pL100, pL127, pL400, pL1000, pL1023, pL1024, pL2000, pL2001, pL2187, pL4095, pL4096, pL8191, pL8192, pL65535]
    exact wp_some (key (nI 0) a.symm)
theorem n_reverse {x : Int32} {q : Nat} {sz : Int32} {rf : Nat → Option Nat} {ls wl wd : Nat → Int32} (h : f_X11_isWord x = some (nI 0) ∧ f_X12_isWord x = some (nI 0)) : f_X11_reverse x q sz rf ls = some (-1, ls) ∧ f_X12_reverse x wl wd = some (-1, wd) := by
  unfold f_X11_reverse f_X12_reverse
  rw [h.1, h.2]
  exact ⟨rfl, rfl⟩
