set_option linter.unusedVariables false
/-! the pure part: more rules -/
theorem pL0 : (0 : Int32) = nI 0 := rfl
theorem pL1 : (1 : Int32) = nI 1 := rfl
theorem pL2 : (2 : Int32) = nI 2 := rfl
theorem pL3 : (3 : Int32) = nI 3 := rfl
theorem pL4 : (4 : Int32) = nI 4 := rfl
theorem pL5 : (5 : Int32) = nI 5 := rfl
theorem pL6 : (6 : Int32) = nI 6 := rfl
theorem pL7 : (7 : Int32) = nI 7 := rfl
theorem pL8 : (8 : Int32) = nI 8 := rfl
theorem pL10 : (10 : Int32) = nI 10 := rfl
theorem pL12 : (12 : Int32) = nI 12 := rfl
theorem pL15 : (15 : Int32) = nI 15 := rfl
theorem pL16 : (16 : Int32) = nI 16 := rfl
theorem pL20 : (20 : Int32) = nI 20 := rfl
theorem pL21 : (21 : Int32) = nI 21 := rfl
theorem pL22 : (22 : Int32) = nI 22 := rfl
theorem pL23 : (23 : Int32) = nI 23 := rfl
theorem pL29 : (29 : Int32) = nI 29 := rfl
theorem pL31 : (31 : Int32) = nI 31 := rfl
theorem pL35 : (35 : Int32) = nI 35 := rfl
theorem pL37 : (37 : Int32) = nI 37 := rfl
theorem pL48 : (48 : Int32) = nI 48 := rfl
theorem pL49 : (49 : Int32) = nI 49 := rfl
theorem pL50 : (50 : Int32) = nI 50 := rfl
theorem pL52 : (52 : Int32) = nI 52 := rfl
theorem pL57 : (57 : Int32) = nI 57 := rfl
theorem pL94 : (94 : Int32) = nI 94 := rfl
theorem pL97 : (97 : Int32) = nI 97 := rfl
theorem pL99 : (99 : Int32) = nI 99 := rfl
theorem pL100 : (100 : Int32) = nI 100 := rfl
theorem pL127 : (127 : Int32) = nI 127 := rfl
theorem pL400 : (400 : Int32) = nI 400 := rfl
theorem pL1000 : (1000 : Int32) = nI 1000 := rfl
theorem pL1023 : (1023 : Int32) = nI 1023 := rfl
theorem pL1024 : (1024 : Int32) = nI 1024 := rfl
theorem pL2000 : (2000 : Int32) = nI 2000 := rfl
theorem pL2001 : (2001 : Int32) = nI 2001 := rfl
theorem pL2187 : (2187 : Int32) = nI 2187 := rfl
theorem pL4095 : (4095 : Int32) = nI 4095 := rfl
theorem pL4096 : (4096 : Int32) = nI 4096 := rfl
theorem pL8191 : (8191 : Int32) = nI 8191 := rfl
theorem pL8192 : (8192 : Int32) = nI 8192 := rfl
theorem pL65535 : (65535 : Int32) = nI 65535 := rfl
theorem ob_s {α β : Type} {a : α} {f : α → Option β} : (some a).bind f = f a := rfl
theorem pI_dec2 {a : Nat} (h : 0 < a) : nI a + -nI 1 = nI (a - 1) := pI_dec h
theorem wp_l {V X : Type} {v : V} {Q : V → Prop} {P : X → Prop} (h : Q v) : Wp (some (Sum.inl v : V ⊕ X)) (Sum.elim Q P) := ⟨_, rfl, h⟩
theorem wp_r {V X : Type} {x : X} {Q : V → Prop} {P : X → Prop} (h : P x) : Wp (some (Sum.inr x : V ⊕ X)) (Sum.elim Q P) := ⟨_, rfl, h⟩
theorem op_of {α β : Type} {f : Option α} {g : Option β} {Q R : α → β → Prop} (h : Wp f (fun o => Wp g (fun m => Q o m))) (k : ∀ o m, Q o m → R o m) : ∃ (o : α) (m : β), f = some o ∧ g = some m ∧ R o m := by
  obtain ⟨o, h1, m, h2, h3⟩ := h
  exact ⟨o, m, h1, h2, k o m h3⟩
/-- a loop that writes cells o+a, .., o+b-1 -/
theorem wp_fill {α X : Type} {B : (Nat → α) × Int32 → Option (((Nat → α) × Int32) ⊕ X)} {f0 : Nat → α} {P : X → Prop} (o a b : Nat) (val : Nat → α) (hab : a ≤ b) (hb : b - a < 200000)
    (hs : ∀ i f, a ≤ i → i < b → (∀ j, f j = if o + a ≤ j ∧ j < o + i then val (j - o) else f0 j) → B (f, nI i) = some (.inl (va_up f (o + i) (val i), nI (i + 1))))
    (he : ∀ f, (∀ j, f j = if o + a ≤ j ∧ j < o + b then val (j - o) else f0 j) → Wp (B (f, nI b)) (Sum.elim (fun _ => False) P)) : Wp (loopN B FU (f0, nI a)) P := by
  refine wp_up (fun i v => v.2 = nI i ∧ ∀ j, v.1 j = if o + a ≤ j ∧ j < o + i then val (j - o) else f0 j) a b ⟨rfl, fun j => by rw [if_neg (by omega)]⟩ hab hb ?_ ?_
  · rintro i ⟨f, x⟩ h1 h2 ⟨hx, hf⟩
    simp only at hx hf
    subst hx
    rw [hs i f h1 h2 hf]
    refine wp_l ⟨rfl, fun j => ?_⟩
    show va_up f (o + i) (val i) j = _
    by_cases hj : j = o + i
    · rw [upE hj, if_pos (by omega), hj, Nat.add_sub_cancel_left]
    · rw [upN hj, hf j]
      by_cases hk : o + a ≤ j ∧ j < o + i
      · rw [if_pos hk, if_pos (by omega)]
      · rw [if_neg hk, if_neg (by omega)]
  · rintro ⟨f, x⟩ ⟨hx, hf⟩
    simp only at hx hf
    subst hx
    exact he f hf
theorem neg_lt_n {j : Nat} (h : j < 2 ^ 31) : nI 0 - nI 1 < nI j := by
  rw [show nI 0 - nI 1 = (-1 : Int32) by decide]
  exact i_neg_lt (by decide) h
/-- numbers in a range 0 .. T-1, as the class and as the reference ask -/
theorem btw_T {x : Int32} {T : Nat} (hT : T < 2 ^ 31) : (∃ j, j < T ∧ x = nI j ∧ f_X12_isBetween x (nI 0) (nI T - nI 1) = some (nI 1)) ∨ (f_X12_isBetween x (nI 0) (nI T - nI 1) = some (nI 0) ∧ (x < nI 0 ∨ nI T ≤ x)) := by
  rcases i_cases x with h | ⟨j, rfl, hj⟩
  · refine Or.inr ⟨?_, Or.inl h⟩
    unfold f_X12_isBetween
    rw [if_pos (show x < nI 0 from h)]
    rfl
  · by_cases hjT : j < T
    · refine Or.inl ⟨j, hjT, rfl, ?_⟩
      unfold f_X12_isBetween
      simp (disch := omega) only [↓reduceIte, if_pos, if_neg, ldA_n, stA_n, pI_add, pI_mul, pI_sub, pI_lt_iff, pI_le_iff, pI_eq_iff, ob_s, upE, upN, pI_dec2, asR_some, bitZ0, bitZ1, Sum.elim_inl, Sum.elim_inr, pL0, pL1, pL2, pL3, pL4, pL5, pL6, pL7, pL8, pL10, pL12, pL15, pL16, pL20, pL21, pL22, pL23, pL29, pL31, pL35, pL37, pL48, pL49, pL50, pL52, pL57, pL94, pL97, pL99, pL100, pL127, pL400, pL1000, pL1023, pL1024, pL2000, pL2001, pL2187, pL4095, pL4096, pL8191, pL8192, pL65535]
    · refine Or.inr ⟨?_, Or.inr ((pI_le_iff hT hj).mpr (by omega))⟩
      unfold f_X12_isBetween
      by_cases h0 : T = 0
      · subst h0
        rw [if_neg (show ¬ nI j < nI 0 from pI_nneg hj), if_pos (neg_lt_n hj)]
        rfl
      · simp (disch := omega) only [↓reduceIte, if_pos, if_neg, ldA_n, stA_n, pI_add, pI_mul, pI_sub, pI_lt_iff, pI_le_iff, pI_eq_iff, ob_s, upE, upN, pI_dec2, asR_some, bitZ0, bitZ1, Sum.elim_inl, Sum.elim_inr, pL0, pL1, pL2, pL3, pL4, pL5, pL6, pL7, pL8, pL10, pL12, pL15, pL16, pL20, pL21, pL22, pL23, pL29, pL31, pL35, pL37, pL48, pL49, pL50, pL52, pL57, pL94, pL97, pL99, pL100, pL127, pL400, pL1000, pL1023, pL1024, pL2000, pL2001, pL2187, pL4095, pL4096, pL8191, pL8192, pL65535]
theorem btw_in {j a b : Nat} (h1 : a ≤ j) (h2 : j ≤ b) (hb : b < 2 ^ 31) : f_X12_isBetween (nI j) (nI a) (nI b) = some (nI 1) := by
  unfold f_X12_isBetween
  simp (disch := omega) only [↓reduceIte, if_pos, if_neg, ldA_n, stA_n, pI_add, pI_mul, pI_sub, pI_lt_iff, pI_le_iff, pI_eq_iff, ob_s, upE, upN, pI_dec2, asR_some, bitZ0, bitZ1, Sum.elim_inl, Sum.elim_inr, pL0, pL1, pL2, pL3, pL4, pL5, pL6, pL7, pL8, pL10, pL12, pL15, pL16, pL20, pL21, pL22, pL23, pL29, pL31, pL35, pL37, pL48, pL49, pL50, pL52, pL57, pL94, pL97, pL99, pL100, pL127, pL400, pL1000, pL1023, pL1024, pL2000, pL2001, pL2187, pL4095, pL4096, pL8191, pL8192, pL65535]
theorem btw_out {x : Int32} {a b : Nat} (hb : b < 2 ^ 31) (hab : a ≤ b) : (∃ j, a ≤ j ∧ j ≤ b ∧ x = nI j) ∨ (f_X12_isBetween x (nI a) (nI b) = some (nI 0) ∧ (x < nI a ∨ nI b < x)) := by
  rcases i_cases x with h | ⟨j, rfl, hj⟩
  · have hx : x < nI a := i_neg_lt h (by omega)
    refine Or.inr ⟨?_, Or.inl hx⟩
    unfold f_X12_isBetween
    rw [if_pos hx]
    rfl
  · by_cases h1 : a ≤ j ∧ j ≤ b
    · exact Or.inl ⟨j, h1.1, h1.2, rfl⟩
    · refine Or.inr ⟨?_, ?_⟩
      · unfold f_X12_isBetween
        by_cases h2 : j < a
        · simp (disch := omega) only [↓reduceIte, if_pos, if_neg, ldA_n, stA_n, pI_add, pI_mul, pI_sub, pI_lt_iff, pI_le_iff, pI_eq_iff, ob_s, upE, upN, pI_dec2, asR_some, bitZ0, bitZ1, Sum.elim_inl, Sum.elim_inr, pL0, pL1, pL2, pL3, pL4, pL5, pL6, pL7, pL8, pL10, pL12, pL15, pL16, pL20, pL21, pL22, pL23, pL29, pL31, pL35, pL37, pL48, pL49, pL50, pL52, pL57, pL94, pL97, pL99, pL100, pL127, pL400, pL1000, pL1023, pL1024, pL2000, pL2001, pL2187, pL4095, pL4096, pL8191, pL8192, pL65535]
        · simp (disch := omega) only [↓reduceIte, if_pos, if_neg, ldA_n, stA_n, pI_add, pI_mul, pI_sub, pI_lt_iff, pI_le_iff, pI_eq_iff, ob_s, upE, upN, pI_dec2, asR_some, bitZ0, bitZ1, Sum.elim_inl, Sum.elim_inr, pL0, pL1, pL2, pL3, pL4, pL5, pL6, pL7, pL8, pL10, pL12, pL15, pL16, pL20, pL21, pL22, pL23, pL29, pL31, pL35, pL37, pL48, pL49, pL50, pL52, pL57, pL94, pL97, pL99, pL100, pL127, pL400, pL1000, pL1023, pL1024, pL2000, pL2001, pL2187, pL4095, pL4096, pL8191, pL8192, pL65535]
      · by_cases h2 : j < a
        · exact Or.inl ((pI_lt_iff hj (by omega)).mpr h2)
        · exact Or.inr ((pI_lt_iff hb hj).mpr (by omega))
theorem isW (w : Nat) (h : w < 3) : f_X11_isWord (nI w) = some (nI 1) ∧ f_X12_isWord (nI w) = some (nI 1) := by
  refine ⟨?_, ?_⟩
  · unfold f_X11_isWord
    simp (disch := omega) only [↓reduceIte, if_pos, if_neg, ldA_n, stA_n, pI_add, pI_mul, pI_sub, pI_lt_iff, pI_le_iff, pI_eq_iff, ob_s, upE, upN, pI_dec2, asR_some, bitZ0, bitZ1, Sum.elim_inl, Sum.elim_inr, pL0, pL1, pL2, pL3, pL4, pL5, pL6, pL7, pL8, pL10, pL12, pL15, pL16, pL20, pL21, pL22, pL23, pL29, pL31, pL35, pL37, pL48, pL49, pL50, pL52, pL57, pL94, pL97, pL99, pL100, pL127, pL400, pL1000, pL1023, pL1024, pL2000, pL2001, pL2187, pL4095, pL4096, pL8191, pL8192, pL65535]
  · unfold f_X12_isWord
    simp (disch := omega) only [↓reduceIte, if_pos, if_neg, ldA_n, stA_n, pI_add, pI_mul, pI_sub, pI_lt_iff, pI_le_iff, pI_eq_iff, ob_s, upE, upN, pI_dec2, asR_some, bitZ0, bitZ1, Sum.elim_inl, Sum.elim_inr, pL0, pL1, pL2, pL3, pL4, pL5, pL6, pL7, pL8, pL10, pL12, pL15, pL16, pL20, pL21, pL22, pL23, pL29, pL31, pL35, pL37, pL48, pL49, pL50, pL52, pL57, pL94, pL97, pL99, pL100, pL127, pL400, pL1000, pL1023, pL1024, pL2000, pL2001, pL2187, pL4095, pL4096, pL8191, pL8192, pL65535, btw_in]
theorem isW1 {w : Nat} (h : w < 3) : f_X11_isWord (nI w) = some (nI 1) := (isW w h).1
theorem isW2 {w : Nat} (h : w < 3) : f_X12_isWord (nI w) = some (nI 1) := (isW w h).2
theorem wordC (x : Int32) : (∃ w, w < 3 ∧ x = nI w) ∨ (f_X11_isWord x = some (nI 0) ∧ f_X12_isWord x = some (nI 0)) := by
  rcases btw_out (x := x) (a := 0) (b := 2) (by omega) (by omega) with ⟨j, h1, h2, rfl⟩ | ⟨h, h2⟩
  · exact Or.inl ⟨j, by omega, rfl⟩
  · refine Or.inr ⟨?_, ?_⟩
    · unfold f_X11_isWord
      rcases h2 with h2 | h2
      · rw [if_pos (show x < 0 from h2)]; rfl
      · rcases i_cases x with h3 | ⟨j, rfl, hj⟩
        · rw [if_pos h3]; rfl
        · have := (pI_lt_iff (by omega) hj).mp h2
          simp (disch := omega) only [↓reduceIte, if_pos, if_neg, ldA_n, stA_n, pI_add, pI_mul, pI_sub, pI_lt_iff, pI_le_iff, pI_eq_iff, ob_s, upE, upN, pI_dec2, asR_some, bitZ0, bitZ1, Sum.elim_inl, Sum.elim_inr, pL0, pL1, pL2, pL3, pL4, pL5, pL6, pL7, pL8, pL10, pL12, pL15, pL16, pL20, pL21, pL22, pL23, pL29, pL31, pL35, pL37, pL48, pL49, pL50, pL52, pL57, pL94, pL97, pL99, pL100, pL127, pL400, pL1000, pL1023, pL1024, pL2000, pL2001, pL2187, pL4095, pL4096, pL8191, pL8192, pL65535]
    · unfold f_X12_isWord
      simp (disch := omega) only [ldA_n, stA_n, pI_add, pI_mul, pI_sub, pI_lt_iff, pI_le_iff, pI_eq_iff, ob_s, upE, upN, pI_dec2, asR_some, bitZ0, bitZ1, Sum.elim_inl, Sum.elim_inr, pL0, pL1, pL2, pL3, pL4, pL5, pL6, pL7, pL8, pL10, pL12, pL15, pL16, pL20, pL21, pL22, pL23, pL29, pL31, pL35, pL37, pL48, pL49, pL50, pL52, pL57, pL94, pL97, pL99, pL100, pL127, pL400, pL1000, pL1023, pL1024, pL2000, pL2001, pL2187, pL4095, pL4096, pL8191, pL8192, pL65535, h]
theorem isL (w : Nat) (h : w < 4) : f_X11_isLanguage (nI w) = some (nI 1) ∧ f_X12_isLanguage (nI w) = some (nI 1) := by
  refine ⟨?_, ?_⟩
  · unfold f_X11_isLanguage
    simp (disch := omega) only [↓reduceIte, if_pos, if_neg, ldA_n, stA_n, pI_add, pI_mul, pI_sub, pI_lt_iff, pI_le_iff, pI_eq_iff, ob_s, upE, upN, pI_dec2, asR_some, bitZ0, bitZ1, Sum.elim_inl, Sum.elim_inr, pL0, pL1, pL2, pL3, pL4, pL5, pL6, pL7, pL8, pL10, pL12, pL15, pL16, pL20, pL21, pL22, pL23, pL29, pL31, pL35, pL37, pL48, pL49, pL50, pL52, pL57, pL94, pL97, pL99, pL100, pL127, pL400, pL1000, pL1023, pL1024, pL2000, pL2001, pL2187, pL4095, pL4096, pL8191, pL8192, pL65535]
  · unfold f_X12_isLanguage
    simp (disch := omega) only [↓reduceIte, if_pos, if_neg, ldA_n, stA_n, pI_add, pI_mul, pI_sub, pI_lt_iff, pI_le_iff, pI_eq_iff, ob_s, upE, upN, pI_dec2, asR_some, bitZ0, bitZ1, Sum.elim_inl, Sum.elim_inr, pL0, pL1, pL2, pL3, pL4, pL5, pL6, pL7, pL8, pL10, pL12, pL15, pL16, pL20, pL21, pL22, pL23, pL29, pL31, pL35, pL37, pL48, pL49, pL50, pL52, pL57, pL94, pL97, pL99, pL100, pL127, pL400, pL1000, pL1023, pL1024, pL2000, pL2001, pL2187, pL4095, pL4096, pL8191, pL8192, pL65535, btw_in]
theorem isL1 {w : Nat} (h : w < 4) : f_X11_isLanguage (nI w) = some (nI 1) := (isL w h).1
theorem isL2 {w : Nat} (h : w < 4) : f_X12_isLanguage (nI w) = some (nI 1) := (isL w h).2
theorem langC (x : Int32) : (∃ w, w < 4 ∧ x = nI w) ∨ (f_X11_isLanguage x = some (nI 0) ∧ f_X12_isLanguage x = some (nI 0)) := by
  rcases btw_out (x := x) (a := 0) (b := 3) (by omega) (by omega) with ⟨j, h1, h2, rfl⟩ | ⟨h, h2⟩
  · exact Or.inl ⟨j, by omega, rfl⟩
  · refine Or.inr ⟨?_, ?_⟩
    · unfold f_X11_isLanguage
      rcases h2 with h2 | h2
      · rw [if_pos (show x < 0 from h2)]; rfl
      · rcases i_cases x with h3 | ⟨j, rfl, hj⟩
        · rw [if_pos h3]; rfl
        · have := (pI_lt_iff (by omega) hj).mp h2
          simp (disch := omega) only [↓reduceIte, if_pos, if_neg, ldA_n, stA_n, pI_add, pI_mul, pI_sub, pI_lt_iff, pI_le_iff, pI_eq_iff, ob_s, upE, upN, pI_dec2, asR_some, bitZ0, bitZ1, Sum.elim_inl, Sum.elim_inr, pL0, pL1, pL2, pL3, pL4, pL5, pL6, pL7, pL8, pL10, pL12, pL15, pL16, pL20, pL21, pL22, pL23, pL29, pL31, pL35, pL37, pL48, pL49, pL50, pL52, pL57, pL94, pL97, pL99, pL100, pL127, pL400, pL1000, pL1023, pL1024, pL2000, pL2001, pL2187, pL4095, pL4096, pL8191, pL8192, pL65535]
    · unfold f_X12_isLanguage
      simp (disch := omega) only [ldA_n, stA_n, pI_add, pI_mul, pI_sub, pI_lt_iff, pI_le_iff, pI_eq_iff, ob_s, upE, upN, pI_dec2, asR_some, bitZ0, bitZ1, Sum.elim_inl, Sum.elim_inr, pL0, pL1, pL2, pL3, pL4, pL5, pL6, pL7, pL8, pL10, pL12, pL15, pL16, pL20, pL21, pL22, pL23, pL29, pL31, pL35, pL37, pL48, pL49, pL50, pL52, pL57, pL94, pL97, pL99, pL100, pL127, pL400, pL1000, pL1023, pL1024, pL2000, pL2001, pL2187, pL4095, pL4096, pL8191, pL8192, pL65535, h]
theorem isRw (w : Nat) (h : w < 3) : f_X11_isRow (nI w) = some (nI 1) ∧ f_X12_isRow (nI w) = some (nI 1) := by
  refine ⟨?_, ?_⟩
  · unfold f_X11_isRow
    simp (disch := omega) only [↓reduceIte, if_pos, if_neg, ldA_n, stA_n, pI_add, pI_mul, pI_sub, pI_lt_iff, pI_le_iff, pI_eq_iff, ob_s, upE, upN, pI_dec2, asR_some, bitZ0, bitZ1, Sum.elim_inl, Sum.elim_inr, pL0, pL1, pL2, pL3, pL4, pL5, pL6, pL7, pL8, pL10, pL12, pL15, pL16, pL20, pL21, pL22, pL23, pL29, pL31, pL35, pL37, pL48, pL49, pL50, pL52, pL57, pL94, pL97, pL99, pL100, pL127, pL400, pL1000, pL1023, pL1024, pL2000, pL2001, pL2187, pL4095, pL4096, pL8191, pL8192, pL65535]
  · unfold f_X12_isRow
    simp (disch := omega) only [↓reduceIte, if_pos, if_neg, ldA_n, stA_n, pI_add, pI_mul, pI_sub, pI_lt_iff, pI_le_iff, pI_eq_iff, ob_s, upE, upN, pI_dec2, asR_some, bitZ0, bitZ1, Sum.elim_inl, Sum.elim_inr, pL0, pL1, pL2, pL3, pL4, pL5, pL6, pL7, pL8, pL10, pL12, pL15, pL16, pL20, pL21, pL22, pL23, pL29, pL31, pL35, pL37, pL48, pL49, pL50, pL52, pL57, pL94, pL97, pL99, pL100, pL127, pL400, pL1000, pL1023, pL1024, pL2000, pL2001, pL2187, pL4095, pL4096, pL8191, pL8192, pL65535, btw_in]
theorem isRw1 {w : Nat} (h : w < 3) : f_X11_isRow (nI w) = some (nI 1) := (isRw w h).1
theorem isRw2 {w : Nat} (h : w < 3) : f_X12_isRow (nI w) = some (nI 1) := (isRw w h).2
theorem rowC (x : Int32) : (∃ w, w < 3 ∧ x = nI w) ∨ (f_X11_isRow x = some (nI 0) ∧ f_X12_isRow x = some (nI 0)) := by
  rcases btw_out (x := x) (a := 0) (b := 2) (by omega) (by omega) with ⟨j, h1, h2, rfl⟩ | ⟨h, h2⟩
  · exact Or.inl ⟨j, by omega, rfl⟩
  · refine Or.inr ⟨?_, ?_⟩
    · unfold f_X11_isRow
      rcases h2 with h2 | h2
      · rw [if_pos (show x < 0 from h2)]; rfl
      · rcases i_cases x with h3 | ⟨j, rfl, hj⟩
        · rw [if_pos h3]; rfl
        · have := (pI_lt_iff (by omega) hj).mp h2
          simp (disch := omega) only [↓reduceIte, if_pos, if_neg, ldA_n, stA_n, pI_add, pI_mul, pI_sub, pI_lt_iff, pI_le_iff, pI_eq_iff, ob_s, upE, upN, pI_dec2, asR_some, bitZ0, bitZ1, Sum.elim_inl, Sum.elim_inr, pL0, pL1, pL2, pL3, pL4, pL5, pL6, pL7, pL8, pL10, pL12, pL15, pL16, pL20, pL21, pL22, pL23, pL29, pL31, pL35, pL37, pL48, pL49, pL50, pL52, pL57, pL94, pL97, pL99, pL100, pL127, pL400, pL1000, pL1023, pL1024, pL2000, pL2001, pL2187, pL4095, pL4096, pL8191, pL8192, pL65535]
    · unfold f_X12_isRow
      simp (disch := omega) only [ldA_n, stA_n, pI_add, pI_mul, pI_sub, pI_lt_iff, pI_le_iff, pI_eq_iff, ob_s, upE, upN, pI_dec2, asR_some, bitZ0, bitZ1, Sum.elim_inl, Sum.elim_inr, pL0, pL1, pL2, pL3, pL4, pL5, pL6, pL7, pL8, pL10, pL12, pL15, pL16, pL20, pL21, pL22, pL23, pL29, pL31, pL35, pL37, pL48, pL49, pL50, pL52, pL57, pL94, pL97, pL99, pL100, pL127, pL400, pL1000, pL1023, pL1024, pL2000, pL2001, pL2187, pL4095, pL4096, pL8191, pL8192, pL65535, h]
theorem testC (x : Int32) {T : Nat} (hT : T ≤ 6) : (∃ j, j < T ∧ x = nI j ∧ f_X11_isTest x (nI T) = some (nI 1) ∧ f_X12_isTest x (nI T) = some (nI 1)) ∨ (f_X11_isTest x (nI T) = some (nI 0) ∧ f_X12_isTest x (nI T) = some (nI 0)) := by
  rcases btw_T (x := x) (T := T) (by omega) with ⟨j, h1, rfl, h⟩ | ⟨h, h2⟩
  · refine Or.inl ⟨j, h1, rfl, ?_, ?_⟩
    · unfold f_X11_isTest
      simp (disch := omega) only [↓reduceIte, if_pos, if_neg, ldA_n, stA_n, pI_add, pI_mul, pI_sub, pI_lt_iff, pI_le_iff, pI_eq_iff, ob_s, upE, upN, pI_dec2, asR_some, bitZ0, bitZ1, Sum.elim_inl, Sum.elim_inr, pL0, pL1, pL2, pL3, pL4, pL5, pL6, pL7, pL8, pL10, pL12, pL15, pL16, pL20, pL21, pL22, pL23, pL29, pL31, pL35, pL37, pL48, pL49, pL50, pL52, pL57, pL94, pL97, pL99, pL100, pL127, pL400, pL1000, pL1023, pL1024, pL2000, pL2001, pL2187, pL4095, pL4096, pL8191, pL8192, pL65535]
    · unfold f_X12_isTest
      rw [show f_X12_isBetween (nI j) 0 (nI T - 1) = some (nI 1) from h]
      rfl
  · refine Or.inr ⟨?_, ?_⟩
    · unfold f_X11_isTest
      rcases h2 with h2 | h2
      · rw [if_pos (show x < 0 from h2)]; rfl
      · rcases i_cases x with h3 | ⟨j, rfl, hj⟩
        · rw [if_pos h3]; rfl
        · have := (pI_le_iff (by omega) hj).mp h2
          simp (disch := omega) only [↓reduceIte, if_pos, if_neg, ldA_n, stA_n, pI_add, pI_mul, pI_sub, pI_lt_iff, pI_le_iff, pI_eq_iff, ob_s, upE, upN, pI_dec2, asR_some, bitZ0, bitZ1, Sum.elim_inl, Sum.elim_inr, pL0, pL1, pL2, pL3, pL4, pL5, pL6, pL7, pL8, pL10, pL12, pL15, pL16, pL20, pL21, pL22, pL23, pL29, pL31, pL35, pL37, pL48, pL49, pL50, pL52, pL57, pL94, pL97, pL99, pL100, pL127, pL400, pL1000, pL1023, pL1024, pL2000, pL2001, pL2187, pL4095, pL4096, pL8191, pL8192, pL65535]
    · unfold f_X12_isTest
      rw [show f_X12_isBetween x 0 (nI T - 1) = some (nI 0) from h]
      rfl
theorem three {w : Nat} (h : w < 3) : w = 0 ∨ w = 1 ∨ w = 2 := by omega
theorem four {w : Nat} (h : w < 4) : w = 0 ∨ w = 1 ∨ w = 2 ∨ w = 3 := by omega
theorem rel_mk {cy : Nat → ClassId} {n : Nat} {ad : Nat → Nat} {E : Nat → va_E} {PT : va_W} {tq : Nat → Option TV} {lq : Nat → Bool}
    (rR : RefsR ad (gR (E 54)) (gR (E 68)) (gR (E 82))) (rL : LetR (gS (E 53) 0) (gS (E 0) 0))
    (rW0 : WordR (gS (E 55) 1) (gI (E 56)) (gI (E 1) 0) (gI (E 2)) 0) (rW1 : WordR (gS (E 58) 1) (gI (E 59)) (gI (E 1) 1) (gI (E 2)) 12) (rW2 : WordR (gS (E 61) 1) (gI (E 62)) (gI (E 1) 2) (gI (E 2)) 24)
    (rT : TestsR tq (gS (E 64) 1) (gR (E 65)) (gS (E 0) 10) (gI (E 5)) (gI (E 6)) (gI (E 7)) (gI (E 8))) (rG : LangsR cy PT tq lq (gR (E 66)) (gI (E 12)) (gI (E 13)) (gI (E 14)) (gI (E 15)) (gI (E 16)) (gI (E 17)) (gI (E 18)) (gI (E 19)))
    (rI : InputR (gS (E 52) 4) (gI (E 81)) (gS (E 0) 11) (gI (E 9))) (rA : RowR (gS (E 83) 0) (gS (E 83) 1) (gI (E 84)) (gI (E 47) 0) (gI (E 48) 0) (gI (E 49)) 0) (rB : RowR (gS (E 85) 0) (gS (E 85) 1) (gI (E 86)) (gI (E 47) 1) (gI (E 48) 1) (gI (E 49)) 21) (rC : RowR (gS (E 87) 0) (gS (E 87) 1) (gI (E 88)) (gI (E 47) 2) (gI (E 48) 2) (gI (E 49)) 42)
    (rS : SnapR cy PT tq lq (gS (E 52) 2) (gS (E 0) 66) (gS (E 67) 0) (gS (E 69) 1) (gS (E 72) 1) (gS (E 75) 1) (gI (E 70)) (gI (E 73)) (gI (E 76)) (gS (E 78) 1) (gR (E 79)) (gR (E 80)) (gI (E 51))) (rM : MonR n ad (gV (E 52) 10)) (rZ : gS (E 110) 8 = 0) : REL cy n ad E PT tq lq :=
  And.intro (And.intro rR (And.intro rL (And.intro rW0 (And.intro rW1 rW2)))) (And.intro (And.intro rT rG) (And.intro rI (And.intro rA (And.intro rB (And.intro rC (And.intro rS (And.intro rM rZ)))))))
theorem rel_el {cy : Nat → ClassId} {n : Nat} {ad : Nat → Nat} {E : Nat → va_E} {PT : va_W} {tq : Nat → Option TV} {lq : Nat → Bool} (h : REL cy n ad E PT tq lq) :
    RefsR ad (gR (E 54)) (gR (E 68)) (gR (E 82)) ∧ LetR (gS (E 53) 0) (gS (E 0) 0) ∧
    WordR (gS (E 55) 1) (gI (E 56)) (gI (E 1) 0) (gI (E 2)) 0 ∧ WordR (gS (E 58) 1) (gI (E 59)) (gI (E 1) 1) (gI (E 2)) 12 ∧ WordR (gS (E 61) 1) (gI (E 62)) (gI (E 1) 2) (gI (E 2)) 24 ∧
    TestsR tq (gS (E 64) 1) (gR (E 65)) (gS (E 0) 10) (gI (E 5)) (gI (E 6)) (gI (E 7)) (gI (E 8)) ∧ LangsR cy PT tq lq (gR (E 66)) (gI (E 12)) (gI (E 13)) (gI (E 14)) (gI (E 15)) (gI (E 16)) (gI (E 17)) (gI (E 18)) (gI (E 19)) ∧
    InputR (gS (E 52) 4) (gI (E 81)) (gS (E 0) 11) (gI (E 9)) ∧ RowR (gS (E 83) 0) (gS (E 83) 1) (gI (E 84)) (gI (E 47) 0) (gI (E 48) 0) (gI (E 49)) 0 ∧ RowR (gS (E 85) 0) (gS (E 85) 1) (gI (E 86)) (gI (E 47) 1) (gI (E 48) 1) (gI (E 49)) 21 ∧ RowR (gS (E 87) 0) (gS (E 87) 1) (gI (E 88)) (gI (E 47) 2) (gI (E 48) 2) (gI (E 49)) 42 ∧
    SnapR cy PT tq lq (gS (E 52) 2) (gS (E 0) 66) (gS (E 67) 0) (gS (E 69) 1) (gS (E 72) 1) (gS (E 75) 1) (gI (E 70)) (gI (E 73)) (gI (E 76)) (gS (E 78) 1) (gR (E 79)) (gR (E 80)) (gI (E 51)) ∧ MonR n ad (gV (E 52) 10) ∧ gS (E 110) 8 = 0 := by
  obtain ⟨⟨rR, rL, rW0, rW1, rW2⟩, ⟨rT, rG⟩, rI, rA, rB, rC, rS, rM, rZ⟩ := h
  exact ⟨rR, rL, rW0, rW1, rW2, rT, rG, rI, rA, rB, rC, rS, rM, rZ⟩
theorem WordR_fr {sz : Int32} {ls : Nat → Int32} {wl wl' : Int32} {wd wd' : Nat → Int32} {o : Nat} (h : WordR sz ls wl wd o) (h1 : wl' = wl) (h2 : ∀ i, i < 12 → wd' (o + i) = wd (o + i)) : WordR sz ls wl' wd' o := by
  obtain ⟨L, a, b, c, d⟩ := h
  exact ⟨L, a, b, h1.trans c, fun i hi => by rw [h2 i (by omega)]; exact d i hi⟩
theorem iC (x : Int32) : x < nI 0 ∨ ∃ j, x = nI j ∧ j < 2 ^ 31 := i_cases x
theorem btw_neg {x y : Int32} (h : x < nI 0) : f_X12_isBetween x (nI 0) y = some (nI 0) := by
  unfold f_X12_isBetween
  rw [if_pos h]
  rfl
theorem btw_hi {j a b : Nat} (h : b < j) (hj : j < 2 ^ 31) (hab : a ≤ b) : f_X12_isBetween (nI j) (nI a) (nI b) = some (nI 0) := by
  unfold f_X12_isBetween
  simp (disch := omega) only [↓reduceIte, if_pos, if_neg, ldA_n, stA_n, pI_add, pI_mul, pI_sub, pI_lt_iff, pI_le_iff, pI_eq_iff, ob_s, upE, upN, pI_dec2, asR_some, bitZ0, bitZ1, Sum.elim_inl, Sum.elim_inr, pL0, pL1, pL2, pL3, pL4, pL5, pL6, pL7, pL8, pL10, pL12, pL15, pL16, pL20, pL21, pL22, pL23, pL29, pL31, pL35, pL37, pL48, pL49, pL50, pL52, pL57, pL94, pL97, pL99, pL100, pL127, pL400, pL1000, pL1023, pL1024, pL2000, pL2001, pL2187, pL4095, pL4096, pL8191, pL8192, pL65535]
theorem btw_lo {j a b : Nat} (h : j < a) (ha : a < 2 ^ 31) : f_X12_isBetween (nI j) (nI a) (nI b) = some (nI 0) := by
  unfold f_X12_isBetween
  simp (disch := omega) only [↓reduceIte, if_pos, if_neg, ldA_n, stA_n, pI_add, pI_mul, pI_sub, pI_lt_iff, pI_le_iff, pI_eq_iff, ob_s, upE, upN, pI_dec2, asR_some, bitZ0, bitZ1, Sum.elim_inl, Sum.elim_inr, pL0, pL1, pL2, pL3, pL4, pL5, pL6, pL7, pL8, pL10, pL12, pL15, pL16, pL20, pL21, pL22, pL23, pL29, pL31, pL35, pL37, pL48, pL49, pL50, pL52, pL57, pL94, pL97, pL99, pL100, pL127, pL400, pL1000, pL1023, pL1024, pL2000, pL2001, pL2187, pL4095, pL4096, pL8191, pL8192, pL65535]
theorem btw_0 {j : Nat} (hj : j < 2 ^ 31) : f_X12_isBetween (nI j) (nI 0) (nI 0 - nI 1) = some (nI 0) := by
  unfold f_X12_isBetween
  rw [if_neg (show ¬ nI j < nI 0 from pI_nneg hj), if_pos (neg_lt_n hj)]
  rfl
theorem btw_negL {x : Int32} {a b : Nat} (h : x < nI 0) (ha : a < 2 ^ 31) : f_X12_isBetween x (nI a) (nI b) = some (nI 0) := by
  unfold f_X12_isBetween
  rw [if_pos (i_neg_lt h ha)]
  rfl
theorem neg_ltN {x : Int32} {b : Nat} (h : x < nI 0) (hb : b < 2 ^ 31) : (x < nI b) = True := eq_true (i_neg_lt h hb)
theorem dvI_n {β : Type} {a b : Nat} {k : Int32 → Option β} (ha : a < 2 ^ 31) (h0 : 0 < b) (hb : b < 2 ^ 31) : dvI (nI a) (nI b) k = k (nI (a / b)) := by
  unfold dvI
  rw [if_neg (show ¬ nI b = (0 : Int32) from nI_ne0 h0 hb), pk_div ha h0 hb]
theorem rmI_n {β : Type} {a b : Nat} {k : Int32 → Option β} (ha : a < 2 ^ 31) (h0 : 0 < b) (hb : b < 2 ^ 31) : rmI (nI a) (nI b) k = k (nI (a % b)) := by
  unfold rmI
  rw [if_neg (show ¬ nI b = (0 : Int32) from nI_ne0 h0 hb), pk_rem ha h0 hb]
theorem fill_ok {x : Int32} {n : Nat} {f : Nat → Int32} (hn : n < 200000) : Wp (f_J7_fill_53178 x n f) (fun g => (∀ j, j < n → g j = x) ∧ ∀ j, n ≤ j → g j = f j) := by
  unfold f_J7_fill_53178
  refine wp_seq (Q := fun g => (∀ j, j < n → g j = x) ∧ ∀ j, n ≤ j → g j = f j) ?_ (fun u hu => wp_some hu)
  refine wp_fill 0 0 n (fun _ => x) (Nat.zero_le _) (by omega) (fun i g h1 h2 h3 => ?_) (fun g hg => ?_)
  · show b_J7_fill_53178_5 n x (nI n) g (nI i) = _
    unfold b_J7_fill_53178_5
    simp (disch := omega) only [↓reduceIte, if_pos, if_neg, ldA_n, stA_n, pI_add, pI_mul, pI_sub, pI_lt_iff, pI_le_iff, pI_eq_iff, ob_s, upE, upN, pI_dec2, asR_some, bitZ0, bitZ1, Sum.elim_inl, Sum.elim_inr, pL0, pL1, pL2, pL3, pL4, pL5, pL6, pL7, pL8, pL10, pL12, pL15, pL16, pL20, pL21, pL22, pL23, pL29, pL31, pL35, pL37, pL48, pL49, pL50, pL52, pL57, pL94, pL97, pL99, pL100, pL127, pL400, pL1000, pL1023, pL1024, pL2000, pL2001, pL2187, pL4095, pL4096, pL8191, pL8192, pL65535, Nat.zero_add]
  · show Wp (b_J7_fill_53178_5 n x (nI n) g (nI n)) _
    unfold b_J7_fill_53178_5
    simp (disch := omega) only [↓reduceIte, if_pos, if_neg, ldA_n, stA_n, pI_add, pI_mul, pI_sub, pI_lt_iff, pI_le_iff, pI_eq_iff, ob_s, upE, upN, pI_dec2, asR_some, bitZ0, bitZ1, Sum.elim_inl, Sum.elim_inr, pL0, pL1, pL2, pL3, pL4, pL5, pL6, pL7, pL8, pL10, pL12, pL15, pL16, pL20, pL21, pL22, pL23, pL29, pL31, pL35, pL37, pL48, pL49, pL50, pL52, pL57, pL94, pL97, pL99, pL100, pL127, pL400, pL1000, pL1023, pL1024, pL2000, pL2001, pL2187, pL4095, pL4096, pL8191, pL8192, pL65535]
    exact wp_r ⟨fun j hj => by rw [hg j, if_pos (by omega)], fun j hj => by rw [hg j, if_neg (by omega)]⟩
theorem cpA_n {α β : Type} {f g : Nat → α} {n0 n1 a b c : Nat} {k : (Nat → α) → Option β} (h1 : a + c ≤ n0) (h2 : b + c ≤ n1) (h3 : n0 < 2 ^ 31) (h4 : n1 < 2 ^ 31) : cpA f g n0 n1 (nI a) (nI b) (nI c) k = k (va_cpy f g a b c) := by
  unfold cpA
  rw [nI_clamp (show a < 2 ^ 31 by omega), nI_clamp (show b < 2 ^ 31 by omega), nI_clamp (show c < 2 ^ 31 by omega)]
  refine if_neg ?_
  rintro (h | h | h | h | h)
  · exact nI_pos (by omega) h
  · exact nI_pos (by omega) h
  · exact nI_pos (by omega) h
  · omega
  · omega
