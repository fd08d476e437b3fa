set_option linter.unusedVariables false
/-! the snapshot -/
theorem pass_s {x : Int32} {c : Nat} {sv : Nat → Int32} (hc : c < 240) : f_X12_pass x (nI 1) (nI c) sv = some (x, nI (c + 1), va_up sv c x) := by
  unfold f_X12_pass j_X12_pass_20
  rw [if_neg (show ¬ nI 1 = (0 : Int32) by decide), stA_n hc (by omega), pL1, pI_add]
theorem pass_r {x : Int32} {c : Nat} {sv : Nat → Int32} (hc : c < 240) : f_X12_pass x (nI 0) (nI c) sv = some (sv c, nI (c + 1), va_up sv c (sv c)) := by
  unfold f_X12_pass j_X12_pass_20
  rw [if_pos (show nI 0 = (0 : Int32) from rfl), ldA_n hc (by omega), stA_n hc (by omega), pL1, pI_add]
theorem up_id {f : Nat → Int32} {k : Nat} : ∀ j, va_up f k (f k) j = f j := by
  intro j
  by_cases h : j = k
  · rw [upE h, h]
  · rw [upN h]
theorem passS {n c : Nat} {p sv : Nat → Int32} (hn : n ≤ 64) (hc : c + n ≤ 240) : Wp (f_X12_passAll n (nI 1) (nI c) p sv) (fun o => o.1 = nI (c + n) ∧ (∀ j, o.2.1 j = p j) ∧ ∀ j, o.2.2 j = if c ≤ j ∧ j < c + n then p (j - c) else sv j) := by
  unfold f_X12_passAll
  refine wp_seq (Q := fun o => o.1 = nI (c + n) ∧ (∀ j, o.2.1 j = p j) ∧ ∀ j, o.2.2 j = if c ≤ j ∧ j < c + n then p (j - c) else sv j) ?_ (fun u hu => wp_some hu)
  refine wp_up (fun i v => v.2.2.2 = nI i ∧ v.1 = nI (c + i) ∧ (∀ j, v.2.1 j = p j) ∧ ∀ j, v.2.2.1 j = if c ≤ j ∧ j < c + i then p (j - c) else sv j) 0 n ⟨rfl, rfl, fun _ => rfl, fun j => (if_neg (by omega)).symm⟩ (by omega) (by omega) ?_ ?_
  · rintro i ⟨x, f, g, y⟩ h1 h2 ⟨hy, hx, hf, hg⟩
    simp only at hy hx hf hg
    subst hy hx
    show Wp (b_X12_passAll_2 n (nI 1) (nI (c + i)) f g (nI i)) _
    unfold b_X12_passAll_2
    rw [ofN_nI, if_neg (show ¬ nI n ≤ nI i by rw [pI_le_iff (by omega) (by omega)]; omega), ldA_n h2 (by omega), pass_s (by omega), ob_s, stA_n h2 (by omega)]
    refine wp_l ⟨pI_add, rfl, fun j => (up_id j).trans (hf j), fun j => ?_⟩
    show va_up g (c + i) (f i) j = _
    by_cases e : j = c + i
    · rw [upE e, if_pos (by omega), e, Nat.add_sub_cancel_left, hf]
    · rw [upN e, hg j]
      by_cases e2 : c ≤ j ∧ j < c + i
      · rw [if_pos e2, if_pos (by omega)]
      · rw [if_neg e2, if_neg (by omega)]
  · rintro ⟨x, f, g, y⟩ ⟨hy, hx, hf, hg⟩
    simp only at hy hx hf hg
    subst hy hx
    show Wp (b_X12_passAll_2 n (nI 1) (nI (c + n)) f g (nI n)) _
    unfold b_X12_passAll_2
    rw [ofN_nI, if_pos (Int32.le_refl _)]
    exact wp_r ⟨rfl, hf, hg⟩
theorem passR {n c : Nat} {p sv : Nat → Int32} (hn : n ≤ 64) (hc : c + n ≤ 240) : Wp (f_X12_passAll n (nI 0) (nI c) p sv) (fun o => o.1 = nI (c + n) ∧ (∀ j, j < n → o.2.1 j = sv (c + j)) ∧ ∀ j, o.2.2 j = sv j) := by
  unfold f_X12_passAll
  refine wp_seq (Q := fun o => o.1 = nI (c + n) ∧ (∀ j, j < n → o.2.1 j = sv (c + j)) ∧ ∀ j, o.2.2 j = sv j) ?_ (fun u hu => wp_some hu)
  refine wp_up (fun i v => v.2.2.2 = nI i ∧ v.1 = nI (c + i) ∧ (∀ j, j < i → v.2.1 j = sv (c + j)) ∧ ∀ j, v.2.2.1 j = sv j) 0 n ⟨rfl, rfl, fun j hj => by omega, fun j => rfl⟩ (by omega) (by omega) ?_ ?_
  · rintro i ⟨x, f, g, y⟩ h1 h2 ⟨hy, hx, hf, hg⟩
    simp only at hy hx hf hg
    subst hy hx
    show Wp (b_X12_passAll_2 n (nI 0) (nI (c + i)) f g (nI i)) _
    unfold b_X12_passAll_2
    rw [ofN_nI, if_neg (show ¬ nI n ≤ nI i by rw [pI_le_iff (by omega) (by omega)]; omega), ldA_n h2 (by omega), pass_r (by omega), ob_s, stA_n h2 (by omega)]
    refine wp_l ⟨pI_add, rfl, fun j hj => ?_, fun j => (up_id j).trans (hg j)⟩
    show va_up f i (g (c + i)) j = _
    by_cases e : j = i
    · rw [upE e, hg, e]
    · rw [upN e]
      exact hf j (by omega)
  · rintro ⟨x, f, g, y⟩ ⟨hy, hx, hf, hg⟩
    simp only at hy hx hf hg
    subst hy hx
    show Wp (b_X12_passAll_2 n (nI 0) (nI (c + n)) f g (nI n)) _
    unfold b_X12_passAll_2
    rw [ofN_nI, if_pos (Int32.le_refl _)]
    exact wp_r ⟨rfl, hf, hg⟩
theorem held2 {f : Nat → Int32} : Wp (loopN (fun v => b_X12_passState_150 f v.1 v.2) FU ((0 : Int32), (0 : Int32))) (fun u => u = nI (cntN (fun l => decide (0 ≤ f l)) 4)) := by
  refine wp_up (fun i v => v.2 = nI i ∧ v.1 = nI (cntN (fun l => decide (0 ≤ f l)) i)) 0 4 ⟨rfl, rfl⟩ (by omega) (by omega) ?_ ?_
  · rintro i ⟨x, y⟩ h1 h2 ⟨hy, hx⟩
    simp only at hy hx
    subst hy hx
    show Wp (b_X12_passState_150 f (nI (cntN (fun l => decide (0 ≤ f l)) i)) (nI i)) _
    unfold b_X12_passState_150
    rw [if_neg (show ¬ (4 : Int32) ≤ nI i by rw [pL4, pI_le_iff (by omega) (by omega)]; omega), ldA_n h2 (by omega)]
    by_cases c : 0 ≤ f i
    · rw [if_pos c]
      refine wp_l ⟨pI_add, ?_⟩
      show nI _ + nI 1 = nI (cntN (fun l => decide (0 ≤ f l)) i + (if decide (0 ≤ f i) = true then 1 else 0))
      rw [pI_add, decide_eq_true c]
      rfl
    · rw [if_neg c]
      refine wp_l ⟨pI_add, ?_⟩
      show nI _ + nI 0 = nI (cntN (fun l => decide (0 ≤ f l)) i + (if decide (0 ≤ f i) = true then 1 else 0))
      rw [pI_add, decide_eq_false c]
      rfl
  · rintro ⟨x, y⟩ ⟨hy, hx⟩
    simp only at hy hx
    subst hy hx
    show Wp (b_X12_passState_150 f (nI (cntN (fun l => decide (0 ≤ f l)) 4)) (nI 4)) _
    unfold b_X12_passState_150
    rw [if_pos (show (4 : Int32) ≤ nI 4 by decide)]
    exact wp_r rfl
theorem held1 {f : Nat → Option Nat} : Wp (f_X5_languagesHeld f) (fun u => u = nI (cntN (fun l => decide (f l ≠ none)) 4)) := by
  unfold f_X5_languagesHeld
  refine wp_seq (Q := fun u => u = nI (cntN (fun l => decide (f l ≠ none)) 4)) ?_ (fun u hu => wp_some hu)
  refine wp_up (fun i v => v.2 = nI i ∧ v.1 = nI (cntN (fun l => decide (f l ≠ none)) i)) 0 4 ⟨rfl, rfl⟩ (by omega) (by omega) ?_ ?_
  · rintro i ⟨x, y⟩ h1 h2 ⟨hy, hx⟩
    simp only at hy hx
    subst hy hx
    show Wp (b_X5_languagesHeld_4 f (nI (cntN (fun l => decide (f l ≠ none)) i)) (nI i)) _
    unfold b_X5_languagesHeld_4 nlA
    rw [if_neg (show ¬ (4 : Int32) ≤ nI i by rw [pL4, pI_le_iff (by omega) (by omega)]; omega), ldA_n h2 (by omega)]
    by_cases c : f i = none
    · rw [if_pos c]
      refine wp_l ⟨pI_add, ?_⟩
      show nI _ = nI (cntN (fun l => decide (f l ≠ none)) i + (if decide (f i ≠ none) = true then 1 else 0))
      rw [decide_eq_false (fun h => h c)]
      rfl
    · rw [if_neg c]
      refine wp_l ⟨pI_add, ?_⟩
      show nI _ + nI 1 = nI (cntN (fun l => decide (f l ≠ none)) i + (if decide (f i ≠ none) = true then 1 else 0))
      rw [pI_add, decide_eq_true c]
      rfl
  · rintro ⟨x, y⟩ ⟨hy, hx⟩
    simp only at hy hx
    subst hy hx
    show Wp (b_X5_languagesHeld_4 f (nI (cntN (fun l => decide (f l ≠ none)) 4)) (nI 4)) _
    unfold b_X5_languagesHeld_4
    rw [if_pos (show (4 : Int32) ≤ nI 4 by decide)]
    exact wp_r rfl
def ps_saveP (le ts : Int32) (wl wd kd bd ln pt fo pa tr pk pb pl pv pp sv : Nat → Int32) (o : Int32 × Int32 × Int32 × Int32 × Int32 × (Nat → Int32) × (Nat → Int32) × (Nat → Int32) × (Nat → Int32) × (Nat → Int32) × (Nat → Int32) × (Nat → Int32) × (Nat → Int32) × (Nat → Int32) × (Nat → Int32) × (Nat → Int32) × (Nat → Int32) × (Nat → Int32) × (Nat → Int32) × (Nat → Int32)) : Prop := o.1 = nI (cntN (fun l => decide (0 ≤ o.2.2.2.2.2.2.2.2.2.2.2.1 l)) 4) ∧ o.2.1 = le ∧ o.2.2.1 = ts ∧ (∀ j, o.2.2.2.2.2.1 j = wl j) ∧ (∀ j, o.2.2.2.2.2.2.1 j = wd j) ∧ (∀ j, o.2.2.2.2.2.2.2.1 j = kd j) ∧ (∀ j, o.2.2.2.2.2.2.2.2.1 j = bd j) ∧ (∀ j, o.2.2.2.2.2.2.2.2.2.1 j = ln j) ∧ (∀ j, o.2.2.2.2.2.2.2.2.2.2.1 j = pt j) ∧ (∀ j, o.2.2.2.2.2.2.2.2.2.2.2.1 j = fo j) ∧ (∀ j, o.2.2.2.2.2.2.2.2.2.2.2.2.1 j = pa j) ∧ (∀ j, o.2.2.2.2.2.2.2.2.2.2.2.2.2.1 j = tr j) ∧ (∀ j, o.2.2.2.2.2.2.2.2.2.2.2.2.2.2.1 j = pk j) ∧ (∀ j, o.2.2.2.2.2.2.2.2.2.2.2.2.2.2.2.1 j = pb j) ∧ (∀ j, o.2.2.2.2.2.2.2.2.2.2.2.2.2.2.2.2.1 j = pl j) ∧ (∀ j, o.2.2.2.2.2.2.2.2.2.2.2.2.2.2.2.2.2.1 j = pv j) ∧ (∀ j, o.2.2.2.2.2.2.2.2.2.2.2.2.2.2.2.2.2.2.1 j = pp j) ∧ o.2.2.2.2.2.2.2.2.2.2.2.2.2.2.2.2.2.2.2 0 = le ∧ o.2.2.2.2.2.2.2.2.2.2.2.2.2.2.2.2.2.2.2 1 = ts ∧ (∀ j, j < 3 → o.2.2.2.2.2.2.2.2.2.2.2.2.2.2.2.2.2.2.2 (2 + j) = wl j) ∧ (∀ j, j < 36 → o.2.2.2.2.2.2.2.2.2.2.2.2.2.2.2.2.2.2.2 (5 + j) = wd j) ∧ (∀ j, j < 6 → o.2.2.2.2.2.2.2.2.2.2.2.2.2.2.2.2.2.2.2 (41 + j) = kd j) ∧ (∀ j, j < 6 → o.2.2.2.2.2.2.2.2.2.2.2.2.2.2.2.2.2.2.2 (47 + j) = bd j) ∧ (∀ j, j < 6 → o.2.2.2.2.2.2.2.2.2.2.2.2.2.2.2.2.2.2.2 (53 + j) = ln j) ∧ (∀ j, j < 24 → o.2.2.2.2.2.2.2.2.2.2.2.2.2.2.2.2.2.2.2 (59 + j) = pt j) ∧ (∀ j, j < 4 → o.2.2.2.2.2.2.2.2.2.2.2.2.2.2.2.2.2.2.2 (83 + j) = fo j) ∧ (∀ j, j < 4 → o.2.2.2.2.2.2.2.2.2.2.2.2.2.2.2.2.2.2.2 (87 + j) = pa j) ∧ (∀ j, j < 4 → o.2.2.2.2.2.2.2.2.2.2.2.2.2.2.2.2.2.2.2 (91 + j) = tr j) ∧ (∀ j, j < 16 → o.2.2.2.2.2.2.2.2.2.2.2.2.2.2.2.2.2.2.2 (95 + j) = pk j) ∧ (∀ j, j < 16 → o.2.2.2.2.2.2.2.2.2.2.2.2.2.2.2.2.2.2.2 (111 + j) = pb j) ∧ (∀ j, j < 16 → o.2.2.2.2.2.2.2.2.2.2.2.2.2.2.2.2.2.2.2 (127 + j) = pl j) ∧ (∀ j, j < 16 → o.2.2.2.2.2.2.2.2.2.2.2.2.2.2.2.2.2.2.2 (143 + j) = pv j) ∧ (∀ j, j < 64 → o.2.2.2.2.2.2.2.2.2.2.2.2.2.2.2.2.2.2.2 (159 + j) = pp j)
theorem ps_save {le ts cu iv : Int32} {wl wd kd bd ln pt fo pa tr pk pb pl pv pp sv : Nat → Int32} : Wp (f_X12_passState (nI 1) le ts cu iv wl wd kd bd ln pt fo pa tr pk pb pl pv pp sv) (fun o => ps_saveP le ts wl wd kd bd ln pt fo pa tr pk pb pl pv pp sv o) := by
  unfold f_X12_passState
  rw [bitZ1, show (0 : Int32) = nI 0 from rfl, pass_s (by omega), ob_s, pass_s (by omega), ob_s]
  refine wp_seq (passS (n := 3) (c := 2) (by omega) (by omega)) (fun u0 h0 => ?_)
  obtain ⟨e0, f0, g0⟩ := h0
  rw [e0]
  refine wp_seq (passS (n := 36) (c := 5) (by omega) (by omega)) (fun u1 h1 => ?_)
  obtain ⟨e1, f1, g1⟩ := h1
  rw [e1]
  refine wp_seq (passS (n := 6) (c := 41) (by omega) (by omega)) (fun u2 h2 => ?_)
  obtain ⟨e2, f2, g2⟩ := h2
  rw [e2]
  refine wp_seq (passS (n := 6) (c := 47) (by omega) (by omega)) (fun u3 h3 => ?_)
  obtain ⟨e3, f3, g3⟩ := h3
  rw [e3]
  refine wp_seq (passS (n := 6) (c := 53) (by omega) (by omega)) (fun u4 h4 => ?_)
  obtain ⟨e4, f4, g4⟩ := h4
  rw [e4]
  refine wp_seq (passS (n := 24) (c := 59) (by omega) (by omega)) (fun u5 h5 => ?_)
  obtain ⟨e5, f5, g5⟩ := h5
  rw [e5]
  refine wp_seq (passS (n := 4) (c := 83) (by omega) (by omega)) (fun u6 h6 => ?_)
  obtain ⟨e6, f6, g6⟩ := h6
  rw [e6]
  refine wp_seq (passS (n := 4) (c := 87) (by omega) (by omega)) (fun u7 h7 => ?_)
  obtain ⟨e7, f7, g7⟩ := h7
  rw [e7]
  refine wp_seq (passS (n := 4) (c := 91) (by omega) (by omega)) (fun u8 h8 => ?_)
  obtain ⟨e8, f8, g8⟩ := h8
  rw [e8]
  refine wp_seq (passS (n := 16) (c := 95) (by omega) (by omega)) (fun u9 h9 => ?_)
  obtain ⟨e9, f9, g9⟩ := h9
  rw [e9]
  refine wp_seq (passS (n := 16) (c := 111) (by omega) (by omega)) (fun u10 h10 => ?_)
  obtain ⟨e10, f10, g10⟩ := h10
  rw [e10]
  refine wp_seq (passS (n := 16) (c := 127) (by omega) (by omega)) (fun u11 h11 => ?_)
  obtain ⟨e11, f11, g11⟩ := h11
  rw [e11]
  refine wp_seq (passS (n := 16) (c := 143) (by omega) (by omega)) (fun u12 h12 => ?_)
  obtain ⟨e12, f12, g12⟩ := h12
  rw [e12]
  refine wp_seq (passS (n := 64) (c := 159) (by omega) (by omega)) (fun u13 h13 => ?_)
  obtain ⟨e13, f13, g13⟩ := h13
  rw [e13]
  refine wp_seq held2 (fun w hw => wp_some ?_)
  refine ⟨hw, rfl, rfl, f0, f1, f2, f3, f4, f5, f6, f7, f8, f9, f10, f11, f12, f13, ?_, ?_, fun j hj => ?_, fun j hj => ?_, fun j hj => ?_, fun j hj => ?_, fun j hj => ?_, fun j hj => ?_, fun j hj => ?_, fun j hj => ?_, fun j hj => ?_, fun j hj => ?_, fun j hj => ?_, fun j hj => ?_, fun j hj => ?_, fun j hj => ?_⟩
  · show u13.2.2 0 = le
    rw [g13, if_neg (by omega), g12, if_neg (by omega), g11, if_neg (by omega), g10, if_neg (by omega), g9, if_neg (by omega), g8, if_neg (by omega), g7, if_neg (by omega), g6, if_neg (by omega), g5, if_neg (by omega), g4, if_neg (by omega), g3, if_neg (by omega), g2, if_neg (by omega), g1, if_neg (by omega), g0, if_neg (by omega)]
    show va_up (va_up sv 0 le) 1 ts 0 = le
    rw [upN (by omega), upE rfl]
  · show u13.2.2 1 = ts
    rw [g13, if_neg (by omega), g12, if_neg (by omega), g11, if_neg (by omega), g10, if_neg (by omega), g9, if_neg (by omega), g8, if_neg (by omega), g7, if_neg (by omega), g6, if_neg (by omega), g5, if_neg (by omega), g4, if_neg (by omega), g3, if_neg (by omega), g2, if_neg (by omega), g1, if_neg (by omega), g0, if_neg (by omega)]
    show va_up (va_up sv 0 le) 1 ts 1 = ts
    rw [upE rfl]
  · show u13.2.2 (2 + j) = wl j
    rw [g13, if_neg (by omega), g12, if_neg (by omega), g11, if_neg (by omega), g10, if_neg (by omega), g9, if_neg (by omega), g8, if_neg (by omega), g7, if_neg (by omega), g6, if_neg (by omega), g5, if_neg (by omega), g4, if_neg (by omega), g3, if_neg (by omega), g2, if_neg (by omega), g1, if_neg (by omega), g0, if_pos (by omega), Nat.add_sub_cancel_left]
  · show u13.2.2 (5 + j) = wd j
    rw [g13, if_neg (by omega), g12, if_neg (by omega), g11, if_neg (by omega), g10, if_neg (by omega), g9, if_neg (by omega), g8, if_neg (by omega), g7, if_neg (by omega), g6, if_neg (by omega), g5, if_neg (by omega), g4, if_neg (by omega), g3, if_neg (by omega), g2, if_neg (by omega), g1, if_pos (by omega), Nat.add_sub_cancel_left]
  · show u13.2.2 (41 + j) = kd j
    rw [g13, if_neg (by omega), g12, if_neg (by omega), g11, if_neg (by omega), g10, if_neg (by omega), g9, if_neg (by omega), g8, if_neg (by omega), g7, if_neg (by omega), g6, if_neg (by omega), g5, if_neg (by omega), g4, if_neg (by omega), g3, if_neg (by omega), g2, if_pos (by omega), Nat.add_sub_cancel_left]
  · show u13.2.2 (47 + j) = bd j
    rw [g13, if_neg (by omega), g12, if_neg (by omega), g11, if_neg (by omega), g10, if_neg (by omega), g9, if_neg (by omega), g8, if_neg (by omega), g7, if_neg (by omega), g6, if_neg (by omega), g5, if_neg (by omega), g4, if_neg (by omega), g3, if_pos (by omega), Nat.add_sub_cancel_left]
  · show u13.2.2 (53 + j) = ln j
    rw [g13, if_neg (by omega), g12, if_neg (by omega), g11, if_neg (by omega), g10, if_neg (by omega), g9, if_neg (by omega), g8, if_neg (by omega), g7, if_neg (by omega), g6, if_neg (by omega), g5, if_neg (by omega), g4, if_pos (by omega), Nat.add_sub_cancel_left]
  · show u13.2.2 (59 + j) = pt j
    rw [g13, if_neg (by omega), g12, if_neg (by omega), g11, if_neg (by omega), g10, if_neg (by omega), g9, if_neg (by omega), g8, if_neg (by omega), g7, if_neg (by omega), g6, if_neg (by omega), g5, if_pos (by omega), Nat.add_sub_cancel_left]
  · show u13.2.2 (83 + j) = fo j
    rw [g13, if_neg (by omega), g12, if_neg (by omega), g11, if_neg (by omega), g10, if_neg (by omega), g9, if_neg (by omega), g8, if_neg (by omega), g7, if_neg (by omega), g6, if_pos (by omega), Nat.add_sub_cancel_left]
  · show u13.2.2 (87 + j) = pa j
    rw [g13, if_neg (by omega), g12, if_neg (by omega), g11, if_neg (by omega), g10, if_neg (by omega), g9, if_neg (by omega), g8, if_neg (by omega), g7, if_pos (by omega), Nat.add_sub_cancel_left]
  · show u13.2.2 (91 + j) = tr j
    rw [g13, if_neg (by omega), g12, if_neg (by omega), g11, if_neg (by omega), g10, if_neg (by omega), g9, if_neg (by omega), g8, if_pos (by omega), Nat.add_sub_cancel_left]
  · show u13.2.2 (95 + j) = pk j
    rw [g13, if_neg (by omega), g12, if_neg (by omega), g11, if_neg (by omega), g10, if_neg (by omega), g9, if_pos (by omega), Nat.add_sub_cancel_left]
  · show u13.2.2 (111 + j) = pb j
    rw [g13, if_neg (by omega), g12, if_neg (by omega), g11, if_neg (by omega), g10, if_pos (by omega), Nat.add_sub_cancel_left]
  · show u13.2.2 (127 + j) = pl j
    rw [g13, if_neg (by omega), g12, if_neg (by omega), g11, if_pos (by omega), Nat.add_sub_cancel_left]
  · show u13.2.2 (143 + j) = pv j
    rw [g13, if_neg (by omega), g12, if_pos (by omega), Nat.add_sub_cancel_left]
  · show u13.2.2 (159 + j) = pp j
    rw [g13, if_pos (by omega), Nat.add_sub_cancel_left]
def ps_restP (le ts : Int32) (wl wd kd bd ln pt fo pa tr pk pb pl pv pp sv : Nat → Int32) (o : Int32 × Int32 × Int32 × Int32 × Int32 × (Nat → Int32) × (Nat → Int32) × (Nat → Int32) × (Nat → Int32) × (Nat → Int32) × (Nat → Int32) × (Nat → Int32) × (Nat → Int32) × (Nat → Int32) × (Nat → Int32) × (Nat → Int32) × (Nat → Int32) × (Nat → Int32) × (Nat → Int32) × (Nat → Int32)) : Prop := o.1 = nI (cntN (fun l => decide (0 ≤ o.2.2.2.2.2.2.2.2.2.2.2.1 l)) 4) ∧ o.2.1 = sv 0 ∧ o.2.2.1 = sv 1 ∧ (∀ j, j < 3 → o.2.2.2.2.2.1 j = sv (2 + j)) ∧ (∀ j, j < 36 → o.2.2.2.2.2.2.1 j = sv (5 + j)) ∧ (∀ j, j < 6 → o.2.2.2.2.2.2.2.1 j = sv (41 + j)) ∧ (∀ j, j < 6 → o.2.2.2.2.2.2.2.2.1 j = sv (47 + j)) ∧ (∀ j, j < 6 → o.2.2.2.2.2.2.2.2.2.1 j = sv (53 + j)) ∧ (∀ j, j < 24 → o.2.2.2.2.2.2.2.2.2.2.1 j = sv (59 + j)) ∧ (∀ j, j < 4 → o.2.2.2.2.2.2.2.2.2.2.2.1 j = sv (83 + j)) ∧ (∀ j, j < 4 → o.2.2.2.2.2.2.2.2.2.2.2.2.1 j = sv (87 + j)) ∧ (∀ j, j < 4 → o.2.2.2.2.2.2.2.2.2.2.2.2.2.1 j = sv (91 + j)) ∧ (∀ j, j < 16 → o.2.2.2.2.2.2.2.2.2.2.2.2.2.2.1 j = sv (95 + j)) ∧ (∀ j, j < 16 → o.2.2.2.2.2.2.2.2.2.2.2.2.2.2.2.1 j = sv (111 + j)) ∧ (∀ j, j < 16 → o.2.2.2.2.2.2.2.2.2.2.2.2.2.2.2.2.1 j = sv (127 + j)) ∧ (∀ j, j < 16 → o.2.2.2.2.2.2.2.2.2.2.2.2.2.2.2.2.2.1 j = sv (143 + j)) ∧ (∀ j, j < 64 → o.2.2.2.2.2.2.2.2.2.2.2.2.2.2.2.2.2.2.1 j = sv (159 + j)) ∧ (∀ j, o.2.2.2.2.2.2.2.2.2.2.2.2.2.2.2.2.2.2.2 j = sv j)
theorem ps_rest {le ts cu iv : Int32} {wl wd kd bd ln pt fo pa tr pk pb pl pv pp sv : Nat → Int32} : Wp (f_X12_passState (nI 0) le ts cu iv wl wd kd bd ln pt fo pa tr pk pb pl pv pp sv) (fun o => ps_restP le ts wl wd kd bd ln pt fo pa tr pk pb pl pv pp sv o) := by
  unfold f_X12_passState
  rw [bitZ0, show (0 : Int32) = nI 0 from rfl, pass_r (by omega), ob_s, pass_r (by omega), ob_s]
  refine wp_seq (passR (n := 3) (c := 2) (by omega) (by omega)) (fun u0 h0 => ?_)
  obtain ⟨e0, f0, g0⟩ := h0
  rw [e0]
  refine wp_seq (passR (n := 36) (c := 5) (by omega) (by omega)) (fun u1 h1 => ?_)
  obtain ⟨e1, f1, g1⟩ := h1
  rw [e1]
  refine wp_seq (passR (n := 6) (c := 41) (by omega) (by omega)) (fun u2 h2 => ?_)
  obtain ⟨e2, f2, g2⟩ := h2
  rw [e2]
  refine wp_seq (passR (n := 6) (c := 47) (by omega) (by omega)) (fun u3 h3 => ?_)
  obtain ⟨e3, f3, g3⟩ := h3
  rw [e3]
  refine wp_seq (passR (n := 6) (c := 53) (by omega) (by omega)) (fun u4 h4 => ?_)
  obtain ⟨e4, f4, g4⟩ := h4
  rw [e4]
  refine wp_seq (passR (n := 24) (c := 59) (by omega) (by omega)) (fun u5 h5 => ?_)
  obtain ⟨e5, f5, g5⟩ := h5
  rw [e5]
  refine wp_seq (passR (n := 4) (c := 83) (by omega) (by omega)) (fun u6 h6 => ?_)
  obtain ⟨e6, f6, g6⟩ := h6
  rw [e6]
  refine wp_seq (passR (n := 4) (c := 87) (by omega) (by omega)) (fun u7 h7 => ?_)
  obtain ⟨e7, f7, g7⟩ := h7
  rw [e7]
  refine wp_seq (passR (n := 4) (c := 91) (by omega) (by omega)) (fun u8 h8 => ?_)
  obtain ⟨e8, f8, g8⟩ := h8
  rw [e8]
  refine wp_seq (passR (n := 16) (c := 95) (by omega) (by omega)) (fun u9 h9 => ?_)
  obtain ⟨e9, f9, g9⟩ := h9
  rw [e9]
  refine wp_seq (passR (n := 16) (c := 111) (by omega) (by omega)) (fun u10 h10 => ?_)
  obtain ⟨e10, f10, g10⟩ := h10
  rw [e10]
  refine wp_seq (passR (n := 16) (c := 127) (by omega) (by omega)) (fun u11 h11 => ?_)
  obtain ⟨e11, f11, g11⟩ := h11
  rw [e11]
  refine wp_seq (passR (n := 16) (c := 143) (by omega) (by omega)) (fun u12 h12 => ?_)
  obtain ⟨e12, f12, g12⟩ := h12
  rw [e12]
  refine wp_seq (passR (n := 64) (c := 159) (by omega) (by omega)) (fun u13 h13 => ?_)
  obtain ⟨e13, f13, g13⟩ := h13
  rw [e13]
  refine wp_seq held2 (fun w hw => wp_some ?_)
  have z0 : ∀ j, va_up (va_up sv 0 (sv 0)) (0 + 1) (va_up sv 0 (sv 0) (0 + 1)) j = sv j := fun j => (up_id j).trans (up_id j)
  have z1 : ∀ j, u0.2.2 j = sv j := fun j => (g0 j).trans (z0 j)
  have z2 : ∀ j, u1.2.2 j = sv j := fun j => (g1 j).trans (z1 j)
  have z3 : ∀ j, u2.2.2 j = sv j := fun j => (g2 j).trans (z2 j)
  have z4 : ∀ j, u3.2.2 j = sv j := fun j => (g3 j).trans (z3 j)
  have z5 : ∀ j, u4.2.2 j = sv j := fun j => (g4 j).trans (z4 j)
  have z6 : ∀ j, u5.2.2 j = sv j := fun j => (g5 j).trans (z5 j)
  have z7 : ∀ j, u6.2.2 j = sv j := fun j => (g6 j).trans (z6 j)
  have z8 : ∀ j, u7.2.2 j = sv j := fun j => (g7 j).trans (z7 j)
  have z9 : ∀ j, u8.2.2 j = sv j := fun j => (g8 j).trans (z8 j)
  have z10 : ∀ j, u9.2.2 j = sv j := fun j => (g9 j).trans (z9 j)
  have z11 : ∀ j, u10.2.2 j = sv j := fun j => (g10 j).trans (z10 j)
  have z12 : ∀ j, u11.2.2 j = sv j := fun j => (g11 j).trans (z11 j)
  have z13 : ∀ j, u12.2.2 j = sv j := fun j => (g12 j).trans (z12 j)
  have z14 : ∀ j, u13.2.2 j = sv j := fun j => (g13 j).trans (z13 j)
  exact ⟨hw, rfl, (show va_up sv 0 (sv 0) 1 = sv 1 from up_id 1), fun j hj => (f0 j hj).trans (z0 _), fun j hj => (f1 j hj).trans (z1 _), fun j hj => (f2 j hj).trans (z2 _), fun j hj => (f3 j hj).trans (z3 _), fun j hj => (f4 j hj).trans (z4 _), fun j hj => (f5 j hj).trans (z5 _), fun j hj => (f6 j hj).trans (z6 _), fun j hj => (f7 j hj).trans (z7 _), fun j hj => (f8 j hj).trans (z8 _), fun j hj => (f9 j hj).trans (z9 _), fun j hj => (f10 j hj).trans (z10 _), fun j hj => (f11 j hj).trans (z11 _), fun j hj => (f12 j hj).trans (z12 _), fun j hj => (f13 j hj).trans (z13 _), z14⟩
theorem WordR_ls {sz wl : Int32} {ls ls' wd : Nat → Int32} {o : Nat} (h : WordR sz ls wl wd o) (e : ∀ i, i < 12 → ls' i = ls i) : WordR sz ls' wl wd o := by
  obtain ⟨L, a, b, c, d⟩ := h
  exact ⟨L, a, b, c, fun i hi => by rw [e i (by omega)]; exact d i hi⟩
theorem TestsR_fr {tq : Nat → Option TV} {cnt ts cnt' ts' : Int32} {mb mb' : Nat → Option Nat} {kd bd ln pt kd' bd' ln' pt' : Nat → Int32} (h : TestsR tq cnt mb ts kd bd ln pt) (h1 : cnt' = cnt) (h2 : ts' = ts) (h3 : ∀ j, j < 8 → mb' j = mb j) (h4 : ∀ j, j < 6 → kd' j = kd j) (h5 : ∀ j, j < 6 → bd' j = bd j) (h6 : ∀ j, j < 6 → ln' j = ln j) (h7 : ∀ j, j < 24 → pt' j = pt j) : TestsR tq cnt' mb' ts' kd' bd' ln' pt' := by
  obtain ⟨⟨T, a1, a2, a3, a4⟩, a5⟩ := h
  refine ⟨⟨T, a1, h1.trans a2, h2.trans a3, fun t ht => ?_⟩, fun j hj a ha => a5 j hj a (by rw [← h3 j hj]; exact ha)⟩
  rw [h3 t (by omega)]
  exact TestR_fr (a4 t ht) (h4 t (by omega)) (h5 t (by omega)) (h6 t (by omega)) (fun i hi => h7 _ (by omega))
theorem LangsR_fr {cy : Nat → ClassId} {PT : va_W} {tq : Nat → Option TV} {lq : Nat → Bool} {lg lg' : Nat → Option Nat} {fo pa tr pk pb pl pv pp fo' pa' tr' pk' pb' pl' pv' pp' : Nat → Int32} (h : LangsR cy PT tq lq lg fo pa tr pk pb pl pv pp) (h0 : ∀ l, l < 4 → lg' l = lg l) (h1 : ∀ l, l < 4 → fo' l = fo l) (h2 : ∀ l, l < 4 → pa' l = pa l) (h3 : ∀ l, l < 4 → tr' l = tr l) (e1 : ∀ j, j < 16 → pk' j = pk j) (e2 : ∀ j, j < 16 → pb' j = pb j) (e3 : ∀ j, j < 16 → pl' j = pl j) (e4 : ∀ j, j < 16 → pv' j = pv j) (e5 : ∀ j, j < 64 → pp' j = pp j) : LangsR cy PT tq lq lg' fo' pa' tr' pk' pb' pl' pv' pp' := by
  intro l hl
  rw [h0 l hl]
  exact LangR_fr (h l hl) (h1 l hl) (h2 l hl) (h3 l hl) (fun i hi => e1 _ (by omega)) (fun i hi => e2 _ (by omega)) (fun i hi => e3 _ (by omega)) (fun i hi => e4 _ (by omega)) (fun i hi => e5 _ (by omega))
theorem allM {tq : Nat → Option TV} {mb : Nat → Option Nat} (h : MemOK tq mb) : allR (fun y => (tq y).isSome) mb 0 8 = true := by
  unfold allR
  rw [List.all_eq_true]
  intro j hj
  rw [List.mem_range] at hj
  rw [Nat.zero_add]
  have := h j hj
  cases e : mb j with
  | none => rfl
  | some a => exact this a e
theorem allL {cy : Nat → ClassId} {PT : va_W} {tq : Nat → Option TV} {lq : Nat → Bool} {lg : Nat → Option Nat} {fo pa tr pk pb pl pv pp : Nat → Int32} (h : LangsR cy PT tq lq lg fo pa tr pk pb pl pv pp) : allR lq lg 0 4 = true := by
  unfold allR
  rw [List.all_eq_true]
  intro j hj
  rw [List.mem_range] at hj
  rw [Nat.zero_add]
  rcases lang_form (h j hj) with ⟨r1, _⟩ | ⟨q, d, f, m, tab, ts, vs, r1, r2, r3, r4, _⟩
  · rw [r1]
  · rw [r1]
    exact r4
theorem copy_ok {cy : Nat → ClassId} {PT : va_W} {tq : Nat → Option TV} {lq : Nat → Bool} {q0 q1 q2 p0 p1 p2 : Nat} {le s0 s1 s2 cnt le' t0 t1 t2 cnt' ts : Int32} {ws wp lg mb lg' mb' : Nat → Option Nat} {l0 l1 l2 m0 m1 m2 kd bd ln pt fo pa tr pk pb pl pv pp : Nat → Int32} (a0 : wp 0 = some q0) (a1 : wp 1 = some q1) (a2 : wp 2 = some q2) (b0 : ws 0 = some p0) (b1 : ws 1 = some p1) (b2 : ws 2 = some p2) (rT : TestsR tq cnt mb ts kd bd ln pt) (rG : LangsR cy PT tq lq lg fo pa tr pk pb pl pv pp) : f_X5_copyFrom q0 q1 q2 p0 p1 p2 tq lq le s0 s1 s2 ws wp cnt lg l0 l1 l2 mb le' t0 t1 t2 cnt' lg' m0 m1 m2 mb' = some (le, s0, s1, s2, cnt, va_cpy lg lg' 0 0 4, va_cpy l0 m0 0 0 12, va_cpy l1 m1 0 0 12, va_cpy l2 m2 0 0 12, va_cpy mb mb' 0 0 8) := by
  unfold f_X5_copyFrom f_X1_copyFrom f_X9_copyFrom
  rw [show (0 : Int32) = nI 0 from rfl, show (8 : Int32) = nI 8 from rfl, show (12 : Int32) = nI 12 from rfl, show (4 : Int32) = nI 4 from rfl, cpR_n (allM rT.2) (by omega) (by omega) (by omega) (by omega), ob_s, ldA_n (by omega) (by omega), b0, asR_some, ldA_n (by omega) (by omega), a0, asR_some, cpA_n (by omega) (by omega) (by omega) (by omega), ob_s, ld1 (by omega) (by omega), b1, asR_some, ld1 (by omega) (by omega), a1, asR_some, cpA_n (by omega) (by omega) (by omega) (by omega), ob_s, ld2 (by omega) (by omega), b2, asR_some, ld2 (by omega) (by omega), a2, asR_some, cpA_n (by omega) (by omega) (by omega) (by omega), ob_s, cpR_n (allL rG) (by omega) (by omega) (by omega) (by omega)]
theorem cp_all {α : Type} {f g : Nat → α} {n j : Nat} (h : j < n) : va_cpy f g 0 0 n j = f j := by
  rw [pk_cpy_in (by omega) (by omega)]
  congr 1
  omega
theorem held_eq {cy : Nat → ClassId} {PT : va_W} {tq : Nat → Option TV} {lq : Nat → Bool} {lg : Nat → Option Nat} {fo pa tr pk pb pl pv pp : Nat → Int32} (h : LangsR cy PT tq lq lg fo pa tr pk pb pl pv pp) : cntN (fun l => decide (lg l ≠ none)) 4 = cntN (fun l => decide (0 ≤ fo l)) 4 := by
  refine cntN_congr (fun l hl => ?_)
  rcases lang_form (h l hl) with ⟨r1, r2, r3, r4⟩ | ⟨q, d, f, m, tab, ts, vs, r1, r2, _⟩
  · show decide (lg l ≠ none) = decide (0 ≤ fo l)
    rw [decide_eq_false (fun x => x r1), decide_eq_false r3]
  · show decide (lg l ≠ none) = decide (0 ≤ fo l)
    rw [decide_eq_true (by rw [r1]; intro x; cases x), decide_eq_true r2]
theorem cntI {f g : Nat → Int32} (h : ∀ l, l < 4 → f l = g l) : cntN (fun l => decide (0 ≤ f l)) 4 = cntN (fun l => decide (0 ≤ g l)) 4 := by
  refine cntN_congr (fun l hl => ?_)
  show decide _ = decide _
  rw [h l hl]
theorem cntO {f g : Nat → Option Nat} (h : ∀ l, l < 4 → f l = g l) : cntN (fun l => decide (f l ≠ none)) 4 = cntN (fun l => decide (g l ≠ none)) 4 := by
  refine cntN_congr (fun l hl => ?_)
  show decide _ = decide _
  rw [h l hl]
theorem op41 {cy : Nat → ClassId} {n : Nat} {ad : Nat → Nat} {E : Nat → va_E} {PT : va_W} {tq : Nat → Option TV} {lq : Nat → Bool} (H : REL cy n ad E PT tq lq) : OP41 (REL cy) cy n ad E PT tq lq := by
  obtain ⟨rR, rL, rW0, rW1, rW2, rT, rG, rI, rA, rB, rC, rS, rM, rZ⟩ := rel_el H
  obtain ⟨r, hr, hc, hle, hts, k0, k1, k2, k3, k4, k5, k6, k7, k8, k9, k10, k11, k12, k13, w0, w1, v0, v1, v2, v3, v4, v5, v6, v7, v8, v9, v10, v11, v12, v13⟩ := ps_save (le := gS (E 0) 0) (ts := gS (E 0) 10) (cu := gS (E 0) 65) (iv := gS (E 0) 67) (wl := gI (E 1)) (wd := gI (E 2)) (kd := gI (E 5)) (bd := gI (E 6)) (ln := gI (E 7)) (pt := gI (E 8)) (fo := gI (E 12)) (pa := gI (E 13)) (tr := gI (E 14)) (pk := gI (E 15)) (pb := gI (E 16)) (pl := gI (E 17)) (pv := gI (E 18)) (pp := gI (E 19)) (sv := gI (E 51))
  obtain ⟨h, hh, hheld⟩ := held1 (f := gR (E 66))
  have hf := copy_ok (le := gS (E 53) 0) (s0 := gS (E 55) 1) (s1 := gS (E 58) 1) (s2 := gS (E 61) 1) (le' := gS (E 67) 0) (t0 := gS (E 69) 1) (t1 := gS (E 72) 1) (t2 := gS (E 75) 1) (cnt' := gS (E 78) 1) (l0 := gI (E 56)) (l1 := gI (E 59)) (l2 := gI (E 62)) (m0 := gI (E 70)) (m1 := gI (E 73)) (m2 := gI (E 76)) (lg' := gR (E 80)) (mb' := gR (E 79)) rR.1 rR.2.1 rR.2.2.1 rR.2.2.2.1 rR.2.2.2.2.1 rR.2.2.2.2.2.1 rT rG
  refine ⟨_, _, by unfold f_X11_saveSnapshot; rw [hf, ob_s, hh]; rfl, by unfold f_X12_saveSnapshot; rw [show (1 : Int32) = nI 1 from rfl, hr]; rfl, ?_, ?_⟩
  · show h = r.1
    rw [hheld, hc, held_eq rG]
    exact congrArg nI (cntI (fun l hl => (k6 l).symm))
  · refine (rel_mk rR ?_ (WordR_fr rW0 (k0 0) (fun i _ => k1 _)) (WordR_fr rW1 (k0 1) (fun i _ => k1 _)) (WordR_fr rW2 (k0 2) (fun i _ => k1 _)) (TestsR_fr rT rfl hts (fun _ _ => rfl) (fun j _ => k2 j) (fun j _ => k3 j) (fun j _ => k4 j) (fun j _ => k5 j)) (LangsR_fr rG (fun _ _ => rfl) (fun j _ => k6 j) (fun j _ => k7 j) (fun j _ => k8 j) (fun j _ => k9 j) (fun j _ => k10 j) (fun j _ => k11 j) (fun j _ => k12 j) (fun j _ => k13 j)) rI rA rB rC (Or.inr ⟨rfl, rfl, ?_, (WordR_ls (WordR_fr rW0 (v0 0 (by omega)) (fun i hi => v1 (0 + i) (by omega))) (fun i hi => cp_all hi)), (WordR_ls (WordR_fr rW1 (v0 1 (by omega)) (fun i hi => v1 (12 + i) (by omega))) (fun i hi => cp_all hi)), (WordR_ls (WordR_fr rW2 (v0 2 (by omega)) (fun i hi => v1 (24 + i) (by omega))) (fun i hi => cp_all hi)), (TestsR_fr rT rfl w1 (fun j hj => cp_all hj) v2 v3 v4 v5), (LangsR_fr rG (fun j hj => cp_all hj) v6 v7 v8 v9 v10 v11 v12 v13)⟩) rM rZ)
    · obtain ⟨k, a, b, c, d⟩ := rL
      exact ⟨k, a, b, c, hle.trans d⟩
    · obtain ⟨k, a, b, c, d⟩ := rL
      exact ⟨k, a, b, c, w0.trans d⟩
theorem op42 {cy : Nat → ClassId} {n : Nat} {ad : Nat → Nat} {E : Nat → va_E} {PT : va_W} {tq : Nat → Option TV} {lq : Nat → Bool} (H : REL cy n ad E PT tq lq) : OP42 (REL cy) cy n ad E PT tq lq := by
  obtain ⟨rR, rL, rW0, rW1, rW2, rT, rG, rI, rA, rB, rC, rS, rM, rZ⟩ := rel_el H
  rcases rS with ⟨t1, t2⟩ | ⟨t1, t2, sL, sW0, sW1, sW2, sT, sG⟩
  · refine ⟨_, _, by unfold f_X11_restoreSnapshot; rw [t1, if_pos rfl], by unfold f_X12_restoreSnapshot; rw [t2, if_pos rfl], rfl, ?_⟩
    exact (rel_mk rR rL rW0 rW1 rW2 rT rG rI rA rB rC (Or.inl ⟨t1, t2⟩) rM rZ)
  · obtain ⟨r, hr, hc, hle, hts, k0, k1, k2, k3, k4, k5, k6, k7, k8, k9, k10, k11, k12, k13, z⟩ := ps_rest (le := gS (E 0) 0) (ts := gS (E 0) 10) (cu := gS (E 0) 65) (iv := gS (E 0) 67) (wl := gI (E 1)) (wd := gI (E 2)) (kd := gI (E 5)) (bd := gI (E 6)) (ln := gI (E 7)) (pt := gI (E 8)) (fo := gI (E 12)) (pa := gI (E 13)) (tr := gI (E 14)) (pk := gI (E 15)) (pb := gI (E 16)) (pl := gI (E 17)) (pv := gI (E 18)) (pp := gI (E 19)) (sv := gI (E 51))
    obtain ⟨h, hh, hheld⟩ := held1 (f := va_cpy (gR (E 80)) (gR (E 66)) 0 0 4)
    have hf := copy_ok (le := gS (E 67) 0) (s0 := gS (E 69) 1) (s1 := gS (E 72) 1) (s2 := gS (E 75) 1) (le' := gS (E 53) 0) (t0 := gS (E 55) 1) (t1 := gS (E 58) 1) (t2 := gS (E 61) 1) (cnt' := gS (E 64) 1) (l0 := gI (E 70)) (l1 := gI (E 73)) (l2 := gI (E 76)) (m0 := gI (E 56)) (m1 := gI (E 59)) (m2 := gI (E 62)) (lg' := gR (E 66)) (mb' := gR (E 65)) rR.2.2.2.1 rR.2.2.2.2.1 rR.2.2.2.2.2.1 rR.1 rR.2.1 rR.2.2.1 sT sG
    refine ⟨_, _, by unfold f_X11_restoreSnapshot; rw [t1, if_neg (show ¬ (1 : Int32) = 0 by decide), hf, ob_s, hh]; rfl, by unfold f_X12_restoreSnapshot; rw [t2, if_neg (show ¬ (1 : Int32) = 0 by decide), show (0 : Int32) = nI 0 from rfl, hr]; rfl, ?_, ?_⟩
    · show h = r.1
      rw [hheld, hc, cntO (fun l hl => cp_all hl), held_eq sG]
      exact congrArg nI (cntI (fun l hl => (k6 l hl).symm))
    · refine (rel_mk rR ?_ (WordR_ls (WordR_fr sW0 (k0 0 (by omega)) (fun i hi => k1 (0 + i) (by omega))) (fun i hi => cp_all hi)) (WordR_ls (WordR_fr sW1 (k0 1 (by omega)) (fun i hi => k1 (12 + i) (by omega))) (fun i hi => cp_all hi)) (WordR_ls (WordR_fr sW2 (k0 2 (by omega)) (fun i hi => k1 (24 + i) (by omega))) (fun i hi => cp_all hi)) (TestsR_fr sT rfl hts (fun j hj => cp_all hj) k2 k3 k4 k5) (LangsR_fr sG (fun j hj => cp_all hj) k6 k7 k8 k9 k10 k11 k12 k13) rI rA rB rC (Or.inr ⟨t1, t2, ?_, (WordR_fr sW0 (z 2) (fun i hi => z _)), (WordR_fr sW1 (z 3) (fun i hi => z _)), (WordR_fr sW2 (z 4) (fun i hi => z _)), (TestsR_fr sT rfl (z 1) (fun _ _ => rfl) (fun j _ => z _) (fun j _ => z _) (fun j _ => z _) (fun j _ => z _)), (LangsR_fr sG (fun _ _ => rfl) (fun j _ => z _) (fun j _ => z _) (fun j _ => z _) (fun j _ => z _) (fun j _ => z _) (fun j _ => z _) (fun j _ => z _) (fun j _ => z _))⟩) rM rZ)
      · obtain ⟨k, a, b, c, d⟩ := sL
        exact ⟨k, a, b, c, hle.trans d⟩
      · obtain ⟨k, a, b, c, d⟩ := sL
        exact ⟨k, a, b, c, (z 0).trans d⟩
