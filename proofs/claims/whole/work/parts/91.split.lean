set_option linter.unusedVariables false
/-! marking the sources of a splitter; splitting the touched blocks -/
def MK (n b : Nat) (bo fi sz : Nat → Nat) (bs fs ss : Nat → Int32) (MS : Nat → Prop) (x : Int32) (ms ps ks ts : Nat → Int32) : Prop := ∃ tc mm pl md to, x = nI tc ∧ PD n b mm pl bo fi sz ms ps bs fs ss ∧ MI n b tc pl bo fi sz md to MS ks ts
theorem MK_q {n b : Nat} {bo fi sz : Nat → Nat} {bs fs ss : Nat → Int32} {MS MS' : Nat → Prop} {x : Int32} {ms ps ks ts : Nat → Int32} (h : MK n b bo fi sz bs fs ss MS x ms ps ks ts) (e : ∀ x, x < n → (MS' x ↔ MS x)) : MK n b bo fi sz bs fs ss MS' x ms ps ks ts := by
  obtain ⟨tc, mm, pl, md, to, h1, h2, h3⟩ := h
  exact ⟨tc, mm, pl, md, to, h1, h2, MI_q h3 e⟩
theorem msrc_ok {n b c y : Nat} {nxt : Nat → Nat → Nat} {bo fi sz : Nat → Nat} {MS : Nat → Prop} {x : Int32} {ms ps bs fs ss ks ts st so : Nat → Int32} (hn : n ≤ 2000) (hc : c < 3) (hy : y < n) (G : GSP n nxt c 6000 st so) (K : MK n b bo fi sz bs fs ss MS x ms ps ks ts) : Wp (f_X4_markSources (nI c) (nI y) bs fs st so x ms ps ks ts) (fun u => MK n b bo fi sz bs fs ss (fun x => MS x ∨ nxt x c = y) u.1 u.2.1 u.2.2.1 u.2.2.2.1 u.2.2.2.2) := by
  obtain ⟨lo, hi, g1, g2, g3, g4, g5, g6⟩ := G y hy
  unfold f_X4_markSources
  rw [pL2001, pI_mul, pI_add, show c * 2001 + y = 2001 * c + y by omega, ldA_n (by omega) (by omega), g1]
  refine wp_seq (Q := fun u => MK n b bo fi sz bs fs ss (fun x => MS x ∨ nxt x c = y) u.1 u.2.1 u.2.2.1 u.2.2.2.1 u.2.2.2.2) ?_ (fun u hu => wp_some hu)
  refine wp_up (fun i v => v.2.2.2.2.2 = nI i ∧ MK n b bo fi sz bs fs ss (fun x => MS x ∨ ∃ i', lo ≤ i' ∧ i' < i ∧ so i' = nI x) v.1 v.2.1 v.2.2.1 v.2.2.2.1 v.2.2.2.2.1) lo hi ⟨rfl, MK_q K (fun x hx => ⟨fun h => h.elim id (fun ⟨i', h1, h2, _⟩ => by omega), Or.inl⟩)⟩ g3 (by omega) ?_ ?_
  · rintro i ⟨x, ms, ps, ks, ts, z⟩ h1 h2 ⟨hz, K⟩
    simp only at hz K
    subst hz
    obtain ⟨a, a1, a2, a3⟩ := g5 i h1 h2
    show Wp (b_X4_markSources_16 bs fs st so (nI (2001 * c + y)) x ms ps ks ts (nI i)) _
    unfold b_X4_markSources_16
    rw [pL1, pI_add, Nat.add_assoc, ldA_n (by omega) (by omega), g2, if_neg (show ¬ nI hi ≤ nI i by rw [pI_le_iff (by omega) (by omega)]; omega), ldA_n (by omega) (by omega), a2]
    obtain ⟨tc, mm, pl, md, to, rfl, k2, k3⟩ := K
    refine wp_seq (mark_ok hn k2 k3 a1) (fun u hu => wp_l ⟨pI_add, MK_q hu (fun x' hx' => ?_)⟩)
    show (MS x' ∨ ∃ i', lo ≤ i' ∧ i' < i + 1 ∧ so i' = nI x') ↔ ((MS x' ∨ ∃ i', lo ≤ i' ∧ i' < i ∧ so i' = nI x') ∨ x' = a)
    constructor
    · rintro (h | ⟨i', i1, i2, i3⟩)
      · exact Or.inl (Or.inl h)
      · by_cases e : i' = i
        · rw [e, a2] at i3
          exact Or.inr (pI_inj (by omega) (by omega) i3).symm
        · exact Or.inl (Or.inr ⟨i', i1, by omega, i3⟩)
    · rintro ((h | ⟨i', i1, i2, i3⟩) | h)
      · exact Or.inl h
      · exact Or.inr ⟨i', i1, by omega, i3⟩
      · exact Or.inr ⟨i, h1, by omega, by rw [a2, h]⟩
  · rintro ⟨x, ms, ps, ks, ts, z⟩ ⟨hz, K⟩
    simp only at hz K
    subst hz
    show Wp (b_X4_markSources_16 bs fs st so (nI (2001 * c + y)) x ms ps ks ts (nI hi)) _
    unfold b_X4_markSources_16
    rw [pL1, pI_add, Nat.add_assoc, ldA_n (by omega) (by omega), g2, if_pos (Int32.le_refl _)]
    refine wp_r (MK_q K (fun x' hx' => ?_))
    show (MS x' ∨ nxt x' c = y) ↔ (MS x' ∨ ∃ i', lo ≤ i' ∧ i' < hi ∧ so i' = nI x')
    constructor
    · rintro (h | h)
      · exact Or.inl h
      · obtain ⟨i, i1, i2, i3⟩ := g6 x' hx' h
        exact Or.inr ⟨i, i1, i2, i3⟩
    · rintro (h | ⟨i, i1, i2, i3⟩)
      · exact Or.inl h
      · obtain ⟨a, a1, a2, a3⟩ := g5 i i1 i2
        have := pI_inj (by omega) (by omega) (i3.symm.trans a2)
        rw [this]
        exact Or.inr a3
theorem mall_ok {n b c L : Nat} {nxt : Nat → Nat → Nat} {bo fi sz sp : Nat → Nat} {x : Int32} {ms ps bs fs ss ks ts st so spl : Nat → Int32} (hn : n ≤ 2000) (hc : c < 3) (hL : L ≤ n) (hS : ∀ i, i < L → spl i = nI (sp i) ∧ sp i < n) (G : GSP n nxt c 6000 st so) (K : MK n b bo fi sz bs fs ss (fun _ => False) x ms ps ks ts) : Wp (loopN (fun v => b_X4_refine_68 bs fs spl st so (nI L) (nI c) v.1 v.2.1 v.2.2.1 v.2.2.2.1 v.2.2.2.2.1 v.2.2.2.2.2) FU (x, ms, ps, ks, ts, (0 : Int32))) (fun u => MK n b bo fi sz bs fs ss (fun x => ∃ i, i < L ∧ nxt x c = sp i) u.1 u.2.1 u.2.2.1 u.2.2.2.1 u.2.2.2.2) := by
  refine wp_up (fun i v => v.2.2.2.2.2 = nI i ∧ MK n b bo fi sz bs fs ss (fun x => ∃ i', i' < i ∧ nxt x c = sp i') v.1 v.2.1 v.2.2.1 v.2.2.2.1 v.2.2.2.2.1) 0 L ⟨rfl, MK_q K (fun x hx => ⟨fun ⟨i', h1, _⟩ => by omega, fun h => h.elim⟩)⟩ (by omega) (by omega) ?_ ?_
  · rintro i ⟨x, ms, ps, ks, ts, z⟩ h1 h2 ⟨hz, K⟩
    simp only at hz K
    subst hz
    obtain ⟨s1, s2⟩ := hS i h2
    show Wp (b_X4_refine_68 bs fs spl st so (nI L) (nI c) x ms ps ks ts (nI i)) _
    unfold b_X4_refine_68
    rw [if_neg (show ¬ nI L ≤ nI i by rw [pI_le_iff (by omega) (by omega)]; omega), ldA_n (by omega) (by omega), s1]
    refine wp_seq (msrc_ok hn hc s2 G K) (fun u hu => wp_l ⟨pI_add, MK_q hu (fun x' hx' => ?_)⟩)
    show (∃ i', i' < i + 1 ∧ nxt x' c = sp i') ↔ ((∃ i', i' < i ∧ nxt x' c = sp i') ∨ nxt x' c = sp i)
    constructor
    · rintro ⟨i', i1, i2⟩
      by_cases e : i' = i
      · rw [e] at i2
        exact Or.inr i2
      · exact Or.inl ⟨i', by omega, i2⟩
    · rintro (⟨i', i1, i2⟩ | h)
      · exact ⟨i', by omega, i2⟩
      · exact ⟨i, by omega, h⟩
  · rintro ⟨x, ms, ps, ks, ts, z⟩ ⟨hz, K⟩
    simp only at hz K
    subst hz
    show Wp (b_X4_refine_68 bs fs spl st so (nI L) (nI c) x ms ps ks ts (nI L)) _
    unfold b_X4_refine_68
    rw [if_pos (Int32.le_refl _)]
    exact wp_r K
/-- giving the members of a stretch the number b -/
theorem relab_ok {n b F S : Nat} {mm pl bo : Nat → Nat} {ms bs fs ss : Nat → Int32} (hn : n ≤ 2000) (hb : b < 2000) (hFS : F + S ≤ n) (hf : fs b = nI F) (hs : ss b = nI S) (h1 : ∀ i, i < n → ms i = nI (mm i) ∧ mm i < n ∧ pl (mm i) = i) (h2 : ∀ x, x < n → pl x < n ∧ mm (pl x) = x ∧ bs x = nI (bo x)) : Wp (loopN (fun v => b_X4_split_99 ms fs ss (nI b) v.1 v.2) FU (bs, nI F)) (fun u => ∀ x, x < n → u x = nI (if F ≤ pl x ∧ pl x < F + S then b else bo x)) := by
  refine wp_up (fun i v => v.2 = nI i ∧ ∀ x, x < n → v.1 x = nI (if F ≤ pl x ∧ pl x < i then b else bo x)) F (F + S) ⟨rfl, fun x hx => by rw [if_neg (by omega)]; exact (h2 x hx).2.2⟩ (by omega) (by omega) ?_ ?_
  · rintro i ⟨u, z⟩ hi1 hi2 ⟨hz, hu⟩
    simp only at hz hu
    subst hz
    obtain ⟨a1, a2, a3⟩ := h1 i (by omega)
    show Wp (b_X4_split_99 ms fs ss (nI b) u (nI i)) _
    unfold b_X4_split_99
    rw [ldA_n hb (by omega), hf, ldA_n hb (by omega), hs, pI_add, if_neg (show ¬ nI (F + S) ≤ nI i by rw [pI_le_iff (by omega) (by omega)]; omega), ldA_n (by omega) (by omega), a1, stA_n (by omega) (by omega)]
    refine wp_l ⟨pI_add, fun x hx => ?_⟩
    show va_up u (mm i) (nI b) x = _
    by_cases e : x = mm i
    · rw [upE e, if_pos (by rw [e, a3]; omega)]
    · have : pl x ≠ i := fun h => e (by rw [← h, (h2 x hx).2.1])
      rw [upN e, hu x hx]
      by_cases e2 : F ≤ pl x ∧ pl x < i
      · rw [if_pos e2, if_pos (by omega)]
      · rw [if_neg e2, if_neg (by omega)]
  · rintro ⟨u, z⟩ ⟨hz, hu⟩
    simp only at hz hu
    subst hz
    show Wp (b_X4_split_99 ms fs ss (nI b) u (nI (F + S))) _
    unfold b_X4_split_99
    rw [ldA_n hb (by omega), hf, ldA_n hb (by omega), hs, pI_add, if_pos (Int32.le_refl _)]
    exact wp_r hu
