set_option linter.unusedVariables false
/-! splitting all the touched blocks -/
theorem spt_ok {n b tc : Nat} {mm pl bo fi sz md to : Nat → Nat} {MS : Nat → Prop} {ms ps bs fs ss ks ts : Nat → Int32} (hn : n ≤ 2000) (D : PD n b mm pl bo fi sz ms ps bs fs ss) (M : MI n b tc pl bo fi sz md to MS ks ts) : Wp (f_X4_splitTouched ms ts (nI b) (nI tc) bs fs ss ks) (fun u => ∃ b' bo' fi' sz', u.1 = nI b' ∧ u.2.1 = 0 ∧ PD n b' mm pl bo' fi' sz' ms ps u.2.2.1 u.2.2.2.1 u.2.2.2.2.1 ∧ (∀ j, j < b' → u.2.2.2.2.2 j = nI 0) ∧ b ≤ b' ∧ (∀ x, x < n → bo' x = bo x ∨ b ≤ bo' x) ∧ ∀ x y, x < n → y < n → (bo' x = bo' y ↔ (bo x = bo y ∧ (MS x ↔ MS y)))) := by
  have hbn := PD_b D
  have D0 := D
  obtain ⟨p1, p2, p3, p4⟩ := D
  obtain ⟨m1, m2, m3, m4, m5, m6⟩ := M
  have htc : tc ≤ b := by rw [m3]; exact cntN_le
  unfold f_X4_splitTouched
  refine wp_seq (Q := fun u => ∃ b' bo' fi' sz', u.1 = nI b' ∧ PD n b' mm pl bo' fi' sz' ms ps u.2.1 u.2.2.1 u.2.2.2.1 ∧ (∀ j, j < b' → u.2.2.2.2 j = nI 0) ∧ b ≤ b' ∧ (∀ x, x < n → bo' x = bo x ∨ b ≤ bo' x) ∧ ∀ x y, x < n → y < n → (bo' x = bo' y ↔ (bo x = bo y ∧ (MS x ↔ MS y)))) ?_ (fun u hu => by
    obtain ⟨b', bo', fi', sz', h1, h2, h3, h4, h5, h6⟩ := hu
    exact wp_some ⟨b', bo', fi', sz', h1, rfl, h2, h3, h4, h5, h6⟩)
  refine wp_up (fun i v => v.2.2.2.2.2 = nI i ∧ ∃ b' bo' fi' sz', v.1 = nI b' ∧ PD n b' mm pl bo' fi' sz' ms ps v.2.1 v.2.2.1 v.2.2.2.1 ∧ b ≤ b' ∧ (∀ i', i ≤ i' → i' < tc → fi' (to i') = fi (to i') ∧ sz' (to i') = sz (to i') ∧ v.2.2.2.2.1 (to i') = nI (md (to i'))) ∧ (∀ j, j < b' → (b ≤ j ∨ md j = 0 ∨ ∃ i', i' < i ∧ to i' = j) → v.2.2.2.2.1 j = nI 0) ∧ (∀ x, x < n → bo' x = bo x ∨ (b ≤ bo' x ∧ ∃ i', i' < i ∧ to i' = bo x)) ∧ ∀ x y, x < n → y < n → (bo' x = bo' y ↔ (bo x = bo y ∧ ((∃ i', i' < i ∧ to i' = bo x) → (MS x ↔ MS y))))) 0 tc ⟨rfl, b, bo, fi, sz, rfl, D0, Nat.le_refl _, fun i' _ h2 => ⟨rfl, rfl, (m1 _ (m4 i' h2).2.1).1⟩, fun j hj h => ?_, fun x hx => Or.inl rfl, fun x y hx hy => ⟨fun h => ⟨h, fun ⟨i', h1, _⟩ => by omega⟩, fun h => h.1⟩⟩ (by omega) (by omega) ?_ ?_
  · rcases h with h | h | ⟨i', h1, _⟩
    · omega
    · show ks j = nI 0
      rw [(m1 j hj).1, h]
    · omega
  · rintro i ⟨bl, bs, fs, ss, ks, z⟩ h1 h2 ⟨hz, b', bo', fi', sz', e1, D', hb', T, Z, Bq, Eq⟩
    simp only at hz e1 D' T Z
    subst hz e1
    obtain ⟨t1, t2, t3⟩ := m4 i h2
    obtain ⟨a1, a2, a3⟩ := T i (Nat.le_refl _) h2
    have hbn' := PD_b D'
    have di : ∀ i', i' < tc → i' ≠ i → to i' ≠ to i := fun i' h3 h4 h5 => h4 (m5 i' i h3 h2 h5)
    have bB : ∀ x, x < n → (bo' x = to i ↔ bo x = to i) := by
      intro x hx
      rcases Bq x hx with h | ⟨h, i', j1, j2⟩
      · rw [h]
      · constructor
        · intro h3
          omega
        · intro h3
          exact absurd (j2.trans h3) (di i' (by omega) (by omega))
    show Wp (b_X4_splitTouched_2 ms ts (nI tc) (nI b') bs fs ss ks (nI i)) _
    unfold b_X4_splitTouched_2
    rw [if_neg (show ¬ nI tc ≤ nI i by rw [pI_le_iff (by omega) (by omega)]; omega), ldA_n (by omega) (by omega), t1]
    refine wp_seq (split_ok hn D' (show to i < b' by omega) a3 (by omega) (by rw [a2]; exact (m1 _ t2).2)) (fun u hu => ?_)
    obtain ⟨b2, bo2, fi2, sz2, c1, c2, c3, c4, c5, c6, c7⟩ := hu
    refine wp_l ⟨pI_add, b2, bo2, fi2, sz2, c1, c2, by omega, fun i' j1 j2 => ?_, fun j hj h => ?_, fun x hx => ?_, fun x y hx hy => ?_⟩
    · have ne := di i' j2 (by omega)
      have lt := (m4 i' j2).2.1
      obtain ⟨q1, q2, q3⟩ := T i' (by omega) j2
      obtain ⟨r1, r2⟩ := c4 (to i') (by omega) ne
      refine ⟨r1.trans q1, r2.trans q2, ?_⟩
      show u.2.2.2.2 (to i') = _
      rw [c5 (to i') (by omega), if_neg (by omega)]
      exact q3
    · show u.2.2.2.2 j = _
      rw [c5 j hj]
      by_cases e : j = to i ∨ b' ≤ j
      · rw [if_pos e]
      · rw [if_neg e]
        refine Z j (by omega) ?_
        rcases h with h | h | ⟨i', j1, j2⟩
        · exact Or.inl h
        · exact Or.inr (Or.inl h)
        · refine Or.inr (Or.inr ⟨i', ?_, j2⟩)
          by_cases ei : i' = i
          · exact absurd (by rw [← j2, ei]) (fun h => e (Or.inl h))
          · omega
    · rcases c6 x hx with h | ⟨h, h3⟩
      · rw [h]
        rcases Bq x hx with h4 | ⟨h4, i', j1, j2⟩
        · exact Or.inl h4
        · exact Or.inr ⟨h4, i', by omega, j2⟩
      · exact Or.inr ⟨by omega, i, by omega, ((bB x hx).mp h).symm⟩
    · have key : ∀ z, z < n → bo z = to i → (MS z ↔ pl z < fi' (to i) + md (to i)) := by
        intro z hz ez
        rw [m2 z hz, ez, a1]
      refine (c7 x y hx hy).trans ?_
      rw [Eq x y hx hy]
      constructor
      · rintro ⟨⟨h3, h4⟩, h5⟩
        refine ⟨h3, ?_⟩
        rintro ⟨i', j1, j2⟩
        by_cases ei : i' = i
        · rw [ei] at j2
          rw [key x hx j2.symm, key y hy (h3.symm.trans j2.symm)]
          exact h5 ((bB x hx).mpr j2.symm)
        · exact h4 ⟨i', by omega, j2⟩
      · rintro ⟨h3, h4⟩
        refine ⟨⟨h3, fun ⟨i', j1, j2⟩ => h4 ⟨i', by omega, j2⟩⟩, fun h5 => ?_⟩
        have h6 := (bB x hx).mp h5
        rw [← key x hx h6, ← key y hy (h3.symm.trans h6)]
        exact h4 ⟨i, by omega, h6.symm⟩
  · rintro ⟨bl, bs, fs, ss, ks, z⟩ ⟨hz, b', bo', fi', sz', e1, D', hb', T, Z, Bq, Eq⟩
    simp only at hz e1 D' T Z
    subst hz e1
    show Wp (b_X4_splitTouched_2 ms ts (nI tc) (nI b') bs fs ss ks (nI tc)) _
    unfold b_X4_splitTouched_2
    rw [if_pos (Int32.le_refl _)]
    refine wp_r ⟨b', bo', fi', sz', rfl, D', fun j hj => ?_, hb', fun x hx => ?_, fun x y hx hy => ?_⟩
    · refine Z j hj ?_
      by_cases e : b ≤ j
      · exact Or.inl e
      · by_cases e2 : md j = 0
        · exact Or.inr (Or.inl e2)
        · exact Or.inr (Or.inr (m6 j (by omega) (by omega)))
    · rcases Bq x hx with h | ⟨h, _⟩
      · exact Or.inl h
      · exact Or.inr h
    · rw [Eq x y hx hy]
      constructor
      · rintro ⟨h3, h4⟩
        refine ⟨h3, ?_⟩
        by_cases e : md (bo x) = 0
        · have q1 := (p4 x (bo x) hx (p2 x hx).2.2.2.2).mp rfl
          have q2 := (p4 y (bo y) hy (p2 y hy).2.2.2.2).mp rfl
          rw [m2 x hx, m2 y hy, ← h3, e]
          rw [← h3] at q2
          omega
        · exact h4 (m6 _ (p2 x hx).2.2.2.2 (by omega))
      · rintro ⟨h3, h4⟩
        exact ⟨h3, fun _ => h4⟩
