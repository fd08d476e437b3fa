set_option linter.unusedVariables false
/-! splitting one block -/
def boN (b F S : Nat) (pl bo : Nat → Nat) : Nat → Nat := fun x => if F ≤ pl x ∧ pl x < F + S then b else bo x
theorem PD_new {n b B F1 S1 F2 S2 : Nat} {mm pl bo fi sz : Nat → Nat} {ms ps bs fs ss bs' fs' ss' : Nat → Int32} (D : PD n b mm pl bo fi sz ms ps bs fs ss) (hB : B < b) (h1 : 1 ≤ S1) (h2 : 1 ≤ S2) (hr : ∀ p, (fi B ≤ p ∧ p < fi B + sz B) ↔ ((F1 ≤ p ∧ p < F1 + S1) ∨ (F2 ≤ p ∧ p < F2 + S2))) (hd : ∀ p, F1 ≤ p → p < F1 + S1 → F2 ≤ p → p < F2 + S2 → False) (e1 : ∀ x, x < n → bs' x = nI (boN b F2 S2 pl bo x)) (e2 : ∀ j, j < b + 1 → fs' j = nI (va_up (va_up fi b F2) B F1 j)) (e3 : ∀ j, j < b + 1 → ss' j = nI (va_up (va_up sz b S2) B S1 j)) : PD n (b + 1) mm pl (boN b F2 S2 pl bo) (va_up (va_up fi b F2) B F1) (va_up (va_up sz b S2) B S1) ms ps bs' fs' ss' := by
  obtain ⟨p1, p2, p3, p4⟩ := D
  have q1 := (hr (F1 + S1 - 1)).mpr (Or.inl (by omega))
  have q2 := (hr (F2 + S2 - 1)).mpr (Or.inr (by omega))
  obtain ⟨_, _, q3, q4⟩ := p3 B hB
  refine ⟨p1, fun x hx => ?_, fun j hj => ?_, fun x j hx hj => ?_⟩
  · obtain ⟨a1, a2, a3, a4, a5⟩ := p2 x hx
    refine ⟨a1, a2, a3, e1 x hx, ?_⟩
    unfold boN
    by_cases c : F2 ≤ pl x ∧ pl x < F2 + S2
    · rw [if_pos c]; omega
    · rw [if_neg c]; omega
  · refine ⟨e2 j hj, e3 j hj, ?_⟩
    by_cases c : j = B
    · rw [upE c, upE c]
      omega
    · rw [upN c, upN c]
      by_cases c2 : j = b
      · rw [upE c2, upE c2]
        omega
      · rw [upN c2, upN c2]
        exact ⟨(p3 j (by omega)).2.2.1, (p3 j (by omega)).2.2.2⟩
  · obtain ⟨a1, a2, a3, a4, a5⟩ := p2 x hx
    have r := hr (pl x)
    have d := hd (pl x)
    have pB := p4 x B hx hB
    unfold boN
    by_cases c : j = B
    · rw [upE c, upE c, c]
      by_cases cr : F2 ≤ pl x ∧ pl x < F2 + S2
      · rw [if_pos cr]
        constructor
        · intro h
          omega
        · intro h
          exact (d h.1 h.2 cr.1 cr.2).elim
      · rw [if_neg cr, pB, r]
        exact ⟨fun h => h.elim id (fun h => absurd h cr), Or.inl⟩
    · rw [upN c, upN c]
      by_cases c2 : j = b
      · rw [upE c2, upE c2, c2]
        by_cases cr : F2 ≤ pl x ∧ pl x < F2 + S2
        · rw [if_pos cr]
          exact ⟨fun _ => cr, fun _ => rfl⟩
        · rw [if_neg cr]
          exact ⟨fun h => by omega, fun h => absurd h cr⟩
      · rw [upN c2, upN c2]
        have pj := p4 x j hx (by omega)
        by_cases cr : F2 ≤ pl x ∧ pl x < F2 + S2
        · rw [if_pos cr]
          have hb : bo x = B := pB.mpr (r.mpr (Or.inr cr))
          constructor
          · intro h
            omega
          · intro h
            have := pj.mpr h
            omega
        · rw [if_neg cr]
          exact pj
theorem boN_eq {n b B F S M : Nat} {pl bo : Nat → Nat} {C : Nat → Prop} (hb : ∀ x, x < n → bo x < b) (hR : ∀ x, x < n → ((F ≤ pl x ∧ pl x < F + S) ↔ (bo x = B ∧ C x))) {x y : Nat} (hx : x < n) (hy : y < n) : boN b F S pl bo x = boN b F S pl bo y ↔ (bo x = bo y ∧ (bo x = B → (C x ↔ C y))) := by
  have bx := hb x hx
  have bY := hb y hy
  have rx := hR x hx
  have ry := hR y hy
  unfold boN
  by_cases cx : F ≤ pl x ∧ pl x < F + S
  · have qx := rx.mp cx
    by_cases cy : F ≤ pl y ∧ pl y < F + S
    · have qy := ry.mp cy
      rw [if_pos cx, if_pos cy]
      exact ⟨fun _ => ⟨qx.1.trans qy.1.symm, fun _ => ⟨fun _ => qy.2, fun _ => qx.2⟩⟩, fun _ => rfl⟩
    · rw [if_pos cx, if_neg cy]
      constructor
      · intro h
        omega
      · rintro ⟨h1, h2⟩
        exact absurd (ry.mpr ⟨h1.symm.trans qx.1, (h2 qx.1).mp qx.2⟩) cy
  · by_cases cy : F ≤ pl y ∧ pl y < F + S
    · have qy := ry.mp cy
      rw [if_neg cx, if_pos cy]
      constructor
      · intro h
        omega
      · rintro ⟨h1, h2⟩
        have hB : bo x = B := h1.trans qy.1
        exact absurd (rx.mpr ⟨hB, (h2 hB).mpr qy.2⟩) cx
    · rw [if_neg cx, if_neg cy]
      constructor
      · intro h
        refine ⟨h, fun hB => ⟨fun hc => absurd (rx.mpr ⟨hB, hc⟩) cx, fun hc => absurd (ry.mpr ⟨h ▸ hB, hc⟩) cy⟩⟩
      · intro h
        exact h.1
def SPL (n b B M : Nat) (mm pl bo fi sz : Nat → Nat) (ms ps ks : Nat → Int32) (x : Int32) (bs' fs' ss' ks' : Nat → Int32) : Prop := ∃ b' bo' fi' sz', x = nI b' ∧ PD n b' mm pl bo' fi' sz' ms ps bs' fs' ss' ∧ b ≤ b' ∧ (∀ j, j < b → j ≠ B → fi' j = fi j ∧ sz' j = sz j) ∧ (∀ j, j < b' → ks' j = if j = B ∨ b ≤ j then nI 0 else ks j) ∧ (∀ x, x < n → bo' x = bo x ∨ (bo x = B ∧ b ≤ bo' x)) ∧ ∀ x y, x < n → y < n → (bo' x = bo' y ↔ (bo x = bo y ∧ (bo x = B → (pl x < fi B + M ↔ pl y < fi B + M))))
theorem split_ok {n b B M : Nat} {mm pl bo fi sz : Nat → Nat} {ms ps bs fs ss ks : Nat → Int32} (hn : n ≤ 2000) (D : PD n b mm pl bo fi sz ms ps bs fs ss) (hB : B < b) (hk : ks B = nI M) (hM1 : 1 ≤ M) (hM : M ≤ sz B) : Wp (f_X4_split (nI B) ms (nI b) bs fs ss ks) (fun u => SPL n b B M mm pl bo fi sz ms ps ks u.1 u.2.1 u.2.2.1 u.2.2.2.1 u.2.2.2.2) := by
  have hbn := PD_b D
  have D0 := D
  obtain ⟨p1, p2, p3, p4⟩ := D
  obtain ⟨f1, f2, f3, f4⟩ := p3 B hB
  have hbo : ∀ x, x < n → bo x < b := fun x hx => (p2 x hx).2.2.2.2
  unfold f_X4_split
  rw [ldA_n (by omega) (by omega), hk, ldA_n (by omega) (by omega), f2, stA_n (by omega) (by omega), pI_sub hM]
  by_cases c0 : sz B = M
  · rw [if_pos (show nI (sz B - M) = (0 : Int32) by rw [c0, Nat.sub_self]; rfl)]
    refine wp_some ⟨b, bo, fi, sz, rfl, D0, Nat.le_refl _, fun j _ _ => ⟨rfl, rfl⟩, fun j hj => ?_, fun x hx => Or.inl rfl, fun x y hx hy => ⟨fun h => ⟨h, fun hb => ?_⟩, fun h => h.1⟩⟩
    · show va_up ks B (0 : Int32) j = _
      by_cases e : j = B
      · rw [upE e, if_pos (Or.inl e)]; rfl
      · rw [upN e, if_neg (by omega)]
    · have h1 := (p4 x B hx hB).mp hb
      have h2 := (p4 y B hy hB).mp (h.symm.trans hb)
      omega
  · have hks : ∀ j, j < b + 1 → va_up (va_up ks B (0 : Int32)) b (0 : Int32) j = if j = B ∨ b ≤ j then nI 0 else ks j := by
      intro j hj
      by_cases e : j = b
      · rw [upE e, if_pos (by omega)]; rfl
      · rw [upN e]
        by_cases e2 : j = B
        · rw [upE e2, if_pos (Or.inl e2)]; rfl
        · rw [upN e2, if_neg (by omega)]
    rw [if_neg (show ¬ nI (sz B - M) = (0 : Int32) from fun h => by have := pI_inj (b := 0) (by omega) (by omega) h; omega)]
    by_cases c1 : sz B - M < M
    · have hr : ∀ p, (fi B ≤ p ∧ p < fi B + sz B) ↔ ((fi B ≤ p ∧ p < fi B + M) ∨ (fi B + M ≤ p ∧ p < fi B + M + (sz B - M))) := fun p => by omega
      have hd : ∀ p, fi B ≤ p → p < fi B + M → fi B + M ≤ p → p < fi B + M + (sz B - M) → False := fun p _ _ _ _ => by omega
      have hb1 := PD_b (PD_new (bs' := fun x => nI (boN b (fi B + M) (sz B - M) pl bo x)) (fs' := fun j => nI (va_up (va_up fi b (fi B + M)) B (fi B) j)) (ss' := fun j => nI (va_up (va_up sz b (sz B - M)) B M j)) D0 hB hM1 (by omega) hr hd (fun _ _ => rfl) (fun _ _ => rfl) (fun _ _ => rfl))
      rw [if_pos ((pI_lt_iff (by omega) (by omega)).mpr c1), ldA_n (by omega) (by omega), f1, pI_add]
      unfold f_X4_openBlock
      rw [stA_n (by omega) (by omega), stA_n (by omega) (by omega), stA_n (by omega) (by omega), ob_s]
      unfold j_X4_split_90
      dsimp only
      rw [stA_n (by omega) (by omega), ldA_n (by omega) (by omega), upE rfl]
      refine wp_seq (relab_ok (S := sz B - M) hn (by omega) (by omega) (upE rfl) (by rw [upN (by omega), upE rfl]) p1 (fun x hx => ⟨(p2 x hx).2.1, (p2 x hx).2.2.1, (p2 x hx).2.2.2.1⟩)) (fun u hu => wp_some ⟨b + 1, boN b (fi B + M) (sz B - M) pl bo, _, _, pI_add, PD_new D0 hB hM1 (by omega) hr hd hu (fun j hj => ?_) (fun j hj => ?_), by omega, fun j hj hjB => ?_, hks, fun x hx => ?_, fun x y hx hy => ?_⟩)
      · show va_up fs b (nI (fi B + M)) j = _
        by_cases e : j = B
        · rw [upE e, upN (by omega), e, f1]
        · rw [upN e]
          by_cases e2 : j = b
          · rw [upE e2, upE e2]
          · rw [upN e2, upN e2]
            exact (p3 j (by omega)).1
      · show va_up (va_up ss b (nI (sz B - M))) B (nI M) j = _
        by_cases e : j = B
        · rw [upE e, upE e]
        · rw [upN e, upN e]
          by_cases e2 : j = b
          · rw [upE e2, upE e2]
          · rw [upN e2, upN e2]
            exact (p3 j (by omega)).2.1
      · rw [upN hjB, upN (by omega), upN hjB, upN (by omega)]
        exact ⟨rfl, rfl⟩
      · show boN b (fi B + M) (sz B - M) pl bo x = bo x ∨ (bo x = B ∧ b ≤ boN b (fi B + M) (sz B - M) pl bo x)
        unfold boN
        by_cases e : fi B + M ≤ pl x ∧ pl x < fi B + M + (sz B - M)
        · rw [if_pos e]
          exact Or.inr ⟨(p4 x B hx hB).mpr (by omega), Nat.le_refl _⟩
        · rw [if_neg e]
          exact Or.inl rfl
      · refine (boN_eq (B := B) (M := 0) (C := fun x => ¬ pl x < fi B + M) hbo (fun x hx => ?_) hx hy).trans ?_
        · have := p4 x B hx hB
          constructor
          · intro h
            exact ⟨this.mpr (by omega), by omega⟩
          · rintro ⟨h, h2⟩
            have := this.mp h
            omega
        · constructor
          · rintro ⟨a, h⟩
            exact ⟨a, fun hb => by have := h hb; omega⟩
          · rintro ⟨a, h⟩
            exact ⟨a, fun hb => by have := h hb; omega⟩
    · have hr : ∀ p, (fi B ≤ p ∧ p < fi B + sz B) ↔ ((fi B + M ≤ p ∧ p < fi B + M + (sz B - M)) ∨ (fi B ≤ p ∧ p < fi B + M)) := fun p => by omega
      have hd : ∀ p, fi B + M ≤ p → p < fi B + M + (sz B - M) → fi B ≤ p → p < fi B + M → False := fun p _ _ _ _ => by omega
      have hb1 := PD_b (PD_new (bs' := fun x => nI (boN b (fi B) M pl bo x)) (fs' := fun j => nI (va_up (va_up fi b (fi B)) B (fi B + M) j)) (ss' := fun j => nI (va_up (va_up sz b M) B (sz B - M) j)) D0 hB (by omega) hM1 hr hd (fun _ _ => rfl) (fun _ _ => rfl) (fun _ _ => rfl))
      rw [if_neg (show ¬ nI (sz B - M) < nI M by rw [pI_lt_iff (by omega) (by omega)]; exact c1), ldA_n (by omega) (by omega), f1]
      unfold f_X4_openBlock
      rw [stA_n (by omega) (by omega), stA_n (by omega) (by omega), stA_n (by omega) (by omega), ob_s]
      unfold j_X4_split_90
      dsimp only
      rw [ldA_n (by omega) (by omega), upN (by omega), f1, pI_add, stA_n (by omega) (by omega), stA_n (by omega) (by omega), ldA_n (by omega) (by omega), upN (by omega), upE rfl]
      refine wp_seq (relab_ok (S := M) hn (by omega) (by omega) (by rw [upN (by omega), upE rfl]) (by rw [upN (by omega), upE rfl]) p1 (fun x hx => ⟨(p2 x hx).2.1, (p2 x hx).2.2.1, (p2 x hx).2.2.2.1⟩)) (fun u hu => wp_some ⟨b + 1, boN b (fi B) M pl bo, _, _, pI_add, PD_new D0 hB (by omega) hM1 hr hd hu (fun j hj => ?_) (fun j hj => ?_), by omega, fun j hj hjB => ?_, hks, fun x hx => ?_, fun x y hx hy => ?_⟩)
      · show va_up (va_up fs b (nI (fi B))) B (nI (fi B + M)) j = _
        by_cases e : j = B
        · rw [upE e, upE e]
        · rw [upN e, upN e]
          by_cases e2 : j = b
          · rw [upE e2, upE e2]
          · rw [upN e2, upN e2]
            exact (p3 j (by omega)).1
      · show va_up (va_up ss b (nI M)) B (nI (sz B - M)) j = _
        by_cases e : j = B
        · rw [upE e, upE e]
        · rw [upN e, upN e]
          by_cases e2 : j = b
          · rw [upE e2, upE e2]
          · rw [upN e2, upN e2]
            exact (p3 j (by omega)).2.1
      · rw [upN hjB, upN (by omega), upN hjB, upN (by omega)]
        exact ⟨rfl, rfl⟩
      · show boN b (fi B) M pl bo x = bo x ∨ (bo x = B ∧ b ≤ boN b (fi B) M pl bo x)
        unfold boN
        by_cases e : fi B ≤ pl x ∧ pl x < fi B + M
        · rw [if_pos e]
          exact Or.inr ⟨(p4 x B hx hB).mpr (by omega), Nat.le_refl _⟩
        · rw [if_neg e]
          exact Or.inl rfl
      · refine boN_eq (M := 0) (C := fun x => pl x < fi B + M) hbo (fun x hx => ?_) hx hy
        have := p4 x B hx hB
        constructor
        · intro h
          exact ⟨this.mpr (by omega), by omega⟩
        · rintro ⟨h, h2⟩
          have := this.mp h
          omega
