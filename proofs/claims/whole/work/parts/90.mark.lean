set_option linter.unusedVariables false
/-! marking states within their blocks -/
def MI (n b tc : Nat) (pl bo fi sz md to : Nat → Nat) (MS : Nat → Prop) (ks ts : Nat → Int32) : Prop :=
  (∀ j, j < b → ks j = nI (md j) ∧ md j ≤ sz j) ∧
  (∀ x, x < n → (MS x ↔ pl x < fi (bo x) + md (bo x))) ∧
  tc = cntN (fun j => decide (0 < md j)) b ∧
  (∀ i, i < tc → ts i = nI (to i) ∧ to i < b ∧ 0 < md (to i)) ∧
  (∀ i j, i < tc → j < tc → to i = to j → i = j) ∧
  ∀ j, j < b → 0 < md j → ∃ i, i < tc ∧ to i = j
theorem MI_q {n b tc : Nat} {pl bo fi sz md to : Nat → Nat} {MS MS' : Nat → Prop} {ks ts : Nat → Int32} (h : MI n b tc pl bo fi sz md to MS ks ts) (e : ∀ x, x < n → (MS' x ↔ MS x)) : MI n b tc pl bo fi sz md to MS' ks ts := ⟨h.1, fun x hx => (e x hx).trans (h.2.1 x hx), h.2.2⟩
theorem PD_sw {n b x z P q B : Nat} {mm pl bo fi sz : Nat → Nat} {ms ps bs fs ss : Nat → Int32} (D : PD n b mm pl bo fi sz ms ps bs fs ss) (hx : x < n) (hP : pl x = P) (hq : q < n) (hz : mm q = z) (hB : bo x = B) (hzB : bo z = B) : PD n b (va_up (va_up mm q x) P z) (va_up (va_up pl x q) z P) bo fi sz (va_up (va_up ms q (nI x)) P (nI z)) (va_up (va_up ps x (nI q)) z (nI P)) bs fs ss := by
  obtain ⟨p1, p2, p3, p4⟩ := D
  obtain ⟨_, z1, z2⟩ := p1 q hq
  rw [hz] at z1 z2
  obtain ⟨_, x1, x2, x3, x4⟩ := p2 x hx
  rw [hP] at x1 x2
  have zx : z = x → P = q := fun e => by rw [← hP, ← e, z2]
  refine ⟨fun i hi => ?_, fun y hy => ?_, p3, fun y j hy hj => ?_⟩
  · by_cases e1 : i = P
    · rw [upE e1, upE e1, upE rfl]
      exact ⟨rfl, z1, e1.symm⟩
    · rw [upN e1, upN e1]
      by_cases e2 : i = q
      · rw [upE e2, upE e2, upN (fun h => e1 (e2.trans (zx h.symm).symm)), upE rfl]
        exact ⟨rfl, hx, e2.symm⟩
      · obtain ⟨a1, a2, a3⟩ := p1 i hi
        rw [upN e2, upN e2, upN (fun h => e2 (by rw [← a3, h, z2])), upN (fun h => e1 (by rw [← a3, h, hP]))]
        exact ⟨a1, a2, a3⟩
  · obtain ⟨y1, y2, y3, y4, y5⟩ := p2 y hy
    by_cases e1 : y = z
    · rw [upE e1, upE e1, upE rfl]
      exact ⟨rfl, x1, e1.symm, y4, y5⟩
    · rw [upN e1, upN e1]
      by_cases e2 : y = x
      · rw [upE e2, upE e2, upN (fun h => e1 (by rw [e2, ← x2, ← h, hz])), upE rfl]
        exact ⟨rfl, hq, e2.symm, y4, y5⟩
      · rw [upN e2, upN e2, upN (fun h => e2 (by rw [← y3, h, x2])), upN (fun h => e1 (by rw [← y3, h, hz]))]
        exact ⟨y1, y2, y3, y4, y5⟩
  · have rx := p4 x j hx hj
    have rz := p4 z j z1 hj
    rw [hP, hB] at rx
    rw [z2, hzB] at rz
    by_cases e1 : y = z
    · rw [upE e1, e1, hzB]
      exact rx
    · rw [upN e1]
      by_cases e2 : y = x
      · rw [upE e2, e2, hB]
        exact rz
      · rw [upN e2]
        exact p4 y j hy hj
theorem mark_ok {n b tc x : Nat} {mm pl bo fi sz md to : Nat → Nat} {MS : Nat → Prop} {ms ps bs fs ss ks ts : Nat → Int32} (hn : n ≤ 2000) (D : PD n b mm pl bo fi sz ms ps bs fs ss) (M : MI n b tc pl bo fi sz md to MS ks ts) (hx : x < n) : Wp (f_X4_mark (nI x) bs fs (nI tc) ms ps ks ts) (fun u => ∃ tc' mm' pl' md' to', u.1 = nI tc' ∧ PD n b mm' pl' bo fi sz u.2.1 u.2.2.1 bs fs ss ∧ MI n b tc' pl' bo fi sz md' to' (fun y => MS y ∨ y = x) u.2.2.2.1 u.2.2.2.2) := by
  have hb := PD_b D
  have D0 := D
  obtain ⟨p1, p2, p3, p4⟩ := D
  obtain ⟨m1, m2, m3, m4, m5, m6⟩ := M
  obtain ⟨x1, x2, x3, x4, x5⟩ := p2 x hx
  obtain ⟨f1, f2, f3, f4⟩ := p3 _ x5
  obtain ⟨k1, k2⟩ := m1 _ x5
  have rx := (p4 x (bo x) hx x5).mp rfl
  unfold f_X4_mark
  rw [ldA_n (by omega) (by omega), x4, ldA_n (by omega) (by omega), f1, ldA_n (by omega) (by omega), k1, ldA_n (by omega) (by omega), x1, pI_add]
  by_cases c : fi (bo x) + md (bo x) ≤ pl x
  · obtain ⟨q, hq⟩ : ∃ q, q = fi (bo x) + md (bo x) := ⟨_, rfl⟩
    rw [← hq] at c ⊢
    have hqn : q < n := by omega
    obtain ⟨z1, z2, z3⟩ := p1 q hqn
    obtain ⟨z, hz⟩ : ∃ z, z = mm q := ⟨_, rfl⟩
    rw [← hz] at z1 z2 z3
    have bz : bo z = bo x := (p4 z (bo x) z2 x5).mpr (by rw [z3]; omega)
    have D' := PD_sw D0 hx rfl hqn hz.symm rfl bz
    have M' : ∀ y, y < n → ((MS y ∨ y = x) ↔ va_up (va_up pl x q) z (pl x) y < fi (bo y) + va_up md (bo x) (md (bo x) + 1) (bo y)) := by
      intro y hy
      by_cases e1 : y = x
      · by_cases e2 : y = z
        · rw [upE e2, upE (by rw [e1])]
          have : pl x = q := by rw [← e1, e2, z3]
          rw [e1]
          exact ⟨fun _ => by omega, fun _ => Or.inr rfl⟩
        · rw [upN e2, upE e1, upE (by rw [e1]), e1]
          exact ⟨fun _ => by omega, fun _ => Or.inr rfl⟩
      · by_cases e2 : y = z
        · have hpq : pl x ≠ q := fun h => e1 (by rw [e2, hz, ← h, x3])
          have := m2 y hy
          rw [upE e2, upE (by rw [e2, bz])]
          rw [e2, bz, z3] at this
          rw [e2, bz]
          constructor
          · rintro (h | h)
            · have := this.mp h
              omega
            · exact absurd (e2.trans h) e1
          · intro h
            omega
        · have hyq : pl y ≠ q := fun h => e2 (by rw [hz, ← h, (p2 y hy).2.2.1])
          rw [upN e2, upN e1]
          have my := m2 y hy
          by_cases e3 : bo y = bo x
          · rw [upE e3, e3]
            rw [e3] at my
            constructor
            · rintro (h | h)
              · have := my.mp h
                omega
              · exact absurd h e1
            · intro h
              exact Or.inl (my.mpr (by omega))
          · rw [upN e3]
            constructor
            · rintro (h | h)
              · exact my.mp h
              · exact absurd h e1
            · intro h
              exact Or.inl (my.mpr h)
    have K' : ∀ j, j < b → va_up ks (bo x) (nI (md (bo x) + 1)) j = nI (va_up md (bo x) (md (bo x) + 1) j) ∧ va_up md (bo x) (md (bo x) + 1) j ≤ sz j := by
      intro j hj
      by_cases e : j = bo x
      · rw [upE e, upE e, e]
        exact ⟨rfl, by omega⟩
      · rw [upN e, upN e]
        exact m1 j hj
    rw [if_pos ((pI_le_iff (by omega) (by omega)).mpr c), ldA_n (by omega) (by omega), z1, stA_n (by omega) (by omega), stA_n (by omega) (by omega), stA_n (by omega) (by omega), stA_n (by omega) (by omega), ldA_n (by omega) (by omega), k1]
    unfold j_X4_mark_105
    by_cases e0 : md (bo x) = 0
    · have cu : cntN (fun j => decide (0 < va_up md (bo x) (md (bo x) + 1) j)) b = cntN (fun j => decide (0 < md j)) b + 1 := cntN_upd x5 (fun j hj => by
        show decide (0 < va_up md (bo x) (md (bo x) + 1) j) = decide (0 < md j)
        rw [upN hj]) (decide_eq_false (by omega)) (by
        show decide (0 < va_up md (bo x) (md (bo x) + 1) (bo x)) = true
        rw [upE rfl]
        exact decide_eq_true (by omega))
      have cl := cntN_le (c := fun j => decide (0 < va_up md (bo x) (md (bo x) + 1) j)) (n := b)
      rw [if_pos (show nI (md (bo x)) = (0 : Int32) by rw [e0]; rfl), stA_n (by omega) (by omega), ldA_n (by omega) (by omega), k1, pL1, pI_add, pI_add, stA_n (by omega) (by omega)]
      refine wp_some ⟨tc + 1, _, _, va_up md (bo x) (md (bo x) + 1), va_up to tc (bo x), rfl, D', K', M', by omega, fun i hi => ?_, fun i j hi hj e => ?_, fun j hj hm => ?_⟩
      · show va_up ts tc (nI (bo x)) i = nI (va_up to tc (bo x) i) ∧ va_up to tc (bo x) i < b ∧ 0 < va_up md (bo x) (md (bo x) + 1) (va_up to tc (bo x) i)
        by_cases e : i = tc
        · rw [upE e, upE e, upE rfl]
          exact ⟨rfl, x5, by omega⟩
        · obtain ⟨a1, a2, a3⟩ := m4 i (by omega)
          rw [upN e, upN e, upN (fun h => by rw [h] at a3; omega)]
          exact ⟨a1, a2, a3⟩
      · by_cases e1 : i = tc
        · by_cases e2 : j = tc
          · omega
          · rw [upE e1, upN e2] at e
            have := (m4 j (by omega)).2.2
            rw [← e] at this
            omega
        · by_cases e2 : j = tc
          · rw [upN e1, upE e2] at e
            have := (m4 i (by omega)).2.2
            rw [e] at this
            omega
          · rw [upN e1, upN e2] at e
            exact m5 i j (by omega) (by omega) e
      · by_cases e : j = bo x
        · exact ⟨tc, by omega, by rw [upE rfl, e]⟩
        · rw [upN e] at hm
          obtain ⟨i, i1, i2⟩ := m6 j hj hm
          exact ⟨i, by omega, by rw [upN (by omega)]; exact i2⟩
    · have cu : cntN (fun j => decide (0 < va_up md (bo x) (md (bo x) + 1) j)) b = cntN (fun j => decide (0 < md j)) b := cntN_congr (fun j hj => by
        show decide (0 < va_up md (bo x) (md (bo x) + 1) j) = decide (0 < md j)
        by_cases e : j = bo x
        · rw [upE e, e, decide_eq_true (show 0 < md (bo x) + 1 by omega), decide_eq_true (show 0 < md (bo x) by omega)]
        · rw [upN e])
      rw [if_neg (show ¬ nI (md (bo x)) = (0 : Int32) from fun h => e0 (pI_inj (b := 0) (by omega) (by omega) h)), ldA_n (by omega) (by omega), k1, pL1, pI_add, stA_n (by omega) (by omega)]
      refine wp_some ⟨tc, _, _, va_up md (bo x) (md (bo x) + 1), to, rfl, D', K', M', by omega, fun i hi => ?_, m5, fun j hj hm => ?_⟩
      · obtain ⟨a1, a2, a3⟩ := m4 i hi
        refine ⟨a1, a2, ?_⟩
        by_cases e : to i = bo x
        · rw [upE e]; omega
        · rw [upN e]; exact a3
      · by_cases e : j = bo x
        · exact m6 j hj (by rw [e]; omega)
        · rw [upN e] at hm
          exact m6 j hj hm
  · rw [if_neg (show ¬ nI (fi (bo x) + md (bo x)) ≤ nI (pl x) by rw [pI_le_iff (by omega) (by omega)]; exact c)]
    have hMS : MS x := (m2 x hx).mpr (by omega)
    exact wp_some ⟨tc, mm, pl, md, to, rfl, D0, MI_q ⟨m1, m2, m3, m4, m5, m6⟩ (fun y hy => ⟨fun h => h.elim id (fun h => by rw [h]; exact hMS), Or.inl⟩)⟩
