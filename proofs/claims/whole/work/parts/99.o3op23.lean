set_option linter.unusedVariables false
/-! monoidSize: its word for the law -/
theorem op2f_of {α β : Type} {f : Option α} {g : Option β} {Q R : α → β → Prop} (h : W2 f g Q) (k : ∀ o m, f = some o → Q o m → R o m) : ∃ (o : α) (m : β), f = some o ∧ g = some m ∧ R o m := by
  obtain ⟨o, m, e1, e2, q⟩ := h
  exact ⟨o, m, e1, e2, k o m e1 q⟩
theorem rel_4 {cy : Nat → ClassId} {ad : Nat → Nat} {E : Nat → va_E} {PT : va_W} {tq : Nat → Option TV} {lq : Nat → Bool} {l : List Nat} {c : List va_E}
    (rR : RefsR ad (gR (E 54)) (gR (E 68)) (gR (E 82)))
    (rL : LetR (gS (E 53) 0) (gS (E 0) 0))
    (rW0 : WordR (gS (E 55) 1) (gI (E 56)) (gI (E 1) 0) (gI (E 2)) 0)
    (rW1 : WordR (gS (E 58) 1) (gI (E 59)) (gI (E 1) 1) (gI (E 2)) 12)
    (rW2 : WordR (gS (E 61) 1) (gI (E 62)) (gI (E 1) 2) (gI (E 2)) 24)
    (rT : TestsR tq (gS (E 64) 1) (gR (E 65)) (gS (E 0) 10) (gI (E 5)) (gI (E 6)) (gI (E 7)) (gI (E 8)))
    (rG : LangsR cy PT tq lq (gR (E 66)) (gI (E 12)) (gI (E 13)) (gI (E 14)) (gI (E 15)) (gI (E 16)) (gI (E 17)) (gI (E 18)) (gI (E 19)))
    (rI : InputR (gS (E 52) 4) (gI (E 81)) (gS (E 0) 11) (gI (E 9)))
    (rA : RowR (gS (E 83) 0) (gS (E 83) 1) (gI (E 84)) (gI (E 47) 0) (gI (E 48) 0) (gI (E 49)) 0)
    (rB : RowR (gS (E 85) 0) (gS (E 85) 1) (gI (E 86)) (gI (E 47) 1) (gI (E 48) 1) (gI (E 49)) 21)
    (rC : RowR (gS (E 87) 0) (gS (E 87) 1) (gI (E 88)) (gI (E 47) 2) (gI (E 48) 2) (gI (E 49)) 42)
    (rS : SnapR cy PT tq lq (gS (E 52) 2) (gS (E 0) 66) (gS (E 67) 0) (gS (E 69) 1) (gS (E 72) 1) (gS (E 75) 1) (gI (E 70)) (gI (E 73)) (gI (E 76)) (gS (E 78) 1) (gR (E 79)) (gR (E 80)) (gI (E 51)))
    (rM : gV (E 52) 10 = .ref (l.getD 0 0))
    (rZ : gS (E 110) 8 = 0) : REL cy 127 (ad4 123 ad l) (E4 123 E c) PT tq lq := by
  have e : ∀ k, k < 123 → E4 123 E c k = E k := fun k hk => if_pos hk
  have a : ∀ k, k < 123 → ad4 123 ad l k = ad k := fun k hk => if_pos hk
  refine rel_mk ?_ ?_ ?_ ?_ ?_ ?_ ?_ ?_ ?_ ?_ ?_ ?_ ?_ ?_
  · rw [e 54 (by decide), e 68 (by decide), e 82 (by decide)]
    obtain ⟨h1, h2, h3, h4, h5, h6, h7, h8, h9⟩ := rR
    refine ⟨?_, ?_, ?_, ?_, ?_, ?_, ?_, ?_, ?_⟩
    · rw [a 55 (by decide)]; exact h1
    · rw [a 58 (by decide)]; exact h2
    · rw [a 61 (by decide)]; exact h3
    · rw [a 69 (by decide)]; exact h4
    · rw [a 72 (by decide)]; exact h5
    · rw [a 75 (by decide)]; exact h6
    · rw [a 83 (by decide)]; exact h7
    · rw [a 85 (by decide)]; exact h8
    · rw [a 87 (by decide)]; exact h9
  · rw [e 53 (by decide), e 0 (by decide)]; exact rL
  · rw [e 55 (by decide), e 56 (by decide), e 1 (by decide), e 2 (by decide)]; exact rW0
  · rw [e 58 (by decide), e 59 (by decide), e 1 (by decide), e 2 (by decide)]; exact rW1
  · rw [e 61 (by decide), e 62 (by decide), e 1 (by decide), e 2 (by decide)]; exact rW2
  · rw [e 64 (by decide), e 65 (by decide), e 0 (by decide), e 5 (by decide), e 6 (by decide), e 7 (by decide), e 8 (by decide)]; exact rT
  · rw [e 66 (by decide), e 12 (by decide), e 13 (by decide), e 14 (by decide), e 15 (by decide), e 16 (by decide), e 17 (by decide), e 18 (by decide), e 19 (by decide)]; exact rG
  · rw [e 52 (by decide), e 81 (by decide), e 0 (by decide), e 9 (by decide)]; exact rI
  · rw [e 83 (by decide), e 84 (by decide), e 47 (by decide), e 48 (by decide), e 49 (by decide)]; exact rA
  · rw [e 85 (by decide), e 86 (by decide), e 47 (by decide), e 48 (by decide), e 49 (by decide)]; exact rB
  · rw [e 87 (by decide), e 88 (by decide), e 47 (by decide), e 48 (by decide), e 49 (by decide)]; exact rC
  · rw [e 52 (by decide), e 0 (by decide), e 67 (by decide), e 69 (by decide), e 72 (by decide), e 75 (by decide), e 70 (by decide), e 73 (by decide), e 76 (by decide), e 78 (by decide), e 79 (by decide), e 80 (by decide), e 51 (by decide)]; exact rS
  · rw [e 52 (by decide)]
    refine Or.inr ⟨rfl, ?_⟩
    rw [rM]
    rfl
  · rw [e 110 (by decide)]; exact rZ
theorem mn_new {x1 a cnt al as' bl tc ac : Int32} {tq : Nat → Option TV} {mb atm : Nat → Option Nat} {an am ad ap all asl qm qp qb qf qs qk qt qq qo qr : Nat → Int32} {alo ahi : Nat → Int64} {out} (h : f_X11_monoidSize__null x1 tq a cnt mb al as' bl tc ac an am ad alo ahi ap all asl qm qp qb qf qs qk qt qq qo qr atm = some out) : ∀ x, out.2.2.2.2.2.2.2.2.2.2.2.2.2.2.2.2.2.2.2.2.2.2.2.2.2 = some x → x.2.2.1 = 1200 ∧ x.2.2.2.2.1 = 160400 ∧ x.2.2.2.2.2.2.1 = 1024 := by
  unfold f_X11_monoidSize__null at h
  obtain ⟨u1, _, h⟩ := ob_some h
  by_cases c1 : u1 = 0
  · replace h := ifp h c1
    obtain rfl := Option.some.inj h
    intro x hx
    exact absurd hx.symm (Option.some_ne_none _)
  · replace h := ifn h c1
    obtain ⟨u4, _, h⟩ := ob_some h
    by_cases c2 : u4.1 = 0
    · replace h := ifp h c2
      obtain rfl := Option.some.inj h
      intro x hx
      exact absurd hx.symm (Option.some_ne_none _)
    · replace h := ifn h c2
      obtain ⟨u7, _, h⟩ := ob_some h
      obtain ⟨u14, _, h⟩ := ob_some h
      by_cases c3 : u14.1 = 0
      · replace h := ifp h c3
        obtain rfl := Option.some.inj h
        intro x hx
        obtain rfl := Option.some.inj hx
        exact ⟨rfl, rfl, rfl⟩
      · replace h := ifn h c3
        obtain rfl := Option.some.inj h
        intro x hx
        obtain rfl := Option.some.inj hx
        exact ⟨rfl, rfl, rfl⟩
set_option maxHeartbeats 4000000 in
set_option maxRecDepth 100000 in
theorem op23 {cy : Nat → ClassId} {n : Nat} {ad : Nat → Nat} {E : Nat → va_E} {PT : va_W} {tq : Nat → Option TV} {lq : Nat → Bool} (H : REL cy n ad E PT tq lq) (x1 : Int32) : OP23h (REL cy) cy n ad E PT tq lq x1 ∨ OP23n (REL cy) cy n ad E PT tq lq x1 := by
  obtain ⟨rR, rL, rW0, rW1, rW2, rT, rG, rI, rA, rB, rC, rS, rM, rZ⟩ := rel_el H
  rcases rM with ⟨hn, hm⟩ | ⟨hn, hm⟩
  · subst hn
    refine Or.inr ?_
    unfold OP23n
    exact ⟨rfl, hm, op2f_of (p_mn rZ rL rT) (fun o m f1 h => ⟨h.1, fun _ => (rel_mk rR rL rW0 rW1 rW2 rT rG rI rA rB rC rS (Or.inl ⟨rfl, rfl⟩) h.2), fun u x hx => ⟨mn_new f1 x hx, (rel_4 rR rL rW0 rW1 rW2 rT rG rI rA rB rC rS rfl h.2)⟩⟩)⟩
  · subst hn
    refine Or.inl ?_
    unfold OP23h
    exact ⟨rfl, hm, op2_of (p_mh rZ rL rT) (fun o m h => ⟨h.1, (rel_mk rR rL rW0 rW1 rW2 rT rG rI rA rB rC rS (Or.inr ⟨rfl, hm⟩) h.2)⟩)⟩
theorem h23_ok : H23 REL := h23_of REL (fun cy n ad E PT tq lq x1 hn hT hU hSH hR => op23 hR x1)
