set_option linter.unusedVariables false
/-! the words' calls, the law's words OP0 to OP8 -/
theorem op_e {α β : Type} {f : Option α} {g : Option β} {a : α} {b : β} {R : α → β → Prop} (h : f = some a ∧ g = some b) (k : R a b) : ∃ (o : α) (m : β), f = some o ∧ g = some m ∧ R o m := ⟨a, b, h.1, h.2, k⟩
theorem op0 {cy : Nat → ClassId} {n : Nat} {ad : Nat → Nat} {E : Nat → va_E} {PT : va_W} {tq : Nat → Option TV} {lq : Nat → Bool} (H : REL cy n ad E PT tq lq) (x1 : Int32) : OP0 (REL cy) cy n ad E PT tq lq x1 := by
  obtain ⟨rR, rL, rW0, rW1, rW2, rT, rG, rI, rA, rB, rC, rS, rM, rZ⟩ := rel_el H
  rcases p_setLetters (x1 := x1) (s0 := gS (E 55) 1) (s1 := gS (E 58) 1) (s2 := gS (E 61) 1) (tc := gS (E 64) 1) (lg := gR (E 66)) (ts := gS (E 0) 10) (wl := gI (E 1)) (fm := gI (E 12)) rR.1 rR.2.1 rR.2.2.1 rL with ⟨h1, h2⟩ | ⟨k, hk1, hk2, h1, m, h2, h3, h4, h5, h6, h7⟩
  · exact ⟨_, _, h1, h2, rfl, (rel_mk rR rL rW0 rW1 rW2 rT rG rI rA rB rC rS rM rZ)⟩
  · refine ⟨_, m, h1, h2, h3.symm, (rel_mk rR ⟨k, hk1, hk2, rfl, h4⟩ ⟨0, by omega, rfl, h6 0 (by omega), fun i hi => by omega⟩ ⟨0, by omega, rfl, h6 1 (by omega), fun i hi => by omega⟩ ⟨0, by omega, rfl, h6 2 (by omega), fun i hi => by omega⟩ ⟨⟨0, by omega, rfl, h5, fun t ht => by omega⟩, rT.2⟩ (fun l hl => Or.inl ⟨?_, h7 l hl⟩) rI rA rB rC rS rM rZ)⟩
    rcases four hl with rfl | rfl | rfl | rfl <;> rfl
theorem op1 {cy : Nat → ClassId} {n : Nat} {ad : Nat → Nat} {E : Nat → va_E} {PT : va_W} {tq : Nat → Option TV} {lq : Nat → Bool} (H : REL cy n ad E PT tq lq) : OP1 (REL cy) cy n ad E PT tq lq := by
  obtain ⟨rR, rL, rW0, rW1, rW2, rT, rG, rI, rA, rB, rC, rS, rM, rZ⟩ := rel_el H
  exact ⟨_, _, rfl, rfl, e_letters rL, H⟩
theorem op2 {cy : Nat → ClassId} {n : Nat} {ad : Nat → Nat} {E : Nat → va_E} {PT : va_W} {tq : Nat → Option TV} {lq : Nat → Bool} (H : REL cy n ad E PT tq lq) (x1 : Int32) (x2 : Int32) : OP2 (REL cy) cy n ad E PT tq lq x1 x2 := by
  obtain ⟨rR, rL, rW0, rW1, rW2, rT, rG, rI, rA, rB, rC, rS, rM, rZ⟩ := rel_el H
  rcases wordC x1 with ⟨w, hw, rfl⟩ | hb
  · rcases three hw with rfl | rfl | rfl
    · exact (Or.inl (op_of (p_append 0 (by omega) rR.1 rL rW0) (fun o m h => ⟨h.1, (rel_mk rR rL h.2.1 (WordR_fr rW1 (h.2.2.1 1 (by omega)) (fun i hi => h.2.2.2 _ (by omega))) (WordR_fr rW2 (h.2.2.1 2 (by omega)) (fun i hi => h.2.2.2 _ (by omega))) rT rG rI rA rB rC rS rM rZ)⟩)))
    · exact (Or.inr (Or.inl (op_of (p_append 1 (by omega) rR.2.1 rL rW1) (fun o m h => ⟨h.1, (rel_mk rR rL (WordR_fr rW0 (h.2.2.1 0 (by omega)) (fun i hi => h.2.2.2 _ (by omega))) h.2.1 (WordR_fr rW2 (h.2.2.1 2 (by omega)) (fun i hi => h.2.2.2 _ (by omega))) rT rG rI rA rB rC rS rM rZ)⟩))))
    · exact (Or.inr (Or.inr (op_of (p_append 2 (by omega) rR.2.2.1 rL rW2) (fun o m h => ⟨h.1, (rel_mk rR rL (WordR_fr rW0 (h.2.2.1 0 (by omega)) (fun i hi => h.2.2.2 _ (by omega))) (WordR_fr rW1 (h.2.2.1 1 (by omega)) (fun i hi => h.2.2.2 _ (by omega))) h.2.1 rT rG rI rA rB rC rS rM rZ)⟩))))
  · exact Or.inl (op_e (n_append hb) ⟨rfl, (rel_mk rR rL rW0 rW1 rW2 rT rG rI rA rB rC rS rM rZ)⟩)
theorem op3 {cy : Nat → ClassId} {n : Nat} {ad : Nat → Nat} {E : Nat → va_E} {PT : va_W} {tq : Nat → Option TV} {lq : Nat → Bool} (H : REL cy n ad E PT tq lq) (x1 : Int32) : OP3 (REL cy) cy n ad E PT tq lq x1 := by
  obtain ⟨rR, rL, rW0, rW1, rW2, rT, rG, rI, rA, rB, rC, rS, rM, rZ⟩ := rel_el H
  rcases wordC x1 with ⟨w, hw, rfl⟩ | hb
  · rcases three hw with rfl | rfl | rfl
    · exact (Or.inl (op_of (p_clearWord 0 (by omega) rR.1 rW0) (fun o m h => ⟨h.1, (rel_mk rR rL h.2.1 (WordR_fr rW1 (h.2.2.1 1 (by omega)) (fun i hi => h.2.2.2 _ (by omega))) (WordR_fr rW2 (h.2.2.1 2 (by omega)) (fun i hi => h.2.2.2 _ (by omega))) rT rG rI rA rB rC rS rM rZ)⟩)))
    · exact (Or.inr (Or.inl (op_of (p_clearWord 1 (by omega) rR.2.1 rW1) (fun o m h => ⟨h.1, (rel_mk rR rL (WordR_fr rW0 (h.2.2.1 0 (by omega)) (fun i hi => h.2.2.2 _ (by omega))) h.2.1 (WordR_fr rW2 (h.2.2.1 2 (by omega)) (fun i hi => h.2.2.2 _ (by omega))) rT rG rI rA rB rC rS rM rZ)⟩))))
    · exact (Or.inr (Or.inr (op_of (p_clearWord 2 (by omega) rR.2.2.1 rW2) (fun o m h => ⟨h.1, (rel_mk rR rL (WordR_fr rW0 (h.2.2.1 0 (by omega)) (fun i hi => h.2.2.2 _ (by omega))) (WordR_fr rW1 (h.2.2.1 1 (by omega)) (fun i hi => h.2.2.2 _ (by omega))) h.2.1 rT rG rI rA rB rC rS rM rZ)⟩))))
  · exact Or.inl (op_e (n_clearWord hb) ⟨rfl, (rel_mk rR rL rW0 rW1 rW2 rT rG rI rA rB rC rS rM rZ)⟩)
theorem op4 {cy : Nat → ClassId} {n : Nat} {ad : Nat → Nat} {E : Nat → va_E} {PT : va_W} {tq : Nat → Option TV} {lq : Nat → Bool} (H : REL cy n ad E PT tq lq) (x1 : Int32) : OP4 (REL cy) cy n ad E PT tq lq x1 := by
  obtain ⟨rR, rL, rW0, rW1, rW2, rT, rG, rI, rA, rB, rC, rS, rM, rZ⟩ := rel_el H
  rcases wordC x1 with ⟨w, hw, rfl⟩ | hb
  · rcases three hw with rfl | rfl | rfl
    · exact (Or.inl (op_of (p_length 0 (by omega) rR.1 rW0) (fun o m h => ⟨h, H⟩)))
    · exact (Or.inr (Or.inl (op_of (p_length 1 (by omega) rR.2.1 rW1) (fun o m h => ⟨h, H⟩))))
    · exact (Or.inr (Or.inr (op_of (p_length 2 (by omega) rR.2.2.1 rW2) (fun o m h => ⟨h, H⟩))))
  · exact Or.inl (op_e (n_length hb) ⟨rfl, H⟩)
theorem op5 {cy : Nat → ClassId} {n : Nat} {ad : Nat → Nat} {E : Nat → va_E} {PT : va_W} {tq : Nat → Option TV} {lq : Nat → Bool} (H : REL cy n ad E PT tq lq) (x1 : Int32) (x2 : Int32) : OP5 (REL cy) cy n ad E PT tq lq x1 x2 := by
  obtain ⟨rR, rL, rW0, rW1, rW2, rT, rG, rI, rA, rB, rC, rS, rM, rZ⟩ := rel_el H
  rcases wordC x1 with ⟨w, hw, rfl⟩ | hb
  · rcases three hw with rfl | rfl | rfl
    · exact (Or.inl (op_of (p_letter 0 (by omega) rR.1 rW0) (fun o m h => ⟨h, H⟩)))
    · exact (Or.inr (Or.inl (op_of (p_letter 1 (by omega) rR.2.1 rW1) (fun o m h => ⟨h, H⟩))))
    · exact (Or.inr (Or.inr (op_of (p_letter 2 (by omega) rR.2.2.1 rW2) (fun o m h => ⟨h, H⟩))))
  · exact Or.inl (op_e (n_letter hb) ⟨rfl, H⟩)
theorem op6 {cy : Nat → ClassId} {n : Nat} {ad : Nat → Nat} {E : Nat → va_E} {PT : va_W} {tq : Nat → Option TV} {lq : Nat → Bool} (H : REL cy n ad E PT tq lq) (x1 : Int32) : OP6 (REL cy) cy n ad E PT tq lq x1 := by
  obtain ⟨rR, rL, rW0, rW1, rW2, rT, rG, rI, rA, rB, rC, rS, rM, rZ⟩ := rel_el H
  rcases wordC x1 with ⟨w, hw, rfl⟩ | hb
  · rcases three hw with rfl | rfl | rfl
    · exact (Or.inl (op_of (p_reverse 0 (by omega) rR.1 rW0) (fun o m h => ⟨h.1, (rel_mk rR rL h.2.1 (WordR_fr rW1 (h.2.2.1 1 (by omega)) (fun i hi => h.2.2.2 _ (by omega))) (WordR_fr rW2 (h.2.2.1 2 (by omega)) (fun i hi => h.2.2.2 _ (by omega))) rT rG rI rA rB rC rS rM rZ)⟩)))
    · exact (Or.inr (Or.inl (op_of (p_reverse 1 (by omega) rR.2.1 rW1) (fun o m h => ⟨h.1, (rel_mk rR rL (WordR_fr rW0 (h.2.2.1 0 (by omega)) (fun i hi => h.2.2.2 _ (by omega))) h.2.1 (WordR_fr rW2 (h.2.2.1 2 (by omega)) (fun i hi => h.2.2.2 _ (by omega))) rT rG rI rA rB rC rS rM rZ)⟩))))
    · exact (Or.inr (Or.inr (op_of (p_reverse 2 (by omega) rR.2.2.1 rW2) (fun o m h => ⟨h.1, (rel_mk rR rL (WordR_fr rW0 (h.2.2.1 0 (by omega)) (fun i hi => h.2.2.2 _ (by omega))) (WordR_fr rW1 (h.2.2.1 1 (by omega)) (fun i hi => h.2.2.2 _ (by omega))) h.2.1 rT rG rI rA rB rC rS rM rZ)⟩))))
  · exact Or.inl (op_e (n_reverse hb) ⟨rfl, (rel_mk rR rL rW0 rW1 rW2 rT rG rI rA rB rC rS rM rZ)⟩)
theorem op7 {cy : Nat → ClassId} {n : Nat} {ad : Nat → Nat} {E : Nat → va_E} {PT : va_W} {tq : Nat → Option TV} {lq : Nat → Bool} (H : REL cy n ad E PT tq lq) (x1 x2 : Int32) : OP7 (REL cy) cy n ad E PT tq lq x1 x2 := by
  obtain ⟨rR, rL, rW0, rW1, rW2, rT, rG, rI, rA, rB, rC, rS, rM, rZ⟩ := rel_el H
  rcases wordC x1 with ⟨w, hw, rfl⟩ | hb
  · rcases wordC x2 with ⟨v, hv, rfl⟩ | hb
    · rcases three hw with rfl | rfl | rfl
      · rcases three hv with rfl | rfl | rfl
        · exact (Or.inr (Or.inr (Or.inr (Or.inr (Or.inr (Or.inr (Or.inl (op_of (p_concatSelf 0 (by omega) rR.1 rW0) (fun o m h => ⟨h.1, (rel_mk rR rL h.2.1 (WordR_fr rW1 (h.2.2.1 1 (by omega)) (fun i hi => h.2.2.2 _ (by omega))) (WordR_fr rW2 (h.2.2.1 2 (by omega)) (fun i hi => h.2.2.2 _ (by omega))) rT rG rI rA rB rC rS rM rZ)⟩)))))))))
        · exact (Or.inl (op_of (p_concatenate 0 1 (by omega) (by omega) rR.1 rR.2.1 rW0 rW1) (fun o m h => ⟨h.1, (rel_mk rR rL h.2.1 (WordR_fr rW1 (h.2.2.1 1 (by omega)) (fun i hi => h.2.2.2 _ (by omega))) (WordR_fr rW2 (h.2.2.1 2 (by omega)) (fun i hi => h.2.2.2 _ (by omega))) rT rG rI rA rB rC rS rM rZ)⟩)))
        · exact (Or.inr (Or.inl (op_of (p_concatenate 0 2 (by omega) (by omega) rR.1 rR.2.2.1 rW0 rW2) (fun o m h => ⟨h.1, (rel_mk rR rL h.2.1 (WordR_fr rW1 (h.2.2.1 1 (by omega)) (fun i hi => h.2.2.2 _ (by omega))) (WordR_fr rW2 (h.2.2.1 2 (by omega)) (fun i hi => h.2.2.2 _ (by omega))) rT rG rI rA rB rC rS rM rZ)⟩))))
      · rcases three hv with rfl | rfl | rfl
        · exact (Or.inr (Or.inr (Or.inl (op_of (p_concatenate 1 0 (by omega) (by omega) rR.2.1 rR.1 rW1 rW0) (fun o m h => ⟨h.1, (rel_mk rR rL (WordR_fr rW0 (h.2.2.1 0 (by omega)) (fun i hi => h.2.2.2 _ (by omega))) h.2.1 (WordR_fr rW2 (h.2.2.1 2 (by omega)) (fun i hi => h.2.2.2 _ (by omega))) rT rG rI rA rB rC rS rM rZ)⟩)))))
        · exact (Or.inr (Or.inr (Or.inr (Or.inr (Or.inr (Or.inr (Or.inr (Or.inl (op_of (p_concatSelf 1 (by omega) rR.2.1 rW1) (fun o m h => ⟨h.1, (rel_mk rR rL (WordR_fr rW0 (h.2.2.1 0 (by omega)) (fun i hi => h.2.2.2 _ (by omega))) h.2.1 (WordR_fr rW2 (h.2.2.1 2 (by omega)) (fun i hi => h.2.2.2 _ (by omega))) rT rG rI rA rB rC rS rM rZ)⟩))))))))))
        · exact (Or.inr (Or.inr (Or.inr (Or.inl (op_of (p_concatenate 1 2 (by omega) (by omega) rR.2.1 rR.2.2.1 rW1 rW2) (fun o m h => ⟨h.1, (rel_mk rR rL (WordR_fr rW0 (h.2.2.1 0 (by omega)) (fun i hi => h.2.2.2 _ (by omega))) h.2.1 (WordR_fr rW2 (h.2.2.1 2 (by omega)) (fun i hi => h.2.2.2 _ (by omega))) rT rG rI rA rB rC rS rM rZ)⟩))))))
      · rcases three hv with rfl | rfl | rfl
        · exact (Or.inr (Or.inr (Or.inr (Or.inr (Or.inl (op_of (p_concatenate 2 0 (by omega) (by omega) rR.2.2.1 rR.1 rW2 rW0) (fun o m h => ⟨h.1, (rel_mk rR rL (WordR_fr rW0 (h.2.2.1 0 (by omega)) (fun i hi => h.2.2.2 _ (by omega))) (WordR_fr rW1 (h.2.2.1 1 (by omega)) (fun i hi => h.2.2.2 _ (by omega))) h.2.1 rT rG rI rA rB rC rS rM rZ)⟩)))))))
        · exact (Or.inr (Or.inr (Or.inr (Or.inr (Or.inr (Or.inl (op_of (p_concatenate 2 1 (by omega) (by omega) rR.2.2.1 rR.2.1 rW2 rW1) (fun o m h => ⟨h.1, (rel_mk rR rL (WordR_fr rW0 (h.2.2.1 0 (by omega)) (fun i hi => h.2.2.2 _ (by omega))) (WordR_fr rW1 (h.2.2.1 1 (by omega)) (fun i hi => h.2.2.2 _ (by omega))) h.2.1 rT rG rI rA rB rC rS rM rZ)⟩))))))))
        · exact (Or.inr (Or.inr (Or.inr (Or.inr (Or.inr (Or.inr (Or.inr (Or.inr (op_of (p_concatSelf 2 (by omega) rR.2.2.1 rW2) (fun o m h => ⟨h.1, (rel_mk rR rL (WordR_fr rW0 (h.2.2.1 0 (by omega)) (fun i hi => h.2.2.2 _ (by omega))) (WordR_fr rW1 (h.2.2.1 1 (by omega)) (fun i hi => h.2.2.2 _ (by omega))) h.2.1 rT rG rI rA rB rC rS rM rZ)⟩))))))))))
    · exact Or.inl (op_e (n_concat2 hw hb) ⟨rfl, (rel_mk rR rL rW0 rW1 rW2 rT rG rI rA rB rC rS rM rZ)⟩)
  · exact Or.inl (op_e (n_concat1 hb) ⟨rfl, (rel_mk rR rL rW0 rW1 rW2 rT rG rI rA rB rC rS rM rZ)⟩)
theorem op8 {cy : Nat → ClassId} {n : Nat} {ad : Nat → Nat} {E : Nat → va_E} {PT : va_W} {tq : Nat → Option TV} {lq : Nat → Bool} (H : REL cy n ad E PT tq lq) (x1 x2 : Int32) : OP8 (REL cy) cy n ad E PT tq lq x1 x2 := by
  obtain ⟨rR, rL, rW0, rW1, rW2, rT, rG, rI, rA, rB, rC, rS, rM, rZ⟩ := rel_el H
  rcases wordC x1 with ⟨w, hw, rfl⟩ | hb
  · rcases wordC x2 with ⟨v, hv, rfl⟩ | hb
    · rcases three hw with rfl | rfl | rfl
      · rcases three hv with rfl | rfl | rfl
        · exact (Or.inl (op_of (p_compare 0 0 (by omega) (by omega) rR.1 rR.1 rW0 rW0) (fun o m h => ⟨h, H⟩)))
        · exact (Or.inr (Or.inl (op_of (p_compare 0 1 (by omega) (by omega) rR.1 rR.2.1 rW0 rW1) (fun o m h => ⟨h, H⟩))))
        · exact (Or.inr (Or.inr (Or.inl (op_of (p_compare 0 2 (by omega) (by omega) rR.1 rR.2.2.1 rW0 rW2) (fun o m h => ⟨h, H⟩)))))
      · rcases three hv with rfl | rfl | rfl
        · exact (Or.inr (Or.inr (Or.inr (Or.inl (op_of (p_compare 1 0 (by omega) (by omega) rR.2.1 rR.1 rW1 rW0) (fun o m h => ⟨h, H⟩))))))
        · exact (Or.inr (Or.inr (Or.inr (Or.inr (Or.inl (op_of (p_compare 1 1 (by omega) (by omega) rR.2.1 rR.2.1 rW1 rW1) (fun o m h => ⟨h, H⟩)))))))
        · exact (Or.inr (Or.inr (Or.inr (Or.inr (Or.inr (Or.inl (op_of (p_compare 1 2 (by omega) (by omega) rR.2.1 rR.2.2.1 rW1 rW2) (fun o m h => ⟨h, H⟩))))))))
      · rcases three hv with rfl | rfl | rfl
        · exact (Or.inr (Or.inr (Or.inr (Or.inr (Or.inr (Or.inr (Or.inl (op_of (p_compare 2 0 (by omega) (by omega) rR.2.2.1 rR.1 rW2 rW0) (fun o m h => ⟨h, H⟩)))))))))
        · exact (Or.inr (Or.inr (Or.inr (Or.inr (Or.inr (Or.inr (Or.inr (Or.inl (op_of (p_compare 2 1 (by omega) (by omega) rR.2.2.1 rR.2.1 rW2 rW1) (fun o m h => ⟨h, H⟩))))))))))
        · exact (Or.inr (Or.inr (Or.inr (Or.inr (Or.inr (Or.inr (Or.inr (Or.inr (op_of (p_compare 2 2 (by omega) (by omega) rR.2.2.1 rR.2.2.1 rW2 rW2) (fun o m h => ⟨h, H⟩))))))))))
    · exact Or.inl (op_e (n_compare2 hw hb) ⟨rfl, H⟩)
  · exact Or.inl (op_e (n_compare1 hb) ⟨rfl, H⟩)
