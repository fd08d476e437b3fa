set_option linter.unusedVariables false
/-! the law's words OP21, OP33, OP34, OP35, OP40 -/
theorem op3_of {α β : Type} {a1 a2 a3 : Prop} {f : Option α} {g : Option β} {Q R : α → β → Prop} (c1 : a1) (c2 : a2) (c3 : a3) (h : W2 f g Q) (k : ∀ o m, Q o m → R o m) : ∃ (o : α) (m : β), a1 ∧ a2 ∧ a3 ∧ f = some o ∧ g = some m ∧ R o m := by
  obtain ⟨o, m, e1, e2, h⟩ := h
  exact ⟨o, m, c1, c2, c3, e1, e2, k o m h⟩
theorem op6_of {α β : Type} {a1 a2 a3 a4 a5 a6 : Prop} {f : Option α} {g : Option β} {Q R : α → β → Prop} (c1 : a1) (c2 : a2) (c3 : a3) (c4 : a4) (c5 : a5) (c6 : a6) (h : W2 f g Q) (k : ∀ o m, Q o m → R o m) : ∃ (o : α) (m : β), a1 ∧ a2 ∧ a3 ∧ a4 ∧ a5 ∧ a6 ∧ f = some o ∧ g = some m ∧ R o m := by
  obtain ⟨o, m, e1, e2, h⟩ := h
  exact ⟨o, m, c1, c2, c3, c4, c5, c6, e1, e2, k o m h⟩
theorem op21 {cy : Nat → ClassId} {n : Nat} {ad : Nat → Nat} {E : Nat → va_E} {PT : va_W} {tq : Nat → Option TV} {lq : Nat → Bool} (H : REL cy n ad E PT tq lq) (x1 : Int32) : OP21 (REL cy) cy n ad E PT tq lq x1 := by
  obtain ⟨rR, rL, rW0, rW1, rW2, rT, rG, rI, rA, rB, rC, rS, rM, rZ⟩ := rel_el H
  exact op2_of (p_states rL rT) (fun o m h => ⟨h, (rel_mk rR rL rW0 rW1 rW2 rT rG rI rA rB rC rS rM rZ)⟩)
theorem op33 {cy : Nat → ClassId} {n : Nat} {ad : Nat → Nat} {E : Nat → va_E} {PT : va_W} {tq : Nat → Option TV} {lq : Nat → Bool} (H : REL cy n ad E PT tq lq) (x1 : Int32) (x2 : Int32) : OP33 (REL cy) cy n ad E PT tq lq x1 x2 := by
  obtain ⟨rR, rL, rW0, rW1, rW2, rT, rG, rI, rA, rB, rC, rS, rM, rZ⟩ := rel_el H
  rcases langC x1 with ⟨l, hl, rfl⟩ | hb
  · rcases btw_T (x := x2) (T := 21) (by omega) with ⟨j, hj, rfl, _⟩ | ⟨_, e⟩
    · rcases lang_form (rG l hl) with ⟨r1, r2, r3, r4⟩ | ⟨q, d, f, m, tab, ts, vs, r1, r2, r3, r4, c1, c2, c3, r5, r6, r7, r8, r9, P, hb⟩
      · exact Or.inl (op2_of (n_cw (Or.inr ⟨l, hl, rfl, Or.inr ⟨r1, r3⟩⟩)) (fun o m h => ⟨h, (rel_mk rR rL rW0 rW1 rW2 rT rG rI rA rB rC rS rM rZ)⟩))
      · exact Or.inr ⟨q, d, nI f, nI m, tab, m, m, ts, vs, op3_of c1 c2 c3 (p_cw rL hl (by omega) r1 r2 r8 r9 r7 P hb) (fun o m h => ⟨h, (rel_mk rR rL rW0 rW1 rW2 rT rG rI rA rB rC rS rM rZ)⟩)⟩
    · exact Or.inl (op2_of (n_cw (Or.inr ⟨l, hl, rfl, Or.inl e⟩)) (fun o m h => ⟨h, (rel_mk rR rL rW0 rW1 rW2 rT rG rI rA rB rC rS rM rZ)⟩))
  · exact Or.inl (op2_of (n_cw (Or.inl hb)) (fun o m h => ⟨h, (rel_mk rR rL rW0 rW1 rW2 rT rG rI rA rB rC rS rM rZ)⟩))
theorem op34 {cy : Nat → ClassId} {n : Nat} {ad : Nat → Nat} {E : Nat → va_E} {PT : va_W} {tq : Nat → Option TV} {lq : Nat → Bool} (H : REL cy n ad E PT tq lq) (x1 : Int32) (x2 : Int32) : OP34 (REL cy) cy n ad E PT tq lq x1 x2 := by
  obtain ⟨rR, rL, rW0, rW1, rW2, rT, rG, rI, rA, rB, rC, rS, rM, rZ⟩ := rel_el H
  rcases langC x1 with ⟨l, hl, rfl⟩ | hb
  · rcases wordC x2 with ⟨w, hw, rfl⟩ | hb
    · rcases lang_form (rG l hl) with ⟨r1, r2, r3, r4⟩ | ⟨q, d, f, m, tab, ts, vs, r1, r2, r3, r4, c1, c2, c3, r5, r6, r7, r8, r9, P, hb⟩
      · exact Or.inl (op2_of (n_fw (Or.inr ⟨l, hl, rfl, Or.inr ⟨w, hw, rfl, r1, r3⟩⟩)) (fun o m h => ⟨h.1, (rel_mk rR rL (WordR_fr rW0 (congrFun h.2.1 _) (fun i hi => congrFun h.2.2 _)) (WordR_fr rW1 (congrFun h.2.1 _) (fun i hi => congrFun h.2.2 _)) (WordR_fr rW2 (congrFun h.2.1 _) (fun i hi => congrFun h.2.2 _)) rT rG rI rA rB rC rS rM rZ)⟩))
      · rcases three hw with rfl | rfl | rfl
        · exact (Or.inr (Or.inl ⟨q, d, nI f, nI m, tab, m, m, ts, vs, op3_of c1 c2 c3 (p_fw (w := 0) rL (by omega) rR.1 rW0 hl r1 r2 r8 r9 r7 P hb) (fun o m h => ⟨h.1, (rel_mk rR rL h.2.1 (WordR_fr rW1 (h.2.2.1 1 (by omega)) (fun i hi => h.2.2.2 _ (by omega))) (WordR_fr rW2 (h.2.2.1 2 (by omega)) (fun i hi => h.2.2.2 _ (by omega))) rT rG rI rA rB rC rS rM rZ)⟩)⟩))
        · exact (Or.inr (Or.inr (Or.inl ⟨q, d, nI f, nI m, tab, m, m, ts, vs, op3_of c1 c2 c3 (p_fw (w := 1) rL (by omega) rR.2.1 rW1 hl r1 r2 r8 r9 r7 P hb) (fun o m h => ⟨h.1, (rel_mk rR rL (WordR_fr rW0 (h.2.2.1 0 (by omega)) (fun i hi => h.2.2.2 _ (by omega))) h.2.1 (WordR_fr rW2 (h.2.2.1 2 (by omega)) (fun i hi => h.2.2.2 _ (by omega))) rT rG rI rA rB rC rS rM rZ)⟩)⟩)))
        · exact (Or.inr (Or.inr (Or.inr ⟨q, d, nI f, nI m, tab, m, m, ts, vs, op3_of c1 c2 c3 (p_fw (w := 2) rL (by omega) rR.2.2.1 rW2 hl r1 r2 r8 r9 r7 P hb) (fun o m h => ⟨h.1, (rel_mk rR rL (WordR_fr rW0 (h.2.2.1 0 (by omega)) (fun i hi => h.2.2.2 _ (by omega))) (WordR_fr rW1 (h.2.2.1 1 (by omega)) (fun i hi => h.2.2.2 _ (by omega))) h.2.1 rT rG rI rA rB rC rS rM rZ)⟩)⟩)))
    · exact Or.inl (op2_of (n_fw (Or.inr ⟨l, hl, rfl, Or.inl hb⟩)) (fun o m h => ⟨h.1, (rel_mk rR rL (WordR_fr rW0 (congrFun h.2.1 _) (fun i hi => congrFun h.2.2 _)) (WordR_fr rW1 (congrFun h.2.1 _) (fun i hi => congrFun h.2.2 _)) (WordR_fr rW2 (congrFun h.2.1 _) (fun i hi => congrFun h.2.2 _)) rT rG rI rA rB rC rS rM rZ)⟩))
  · exact Or.inl (op2_of (n_fw (Or.inl hb)) (fun o m h => ⟨h.1, (rel_mk rR rL (WordR_fr rW0 (congrFun h.2.1 _) (fun i hi => congrFun h.2.2 _)) (WordR_fr rW1 (congrFun h.2.1 _) (fun i hi => congrFun h.2.2 _)) (WordR_fr rW2 (congrFun h.2.1 _) (fun i hi => congrFun h.2.2 _)) rT rG rI rA rB rC rS rM rZ)⟩))
theorem op35 {cy : Nat → ClassId} {n : Nat} {ad : Nat → Nat} {E : Nat → va_E} {PT : va_W} {tq : Nat → Option TV} {lq : Nat → Bool} (H : REL cy n ad E PT tq lq) (x1 : Int32) (x2 : Int32) (x3 : Int32) : OP35 (REL cy) cy n ad E PT tq lq x1 x2 x3 := by
  obtain ⟨rR, rL, rW0, rW1, rW2, rT, rG, rI, rA, rB, rC, rS, rM, rZ⟩ := rel_el H
  rcases langC x1 with ⟨l, hl, rfl⟩ | hb
  · rcases langC x2 with ⟨l2, hl2, rfl⟩ | hb
    · rcases wordC x3 with ⟨w, hw, rfl⟩ | hb
      · rcases lang_form (rG l hl) with ⟨r1, r2, r3, r4⟩ | ⟨q, d, f, m, tab, ts, vs, r1, r2, r3, r4, c1, c2, c3, r5, r6, r7, r8, r9, P, hb⟩
        · exact Or.inl (op2_of (n_fd (Or.inr ⟨l, hl, rfl, Or.inr ⟨l2, hl2, rfl, Or.inr ⟨w, hw, rfl, Or.inl ⟨r1, r4⟩⟩⟩⟩)) (fun o m h => ⟨h.1, (rel_mk rR rL (WordR_fr rW0 (congrFun h.2.1 _) (fun i hi => congrFun h.2.2 _)) (WordR_fr rW1 (congrFun h.2.1 _) (fun i hi => congrFun h.2.2 _)) (WordR_fr rW2 (congrFun h.2.1 _) (fun i hi => congrFun h.2.2 _)) rT rG rI rA rB rC rS rM rZ)⟩))
        · rcases lang_form (rG l2 hl2) with ⟨s1, s2, s3, s4⟩ | ⟨q2, d2, f2, m2, tab2, ts2, vs2, s1, s2, s3, s4, e1, e2, e3, s5, s6, s7, s8, s9, P2, hb2⟩
          · exact Or.inl (op2_of (n_fd (Or.inr ⟨l, hl, rfl, Or.inr ⟨l2, hl2, rfl, Or.inr ⟨w, hw, rfl, Or.inr ⟨⟨q, r1, r3⟩, s1, s3⟩⟩⟩⟩)) (fun o m h => ⟨h.1, (rel_mk rR rL (WordR_fr rW0 (congrFun h.2.1 _) (fun i hi => congrFun h.2.2 _)) (WordR_fr rW1 (congrFun h.2.1 _) (fun i hi => congrFun h.2.2 _)) (WordR_fr rW2 (congrFun h.2.1 _) (fun i hi => congrFun h.2.2 _)) rT rG rI rA rB rC rS rM rZ)⟩))
          · rcases three hw with rfl | rfl | rfl
            · exact (Or.inr (Or.inl ⟨q, d, nI f, nI m, tab, m, m, ts, vs, q2, d2, nI f2, nI m2, tab2, m2, m2, ts2, vs2, op6_of c1 c2 c3 e1 e2 e3 (p_fd (w := 0) rL (by omega) rR.1 rW0 hl r1 r3 r8 r9 r7 P hb hl2 s1 s2 s8 s9 s7 P2 hb2) (fun o m h => ⟨h.1, (rel_mk rR rL h.2.1 (WordR_fr rW1 (h.2.2.1 1 (by omega)) (fun i hi => h.2.2.2 _ (by omega))) (WordR_fr rW2 (h.2.2.1 2 (by omega)) (fun i hi => h.2.2.2 _ (by omega))) rT rG rI rA rB rC rS rM rZ)⟩)⟩))
            · exact (Or.inr (Or.inr (Or.inl ⟨q, d, nI f, nI m, tab, m, m, ts, vs, q2, d2, nI f2, nI m2, tab2, m2, m2, ts2, vs2, op6_of c1 c2 c3 e1 e2 e3 (p_fd (w := 1) rL (by omega) rR.2.1 rW1 hl r1 r3 r8 r9 r7 P hb hl2 s1 s2 s8 s9 s7 P2 hb2) (fun o m h => ⟨h.1, (rel_mk rR rL (WordR_fr rW0 (h.2.2.1 0 (by omega)) (fun i hi => h.2.2.2 _ (by omega))) h.2.1 (WordR_fr rW2 (h.2.2.1 2 (by omega)) (fun i hi => h.2.2.2 _ (by omega))) rT rG rI rA rB rC rS rM rZ)⟩)⟩)))
            · exact (Or.inr (Or.inr (Or.inr ⟨q, d, nI f, nI m, tab, m, m, ts, vs, q2, d2, nI f2, nI m2, tab2, m2, m2, ts2, vs2, op6_of c1 c2 c3 e1 e2 e3 (p_fd (w := 2) rL (by omega) rR.2.2.1 rW2 hl r1 r3 r8 r9 r7 P hb hl2 s1 s2 s8 s9 s7 P2 hb2) (fun o m h => ⟨h.1, (rel_mk rR rL (WordR_fr rW0 (h.2.2.1 0 (by omega)) (fun i hi => h.2.2.2 _ (by omega))) (WordR_fr rW1 (h.2.2.1 1 (by omega)) (fun i hi => h.2.2.2 _ (by omega))) h.2.1 rT rG rI rA rB rC rS rM rZ)⟩)⟩)))
      · exact Or.inl (op2_of (n_fd (Or.inr ⟨l, hl, rfl, Or.inr ⟨l2, hl2, rfl, Or.inl hb⟩⟩)) (fun o m h => ⟨h.1, (rel_mk rR rL (WordR_fr rW0 (congrFun h.2.1 _) (fun i hi => congrFun h.2.2 _)) (WordR_fr rW1 (congrFun h.2.1 _) (fun i hi => congrFun h.2.2 _)) (WordR_fr rW2 (congrFun h.2.1 _) (fun i hi => congrFun h.2.2 _)) rT rG rI rA rB rC rS rM rZ)⟩))
    · exact Or.inl (op2_of (n_fd (Or.inr ⟨l, hl, rfl, Or.inl hb⟩)) (fun o m h => ⟨h.1, (rel_mk rR rL (WordR_fr rW0 (congrFun h.2.1 _) (fun i hi => congrFun h.2.2 _)) (WordR_fr rW1 (congrFun h.2.1 _) (fun i hi => congrFun h.2.2 _)) (WordR_fr rW2 (congrFun h.2.1 _) (fun i hi => congrFun h.2.2 _)) rT rG rI rA rB rC rS rM rZ)⟩))
  · exact Or.inl (op2_of (n_fd (Or.inl hb)) (fun o m h => ⟨h.1, (rel_mk rR rL (WordR_fr rW0 (congrFun h.2.1 _) (fun i hi => congrFun h.2.2 _)) (WordR_fr rW1 (congrFun h.2.1 _) (fun i hi => congrFun h.2.2 _)) (WordR_fr rW2 (congrFun h.2.1 _) (fun i hi => congrFun h.2.2 _)) rT rG rI rA rB rC rS rM rZ)⟩))
theorem op40 {cy : Nat → ClassId} {n : Nat} {ad : Nat → Nat} {E : Nat → va_E} {PT : va_W} {tq : Nat → Option TV} {lq : Nat → Bool} (H : REL cy n ad E PT tq lq) (x1 : Int32) (x2 : Int32) : OP40 (REL cy) cy n ad E PT tq lq x1 x2 := by
  obtain ⟨rR, rL, rW0, rW1, rW2, rT, rG, rI, rA, rB, rC, rS, rM, rZ⟩ := rel_el H
  rcases rowC x1 with ⟨w, hw, rfl⟩ | hb
  · rcases langC x2 with ⟨l, hl, rfl⟩ | hb
    · rcases lang_form (rG l hl) with ⟨r1, r2, r3, r4⟩ | ⟨q, d, f, m, tab, ts, vs, r1, r2, r3, r4, c1, c2, c3, r5, r6, r7, r8, r9, P, hb⟩
      · exact Or.inl (op2_of (n_fc (Or.inr ⟨w, hw, rfl, Or.inr ⟨l, hl, rfl, r1, r3⟩⟩)) (fun o m h => ⟨h.1, (rel_mk rR rL rW0 rW1 rW2 rT rG rI (RowR_fr rA ⟨rfl, rfl⟩ (fun i hi => congrFun h.2 _)) (RowR_fr rB ⟨rfl, rfl⟩ (fun i hi => congrFun h.2 _)) (RowR_fr rC ⟨rfl, rfl⟩ (fun i hi => congrFun h.2 _)) rS rM rZ)⟩))
      · rcases three hw with rfl | rfl | rfl
        · exact (Or.inr (Or.inr (Or.inr (Or.inl ⟨q, d, nI f, nI m, tab, m, m, ts, vs, op3_of c1 c2 c3 (p_fc (w := 0) rL (by omega) rR.2.2.2.2.2.2.1 rA hl r1 r2 r8 r9 r7 P hb) (fun o m h => ⟨h.1, (rel_mk rR rL rW0 rW1 rW2 rT rG rI (RowR_set rA h.2.1) (RowR_fr rB ⟨rfl, rfl⟩ (fun i hi => h.2.2 _ (by omega))) (RowR_fr rC ⟨rfl, rfl⟩ (fun i hi => h.2.2 _ (by omega))) rS rM rZ)⟩)⟩))))
        · exact (Or.inr (Or.inr (Or.inr (Or.inr (Or.inl ⟨q, d, nI f, nI m, tab, m, m, ts, vs, op3_of c1 c2 c3 (p_fc (w := 1) rL (by omega) rR.2.2.2.2.2.2.2.1 rB hl r1 r2 r8 r9 r7 P hb) (fun o m h => ⟨h.1, (rel_mk rR rL rW0 rW1 rW2 rT rG rI (RowR_fr rA ⟨rfl, rfl⟩ (fun i hi => h.2.2 _ (by omega))) (RowR_set rB h.2.1) (RowR_fr rC ⟨rfl, rfl⟩ (fun i hi => h.2.2 _ (by omega))) rS rM rZ)⟩)⟩)))))
        · exact (Or.inr (Or.inr (Or.inr (Or.inr (Or.inr ⟨q, d, nI f, nI m, tab, m, m, ts, vs, op3_of c1 c2 c3 (p_fc (w := 2) rL (by omega) rR.2.2.2.2.2.2.2.2 rC hl r1 r2 r8 r9 r7 P hb) (fun o m h => ⟨h.1, (rel_mk rR rL rW0 rW1 rW2 rT rG rI (RowR_fr rA ⟨rfl, rfl⟩ (fun i hi => h.2.2 _ (by omega))) (RowR_fr rB ⟨rfl, rfl⟩ (fun i hi => h.2.2 _ (by omega))) (RowR_set rC h.2.1) rS rM rZ)⟩)⟩)))))
    · exact Or.inl (op2_of (n_fc (Or.inr ⟨w, hw, rfl, Or.inl hb⟩)) (fun o m h => ⟨h.1, (rel_mk rR rL rW0 rW1 rW2 rT rG rI (RowR_fr rA ⟨rfl, rfl⟩ (fun i hi => congrFun h.2 _)) (RowR_fr rB ⟨rfl, rfl⟩ (fun i hi => congrFun h.2 _)) (RowR_fr rC ⟨rfl, rfl⟩ (fun i hi => congrFun h.2 _)) rS rM rZ)⟩))
  · exact Or.inl (op2_of (n_fc (Or.inl hb)) (fun o m h => ⟨h.1, (rel_mk rR rL rW0 rW1 rW2 rT rG rI (RowR_fr rA ⟨rfl, rfl⟩ (fun i hi => congrFun h.2 _)) (RowR_fr rB ⟨rfl, rfl⟩ (fun i hi => congrFun h.2 _)) (RowR_fr rC ⟨rfl, rfl⟩ (fun i hi => congrFun h.2 _)) rS rM rZ)⟩))
