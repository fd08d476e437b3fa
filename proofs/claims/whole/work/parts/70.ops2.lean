set_option linter.unusedVariables false
/-! the law's words OP9 to OP20, OP36 to OP39 -/
theorem op2_of {α β : Type} {f : Option α} {g : Option β} {Q R : α → β → Prop} (h : W2 f g Q) (k : ∀ o m, Q o m → R o m) : ∃ (o : α) (m : β), f = some o ∧ g = some m ∧ R o m := w2_mono h k
theorem RowR_set {ty sz ty' rl : Int32} {f g it it2 : Nat → Int32} {o : Nat} (h : RowR ty sz f ty' rl it o) (h2 : ∀ i, i < 21 → g i = it2 (o + i)) : RowR ty sz g ty' rl it2 o := ⟨h.1, h.2.1, h.2.2.1, h2⟩
theorem TestR_mono {tq tq1 : Nat → Option TV} {r : Option Nat} {kd bd ln : Int32} {pt : Nat → Int32} (hq : ∀ a v, tq a = some v → tq1 a = some v) (h : TestR tq r kd bd ln pt) : TestR tq1 r kd bd ln pt := by
  obtain ⟨a, v, k, b, l, h1, h2, h3⟩ := h
  exact ⟨a, v, k, b, l, h1, hq a v h2, h3⟩
theorem MemOK_mono {tq tq1 : Nat → Option TV} {mb : Nat → Option Nat} (hq : ∀ a v, tq a = some v → tq1 a = some v) (h : MemOK tq mb) : MemOK tq1 mb := by
  intro j hj a ha
  obtain ⟨v, hv⟩ := Option.isSome_iff_exists.mp (h j hj a ha)
  rw [hq a v hv]
  rfl
theorem TestsR_mono {tq tq1 : Nat → Option TV} {cnt ts : Int32} {mb : Nat → Option Nat} {kd bd ln pt : Nat → Int32} (hq : ∀ a v, tq a = some v → tq1 a = some v) (h : TestsR tq cnt mb ts kd bd ln pt) : TestsR tq1 cnt mb ts kd bd ln pt := by
  obtain ⟨⟨T, h1, h2, h3, h4⟩, h5⟩ := h
  exact ⟨⟨T, h1, h2, h3, fun t ht => TestR_mono hq (h4 t ht)⟩, MemOK_mono hq h5⟩
theorem LangR_mono {cy : Nat → ClassId} {PT PT1 : va_W} {tq tq1 : Nat → Option TV} {lq lq1 : Nat → Bool} {r : Option Nat} {form parts truth : Int32} {pk pb pl pv pp : Nat → Int32} (hm : ∀ q, q ∈ PT → q ∈ PT1) (hq : ∀ a v, tq a = some v → tq1 a = some v) (hl : ∀ a, lq a = true → lq1 a = true) (h : LangR cy PT tq lq r form parts truth pk pb pl pv pp) : LangR cy PT1 tq1 lq1 r form parts truth pk pb pl pv pp := by
  rcases h with h | ⟨q, d, f, m, tab, ts, vs, h1, h2, h3, h4, h5, h6, h7, h8, h9, h10, h11, h12⟩
  · exact Or.inl h
  · exact Or.inr ⟨q, d, f, m, tab, ts, vs, h1, hl _ h2, hm _ h3, hm _ h4, hm _ h5, h6, h7, h8, h9, h10, fun i hi => ⟨TestR_mono hq (h11 i hi).1, (h11 i hi).2⟩, h12⟩
theorem LangsR_mono {cy : Nat → ClassId} {PT PT1 : va_W} {tq tq1 : Nat → Option TV} {lq lq1 : Nat → Bool} {lg : Nat → Option Nat} {form parts truth pk pb pl pv pp : Nat → Int32} (hm : ∀ q, q ∈ PT → q ∈ PT1) (hq : ∀ a v, tq a = some v → tq1 a = some v) (hl : ∀ a, lq a = true → lq1 a = true) (h : LangsR cy PT tq lq lg form parts truth pk pb pl pv pp) : LangsR cy PT1 tq1 lq1 lg form parts truth pk pb pl pv pp := fun l hl4 => LangR_mono hm hq hl (h l hl4)
theorem SnapR_mono {cy : Nat → ClassId} {PT PT1 : va_W} {tq tq1 : Nat → Option TV} {lq lq1 : Nat → Bool} {tk hs le s0 s1 s2 : Int32} {l0 l1 l2 : Nat → Int32} {cnt : Int32} {mb lg : Nat → Option Nat} {sv : Nat → Int32} (hm : ∀ q, q ∈ PT → q ∈ PT1) (hq : ∀ a v, tq a = some v → tq1 a = some v) (hl : ∀ a, lq a = true → lq1 a = true) (h : SnapR cy PT tq lq tk hs le s0 s1 s2 l0 l1 l2 cnt mb lg sv) : SnapR cy PT1 tq1 lq1 tk hs le s0 s1 s2 l0 l1 l2 cnt mb lg sv := by
  rcases h with h | ⟨h1, h2, h3, h4, h5, h6, h7, h8⟩
  · exact Or.inl h
  · exact Or.inr ⟨h1, h2, h3, h4, h5, h6, TestsR_mono hq h7, LangsR_mono hm hq hl h8⟩
theorem op9 {cy : Nat → ClassId} {n : Nat} {ad : Nat → Nat} {E : Nat → va_E} {PT : va_W} {tq : Nat → Option TV} {lq : Nat → Bool} (H : REL cy n ad E PT tq lq) (x1 : Int32) (x2 : Int32) : OP9 (REL cy) cy n ad E PT tq lq x1 x2 := by
  obtain ⟨rR, rL, rW0, rW1, rW2, rT, rG, rI, rA, rB, rC, rS, rM, rZ⟩ := rel_el H
  rcases wordC x1 with ⟨w, hw, rfl⟩ | hb
  · rcases wordC x2 with ⟨v, hv, rfl⟩ | hb
    · rcases three hw with rfl | rfl | rfl
      · rcases three hv with rfl | rfl | rfl
        · exact (Or.inl (op2_of (p_occurrences 0 0 (by omega) (by omega) rR.1 rR.1 rW0 rW0) (fun o m h => ⟨h, (rel_mk rR rL rW0 rW1 rW2 rT rG rI rA rB rC rS rM rZ)⟩)))
        · exact (Or.inr (Or.inl (op2_of (p_occurrences 0 1 (by omega) (by omega) rR.1 rR.2.1 rW0 rW1) (fun o m h => ⟨h, (rel_mk rR rL rW0 rW1 rW2 rT rG rI rA rB rC rS rM rZ)⟩))))
        · exact (Or.inr (Or.inr (Or.inl (op2_of (p_occurrences 0 2 (by omega) (by omega) rR.1 rR.2.2.1 rW0 rW2) (fun o m h => ⟨h, (rel_mk rR rL rW0 rW1 rW2 rT rG rI rA rB rC rS rM rZ)⟩)))))
      · rcases three hv with rfl | rfl | rfl
        · exact (Or.inr (Or.inr (Or.inr (Or.inl (op2_of (p_occurrences 1 0 (by omega) (by omega) rR.2.1 rR.1 rW1 rW0) (fun o m h => ⟨h, (rel_mk rR rL rW0 rW1 rW2 rT rG rI rA rB rC rS rM rZ)⟩))))))
        · exact (Or.inr (Or.inr (Or.inr (Or.inr (Or.inl (op2_of (p_occurrences 1 1 (by omega) (by omega) rR.2.1 rR.2.1 rW1 rW1) (fun o m h => ⟨h, (rel_mk rR rL rW0 rW1 rW2 rT rG rI rA rB rC rS rM rZ)⟩)))))))
        · exact (Or.inr (Or.inr (Or.inr (Or.inr (Or.inr (Or.inl (op2_of (p_occurrences 1 2 (by omega) (by omega) rR.2.1 rR.2.2.1 rW1 rW2) (fun o m h => ⟨h, (rel_mk rR rL rW0 rW1 rW2 rT rG rI rA rB rC rS rM rZ)⟩))))))))
      · rcases three hv with rfl | rfl | rfl
        · exact (Or.inr (Or.inr (Or.inr (Or.inr (Or.inr (Or.inr (Or.inl (op2_of (p_occurrences 2 0 (by omega) (by omega) rR.2.2.1 rR.1 rW2 rW0) (fun o m h => ⟨h, (rel_mk rR rL rW0 rW1 rW2 rT rG rI rA rB rC rS rM rZ)⟩)))))))))
        · exact (Or.inr (Or.inr (Or.inr (Or.inr (Or.inr (Or.inr (Or.inr (Or.inl (op2_of (p_occurrences 2 1 (by omega) (by omega) rR.2.2.1 rR.2.1 rW2 rW1) (fun o m h => ⟨h, (rel_mk rR rL rW0 rW1 rW2 rT rG rI rA rB rC rS rM rZ)⟩))))))))))
        · exact (Or.inr (Or.inr (Or.inr (Or.inr (Or.inr (Or.inr (Or.inr (Or.inr (op2_of (p_occurrences 2 2 (by omega) (by omega) rR.2.2.1 rR.2.2.1 rW2 rW2) (fun o m h => ⟨h, (rel_mk rR rL rW0 rW1 rW2 rT rG rI rA rB rC rS rM rZ)⟩))))))))))
    · exact Or.inl (op_e (n_occ2 hw hb) ⟨rfl, (rel_mk rR rL rW0 rW1 rW2 rT rG rI rA rB rC rS rM rZ)⟩)
  · exact Or.inl (op_e (n_occ1 hb) ⟨rfl, (rel_mk rR rL rW0 rW1 rW2 rT rG rI rA rB rC rS rM rZ)⟩)
theorem op10 {cy : Nat → ClassId} {n : Nat} {ad : Nat → Nat} {E : Nat → va_E} {PT : va_W} {tq : Nat → Option TV} {lq : Nat → Bool} (H : REL cy n ad E PT tq lq) (x1 : Int32) (x2 : Int32) : OP10 (REL cy) cy n ad E PT tq lq x1 x2 := by
  obtain ⟨rR, rL, rW0, rW1, rW2, rT, rG, rI, rA, rB, rC, rS, rM, rZ⟩ := rel_el H
  rcases wordC x1 with ⟨w, hw, rfl⟩ | hb
  · rcases wordC x2 with ⟨v, hv, rfl⟩ | hb
    · by_cases hwv : w = v
      · subst hwv
        exact Or.inl (op_e (n_sep3 hw) ⟨rfl, (rel_mk rR rL rW0 rW1 rW2 rT rG rI rA rB rC rS rM rZ)⟩)
      · rcases three hw with rfl | rfl | rfl
        · rcases three hv with rfl | rfl | rfl
          · exact absurd rfl hwv
          · exact (Or.inr (Or.inr (Or.inr (Or.inr (Or.inr (Or.inr (Or.inr (Or.inr (Or.inr (Or.inl (op2_of (p_separate 0 1 2 (by omega) (by omega) (by omega) (by omega) (by omega) (by omega) rR.1 rR.2.1 rR.2.2.1 rL rW0 rW1 rW2) (fun o m h => ⟨h.1, (rel_mk rR rL (WordR_fr rW0 (h.2.2.1 0 (by omega)) (fun i hi => h.2.2.2 _ (by omega))) (WordR_fr rW1 (h.2.2.1 1 (by omega)) (fun i hi => h.2.2.2 _ (by omega))) h.2.1 rT rG rI rA rB rC rS rM rZ)⟩))))))))))))
          · exact (Or.inr (Or.inr (Or.inr (Or.inr (Or.inr (Or.inl (op2_of (p_separate 0 2 1 (by omega) (by omega) (by omega) (by omega) (by omega) (by omega) rR.1 rR.2.2.1 rR.2.1 rL rW0 rW2 rW1) (fun o m h => ⟨h.1, (rel_mk rR rL (WordR_fr rW0 (h.2.2.1 0 (by omega)) (fun i hi => h.2.2.2 _ (by omega))) h.2.1 (WordR_fr rW2 (h.2.2.1 2 (by omega)) (fun i hi => h.2.2.2 _ (by omega))) rT rG rI rA rB rC rS rM rZ)⟩))))))))
        · rcases three hv with rfl | rfl | rfl
          · exact (Or.inr (Or.inr (Or.inr (Or.inr (Or.inr (Or.inr (Or.inr (Or.inr (Or.inr (Or.inr (Or.inl (op2_of (p_separate 1 0 2 (by omega) (by omega) (by omega) (by omega) (by omega) (by omega) rR.2.1 rR.1 rR.2.2.1 rL rW1 rW0 rW2) (fun o m h => ⟨h.1, (rel_mk rR rL (WordR_fr rW0 (h.2.2.1 0 (by omega)) (fun i hi => h.2.2.2 _ (by omega))) (WordR_fr rW1 (h.2.2.1 1 (by omega)) (fun i hi => h.2.2.2 _ (by omega))) h.2.1 rT rG rI rA rB rC rS rM rZ)⟩)))))))))))))
          · exact absurd rfl hwv
          · exact (Or.inr (Or.inl (op2_of (p_separate 1 2 0 (by omega) (by omega) (by omega) (by omega) (by omega) (by omega) rR.2.1 rR.2.2.1 rR.1 rL rW1 rW2 rW0) (fun o m h => ⟨h.1, (rel_mk rR rL h.2.1 (WordR_fr rW1 (h.2.2.1 1 (by omega)) (fun i hi => h.2.2.2 _ (by omega))) (WordR_fr rW2 (h.2.2.1 2 (by omega)) (fun i hi => h.2.2.2 _ (by omega))) rT rG rI rA rB rC rS rM rZ)⟩))))
        · rcases three hv with rfl | rfl | rfl
          · exact (Or.inr (Or.inr (Or.inr (Or.inr (Or.inr (Or.inr (Or.inl (op2_of (p_separate 2 0 1 (by omega) (by omega) (by omega) (by omega) (by omega) (by omega) rR.2.2.1 rR.1 rR.2.1 rL rW2 rW0 rW1) (fun o m h => ⟨h.1, (rel_mk rR rL (WordR_fr rW0 (h.2.2.1 0 (by omega)) (fun i hi => h.2.2.2 _ (by omega))) h.2.1 (WordR_fr rW2 (h.2.2.1 2 (by omega)) (fun i hi => h.2.2.2 _ (by omega))) rT rG rI rA rB rC rS rM rZ)⟩)))))))))
          · exact (Or.inr (Or.inr (Or.inl (op2_of (p_separate 2 1 0 (by omega) (by omega) (by omega) (by omega) (by omega) (by omega) rR.2.2.1 rR.2.1 rR.1 rL rW2 rW1 rW0) (fun o m h => ⟨h.1, (rel_mk rR rL h.2.1 (WordR_fr rW1 (h.2.2.1 1 (by omega)) (fun i hi => h.2.2.2 _ (by omega))) (WordR_fr rW2 (h.2.2.1 2 (by omega)) (fun i hi => h.2.2.2 _ (by omega))) rT rG rI rA rB rC rS rM rZ)⟩)))))
          · exact absurd rfl hwv
    · exact Or.inl (op_e (n_sep2 hw hb) ⟨rfl, (rel_mk rR rL rW0 rW1 rW2 rT rG rI rA rB rC rS rM rZ)⟩)
  · exact Or.inl (op_e (n_sep1 hb) ⟨rfl, (rel_mk rR rL rW0 rW1 rW2 rT rG rI rA rB rC rS rM rZ)⟩)
theorem op11 {cy : Nat → ClassId} {n : Nat} {ad : Nat → Nat} {E : Nat → va_E} {PT : va_W} {tq : Nat → Option TV} {lq : Nat → Bool} (H : REL cy n ad E PT tq lq) (x1 : Int32) : OP11 (REL cy) cy n ad E PT tq lq x1 := by
  obtain ⟨rR, rL, rW0, rW1, rW2, rT, rG, rI, rA, rB, rC, rS, rM, rZ⟩ := rel_el H
  exact op2_of (p_feed (x1 := x1) rI) (fun o m h => ⟨h.1, (rel_mk rR rL rW0 rW1 rW2 rT rG h.2 rA rB rC rS rM rZ)⟩)
theorem op12 {cy : Nat → ClassId} {n : Nat} {ad : Nat → Nat} {E : Nat → va_E} {PT : va_W} {tq : Nat → Option TV} {lq : Nat → Bool} (H : REL cy n ad E PT tq lq) (hTP : TP cy PT tq) (hLQ : LQ PT lq) : OP12 (REL cy) cy n ad E PT tq lq  := by
  obtain ⟨rR, rL, rW0, rW1, rW2, rT, rG, rI, rA, rB, rC, rS, rM, rZ⟩ := rel_el H
  refine op2_of (p_addTest (at_ := gS (E 0) 12) rI rL rT) (fun o m h => ⟨h.1, fun u hu => ?_⟩)
  obtain ⟨_, hI, h⟩ := h
  rcases h with ⟨e1, e2, e3, e4⟩ | ⟨x, T, k, b, l, e1, e2, e3, e4, e5, e6, e7, e8, e9, e10, e11, e12⟩
  · rw [e1]
    refine ⟨tq, lq, ?_, ?_, ?_⟩
    · show TP cy (PT ++ []) tq
      rw [List.append_nil]
      exact hTP
    · show LQ (PT ++ []) lq
      rw [List.append_nil]
      exact hLQ
    · show REL cy n ad _ (PT ++ []) tq lq
      rw [List.append_nil]
      refine (rel_mk rR rL rW0 rW1 rW2 ?_ rG hI rA rB rC rS rM rZ)
      show TestsR tq o.2.2.1 (o.2.2.2.1 u) m.2.1 m.2.2.2.2.1 m.2.2.2.2.2.1 m.2.2.2.2.2.2.1 m.2.2.2.2.2.2.2
      rw [e2, e3]
      exact e4
  · rw [e1] at hu ⊢
    obtain ⟨L, hL⟩ : ∃ L : va_W, L = nc_X11_addTest cy (ad 52) (dd ad 52) (dd ad 53) (dd ad 64) (gV (E 52) 10) u (some x) := ⟨_, rfl⟩
    have hq : ∀ a v, tq a = some v → (fun a => if a = u 0 then some ((x.1, x.2.1, x.2.2.1, x.2.2.2.1, u 1, x.2.2.2.2.1, x.2.2.2.2.2) : TV) else tq a) a = some v := by
      intro a v ha
      have h1 := (hTP a v ha).1
      show (if a = u 0 then _ else tq a) = some v
      rw [if_neg (fun e => hu _ h1 (u 0, ob 7 [.int x.1, .int x.2.1, .int x.2.2.1, .int x.2.2.2.1, .ref (u 1)]) (List.mem_cons_self ..) e)]
      exact ha
    have hm : ∀ q, q ∈ PT → q ∈ PT ++ L := fun q hq => List.mem_append_left _ hq
    rw [← hL]
    refine ⟨fun a => if a = u 0 then some ((x.1, x.2.1, x.2.2.1, x.2.2.2.1, u 1, x.2.2.2.2.1, x.2.2.2.2.2) : TV) else tq a, lq, ?_, ?_, ?_⟩
    · intro a v ha
      by_cases c : a = u 0
      · have ha : (if a = u 0 then some ((x.1, x.2.1, x.2.2.1, x.2.2.2.1, u 1, x.2.2.2.2.1, x.2.2.2.2.2) : TV) else tq a) = some v := ha
        rw [if_pos c] at ha
        cases ha
        subst c
        rw [hL]
        exact ⟨List.mem_append_right _ (List.mem_cons_self ..), List.mem_append_right _ (List.mem_cons_of_mem _ (List.mem_cons_self ..))⟩
      · have ha : (if a = u 0 then some ((x.1, x.2.1, x.2.2.1, x.2.2.2.1, u 1, x.2.2.2.2.1, x.2.2.2.2.2) : TV) else tq a) = some v := ha
        rw [if_neg c] at ha
        exact ⟨hm _ (hTP a v ha).1, hm _ (hTP a v ha).2⟩
    · intro a ha
      obtain ⟨fs, h1⟩ := hLQ a ha
      exact ⟨fs, hm _ h1⟩
    · refine (rel_mk rR rL rW0 rW1 rW2 ?_ (LangsR_mono hm hq (fun _ h => h) rG) hI rA rB rC (SnapR_mono hm hq (fun _ h => h) rS) rM rZ)
      refine ⟨⟨T + 1, by omega, e3, e5, fun t ht => ?_⟩, fun j hj a ha => ?_⟩
      · by_cases c : t = T
        · subst c
          refine ⟨u 0, _, k, b, l, ?_, if_pos rfl, e8 (u 1) x.2.2.2.2.2, e9, e10, e11, e12⟩
          show o.2.2.2.1 u t = _
          rw [e4, upE rfl]
        · show TestR _ (o.2.2.2.1 u t) (m.2.2.2.2.1 t) (m.2.2.2.2.2.1 t) (m.2.2.2.2.2.2.1 t) (fun i => m.2.2.2.2.2.2.2 (4 * t + i))
          rw [e4, upN c]
          exact TestR_mono hq (e7 t (by omega))
      · have ha : o.2.2.2.1 u j = some a := ha
        rw [e4] at ha
        by_cases c : j = T
        · rw [upE c] at ha
          cases ha
          show (if u 0 = u 0 then some _ else tq (u 0)).isSome = true
          rw [if_pos rfl]
          rfl
        · rw [upN c] at ha
          have := e6 j hj a ha
          obtain ⟨v, hv⟩ := Option.isSome_iff_exists.mp this
          rw [hq a v hv]
          rfl
theorem op13 {cy : Nat → ClassId} {n : Nat} {ad : Nat → Nat} {E : Nat → va_E} {PT : va_W} {tq : Nat → Option TV} {lq : Nat → Bool} (H : REL cy n ad E PT tq lq) (x1 : Int32) : OP13 (REL cy) cy n ad E PT tq lq x1 := by
  obtain ⟨rR, rL, rW0, rW1, rW2, rT, rG, rI, rA, rB, rC, rS, rM, rZ⟩ := rel_el H
  exact op2_of (p_removeTest (x1 := x1) rT) (fun o m h => ⟨h.1, (rel_mk rR rL rW0 rW1 rW2 h.2 rG rI rA rB rC rS rM rZ)⟩)
theorem op14 {cy : Nat → ClassId} {n : Nat} {ad : Nat → Nat} {E : Nat → va_E} {PT : va_W} {tq : Nat → Option TV} {lq : Nat → Bool} (H : REL cy n ad E PT tq lq) : OP14 (REL cy) cy n ad E PT tq lq  := by
  obtain ⟨rR, rL, rW0, rW1, rW2, rT, rG, rI, rA, rB, rC, rS, rM, rZ⟩ := rel_el H
  exact ⟨_, _, rfl, rfl, e_testCount rT, H⟩
theorem op15 {cy : Nat → ClassId} {n : Nat} {ad : Nat → Nat} {E : Nat → va_E} {PT : va_W} {tq : Nat → Option TV} {lq : Nat → Bool} (H : REL cy n ad E PT tq lq) (x1 : Int32) (x2 : Int32) : OP15 (REL cy) cy n ad E PT tq lq x1 x2 := by
  obtain ⟨rR, rL, rW0, rW1, rW2, rT, rG, rI, rA, rB, rC, rS, rM, rZ⟩ := rel_el H
  exact op2_of (p_test (x1 := x1) (x2 := x2) rT) (fun o m h => ⟨h, H⟩)
theorem op16 {cy : Nat → ClassId} {n : Nat} {ad : Nat → Nat} {E : Nat → va_E} {PT : va_W} {tq : Nat → Option TV} {lq : Nat → Bool} (H : REL cy n ad E PT tq lq) (x1 : Int32) (x2 : Int32) : OP16 (REL cy) cy n ad E PT tq lq x1 x2 := by
  obtain ⟨rR, rL, rW0, rW1, rW2, rT, rG, rI, rA, rB, rC, rS, rM, rZ⟩ := rel_el H
  rcases wordC x2 with ⟨w, hw, rfl⟩ | hb
  · rcases three hw with rfl | rfl | rfl
    · exact (Or.inl (op2_of (p_value (x1 := x1) 0 (by omega) rR.1 rT rW0) (fun o m h => ⟨h, (rel_mk rR rL rW0 rW1 rW2 rT rG rI rA rB rC rS rM rZ)⟩)))
    · exact (Or.inr (Or.inl (op2_of (p_value (x1 := x1) 1 (by omega) rR.2.1 rT rW1) (fun o m h => ⟨h, (rel_mk rR rL rW0 rW1 rW2 rT rG rI rA rB rC rS rM rZ)⟩))))
    · exact (Or.inr (Or.inr (op2_of (p_value (x1 := x1) 2 (by omega) rR.2.2.1 rT rW2) (fun o m h => ⟨h, (rel_mk rR rL rW0 rW1 rW2 rT rG rI rA rB rC rS rM rZ)⟩))))
  · exact Or.inl (op2_of (n_value rT hb) (fun o m h => ⟨h, (rel_mk rR rL rW0 rW1 rW2 rT rG rI rA rB rC rS rM rZ)⟩))
theorem op17 {cy : Nat → ClassId} {n : Nat} {ad : Nat → Nat} {E : Nat → va_E} {PT : va_W} {tq : Nat → Option TV} {lq : Nat → Bool} (H : REL cy n ad E PT tq lq) (x1 : Int32) : OP17 (REL cy) cy n ad E PT tq lq x1 := by
  obtain ⟨rR, rL, rW0, rW1, rW2, rT, rG, rI, rA, rB, rC, rS, rM, rZ⟩ := rel_el H
  rcases wordC x1 with ⟨w, hw, rfl⟩ | hb
  · rcases three hw with rfl | rfl | rfl
    · exact (Or.inl (op2_of (p_signature 0 (by omega) rR.1 rT rW0) (fun o m h => ⟨h, (rel_mk rR rL rW0 rW1 rW2 rT rG rI rA rB rC rS rM rZ)⟩)))
    · exact (Or.inr (Or.inl (op2_of (p_signature 1 (by omega) rR.2.1 rT rW1) (fun o m h => ⟨h, (rel_mk rR rL rW0 rW1 rW2 rT rG rI rA rB rC rS rM rZ)⟩))))
    · exact (Or.inr (Or.inr (op2_of (p_signature 2 (by omega) rR.2.2.1 rT rW2) (fun o m h => ⟨h, (rel_mk rR rL rW0 rW1 rW2 rT rG rI rA rB rC rS rM rZ)⟩))))
  · exact Or.inl (op_e (n_signature hb) ⟨rfl, (rel_mk rR rL rW0 rW1 rW2 rT rG rI rA rB rC rS rM rZ)⟩)
theorem op18 {cy : Nat → ClassId} {n : Nat} {ad : Nat → Nat} {E : Nat → va_E} {PT : va_W} {tq : Nat → Option TV} {lq : Nat → Bool} (H : REL cy n ad E PT tq lq) (x1 : Int32) : OP18 (REL cy) cy n ad E PT tq lq x1 := by
  obtain ⟨rR, rL, rW0, rW1, rW2, rT, rG, rI, rA, rB, rC, rS, rM, rZ⟩ := rel_el H
  exact op2_of (p_classes (x1 := x1) rL rT) (fun o m h => ⟨h.1, (rel_mk rR rL (WordR_fr rW0 (h.2.1 0) (fun i _ => h.2.2 _)) (WordR_fr rW1 (h.2.1 1) (fun i _ => h.2.2 _)) (WordR_fr rW2 (h.2.1 2) (fun i _ => h.2.2 _)) rT rG rI rA rB rC rS rM rZ)⟩)
theorem op19 {cy : Nat → ClassId} {n : Nat} {ad : Nat → Nat} {E : Nat → va_E} {PT : va_W} {tq : Nat → Option TV} {lq : Nat → Bool} (H : REL cy n ad E PT tq lq) (x1 : Int32) (x2 : Int32) : OP19 (REL cy) cy n ad E PT tq lq x1 x2 := by
  obtain ⟨rR, rL, rW0, rW1, rW2, rT, rG, rI, rA, rB, rC, rS, rM, rZ⟩ := rel_el H
  exact op2_of (p_classSize (x1 := x1) (x2 := x2) rL rT) (fun o m h => ⟨h.1, (rel_mk rR rL (WordR_fr rW0 (h.2.1 0) (fun i _ => h.2.2 _)) (WordR_fr rW1 (h.2.1 1) (fun i _ => h.2.2 _)) (WordR_fr rW2 (h.2.1 2) (fun i _ => h.2.2 _)) rT rG rI rA rB rC rS rM rZ)⟩)
theorem op20 {cy : Nat → ClassId} {n : Nat} {ad : Nat → Nat} {E : Nat → va_E} {PT : va_W} {tq : Nat → Option TV} {lq : Nat → Bool} (H : REL cy n ad E PT tq lq) : OP20 (REL cy) cy n ad E PT tq lq  := by
  obtain ⟨rR, rL, rW0, rW1, rW2, rT, rG, rI, rA, rB, rC, rS, rM, rZ⟩ := rel_el H
  exact op2_of (p_findCollision rR.1 rR.2.1 rL rT rW0 rW1) (fun o m h => ⟨h.1, (rel_mk rR rL h.2.1 h.2.2.1 (WordR_fr rW2 h.2.2.2.1 (fun i _ => h.2.2.2.2 _ (by omega))) rT rG rI rA rB rC rS rM rZ)⟩)
theorem op36 {cy : Nat → ClassId} {n : Nat} {ad : Nat → Nat} {E : Nat → va_E} {PT : va_W} {tq : Nat → Option TV} {lq : Nat → Bool} (H : REL cy n ad E PT tq lq) (x1 : Int32) (x2 : Int32) (x3 : Int32) : OP36 (REL cy) cy n ad E PT tq lq x1 x2 x3 := by
  obtain ⟨rR, rL, rW0, rW1, rW2, rT, rG, rI, rA, rB, rC, rS, rM, rZ⟩ := rel_el H
  rcases rowC x1 with ⟨r, hr, rfl⟩ | hb
  · rcases three hr with rfl | rfl | rfl
    · exact (Or.inl (op2_of (p_newRow (x2 := x2) (x3 := x3) 0 (by omega) rR.2.2.2.2.2.2.1 rA) (fun o m h => ⟨h.1, (rel_mk rR rL rW0 rW1 rW2 rT rG rI h.2.1 (RowR_fr rB (h.2.2.1 1 (by omega)) (fun i hi => h.2.2.2 _ (by omega))) (RowR_fr rC (h.2.2.1 2 (by omega)) (fun i hi => h.2.2.2 _ (by omega))) rS rM rZ)⟩)))
    · exact (Or.inr (Or.inl (op2_of (p_newRow (x2 := x2) (x3 := x3) 1 (by omega) rR.2.2.2.2.2.2.2.1 rB) (fun o m h => ⟨h.1, (rel_mk rR rL rW0 rW1 rW2 rT rG rI (RowR_fr rA (h.2.2.1 0 (by omega)) (fun i hi => h.2.2.2 _ (by omega))) h.2.1 (RowR_fr rC (h.2.2.1 2 (by omega)) (fun i hi => h.2.2.2 _ (by omega))) rS rM rZ)⟩))))
    · exact (Or.inr (Or.inr (op2_of (p_newRow (x2 := x2) (x3 := x3) 2 (by omega) rR.2.2.2.2.2.2.2.2 rC) (fun o m h => ⟨h.1, (rel_mk rR rL rW0 rW1 rW2 rT rG rI (RowR_fr rA (h.2.2.1 0 (by omega)) (fun i hi => h.2.2.2 _ (by omega))) (RowR_fr rB (h.2.2.1 1 (by omega)) (fun i hi => h.2.2.2 _ (by omega))) h.2.1 rS rM rZ)⟩))))
  · exact Or.inl (op_e (n_newRow hb) ⟨rfl, (rel_mk rR rL rW0 rW1 rW2 rT rG rI rA rB rC rS rM rZ)⟩)
theorem op37 {cy : Nat → ClassId} {n : Nat} {ad : Nat → Nat} {E : Nat → va_E} {PT : va_W} {tq : Nat → Option TV} {lq : Nat → Bool} (H : REL cy n ad E PT tq lq) (x1 : Int32) (x2 : Int32) (x3 : Int32) : OP37 (REL cy) cy n ad E PT tq lq x1 x2 x3 := by
  obtain ⟨rR, rL, rW0, rW1, rW2, rT, rG, rI, rA, rB, rC, rS, rM, rZ⟩ := rel_el H
  rcases rowC x1 with ⟨r, hr, rfl⟩ | hb
  · rcases three hr with rfl | rfl | rfl
    · exact (Or.inl (op2_of (p_setElement (x2 := x2) (x3 := x3) 0 (by omega) rR.2.2.2.2.2.2.1 rA) (fun o m h => ⟨h.1, (rel_mk rR rL rW0 rW1 rW2 rT rG rI h.2.1 (RowR_fr rB (h.2.2.1 1 (by omega)) (fun i hi => h.2.2.2 _ (by omega))) (RowR_fr rC (h.2.2.1 2 (by omega)) (fun i hi => h.2.2.2 _ (by omega))) rS rM rZ)⟩)))
    · exact (Or.inr (Or.inl (op2_of (p_setElement (x2 := x2) (x3 := x3) 1 (by omega) rR.2.2.2.2.2.2.2.1 rB) (fun o m h => ⟨h.1, (rel_mk rR rL rW0 rW1 rW2 rT rG rI (RowR_fr rA (h.2.2.1 0 (by omega)) (fun i hi => h.2.2.2 _ (by omega))) h.2.1 (RowR_fr rC (h.2.2.1 2 (by omega)) (fun i hi => h.2.2.2 _ (by omega))) rS rM rZ)⟩))))
    · exact (Or.inr (Or.inr (op2_of (p_setElement (x2 := x2) (x3 := x3) 2 (by omega) rR.2.2.2.2.2.2.2.2 rC) (fun o m h => ⟨h.1, (rel_mk rR rL rW0 rW1 rW2 rT rG rI (RowR_fr rA (h.2.2.1 0 (by omega)) (fun i hi => h.2.2.2 _ (by omega))) (RowR_fr rB (h.2.2.1 1 (by omega)) (fun i hi => h.2.2.2 _ (by omega))) h.2.1 rS rM rZ)⟩))))
  · exact Or.inl (op_e (n_setElement hb) ⟨rfl, (rel_mk rR rL rW0 rW1 rW2 rT rG rI rA rB rC rS rM rZ)⟩)
theorem op38 {cy : Nat → ClassId} {n : Nat} {ad : Nat → Nat} {E : Nat → va_E} {PT : va_W} {tq : Nat → Option TV} {lq : Nat → Bool} (H : REL cy n ad E PT tq lq) (x1 : Int32) (x2 : Int32) : OP38 (REL cy) cy n ad E PT tq lq x1 x2 := by
  obtain ⟨rR, rL, rW0, rW1, rW2, rT, rG, rI, rA, rB, rC, rS, rM, rZ⟩ := rel_el H
  rcases rowC x1 with ⟨r, hr, rfl⟩ | hb
  · rcases three hr with rfl | rfl | rfl
    · exact (Or.inl (op2_of (p_element (x2 := x2) 0 (by omega) rR.2.2.2.2.2.2.1 rA) (fun o m h => ⟨h, H⟩)))
    · exact (Or.inr (Or.inl (op2_of (p_element (x2 := x2) 1 (by omega) rR.2.2.2.2.2.2.2.1 rB) (fun o m h => ⟨h, H⟩))))
    · exact (Or.inr (Or.inr (op2_of (p_element (x2 := x2) 2 (by omega) rR.2.2.2.2.2.2.2.2 rC) (fun o m h => ⟨h, H⟩))))
  · exact Or.inl (op_e (n_element hb) ⟨rfl, H⟩)
theorem op39 {cy : Nat → ClassId} {n : Nat} {ad : Nat → Nat} {E : Nat → va_E} {PT : va_W} {tq : Nat → Option TV} {lq : Nat → Bool} (H : REL cy n ad E PT tq lq) (x1 : Int32) (x2 : Int32) (x3 : Int32) (x4 : Int32) (x5 : Int32) : OP39 (REL cy) cy n ad E PT tq lq x1 x2 x3 x4 x5 := by
  obtain ⟨rR, rL, rW0, rW1, rW2, rT, rG, rI, rA, rB, rC, rS, rM, rZ⟩ := rel_el H
  rcases rowC x1 with ⟨r, hr, rfl⟩ | hb
  · rcases rowC x3 with ⟨v, hv, rfl⟩ | hb
    · rcases three hr with rfl | rfl | rfl
      · rcases three hv with rfl | rfl | rfl
        · exact (Or.inr (Or.inr (Or.inr (Or.inr (Or.inr (Or.inr (Or.inl (op2_of (p_copySelf (x2 := x2) (x4 := x4) (x5 := x5) 0 (by omega) rR.2.2.2.2.2.2.1 rA) (fun o m h => ⟨h.1, (rel_mk rR rL rW0 rW1 rW2 rT rG rI (RowR_set rA h.2.1) (RowR_fr rB ⟨rfl, rfl⟩ (fun i hi => h.2.2 _ (by omega))) (RowR_fr rC ⟨rfl, rfl⟩ (fun i hi => h.2.2 _ (by omega))) rS rM rZ)⟩)))))))))
        · exact (Or.inl (op2_of (p_copyElements (x2 := x2) (x4 := x4) (x5 := x5) 0 1 (by omega) (by omega) rR.2.2.2.2.2.2.1 rR.2.2.2.2.2.2.2.1 rA rB) (fun o m h => ⟨h.1, (rel_mk rR rL rW0 rW1 rW2 rT rG rI (RowR_fr rA ⟨rfl, rfl⟩ (fun i hi => h.2.2 _ (by omega))) (RowR_set rB h.2.1) (RowR_fr rC ⟨rfl, rfl⟩ (fun i hi => h.2.2 _ (by omega))) rS rM rZ)⟩)))
        · exact (Or.inr (Or.inl (op2_of (p_copyElements (x2 := x2) (x4 := x4) (x5 := x5) 0 2 (by omega) (by omega) rR.2.2.2.2.2.2.1 rR.2.2.2.2.2.2.2.2 rA rC) (fun o m h => ⟨h.1, (rel_mk rR rL rW0 rW1 rW2 rT rG rI (RowR_fr rA ⟨rfl, rfl⟩ (fun i hi => h.2.2 _ (by omega))) (RowR_fr rB ⟨rfl, rfl⟩ (fun i hi => h.2.2 _ (by omega))) (RowR_set rC h.2.1) rS rM rZ)⟩))))
      · rcases three hv with rfl | rfl | rfl
        · exact (Or.inr (Or.inr (Or.inl (op2_of (p_copyElements (x2 := x2) (x4 := x4) (x5 := x5) 1 0 (by omega) (by omega) rR.2.2.2.2.2.2.2.1 rR.2.2.2.2.2.2.1 rB rA) (fun o m h => ⟨h.1, (rel_mk rR rL rW0 rW1 rW2 rT rG rI (RowR_set rA h.2.1) (RowR_fr rB ⟨rfl, rfl⟩ (fun i hi => h.2.2 _ (by omega))) (RowR_fr rC ⟨rfl, rfl⟩ (fun i hi => h.2.2 _ (by omega))) rS rM rZ)⟩)))))
        · exact (Or.inr (Or.inr (Or.inr (Or.inr (Or.inr (Or.inr (Or.inr (Or.inl (op2_of (p_copySelf (x2 := x2) (x4 := x4) (x5 := x5) 1 (by omega) rR.2.2.2.2.2.2.2.1 rB) (fun o m h => ⟨h.1, (rel_mk rR rL rW0 rW1 rW2 rT rG rI (RowR_fr rA ⟨rfl, rfl⟩ (fun i hi => h.2.2 _ (by omega))) (RowR_set rB h.2.1) (RowR_fr rC ⟨rfl, rfl⟩ (fun i hi => h.2.2 _ (by omega))) rS rM rZ)⟩))))))))))
        · exact (Or.inr (Or.inr (Or.inr (Or.inl (op2_of (p_copyElements (x2 := x2) (x4 := x4) (x5 := x5) 1 2 (by omega) (by omega) rR.2.2.2.2.2.2.2.1 rR.2.2.2.2.2.2.2.2 rB rC) (fun o m h => ⟨h.1, (rel_mk rR rL rW0 rW1 rW2 rT rG rI (RowR_fr rA ⟨rfl, rfl⟩ (fun i hi => h.2.2 _ (by omega))) (RowR_fr rB ⟨rfl, rfl⟩ (fun i hi => h.2.2 _ (by omega))) (RowR_set rC h.2.1) rS rM rZ)⟩))))))
      · rcases three hv with rfl | rfl | rfl
        · exact (Or.inr (Or.inr (Or.inr (Or.inr (Or.inl (op2_of (p_copyElements (x2 := x2) (x4 := x4) (x5 := x5) 2 0 (by omega) (by omega) rR.2.2.2.2.2.2.2.2 rR.2.2.2.2.2.2.1 rC rA) (fun o m h => ⟨h.1, (rel_mk rR rL rW0 rW1 rW2 rT rG rI (RowR_set rA h.2.1) (RowR_fr rB ⟨rfl, rfl⟩ (fun i hi => h.2.2 _ (by omega))) (RowR_fr rC ⟨rfl, rfl⟩ (fun i hi => h.2.2 _ (by omega))) rS rM rZ)⟩)))))))
        · exact (Or.inr (Or.inr (Or.inr (Or.inr (Or.inr (Or.inl (op2_of (p_copyElements (x2 := x2) (x4 := x4) (x5 := x5) 2 1 (by omega) (by omega) rR.2.2.2.2.2.2.2.2 rR.2.2.2.2.2.2.2.1 rC rB) (fun o m h => ⟨h.1, (rel_mk rR rL rW0 rW1 rW2 rT rG rI (RowR_fr rA ⟨rfl, rfl⟩ (fun i hi => h.2.2 _ (by omega))) (RowR_set rB h.2.1) (RowR_fr rC ⟨rfl, rfl⟩ (fun i hi => h.2.2 _ (by omega))) rS rM rZ)⟩))))))))
        · exact (Or.inr (Or.inr (Or.inr (Or.inr (Or.inr (Or.inr (Or.inr (Or.inr (op2_of (p_copySelf (x2 := x2) (x4 := x4) (x5 := x5) 2 (by omega) rR.2.2.2.2.2.2.2.2 rC) (fun o m h => ⟨h.1, (rel_mk rR rL rW0 rW1 rW2 rT rG rI (RowR_fr rA ⟨rfl, rfl⟩ (fun i hi => h.2.2 _ (by omega))) (RowR_fr rB ⟨rfl, rfl⟩ (fun i hi => h.2.2 _ (by omega))) (RowR_set rC h.2.1) rS rM rZ)⟩))))))))))
    · exact Or.inl (op_e (n_copy2 hr hb) ⟨rfl, (rel_mk rR rL rW0 rW1 rW2 rT rG rI rA rB rC rS rM rZ)⟩)
  · exact Or.inl (op_e (n_copy1 hb) ⟨rfl, (rel_mk rR rL rW0 rW1 rW2 rT rG rI rA rB rC rS rM rZ)⟩)
