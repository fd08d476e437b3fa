set_option linter.unusedVariables false
/-! the relation between the class's cells and the reference's -/
/-- bit s of a number -/
def bitI (x : Int32) (s : Nat) : Bool := x.toBitVec.getLsbD s
def WordR (sz : Int32) (ls : Nat → Int32) (wl : Int32) (wd : Nat → Int32) (o : Nat) : Prop := ∃ L, L ≤ 12 ∧ sz = nI L ∧ wl = nI L ∧ ∀ i, i < L → ls i = wd (o + i)
/-- a test of kind k, bound b, pattern's length l -/
def TestOK (v : TV) (k b l : Nat) : Prop := v.1 = nI k ∧ v.2.1 = nI b ∧ v.2.2.1 = nI (if k = 2 then b + 1 else b) ∧ v.2.2.2.1 = nI l ∧ v.2.2.2.2.2.1 = l ∧ b ≤ 9 ∧ ((k = 1 ∧ l = 0 ∧ 2 ≤ b) ∨ (k = 0 ∧ 1 ≤ l ∧ l ≤ 4 ∧ 2 ≤ b) ∨ (k = 2 ∧ 1 ≤ l ∧ l ≤ 4 ∧ 1 ≤ b))
def TestR (tq : Nat → Option TV) (r : Option Nat) (kd bd ln : Int32) (pt : Nat → Int32) : Prop := ∃ a v k b l, r = some a ∧ tq a = some v ∧ TestOK v k b l ∧ kd = nI k ∧ bd = nI b ∧ ln = nI l ∧ ∀ i, i < l → v.2.2.2.2.2.2 i = pt i
def MemOK (tq : Nat → Option TV) (mb : Nat → Option Nat) : Prop := ∀ j, j < 8 → ∀ a, mb j = some a → (tq a).isSome = true
def TestsR (tq : Nat → Option TV) (cnt : Int32) (mb : Nat → Option Nat) (tests : Int32) (kind bound plen pat : Nat → Int32) : Prop := (∃ T, T ≤ 6 ∧ cnt = nI T ∧ tests = nI T ∧ ∀ t, t < T → TestR tq (mb t) (kind t) (bound t) (plen t) (fun i => pat (4 * t + i))) ∧ MemOK tq mb
def LangR (cy : Nat → ClassId) (PT : va_W) (tq : Nat → Option TV) (lq : Nat → Bool) (r : Option Nat) (form parts truth : Int32) (pk pb pl pv pp : Nat → Int32) : Prop :=
  (r = none ∧ form = -1) ∨ ∃ (q : Nat) (d : Nat → Nat) (f m : Nat) (tab : Int32) (ts : Nat → Option Nat) (vs : Nat → Int32), r = some q ∧ lq q = true ∧ (q, ob 2 (oX2 d (nI f) (nI m) tab)) ∈ PT ∧ (d 3, aR cy 4 m ts) ∈ PT ∧ (d 4, aI cy m vs) ∈ PT ∧ f < 4 ∧ form = nI f ∧ parts = nI m ∧ 1 ≤ m ∧ m ≤ 4 ∧ (∀ i, i < m → TestR tq (ts i) (pk i) (pb i) (pl i) (fun j => pp (4 * i + j)) ∧ vs i = pv i ∧ ∃ x, vs i = nI x ∧ x < 10) ∧ ∀ s, s < 2 ^ m → bitI tab s = bitI truth s
def LangsR (cy : Nat → ClassId) (PT : va_W) (tq : Nat → Option TV) (lq : Nat → Bool) (lg : Nat → Option Nat) (form parts truth pk pb pl pv pp : Nat → Int32) : Prop := ∀ l, l < 4 → LangR cy PT tq lq (lg l) (form l) (parts l) (truth l) (fun i => pk (4 * l + i)) (fun i => pb (4 * l + i)) (fun i => pl (4 * l + i)) (fun i => pv (4 * l + i)) (fun i => pp (16 * l + i))
def LetR (a b : Int32) : Prop := ∃ k, 1 ≤ k ∧ k ≤ 3 ∧ a = nI k ∧ b = nI k
def InputR (a : Int32) (f : Nat → Int32) (b : Int32) (g : Nat → Int32) : Prop := ∃ I, I ≤ 8 ∧ a = nI I ∧ b = nI I ∧ ∀ i, i < I → f i = g i ∧ ∃ x, f i = nI x ∧ x < 128
def RowR (ty sz : Int32) (f : Nat → Int32) (ty' rl : Int32) (it : Nat → Int32) (o : Nat) : Prop := ty = ty' ∧ (ty = -1 ∨ ty = 0 ∨ ty = 1) ∧ (∃ S, S ≤ 21 ∧ sz = nI S ∧ rl = nI S ∧ (ty = -1 → S = 0)) ∧ ∀ i, i < 21 → f i = it (o + i)
def SnapR (cy : Nat → ClassId) (PT : va_W) (tq : Nat → Option TV) (lq : Nat → Bool) (tk hs : Int32) (le s0 s1 s2 : Int32) (l0 l1 l2 : Nat → Int32) (cnt : Int32) (mb lg : Nat → Option Nat) (sv : Nat → Int32) : Prop :=
  (tk = 0 ∧ hs = 0) ∨ (tk = 1 ∧ hs = 1 ∧ LetR le (sv 0) ∧ WordR s0 l0 (sv 2) (fun i => sv (5 + i)) 0 ∧ WordR s1 l1 (sv 3) (fun i => sv (5 + i)) 12 ∧ WordR s2 l2 (sv 4) (fun i => sv (5 + i)) 24 ∧ TestsR tq cnt mb (sv 1) (fun i => sv (41 + i)) (fun i => sv (47 + i)) (fun i => sv (53 + i)) (fun i => sv (59 + i)) ∧ LangsR cy PT tq lq lg (fun i => sv (83 + i)) (fun i => sv (87 + i)) (fun i => sv (91 + i)) (fun i => sv (95 + i)) (fun i => sv (111 + i)) (fun i => sv (127 + i)) (fun i => sv (143 + i)) (fun i => sv (159 + i)))
def RefsR (ad : Nat → Nat) (a b c : Nat → Option Nat) : Prop := a 0 = some (ad 55) ∧ a 1 = some (ad 58) ∧ a 2 = some (ad 61) ∧ b 0 = some (ad 69) ∧ b 1 = some (ad 72) ∧ b 2 = some (ad 75) ∧ c 0 = some (ad 83) ∧ c 1 = some (ad 85) ∧ c 2 = some (ad 87)
def MonR (n : Nat) (ad : Nat → Nat) (v : Value) : Prop := (n = 123 ∧ v = .null) ∨ (n = 127 ∧ v = .ref (ad 123))
def RELw (ad : Nat → Nat) (E : Nat → va_E) : Prop := RefsR ad (gR (E 54)) (gR (E 68)) (gR (E 82)) ∧ LetR (gS (E 53) 0) (gS (E 0) 0) ∧ WordR (gS (E 55) 1) (gI (E 56)) (gI (E 1) 0) (gI (E 2)) 0 ∧ WordR (gS (E 58) 1) (gI (E 59)) (gI (E 1) 1) (gI (E 2)) 12 ∧ WordR (gS (E 61) 1) (gI (E 62)) (gI (E 1) 2) (gI (E 2)) 24
def RELt (cy : Nat → ClassId) (E : Nat → va_E) (PT : va_W) (tq : Nat → Option TV) (lq : Nat → Bool) : Prop := TestsR tq (gS (E 64) 1) (gR (E 65)) (gS (E 0) 10) (gI (E 5)) (gI (E 6)) (gI (E 7)) (gI (E 8)) ∧ LangsR cy PT tq lq (gR (E 66)) (gI (E 12)) (gI (E 13)) (gI (E 14)) (gI (E 15)) (gI (E 16)) (gI (E 17)) (gI (E 18)) (gI (E 19))
def RELo (cy : Nat → ClassId) (n : Nat) (ad : Nat → Nat) (E : Nat → va_E) (PT : va_W) (tq : Nat → Option TV) (lq : Nat → Bool) : Prop := InputR (gS (E 52) 4) (gI (E 81)) (gS (E 0) 11) (gI (E 9)) ∧ RowR (gS (E 83) 0) (gS (E 83) 1) (gI (E 84)) (gI (E 47) 0) (gI (E 48) 0) (gI (E 49)) 0 ∧ RowR (gS (E 85) 0) (gS (E 85) 1) (gI (E 86)) (gI (E 47) 1) (gI (E 48) 1) (gI (E 49)) 21 ∧ RowR (gS (E 87) 0) (gS (E 87) 1) (gI (E 88)) (gI (E 47) 2) (gI (E 48) 2) (gI (E 49)) 42 ∧
  SnapR cy PT tq lq (gS (E 52) 2) (gS (E 0) 66) (gS (E 67) 0) (gS (E 69) 1) (gS (E 72) 1) (gS (E 75) 1) (gI (E 70)) (gI (E 73)) (gI (E 76)) (gS (E 78) 1) (gR (E 79)) (gR (E 80)) (gI (E 51)) ∧ MonR n ad (gV (E 52) 10) ∧ gS (E 110) 8 = 0
def REL (cy : Nat → ClassId) : RelT := fun n ad E PT tq lq => RELw ad E ∧ RELt cy E PT tq lq ∧ RELo cy n ad E PT tq lq
theorem rel_init (cy : Nat → ClassId) (q0 : Nat) (u : Nat → Nat) (q1 : Nat) (v : Nat → Nat) : REL cy 123 (AD q0 u q1 v) (EE cy q0 u q1 v) [] (fun _ => none) (fun _ => false) := by
  refine ⟨⟨⟨rfl, rfl, rfl, rfl, rfl, rfl, rfl, rfl, rfl⟩, ⟨2, by omega, by omega, rfl, rfl⟩, ⟨0, by omega, rfl, rfl, fun i h => by omega⟩, ⟨0, by omega, rfl, rfl, fun i h => by omega⟩, ⟨0, by omega, rfl, rfl, fun i h => by omega⟩⟩, ⟨⟨⟨0, by omega, rfl, rfl, fun i h => by omega⟩, fun j _ a h => by cases h⟩, fun l hl => Or.inl ⟨rfl, ?_⟩⟩, ⟨0, by omega, rfl, rfl, fun i h => by omega⟩, ⟨rfl, Or.inl rfl, ⟨0, by omega, rfl, rfl, fun _ => rfl⟩, fun i _ => rfl⟩, ⟨rfl, Or.inl rfl, ⟨0, by omega, rfl, rfl, fun _ => rfl⟩, fun i _ => rfl⟩, ⟨rfl, Or.inl rfl, ⟨0, by omega, rfl, rfl, fun _ => rfl⟩, fun i _ => rfl⟩, Or.inl ⟨rfl, rfl⟩, Or.inl ⟨rfl, rfl⟩, rfl⟩
  rcases (show l = 0 ∨ l = 1 ∨ l = 2 ∨ l = 3 by omega) with rfl | rfl | rfl | rfl <;> rfl
theorem word_cases (x : Int32) : x = nI 0 ∨ x = nI 1 ∨ x = nI 2 ∨ (f_X11_isWord x = some 0 ∧ f_X12_isWord x = some 0) := by
  rcases i_cases x with h | ⟨j, rfl, hj⟩
  · refine Or.inr (Or.inr (Or.inr ⟨?_, ?_⟩))
    · unfold f_X11_isWord
      rw [if_pos h]
    · unfold f_X12_isWord f_X12_isBetween
      rw [if_pos h]
      rfl
  · rcases (show j = 0 ∨ j = 1 ∨ j = 2 ∨ 3 ≤ j by omega) with rfl | rfl | rfl | h
    · exact Or.inl rfl
    · exact Or.inr (Or.inl rfl)
    · exact Or.inr (Or.inr (Or.inl rfl))
    · refine Or.inr (Or.inr (Or.inr ⟨?_, ?_⟩))
      · unfold f_X11_isWord
        simp (disch := omega) only [ldA_n, stA_n, pL, pI_add, pI_mul, pI_sub, pI_lt_iff, pI_le_iff, pI_eq_iff, if_pos, if_neg, Option.bind_some, upE, upN, pI_dec, if_true, if_false, asR_some, bitZ0, bitZ1]
      · unfold f_X12_isWord f_X12_isBetween
        simp (disch := omega) only [ldA_n, stA_n, pL, pI_add, pI_mul, pI_sub, pI_lt_iff, pI_le_iff, pI_eq_iff, if_pos, if_neg, Option.bind_some, upE, upN, pI_dec, if_true, if_false, asR_some, bitZ0, bitZ1]
