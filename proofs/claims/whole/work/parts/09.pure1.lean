set_option linter.unusedVariables false
/-! the pure part: reading the functions -/
theorem pI_ok {j n : Nat} (hj : j < n) (hn : n < 2 ^ 31) : ¬ (nI j < 0 ∨ n ≤ (nI j).toNatClampNeg) := nI_in hj hn
theorem ldA_n {α β : Type} {f : Nat → α} {n j : Nat} {k : α → Option β} (hj : j < n) (hn : n < 2 ^ 31) : ldA f n (nI j) k = k (f j) := by
  unfold ldA
  rw [if_neg (pI_ok hj hn), nI_clamp (by omega)]
theorem stA_n {α β : Type} {f : Nat → α} {n j : Nat} {x : α} {k : (Nat → α) → Option β} (hj : j < n) (hn : n < 2 ^ 31) : stA f n (nI j) x k = k (va_up f j x) := by
  unfold stA
  rw [if_neg (pI_ok hj hn), nI_clamp (by omega)]
theorem pI_add {a b : Nat} : nI a + nI b = nI (a + b) := by
  unfold nI
  exact (Int32.ofNat_add a b).symm
theorem pI_mul {a b : Nat} : nI a * nI b = nI (a * b) := by
  unfold nI
  exact (Int32.ofNat_mul a b).symm
theorem pI_sub {a b : Nat} (h : b ≤ a) : nI a - nI b = nI (a - b) := by
  have h1 : nI (a - b) + nI b = nI a := by rw [pI_add]; congr 1; omega
  rw [← h1]
  exact Int32.add_sub_cancel _ _
theorem pI_inj {a b : Nat} (ha : a < 2 ^ 31) (hb : b < 2 ^ 31) (h : nI a = nI b) : a = b := by
  have := congrArg Int32.toInt h
  rw [nI_toInt ha, nI_toInt hb] at this
  omega
theorem pI_lt_iff {a b : Nat} (ha : a < 2 ^ 31) (hb : b < 2 ^ 31) : nI a < nI b ↔ a < b := by
  rw [Int32.lt_iff_toInt_lt, nI_toInt ha, nI_toInt hb]
  omega
theorem pI_le_iff {a b : Nat} (ha : a < 2 ^ 31) (hb : b < 2 ^ 31) : nI a ≤ nI b ↔ a ≤ b := by
  rw [Int32.le_iff_toInt_le, nI_toInt ha, nI_toInt hb]
  omega
theorem pI_eq_iff {a b : Nat} (ha : a < 2 ^ 31) (hb : b < 2 ^ 31) : nI a = nI b ↔ a = b := ⟨pI_inj ha hb, fun h => by rw [h]⟩
/-- a number that is at least 0 is a nI -/
theorem pI_of {x : Int32} (h : 0 ≤ x) : ∃ j : Nat, x = nI j ∧ j < 2 ^ 31 := by
  have h0 : (0 : Int) ≤ x.toInt := by simpa using Int32.le_iff_toInt_le.mp h
  have h1 := Int32.toInt_lt x
  refine ⟨x.toInt.toNat, ?_, by omega⟩
  apply Int32.toInt_inj.mp
  rw [nI_toInt (by omega)]
  omega
theorem loopN_ok {V X : Type} {B : V → Option (V ⊕ X)} (I : V → Prop) (P : X → Prop) (μ : V → Nat) (hs : ∀ v, I v → ∃ o, B v = some o ∧ Sum.elim (fun v' => I v' ∧ μ v' < μ v) P o) : ∀ (n : Nat) (v : V), I v → μ v < n → ∃ x, loopN B n v = some x ∧ P x := by
  intro n
  induction n with
  | zero => intro v _ h; omega
  | succ n ih =>
    intro v hv hm
    obtain ⟨o, h1, h2⟩ := hs v hv
    show ∃ x, (B v).bind (Sum.elim (loopN B n) some) = some x ∧ P x
    rw [h1]
    cases o with
    | inl v' => exact ih v' h2.1 (by have := h2.2; omega)
    | inr x => exact ⟨x, rfl, h2⟩
/-- a loop that counts i from a up to b: the state behind it -/
theorem loopN_up {S X : Type} {B : S × Int32 → Option ((S × Int32) ⊕ X)} {F : Nat → S → S} {G : S → X} {a b : Nat} (Inv : Nat → S → Prop) (hb : b < 2 ^ 31) (hstep : ∀ i s, i < b → a ≤ i → Inv i s → B (s, nI i) = some (.inl (F i s, nI (i + 1))) ∧ Inv (i + 1) (F i s)) (hend : ∀ s, Inv b s → B (s, nI b) = some (.inr (G s))) :
    ∀ (n i : Nat) (s : S), a ≤ i → i ≤ b → b - i < n → Inv i s → ∃ s', loopN B n (s, nI i) = some (G s') ∧ Inv b s' := by
  intro n
  induction n with
  | zero => intro i s _ _ h; omega
  | succ n ih =>
    intro i s ha hi hn hI
    show ∃ s', (B (s, nI i)).bind (Sum.elim (loopN B n) some) = some (G s') ∧ Inv b s'
    by_cases h : i = b
    · subst h
      rw [hend s hI]
      exact ⟨s, rfl, hI⟩
    · obtain ⟨h1, h2⟩ := hstep i s (by omega) ha hI
      rw [h1]
      exact ih (i + 1) (F i s) (by omega) (by omega) (by omega) h2
theorem FU_eq : FU = 200000 := rfl
