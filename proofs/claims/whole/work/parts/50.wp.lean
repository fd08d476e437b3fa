set_option linter.unusedVariables false
/-! the pure part: what a function answers -/
def Wp {α : Type} (o : Option α) (P : α → Prop) : Prop := ∃ x, o = some x ∧ P x
theorem wp_some {α : Type} {x : α} {P : α → Prop} (h : P x) : Wp (some x) P := ⟨x, rfl, h⟩
theorem wp_mono {α : Type} {o : Option α} {P Q : α → Prop} (h : Wp o P) (hm : ∀ x, P x → Q x) : Wp o Q := by
  obtain ⟨x, h1, h2⟩ := h
  exact ⟨x, h1, hm x h2⟩
theorem wp_bind {α β : Type} {o : Option α} {k : α → Option β} {P : β → Prop} (h : Wp o (fun u => Wp (k u) P)) : Wp (o.bind k) P := by
  obtain ⟨u, h1, x, h2, h3⟩ := h
  exact ⟨x, by rw [h1]; exact h2, h3⟩
theorem wp_seq {α β : Type} {o : Option α} {k : α → Option β} {Q : α → Prop} {P : β → Prop} (h : Wp o Q) (hk : ∀ u, Q u → Wp (k u) P) : Wp (o.bind k) P := wp_bind (wp_mono h hk)
theorem wp_eq {α : Type} {o o' : Option α} {P : α → Prop} (e : o = o') (h : Wp o' P) : Wp o P := e ▸ h
theorem wp_ld {α β : Type} {f : Nat → α} {n : Nat} {i : Int32} {k : α → Option β} {P : β → Prop} (j : Nat) (hi : i = nI j) (hj : j < n) (hn : n < 2 ^ 31) (h : Wp (k (f j)) P) : Wp (ldA f n i k) P := by
  subst hi
  rw [ldA_n hj hn]
  exact h
theorem wp_st {α β : Type} {f : Nat → α} {n : Nat} {i : Int32} {x : α} {k : (Nat → α) → Option β} {P : β → Prop} (j : Nat) (hi : i = nI j) (hj : j < n) (hn : n < 2 ^ 31) (h : Wp (k (va_up f j x)) P) : Wp (stA f n i x k) P := by
  subst hi
  rw [stA_n hj hn]
  exact h
theorem wp_if {α : Type} {c : Prop} [Decidable c] {a b : Option α} {P : α → Prop} (h1 : c → Wp a P) (h2 : ¬ c → Wp b P) : Wp (if c then a else b) P := by
  by_cases h : c
  · rw [if_pos h]; exact h1 h
  · rw [if_neg h]; exact h2 h
theorem wp_it {V X : Type} {B : V → Option (V ⊕ X)} {v0 : V} {P : X → Prop} (I : Nat → V → Prop) (m0 : Nat) (h0 : I m0 v0) (hm : m0 < 200000) (hs : ∀ m v, I m v → Wp (B v) (Sum.elim (fun v' => ∃ m', m' < m ∧ I m' v') P)) : Wp (loopN B FU v0) P := by
  have key : ∀ (n m : Nat) (v : V), I m v → m < n → Wp (loopN B n v) P := by
    intro n
    induction n with
    | zero => intro m v _ h; omega
    | succ n ih =>
      intro m v hv hm
      obtain ⟨o, h1, h2⟩ := hs m v hv
      show Wp ((B v).bind (Sum.elim (loopN B n) some)) P
      rw [h1]
      cases o with
      | inl v' => obtain ⟨m', h3, h4⟩ := h2; exact ih m' v' h4 (by omega)
      | inr x => exact ⟨x, rfl, h2⟩
  exact key FU m0 v0 h0 (by rw [FU_eq]; exact hm)
/-- a loop that counts up from a to b -/
theorem wp_up {V X : Type} {B : V → Option (V ⊕ X)} {v0 : V} {P : X → Prop} (I : Nat → V → Prop) (a b : Nat) (h0 : I a v0) (hab : a ≤ b) (hm : b - a < 200000) (hs : ∀ i v, a ≤ i → i < b → I i v → Wp (B v) (Sum.elim (fun v' => I (i + 1) v') P)) (he : ∀ v, I b v → Wp (B v) (Sum.elim (fun _ => False) P)) : Wp (loopN B FU v0) P := by
  refine wp_it (fun m v => m ≤ b - a ∧ I (b - m) v) (b - a) ⟨Nat.le_refl _, by rw [show b - (b - a) = a by omega]; exact h0⟩ hm (fun m v hv => ?_)
  by_cases hz : m = 0
  · subst hz
    refine wp_mono (he v hv.2) (fun o ho => ?_)
    cases o with
    | inl v' => exact absurd ho id
    | inr x => exact ho
  · refine wp_mono (hs (b - m) v (by omega) (by omega) hv.2) (fun o ho => ?_)
    cases o with
    | inl v' => exact ⟨m - 1, by omega, by omega, by rw [show b - (m - 1) = b - m + 1 by omega]; exact ho⟩
    | inr x => exact ho
/-- a loop that counts down from b to a -/
theorem wp_dn {V X : Type} {B : V → Option (V ⊕ X)} {v0 : V} {P : X → Prop} (I : Nat → V → Prop) (a b : Nat) (h0 : I b v0) (hab : a ≤ b) (hm : b - a < 200000) (hs : ∀ i v, a < i → i ≤ b → I i v → Wp (B v) (Sum.elim (fun v' => I (i - 1) v') P)) (he : ∀ v, I a v → Wp (B v) (Sum.elim (fun _ => False) P)) : Wp (loopN B FU v0) P := by
  refine wp_it (fun m v => m ≤ b - a ∧ I (a + m) v) (b - a) ⟨Nat.le_refl _, by rw [show a + (b - a) = b by omega]; exact h0⟩ hm (fun m v hv => ?_)
  by_cases hz : m = 0
  · subst hz
    refine wp_mono (he v hv.2) (fun o ho => ?_)
    cases o with
    | inl v' => exact absurd ho id
    | inr x => exact ho
  · refine wp_mono (hs (a + m) v (by omega) (by omega) hv.2) (fun o ho => ?_)
    cases o with
    | inl v' => exact ⟨m - 1, by omega, by omega, by rw [show a + (m - 1) = a + m - 1 by omega]; exact ho⟩
    | inr x => exact ho
theorem wp2 {α β : Type} {f : Option α} {g : Option β} {Q : α → β → Prop} (h : Wp f (fun out => Wp g (fun mo => Q out mo))) : ∃ (out : α) (mo : β), f = some out ∧ g = some mo ∧ Q out mo := by
  obtain ⟨o, h1, m, h2, h3⟩ := h
  exact ⟨o, m, h1, h2, h3⟩
theorem pL (n : Nat) : (OfNat.ofNat n : Int32) = nI n := rfl
theorem pI_add1 {a : Nat} : nI a + nI 1 = nI (a + 1) := pI_add
theorem pI_dec {a : Nat} (h : 0 < a) : nI a + (-1) = nI (a - 1) := by
  have h1 : nI (a - 1) + nI 1 = nI a := by rw [pI_add]; congr 1; omega
  rw [← h1, Int32.add_assoc]
  have : nI 1 + -1 = 0 := by decide
  rw [this, Int32.add_zero]
theorem upE {α : Type} {f : Nat → α} {k j : Nat} {x : α} (h : j = k) : va_up f k x j = x := by
  unfold va_up
  rw [if_pos h]
theorem upN {α : Type} {f : Nat → α} {k j : Nat} {x : α} (h : ¬ j = k) : va_up f k x j = f j := by
  unfold va_up
  rw [if_neg h]
theorem i_cases (x : Int32) : x < 0 ∨ ∃ j, x = nI j ∧ j < 2 ^ 31 := by
  by_cases h : x < 0
  · exact Or.inl h
  · exact Or.inr (pI_of (Int32.not_lt.mp h))
theorem i_neg_lt {x : Int32} {b : Nat} (h : x < 0) (hb : b < 2 ^ 31) : x < nI b := by
  rw [Int32.lt_iff_toInt_lt] at h ⊢
  rw [nI_toInt hb]
  have : (0 : Int32).toInt = 0 := rfl
  omega
theorem pI_nneg {a : Nat} (h : a < 2 ^ 31) : ¬ nI a < 0 := by
  show ¬ nI a < nI 0
  rw [pI_lt_iff h (by omega)]
  omega
theorem asR_some {β : Type} {q : Nat} {k : Option β} : asR (some q) q k = k := by
  unfold asR
  rw [if_pos rfl]
theorem bitZ0 {β : Type} {k : Option β} : bitZ (nI 0) k = k := by
  unfold bitZ
  exact if_pos (Or.inl rfl)
theorem bitZ1 {β : Type} {k : Option β} : bitZ (nI 1) k = k := by
  unfold bitZ
  exact if_pos (Or.inr rfl)
