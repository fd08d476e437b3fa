set_option linter.unusedVariables false
/-! two functions side by side -/
def W2 {α β : Type} (a : Option α) (b : Option β) (R : α → β → Prop) : Prop := ∃ (o : α) (m : β), a = some o ∧ b = some m ∧ R o m
theorem w2_of {α β : Type} {a : Option α} {b : Option β} {P : α → Prop} {Q : β → Prop} {R : α → β → Prop} (h1 : Wp a P) (h2 : Wp b Q) (h : ∀ o m, P o → Q m → R o m) : W2 a b R := by
  obtain ⟨o, e1, p1⟩ := h1
  obtain ⟨m, e2, p2⟩ := h2
  exact ⟨o, m, e1, e2, h o m p1 p2⟩
theorem w2_s {α β : Type} {x : α} {y : β} {R : α → β → Prop} (h : R x y) : W2 (some x) (some y) R := ⟨x, y, rfl, rfl, h⟩
theorem w2_mono {α β : Type} {a : Option α} {b : Option β} {Q R : α → β → Prop} (h : W2 a b Q) (k : ∀ o m, Q o m → R o m) : W2 a b R := by
  obtain ⟨o, m, e1, e2, q⟩ := h
  exact ⟨o, m, e1, e2, k o m q⟩
theorem w2_l {α β γ : Type} {a : Option γ} {f : γ → Option α} {b : Option β} {P : γ → Prop} {R : α → β → Prop} (h : Wp a P) (k : ∀ u, P u → W2 (f u) b R) : W2 (a.bind f) b R := by
  obtain ⟨u, e, p⟩ := h
  rw [e]
  exact k u p
theorem w2_r {α β γ : Type} {b : Option γ} {g : γ → Option β} {a : Option α} {P : γ → Prop} {R : α → β → Prop} (h : Wp b P) (k : ∀ u, P u → W2 a (g u) R) : W2 a (b.bind g) R := by
  obtain ⟨u, e, p⟩ := h
  rw [e]
  exact k u p
theorem w2_b {α β γ δ : Type} {a : Option γ} {f : γ → Option α} {b : Option δ} {g : δ → Option β} {Q : γ → δ → Prop} {R : α → β → Prop} (h : W2 a b Q) (k : ∀ u w, Q u w → W2 (f u) (g w) R) : W2 (a.bind f) (b.bind g) R := by
  obtain ⟨u, w, e1, e2, q⟩ := h
  rw [e1, e2]
  exact k u w q
theorem w2_wp {α β : Type} {a : Option α} {b : Option β} {R : α → β → Prop} (h : Wp a (fun o => Wp b (fun m => R o m))) : W2 a b R := by
  obtain ⟨o, e1, m, e2, r⟩ := h
  exact ⟨o, m, e1, e2, r⟩
theorem w2_if {α β : Type} {c d : Prop} [Decidable c] [Decidable d] {a1 a2 : Option α} {b1 b2 : Option β} {R : α → β → Prop} (e : c ↔ d) (h1 : c → W2 a1 b1 R) (h2 : ¬ c → W2 a2 b2 R) : W2 (if c then a1 else a2) (if d then b1 else b2) R := by
  by_cases h : c
  · rw [if_pos h, if_pos (e.mp h)]; exact h1 h
  · rw [if_neg h, if_neg (fun x => h (e.mpr x))]; exact h2 h
/-- both go on, or both end -/
def SR {V W X Y : Type} (Q : V → W → Prop) (P : X → Y → Prop) : V ⊕ X → W ⊕ Y → Prop
  | .inl v, .inl w => Q v w
  | .inr x, .inr y => P x y
  | _, _ => False
theorem w2_ll {V W X Y : Type} {v : V} {w : W} {Q : V → W → Prop} {P : X → Y → Prop} (h : Q v w) : W2 (some (Sum.inl v : V ⊕ X)) (some (Sum.inl w : W ⊕ Y)) (SR Q P) := ⟨_, _, rfl, rfl, h⟩
theorem w2_rr {V W X Y : Type} {x : X} {y : Y} {Q : V → W → Prop} {P : X → Y → Prop} (h : P x y) : W2 (some (Sum.inr x : V ⊕ X)) (some (Sum.inr y : W ⊕ Y)) (SR Q P) := ⟨_, _, rfl, rfl, h⟩
theorem w2_it {V X W Y : Type} {B : V → Option (V ⊕ X)} {C : W → Option (W ⊕ Y)} {v0 : V} {w0 : W} {P : X → Y → Prop} (I : Nat → V → W → Prop) (m0 : Nat) (h0 : I m0 v0 w0) (hm : m0 < 200000) (hs : ∀ m v w, I m v w → W2 (B v) (C w) (SR (fun v' w' => ∃ m', m' < m ∧ I m' v' w') P)) : W2 (loopN B FU v0) (loopN C FU w0) P := by
  have key : ∀ (n m : Nat) (v : V) (w : W), I m v w → m < n → W2 (loopN B n v) (loopN C n w) P := by
    intro n
    induction n with
    | zero => intro m v w _ h; omega
    | succ n ih =>
      intro m v w hv hm
      obtain ⟨o, o', h1, h2, h3⟩ := hs m v w hv
      show W2 ((B v).bind (Sum.elim (loopN B n) some)) ((C w).bind (Sum.elim (loopN C n) some)) P
      rw [h1, h2]
      cases o with
      | inl v' =>
        cases o' with
        | inl w' => obtain ⟨m', h4, h5⟩ := h3; exact ih m' v' w' h5 (by omega)
        | inr y => exact absurd h3 id
      | inr x =>
        cases o' with
        | inl w' => exact absurd h3 id
        | inr y => exact ⟨x, y, rfl, rfl, h3⟩
  exact key FU m0 v0 w0 h0 (by rw [FU_eq]; exact hm)
theorem w2_up {V X W Y : Type} {B : V → Option (V ⊕ X)} {C : W → Option (W ⊕ Y)} {v0 : V} {w0 : W} {P : X → Y → Prop} (I : Nat → V → W → Prop) (a b : Nat) (h0 : I a v0 w0) (hab : a ≤ b) (hm : b - a < 200000) (hs : ∀ i v w, a ≤ i → i < b → I i v w → W2 (B v) (C w) (SR (fun v' w' => I (i + 1) v' w') P)) (he : ∀ v w, I b v w → W2 (B v) (C w) (SR (fun _ _ => False) P)) : W2 (loopN B FU v0) (loopN C FU w0) P := by
  refine w2_it (fun m v w => m ≤ b - a ∧ I (b - m) v w) (b - a) ⟨Nat.le_refl _, by rw [show b - (b - a) = a by omega]; exact h0⟩ hm (fun m v w hv => ?_)
  by_cases hz : m = 0
  · subst hz
    refine w2_mono (he v w hv.2) (fun o o' ho => ?_)
    cases o with
    | inl v' =>
      cases o' with
      | inl w' => exact absurd ho id
      | inr y => exact absurd ho id
    | inr x =>
      cases o' with
      | inl w' => exact absurd ho id
      | inr y => exact ho
  · refine w2_mono (hs (b - m) v w (by omega) (by omega) hv.2) (fun o o' ho => ?_)
    cases o with
    | inl v' =>
      cases o' with
      | inl w' => exact ⟨m - 1, by omega, by omega, by rw [show b - (m - 1) = b - m + 1 by omega]; exact ho⟩
      | inr y => exact absurd ho id
    | inr x =>
      cases o' with
      | inl w' => exact absurd ho id
      | inr y => exact ho
theorem n1_neg : nI 0 - nI 1 < nI 0 := by decide
theorem n_sub1 {a : Nat} : nI a + -nI 1 = nI a - nI 1 := (Int32.sub_eq_add_neg _ _).symm
/-- a number of counting: as often as c holds below n -/
def cntN (c : Nat → Bool) : Nat → Nat
  | 0 => 0
  | n + 1 => cntN c n + (if c n = true then 1 else 0)
theorem cntN_le {c : Nat → Bool} {n : Nat} : cntN c n ≤ n := by
  induction n with
  | zero => exact Nat.le_refl _
  | succ n ih =>
    show cntN c n + (if c n = true then 1 else 0) ≤ n + 1
    by_cases h : c n = true
    · rw [if_pos h]; omega
    · rw [if_neg h]; omega
theorem cntN_congr {c d : Nat → Bool} {n : Nat} (h : ∀ i, i < n → c i = d i) : cntN c n = cntN d n := by
  induction n with
  | zero => rfl
  | succ n ih =>
    show cntN c n + (if c n = true then 1 else 0) = cntN d n + (if d n = true then 1 else 0)
    rw [ih (fun i hi => h i (by omega)), h n (by omega)]
theorem nI_ne_m2 {a : Nat} (h : a < 2 ^ 31) : ¬ nI a = -nI 2 := by
  intro e
  have h1 := pI_nneg h
  rw [e] at h1
  exact h1 (by decide)
theorem nI_ne_m1 {a : Nat} (h : a < 2 ^ 31) : ¬ nI a = -nI 1 := by
  intro e
  have h1 := pI_nneg h
  rw [e] at h1
  exact h1 (by decide)
