set_option linter.unusedVariables false
/-! counting, labellings, tables with open addressing, equivalence of states -/
theorem cntN_upd {c d : Nat → Bool} {n j0 : Nat} (hj : j0 < n) (h : ∀ j, j ≠ j0 → d j = c j) (h0 : c j0 = false) (h1 : d j0 = true) : cntN d n = cntN c n + 1 := by
  induction n with
  | zero => omega
  | succ n ih =>
    show cntN d n + (if d n = true then 1 else 0) = cntN c n + (if c n = true then 1 else 0) + 1
    by_cases e : j0 = n
    · subst e
      rw [cntN_congr (c := d) (d := c) (fun i hi => h i (by omega)), h0, h1]
      rfl
    · rw [ih (by omega), h n (fun x => e x.symm)]
      omega
theorem cntN_all {c : Nat → Bool} {n : Nat} (h : ∀ j, j < n → c j = true) : cntN c n = n := by
  induction n with
  | zero => rfl
  | succ n ih =>
    show cntN c n + (if c n = true then 1 else 0) = n + 1
    rw [ih (fun j hj => h j (by omega)), if_pos (h n (by omega))]
theorem cntN_none {c : Nat → Bool} {n : Nat} (h : ∀ j, j < n → c j = false) : cntN c n = 0 := by
  induction n with
  | zero => rfl
  | succ n ih =>
    show cntN c n + (if c n = true then 1 else 0) = 0
    rw [ih (fun j hj => h j (by omega)), h n (by omega)]
    rfl
theorem cntN_ex {c : Nat → Bool} {n : Nat} (h : cntN c n < n) : ∃ j, j < n ∧ c j = false := by
  induction n with
  | zero => omega
  | succ n ih =>
    by_cases e : c n = true
    · have h2 : cntN c n + (if c n = true then 1 else 0) < n + 1 := h
      rw [if_pos e] at h2
      obtain ⟨j, hj, hc⟩ := ih (by omega)
      exact ⟨j, by omega, hc⟩
    · exact ⟨n, by omega, Bool.eq_false_iff.mpr e⟩
theorem cntN_mono {c d : Nat → Bool} {n : Nat} (h : ∀ j, j < n → c j = true → d j = true) : cntN c n ≤ cntN d n ∧ (cntN d n ≤ cntN c n → ∀ j, j < n → d j = true → c j = true) := by
  induction n with
  | zero => exact ⟨Nat.le_refl _, fun _ j hj => by omega⟩
  | succ n ih =>
    obtain ⟨i1, i2⟩ := ih (fun j hj => h j (by omega))
    show cntN c n + (if c n = true then 1 else 0) ≤ cntN d n + (if d n = true then 1 else 0) ∧ (cntN d n + (if d n = true then 1 else 0) ≤ cntN c n + (if c n = true then 1 else 0) → _)
    have hn := h n (by omega)
    by_cases e : c n = true
    · rw [if_pos e, if_pos (hn e)]
      refine ⟨by omega, fun h2 j hj hd => ?_⟩
      by_cases ej : j = n
      · rw [ej]; exact e
      · exact i2 (by omega) j (by omega) hd
    · rw [if_neg e]
      by_cases e2 : d n = true
      · rw [if_pos e2]
        exact ⟨by omega, fun h2 => by omega⟩
      · rw [if_neg e2]
        refine ⟨by omega, fun h2 j hj hd => ?_⟩
        by_cases ej : j = n
        · rw [ej] at hd
          exact absurd hd e2
        · exact i2 (by omega) j (by omega) hd
/-- is j a label below n? -/
def seen {α : Type} [DecidableEq α] (f : Nat → α) : Nat → α → Bool
  | 0, _ => false
  | n + 1, j => seen f n j || decide (f n = j)
theorem seen_iff {α : Type} [DecidableEq α] {f : Nat → α} {n : Nat} {j : α} : seen f n j = true ↔ ∃ s, s < n ∧ f s = j := by
  induction n with
  | zero =>
    constructor
    · intro h
      cases h
    · rintro ⟨s, hs, _⟩
      omega
  | succ n ih =>
    show (seen f n j || decide (f n = j)) = true ↔ _
    rw [Bool.or_eq_true, ih, decide_eq_true_iff]
    constructor
    · rintro (⟨s, hs, e⟩ | e)
      · exact ⟨s, by omega, e⟩
      · exact ⟨n, by omega, e⟩
    · rintro ⟨s, hs, e⟩
      by_cases es : s = n
      · rw [es] at e
        exact Or.inr e
      · exact Or.inl ⟨s, by omega, e⟩
theorem seen_f {α : Type} [DecidableEq α] {f : Nat → α} {n : Nat} {j : α} (h : ∀ s, s < n → f s ≠ j) : seen f n j = false := by
  refine Bool.eq_false_iff.mpr (fun e => ?_)
  obtain ⟨s, hs, e2⟩ := seen_iff.mp e
  exact h s hs e2
/-- how many labels there are below N -/
def ncl {α : Type} [DecidableEq α] (f : Nat → α) (N : Nat) : Nat := cntN (fun s => !(seen f s (f s))) N
theorem ncl_le {α : Type} [DecidableEq α] {f : Nat → α} {N : Nat} : ncl f N ≤ N := cntN_le
theorem ncl_s {α : Type} [DecidableEq α] {f : Nat → α} {n : Nat} : ncl f (n + 1) = ncl f n + (if seen f n (f n) = true then 0 else 1) := by
  show cntN _ n + (if (!(seen f n (f n))) = true then 1 else 0) = _
  by_cases h : seen f n (f n) = true
  · rw [h]; rfl
  · rw [if_neg h, Bool.eq_false_iff.mpr h]; rfl
theorem ncl_congr {α β : Type} [DecidableEq α] [DecidableEq β] {f : Nat → α} {g : Nat → β} {N : Nat} (h : ∀ s t, s < N → t < N → (f s = f t ↔ g s = g t)) : ncl f N = ncl g N := by
  refine cntN_congr (fun s hs => ?_)
  show (!(seen f s (f s))) = (!(seen g s (g s)))
  congr 1
  rw [Bool.eq_iff_iff, seen_iff, seen_iff]
  exact ⟨fun ⟨t, ht, e⟩ => ⟨t, ht, (h t s (by omega) hs).mp e⟩, fun ⟨t, ht, e⟩ => ⟨t, ht, (h t s (by omega) hs).mpr e⟩⟩
theorem ncl_lab {f : Nat → Nat} {a N : Nat} (h1 : ∀ s, s < N → f s < a) (h2 : ∀ j, j < a → ∃ s, s < N ∧ f s = j) : ncl f N = a := by
  have key : ∀ n, n ≤ N → ncl f n = cntN (fun j => seen f n j) a := by
    intro n
    induction n with
    | zero => intro _; exact (cntN_none (fun j _ => rfl)).symm
    | succ n ih =>
      intro hn
      rw [ncl_s, ih (by omega)]
      by_cases h : seen f n (f n) = true
      · rw [if_pos h, Nat.add_zero]
        refine cntN_congr (fun j hj => ?_)
        show seen f n j = (seen f n j || decide (f n = j))
        by_cases e : f n = j
        · rw [← e, h]; rfl
        · rw [decide_eq_false e, Bool.or_false]
      · rw [if_neg h]
        refine (cntN_upd (h1 n (by omega)) (fun j hj => ?_) (Bool.eq_false_iff.mpr h) ?_).symm
        · show (seen f n j || decide (f n = j)) = seen f n j
          rw [decide_eq_false (fun e => hj e.symm), Bool.or_false]
        · show (seen f n (f n) || decide (f n = f n)) = true
          rw [decide_eq_true rfl, Bool.or_true]
  rw [key N (Nat.le_refl _)]
  exact cntN_all (fun j hj => seen_iff.mpr (h2 j hj))
theorem least {P : Nat → Prop} : ∀ n, P n → ∃ d, d ≤ n ∧ P d ∧ ∀ d', d' < d → ¬ P d' := by
  intro n
  induction n using Nat.strongRecOn with
  | _ n ih =>
    intro hn
    by_cases h : ∃ d', d' < n ∧ P d'
    · obtain ⟨d', h1, h2⟩ := h
      obtain ⟨d, h3, h4, h5⟩ := ih d' h1 h2
      exact ⟨d, by omega, h4, h5⟩
    · exact ⟨n, Nat.le_refl _, hn, fun d' h1 h2 => h ⟨d', h1, h2⟩⟩
/-- the first of its label -/
theorem fst_lab {α : Type} [DecidableEq α] {f : Nat → α} (s : Nat) : ∃ r, r ≤ s ∧ f r = f s ∧ seen f r (f r) = false := by
  obtain ⟨r, h1, h2, h3⟩ := least (P := fun r => f r = f s) s rfl
  exact ⟨r, h1, h2, seen_f (fun t ht e => h3 t ht (e.trans h2))⟩
/-- a refinement has more labels, or is the same -/
theorem ncl_ref {α β : Type} [DecidableEq α] [DecidableEq β] {f : Nat → α} {g : Nat → β} {N : Nat} (h : ∀ s t, s < N → t < N → g s = g t → f s = f t) : ncl f N ≤ ncl g N ∧ (ncl g N ≤ ncl f N → ∀ s t, s < N → t < N → f s = f t → g s = g t) := by
  have m := cntN_mono (c := fun s => !(seen f s (f s))) (d := fun s => !(seen g s (g s))) (n := N) (by
    intro s hs e
    have e2 : (!(seen f s (f s))) = true := e
    rw [Bool.not_eq_true'] at e2
    show (!(seen g s (g s))) = true
    rw [Bool.not_eq_true', Bool.eq_false_iff]
    intro e3
    obtain ⟨t, ht, e4⟩ := seen_iff.mp e3
    rw [seen_iff.mpr ⟨t, ht, h t s (by omega) hs e4⟩] at e2
    cases e2)
  refine ⟨m.1, fun hle s t hs ht e => ?_⟩
  have m2 := m.2 hle
  obtain ⟨r, r1, r2, r3⟩ := fst_lab (f := g) s
  obtain ⟨q, q1, q2, q3⟩ := fst_lab (f := g) t
  have a1 := m2 r (by omega) (by show (!(seen g r (g r))) = true; rw [r3]; rfl)
  have a2 := m2 q (by omega) (by show (!(seen g q (g q))) = true; rw [q3]; rfl)
  have a1 : (!(seen f r (f r))) = true := a1
  have a2 : (!(seen f q (f q))) = true := a2
  rw [Bool.not_eq_true'] at a1 a2
  have fr : f r = f q := (h r s (by omega) hs r2).trans (e.trans (h q t (by omega) ht q2).symm)
  rcases Nat.lt_trichotomy r q with c | c | c
  · rw [seen_iff.mpr ⟨r, c, fr⟩] at a2
    cases a2
  · rw [← r2, c, q2]
  · rw [seen_iff.mpr ⟨q, c, fr.symm⟩] at a1
    cases a1
/-- a table of M slots that holds the items i below n with S i, by open addressing from h i on -/
def HT (M : Nat) (sl : Nat → Int32) (n : Nat) (S : Nat → Prop) (h : Nat → Nat) : Prop :=
  (∀ j, j < M → sl j = -nI 1 ∨ ∃ i, i < n ∧ S i ∧ sl j = nI i) ∧
  (∀ i, i < n → S i → ∃ d, d < M ∧ sl ((h i + d) % M) = nI i ∧ ∀ d', d' < d → sl ((h i + d') % M) ≠ -nI 1) ∧
  cntN (fun j => decide (sl j ≠ -nI 1)) M ≤ n
theorem HT_0 {M : Nat} {sl : Nat → Int32} {S : Nat → Prop} {h : Nat → Nat} (e : ∀ j, j < M → sl j = -nI 1) : HT M sl 0 S h := by
  refine ⟨fun j hj => Or.inl (e j hj), fun i hi => by omega, ?_⟩
  rw [cntN_none (fun j hj => decide_eq_false (fun h => h (e j hj)))]
  exact Nat.le_refl _
theorem HT_skip {M n : Nat} {sl : Nat → Int32} {S : Nat → Prop} {h : Nat → Nat} (H : HT M sl n S h) (hS : ¬ S n) : HT M sl (n + 1) S h := by
  obtain ⟨h1, h2, h3⟩ := H
  refine ⟨fun j hj => ?_, fun i hi hs => ?_, by omega⟩
  · rcases h1 j hj with e | ⟨i, hi, hs, e⟩
    · exact Or.inl e
    · exact Or.inr ⟨i, by omega, hs, e⟩
  · by_cases e : i = n
    · rw [e] at hs
      exact absurd hs hS
    · exact h2 i (by omega) hs
theorem HT_congr {M n : Nat} {sl : Nat → Int32} {S S' : Nat → Prop} {h h' : Nat → Nat} (H : HT M sl n S h) (hS : ∀ i, i < n → (S i ↔ S' i)) (hh : ∀ i, i < n → h i = h' i) : HT M sl n S' h' := by
  obtain ⟨h1, h2, h3⟩ := H
  refine ⟨fun j hj => ?_, fun i hi hs => ?_, h3⟩
  · rcases h1 j hj with e | ⟨i, hi, hs, e⟩
    · exact Or.inl e
    · exact Or.inr ⟨i, hi, (hS i hi).mp hs, e⟩
  · rw [← hh i hi]
    exact h2 i hi ((hS i hi).mpr hs)
theorem HT_empty {M n : Nat} {sl : Nat → Int32} {S : Nat → Prop} {h : Nat → Nat} (H : HT M sl n S h) (hn : n < M) (h0 : Nat) : ∃ d, d < M ∧ sl ((h0 + d) % M) = -nI 1 ∧ ∀ d', d' < d → sl ((h0 + d') % M) ≠ -nI 1 := by
  obtain ⟨j, hj, e⟩ := cntN_ex (Nat.lt_of_le_of_lt H.2.2 hn)
  have e : sl j = -nI 1 := by
    have e2 := of_decide_eq_false e
    exact Classical.byContradiction e2
  have hm := Nat.mod_lt h0 (show 0 < M by omega)
  have hd : (h0 + (j + M - h0 % M)) % M = j := by
    have e3 : h0 + (j + M - h0 % M) = j + M * (h0 / M + 1) := by
      have := Nat.div_add_mod h0 M
      rw [Nat.mul_add, Nat.mul_one]
      omega
    rw [e3, Nat.add_mul_mod_self_left, Nat.mod_eq_of_lt hj]
  have hd2 : (h0 + (j + M - h0 % M) % M) % M = j := by
    rw [Nat.add_mod_mod, hd]
  obtain ⟨d, d1, d2, d3⟩ := least (P := fun d => sl ((h0 + d) % M) = -nI 1) ((j + M - h0 % M) % M) (by show sl _ = _; rw [hd2]; exact e)
  exact ⟨d, Nat.lt_of_le_of_lt d1 (Nat.mod_lt _ (by omega)), d2, d3⟩
theorem HT_ins {M n d : Nat} {sl : Nat → Int32} {S : Nat → Prop} {h : Nat → Nat} (H : HT M sl n S h) (hn : n < 2 ^ 31) (hM : 0 < M) (hd : d < M) (he : sl ((h n + d) % M) = -nI 1) (hf : ∀ d', d' < d → sl ((h n + d') % M) ≠ -nI 1) (hS : S n) : HT M (va_up sl ((h n + d) % M) (nI n)) (n + 1) S h := by
  obtain ⟨h1, h2, h3⟩ := H
  have hnn : nI n ≠ -nI 1 := nI_ne_m1 hn
  have up : ∀ x, sl x ≠ -nI 1 → va_up sl ((h n + d) % M) (nI n) x = sl x := by
    intro x hx
    refine upN (fun e => hx ?_)
    rw [e, he]
  refine ⟨fun j hj => ?_, fun i hi hs => ?_, ?_⟩
  · by_cases e : j = (h n + d) % M
    · exact Or.inr ⟨n, by omega, hS, upE e⟩
    · rw [upN e]
      rcases h1 j hj with e | ⟨i, hi, hs, e⟩
      · exact Or.inl e
      · exact Or.inr ⟨i, by omega, hs, e⟩
  · by_cases e : i = n
    · subst e
      refine ⟨d, hd, upE rfl, fun d' hd' => ?_⟩
      rw [up _ (hf d' hd')]
      exact hf d' hd'
    · obtain ⟨d0, a1, a2, a3⟩ := h2 i (by omega) hs
      refine ⟨d0, a1, ?_, fun d' hd' => ?_⟩
      · rw [up _ (by rw [a2]; exact nI_ne_m1 (by omega)), a2]
      · rw [up _ (a3 d' hd')]
        exact a3 d' hd'
  · have := cntN_upd (c := fun j => decide (sl j ≠ -nI 1)) (d := fun j => decide (va_up sl ((h n + d) % M) (nI n) j ≠ -nI 1)) (n := M) (Nat.mod_lt _ hM) (fun j hj => by show decide (va_up sl ((h n + d) % M) (nI n) j ≠ -nI 1) = decide (sl j ≠ -nI 1); rw [upN hj]) (decide_eq_false (fun h => h he)) (decide_eq_true (by rw [upE rfl]; exact hnn))
    rw [this]
    omega
theorem HT_no {M n i d : Nat} {sl : Nat → Int32} {S : Nat → Prop} {h : Nat → Nat} (H : HT M sl n S h) (hn : n < 2 ^ 31) (hi : i < n) (hS : S i) (he : sl ((h i + d) % M) = -nI 1) (hf : ∀ d', d' < d → sl ((h i + d') % M) ≠ nI i) : False := by
  obtain ⟨d0, a1, a2, a3⟩ := H.2.1 i hi hS
  rcases Nat.lt_trichotomy d0 d with c | c | c
  · exact hf d0 c a2
  · rw [c, he] at a2
    exact nI_ne_m1 (show i < 2 ^ 31 by omega) a2.symm
  · exact a3 d c he
/-- states that no word tells apart -/
def bis (N k : Nat) (dl : Nat → Nat → Nat) (m : Nat → Nat) (R : Nat → Nat → Prop) : Prop := ∀ x y, R x y → x < N → y < N → m x = m y ∧ ∀ c, c < k → R (dl x c) (dl y c)
def eqv (N k : Nat) (dl : Nat → Nat → Nat) (m : Nat → Nat) (s t : Nat) : Prop := ∃ R, bis N k dl m R ∧ R s t
theorem eqv_m {N k : Nat} {dl : Nat → Nat → Nat} {m : Nat → Nat} {s t : Nat} (h : eqv N k dl m s t) (hs : s < N) (ht : t < N) : m s = m t := by
  obtain ⟨R, h1, h2⟩ := h
  exact (h1 s t h2 hs ht).1
theorem eqv_d {N k c : Nat} {dl : Nat → Nat → Nat} {m : Nat → Nat} {s t : Nat} (h : eqv N k dl m s t) (hs : s < N) (ht : t < N) (hc : c < k) : eqv N k dl m (dl s c) (dl t c) := by
  obtain ⟨R, h1, h2⟩ := h
  exact ⟨R, h1, (h1 s t h2 hs ht).2 c hc⟩
theorem eqv_sym {N k : Nat} {dl : Nat → Nat → Nat} {m : Nat → Nat} {s t : Nat} (h : eqv N k dl m s t) : eqv N k dl m t s := by
  obtain ⟨R, h1, h2⟩ := h
  refine ⟨fun x y => R y x, fun x y hxy hx hy => ?_, h2⟩
  obtain ⟨a, b⟩ := h1 y x hxy hy hx
  exact ⟨a.symm, b⟩
/-- a labelling that keeps marks and letters is a bisimulation -/
theorem eqv_lab {N k : Nat} {dl : Nat → Nat → Nat} {m : Nat → Nat} {α : Type} {f : Nat → α} (h : ∀ s t, s < N → t < N → f s = f t → m s = m t ∧ ∀ c, c < k → f (dl s c) = f (dl t c)) {s t : Nat} (hs : s < N) (ht : t < N) (e : f s = f t) : eqv N k dl m s t := ⟨fun x y => f x = f y, fun x y hxy hx hy => h x y hx hy hxy, e⟩
