set_option linter.unusedVariables false
/-! both monoids in step -/
def CJ (b m : Nat) (β : Nat → Nat) (F G : Nat → Nat → Nat) : Prop := ∀ e p, e < m → p < b → G e (β p) = β (F e p)
def BJ (b k : Nat) (β : Nat → Nat) (φ ψ : Nat → Nat → Nat) : Prop := (∀ p, p < b → β p < b) ∧ (∀ p q, p < b → q < b → β p = β q → p = q) ∧ (∀ i, i < b → ∃ p, p < b ∧ β p = i) ∧ ∀ c p, c < k → p < b → β (φ c p) = ψ c (β p)
def XQ (M b e : Nat) (β : Nat → Nat) (o : Int32 × (Nat → Int32) × (Nat → Int32)) (m : Int32 × (Nat → Int32) × (Nat → Int32)) : Prop := ∃ (c : Nat) (F G : Nat → Nat → Nat), o.1 = nI c ∧ m.1 = nI c ∧ e ≤ c ∧ c ≤ 400 ∧ IM b c F o.2.1 ∧ MT M o.2.2 c b F ∧ EM b c G m.2.1 ∧ CJ b c β F G
theorem gen_in {M n k b e : Nat} {nxt φ : Nat → Nat → Nat} {g mem β : Nat → Nat} {nx co me gn : Nat → Int32} (hM : M = 1024) (hn : n ≤ 2000) (hbn : b ≤ n) (hb : b ≤ 400) (hk : k ≤ 3) (N : NX1 k n nxt nx) (L : LB n b g mem co me) (Gn : GN b k φ gn) (Bj : BJ b k β φ (fun c i => g (nxt (mem i) c))) {v0 : Int32 × (Nat → Int32) × (Nat → Int32)} {w0 : Int32 × (Nat → Int32) × (Nat → Int32)} (h0 : XQ M b (e + 1) β v0 w0) : W2 (loopN (fun v => b_X3_generate_42 (nI k) (nI b) gn (nI e) v.1 v.2.1 v.2.2.1 v.2.2.2) FU (v0.1, v0.2.1, v0.2.2, (0 : Int32))) (loopN (fun v => b_X12_monoidSize_83 (nI k) (nI b) nx co me (nI e) v.1 v.2.1 v.2.2.1 v.2.2.2) FU (w0.1, w0.2.1, w0.2.2, (0 : Int32))) (SR (fun _ _ => True) (fun o m => XQ M b (e + 1) β o m)) := by
  obtain ⟨B1, B2, B3, B4⟩ := Bj
  refine w2_up (fun c v w => v.2.2.2 = nI c ∧ w.2.2.2 = nI c ∧ XQ M b (e + 1) β (v.1, v.2.1, v.2.2.1) (w.1, w.2.1, w.2.2.1)) 0 k ⟨rfl, rfl, h0⟩ (by omega) (by omega) ?_ ?_
  · rintro c ⟨x, im, sl, y⟩ ⟨x', el, pr, y'⟩ h1 h2 ⟨hy, hy', m, F, G, e1, e2, hem, hm, I, T, E, C⟩
    simp only at hy hy' e1 e2 I T E
    subst hy hy' e1 e2
    show W2 (b_X3_generate_42 (nI k) (nI b) gn (nI e) (nI m) im sl (nI c)) (b_X12_monoidSize_83 (nI k) (nI b) nx co me (nI e) (nI m) el pr (nI c)) _
    unfold b_X3_generate_42 b_X12_monoidSize_83
    rw [if_neg (show ¬ nI k ≤ nI c by rw [pI_le_iff (by omega) (by omega)]; omega), if_neg (show ¬ nI k ≤ nI c by rw [pI_le_iff (by omega) (by omega)]; omega)]
    refine w2_l (foll_ok hb hk hm (show e < m by omega) h2 I Gn) (fun u hu => ?_)
    obtain ⟨F', hF'⟩ : ∃ F', F' = va_up F m (fun p => φ c (F e p)) := ⟨_, rfl⟩
    rw [← hF'] at hu
    have Fl : ∀ r, r < m → F' r = F r := fun r hr => by rw [hF', upN (by omega)]
    have Fm : F' m = fun p => φ c (F e p) := by rw [hF', upE rfl]
    have T' : MT M sl m b F' := HT_congr T (fun _ _ => Iff.rfl) (fun i hi => by rw [Fl i hi])
    refine w2_l (settle_ok hM hb hm hu T') (fun s hs => w2_r (prod_ok hn hbn hb hk h2 N L hm (show e < m by omega) E) (fun q hq => w2_r (newpr_ok (f := fun i => g (nxt (mem (G e i)) c)) hb hm E hq) (fun t ht => ?_)))
    have key : ∀ p, p < b → β (F' m p) = g (nxt (mem (G e (β p))) c) := fun p hp => by
      rw [Fm, C e p (by omega) hp]
      exact B4 c (F e p) h2 (I e p (by omega) hp).2
    have fm : ∀ p, p < b → F' m p < b := fun p hp => (hu m p (by omega) hp).2
    have eqv1 : ∀ r, r < m → ((∀ p, p < b → F' r p = F' m p) ↔ ∀ i, i < b → G r i = g (nxt (mem (G e i)) c)) := by
      intro r hr
      constructor
      · intro h i hi
        obtain ⟨p, hp, rfl⟩ := B3 i hi
        rw [C r p hr hp, ← key p hp, ← h p hp, Fl r hr]
      · intro h p hp
        have := h (β p) (B1 p hp)
        rw [C r p hr hp, ← key p hp] at this
        rw [Fl r hr]
        exact B2 _ _ (I r p hr hp).2 (fm p hp) this
    have I' : IM b m F u := fun e' p he' hp => by
      have := hu e' p (by omega) hp
      rw [Fl e' he'] at this
      exact this
    rcases hs with ⟨⟨r, hr, hs⟩, rfl⟩ | ⟨hno, hs⟩
    · rcases ht with ⟨rfl, _⟩ | ⟨rfl, ht⟩
      · rw [if_neg (show ¬ (1 : Int32) = 0 by decide), if_pos rfl]
        exact w2_ll ⟨pI_add, pI_add, m, F, G, rfl, rfl, hem, hm, I', T, E, C⟩
      · exact absurd ((eqv1 r hr).mp hs) (ht r hr)
    · rcases ht with ⟨rfl, r, hr, ht⟩ | ⟨rfl, ht⟩
      · exact absurd ((eqv1 r hr).mpr ht) (hno r hr)
      · rw [if_neg (show ¬ (1 : Int32) = 0 by decide)]
        rcases hs with ⟨hm4, sl', rfl, T2⟩ | ⟨hm4, hs⟩
        · rw [if_neg (show ¬ (1 : Int32) = 0 by decide), if_neg (show ¬ nI m = (400 : Int32) from fun h => by have := pI_inj (b := 400) (by omega) (by omega) h; omega)]
          refine w2_r (addpr_ok hb hm4 E hq) (fun z hz => w2_ll ⟨pI_add, pI_add, m + 1, F', va_up G m (fun i => g (nxt (mem (G e i)) c)), rfl, hz.1, by omega, by omega, hu, T2, hz.2, fun e' p he' hp => ?_⟩)
          by_cases ee : e' = m
          · rw [upE ee, ee]
            exact (key p hp).symm
          · rw [upN ee, Fl e' (by omega)]
            exact C e' p (by omega) hp
        · rw [if_pos hs, if_pos (show nI m = (400 : Int32) by rw [hm4]; rfl)]
          exact w2_rr trivial
  · rintro ⟨x, im, sl, y⟩ ⟨x', el, pr, y'⟩ ⟨hy, hy', Q⟩
    simp only at hy hy' Q
    subst hy hy'
    show W2 (b_X3_generate_42 (nI k) (nI b) gn (nI e) x im sl (nI k)) (b_X12_monoidSize_83 (nI k) (nI b) nx co me (nI e) x' el pr (nI k)) _
    unfold b_X3_generate_42 b_X12_monoidSize_83
    rw [if_pos (Int32.le_refl _), if_pos (Int32.le_refl _)]
    exact w2_rr Q
theorem gen_out {M n k b : Nat} {nxt φ : Nat → Nat → Nat} {g mem β : Nat → Nat} {nx co me gn : Nat → Int32} (hM : M = 1024) (hn : n ≤ 2000) (hbn : b ≤ n) (hb : b ≤ 400) (hk : k ≤ 3) (N : NX1 k n nxt nx) (L : LB n b g mem co me) (Gn : GN b k φ gn) (Bj : BJ b k β φ (fun c i => g (nxt (mem i) c))) {v0 : Int32 × (Nat → Int32) × (Nat → Int32)} {w0 : Int32 × (Nat → Int32) × (Nat → Int32)} (h0 : XQ M b 0 β v0 w0) : W2 (loopN (fun v => b_X3_generate_24 (nI k) (nI b) gn v.1 v.2.1 v.2.2.1 v.2.2.2) FU (v0.1, v0.2.1, v0.2.2, (0 : Int32))) (loopN (fun v => b_X12_monoidSize_73 (nI k) (nI b) nx co me v.1 v.2.1 v.2.2.1 v.2.2.2) FU (w0.1, w0.2.1, w0.2.2, (0 : Int32))) (SR (fun _ _ => True) (fun o m => o.1 = m.1)) := by
  refine w2_it (fun q v w => ∃ e, q = 400 - e ∧ v.2.2.2 = nI e ∧ w.2.2.2 = nI e ∧ XQ M b e β (v.1, v.2.1, v.2.2.1) (w.1, w.2.1, w.2.2.1)) 400 ⟨0, rfl, rfl, rfl, h0⟩ (by omega) ?_
  rintro q ⟨x, im, sl, y⟩ ⟨x', el, pr, y'⟩ ⟨e, rfl, hy, hy', m, F, G, e1, e2, hem, hm, I, T, E, C⟩
  simp only at hy hy' e1 e2 I T E
  subst hy hy' e1 e2
  show W2 (b_X3_generate_24 (nI k) (nI b) gn (nI m) im sl (nI e)) (b_X12_monoidSize_73 (nI k) (nI b) nx co me (nI m) el pr (nI e)) _
  unfold b_X3_generate_24 b_X12_monoidSize_73
  by_cases c : m ≤ e
  · rw [if_pos (show nI m ≤ nI e from (pI_le_iff (by omega) (by omega)).mpr c), if_pos (show nI m ≤ nI e from (pI_le_iff (by omega) (by omega)).mpr c)]
    by_cases c2 : (400 : Int32) ≤ nI e
    · rw [if_pos c2]
      exact w2_rr rfl
    · rw [if_neg c2]
      exact w2_rr rfl
  · rw [if_neg (show ¬ (400 : Int32) ≤ nI e from fun h => by have := (pI_le_iff (a := 400) (by omega) (by omega)).mp h; omega), if_neg (show ¬ nI m ≤ nI e by rw [pI_le_iff (by omega) (by omega)]; exact c), if_neg (show ¬ nI m ≤ nI e by rw [pI_le_iff (by omega) (by omega)]; exact c)]
    have hI := gen_in (e := e) (v0 := (nI m, im, sl)) (w0 := (nI m, el, pr)) hM hn hbn hb hk N L Gn Bj ⟨m, F, G, rfl, rfl, by omega, hm, I, T, E, C⟩
    dsimp only at hI
    refine w2_b hI (fun u w huw => ?_)
    cases u with
    | inl u =>
      cases w with
      | inl w => exact w2_rr trivial
      | inr w => exact absurd huw id
    | inr u =>
      cases w with
      | inl w => exact absurd huw id
      | inr w => exact w2_ll ⟨400 - (e + 1), by omega, e + 1, rfl, pI_add, pI_add, huw⟩
