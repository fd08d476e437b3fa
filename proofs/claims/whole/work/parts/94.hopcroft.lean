set_option linter.unusedVariables false
/-! the class's partition: its blocks are the classes of equivalent states -/
def PS (n b : Nat) (bo : Nat → Nat) (bl tx : Int32) (ms ps bs fs ss ks : Nat → Int32) : Prop := ∃ mm pl fi sz, bl = nI b ∧ tx = 0 ∧ PD n b mm pl bo fi sz ms ps bs fs ss ∧ ∀ j, j < b → ks j = nI 0
theorem let_ok {n b c L : Nat} {nxt : Nat → Nat → Nat} {bo sp : Nat → Nat} {bl tx : Int32} {ms ps bs fs ss ks ts st so spl : Nat → Int32} {k : Nat} (hn : n ≤ 2000) (hc : c < 3) (hck : c < k) (hk : k ≤ 3) (hL : L ≤ n) (hS : ∀ i, i < L → spl i = nI (sp i) ∧ sp i < n) (G : GSP n nxt c 6000 st so) (P : PS n b bo bl tx ms ps bs fs ss ks) : Wp (b_X4_refine_56 (nI k) spl st so (nI L) bl tx ms ps bs fs ss ks ts (nI c)) (Sum.elim (fun v => v.2.2.2.2.2.2.2.2.2 = nI (c + 1) ∧ ∃ b' bo', PS n b' bo' v.1 v.2.1 v.2.2.1 v.2.2.2.1 v.2.2.2.2.1 v.2.2.2.2.2.1 v.2.2.2.2.2.2.1 v.2.2.2.2.2.2.2.1 ∧ b ≤ b' ∧ (∀ x, x < n → bo' x = bo x ∨ b ≤ bo' x) ∧ ∀ x y, x < n → y < n → (bo' x = bo' y ↔ (bo x = bo y ∧ ((∃ i, i < L ∧ nxt x c = sp i) ↔ ∃ i, i < L ∧ nxt y c = sp i)))) (fun _ => False)) := by
  obtain ⟨mm, pl, fi, sz, rfl, rfl, D, hk0⟩ := P
  have D0 := D
  obtain ⟨p1, p2, p3, p4⟩ := D
  have K : MK n b bo fi sz bs fs ss (fun _ => False) (0 : Int32) ms ps ks ts := by
    refine ⟨0, mm, pl, fun _ => 0, fun _ => 0, rfl, D0, fun j hj => ⟨hk0 j hj, Nat.zero_le _⟩, fun x hx => ?_, ?_, fun i hi => by omega, fun i j hi => by omega, fun j hj h => absurd h (Nat.lt_irrefl 0)⟩
    · have := (p4 x (bo x) hx (p2 x hx).2.2.2.2).mp rfl
      constructor
      · intro h
        exact h.elim
      · intro h
        have h : pl x < fi (bo x) + 0 := h
        omega
    · exact (cntN_none (fun j _ => decide_eq_false (Nat.lt_irrefl 0))).symm
  unfold b_X4_refine_56
  rw [if_neg (show ¬ nI k ≤ nI c by rw [pI_le_iff (by omega) (by omega)]; omega)]
  refine wp_seq (mall_ok hn hc hL hS G K) (fun u hu => ?_)
  obtain ⟨tc, mm', pl', md, to, u1, D', M'⟩ := hu
  rw [u1]
  refine wp_seq (spt_ok hn D' M') (fun v hv => ?_)
  obtain ⟨b', bo', fi', sz', v1, v2, v3, v4, v5, v6, v7⟩ := hv
  exact wp_l ⟨pI_add, b', bo', ⟨mm', pl', fi', sz', v1, v2, v3, v4⟩, v5, v6, v7⟩
theorem lets_ok {n b L k : Nat} {nxt : Nat → Nat → Nat} {bo sp : Nat → Nat} {bl tx : Int32} {ms ps bs fs ss ks ts st so spl : Nat → Int32} (hn : n ≤ 2000) (hk : k ≤ 3) (hL : L ≤ n) (hS : ∀ i, i < L → spl i = nI (sp i) ∧ sp i < n) (G : ∀ c, c < k → GSP n nxt c 6000 st so) (P : PS n b bo bl tx ms ps bs fs ss ks) : Wp (loopN (fun v => b_X4_refine_56 (nI k) spl st so (nI L) v.1 v.2.1 v.2.2.1 v.2.2.2.1 v.2.2.2.2.1 v.2.2.2.2.2.1 v.2.2.2.2.2.2.1 v.2.2.2.2.2.2.2.1 v.2.2.2.2.2.2.2.2.1 v.2.2.2.2.2.2.2.2.2) FU (bl, tx, ms, ps, bs, fs, ss, ks, ts, (0 : Int32))) (fun u => ∃ b' bo', PS n b' bo' u.1 u.2.1 u.2.2.1 u.2.2.2.1 u.2.2.2.2.1 u.2.2.2.2.2.1 u.2.2.2.2.2.2.1 u.2.2.2.2.2.2.2.1 ∧ b ≤ b' ∧ (∀ x, x < n → bo' x = bo x ∨ b ≤ bo' x) ∧ ∀ x y, x < n → y < n → (bo' x = bo' y ↔ (bo x = bo y ∧ ∀ c, c < k → ((∃ i, i < L ∧ nxt x c = sp i) ↔ ∃ i, i < L ∧ nxt y c = sp i)))) := by
  refine wp_up (fun c u => u.2.2.2.2.2.2.2.2.2 = nI c ∧ ∃ b' bo', PS n b' bo' u.1 u.2.1 u.2.2.1 u.2.2.2.1 u.2.2.2.2.1 u.2.2.2.2.2.1 u.2.2.2.2.2.2.1 u.2.2.2.2.2.2.2.1 ∧ b ≤ b' ∧ (∀ x, x < n → bo' x = bo x ∨ b ≤ bo' x) ∧ ∀ x y, x < n → y < n → (bo' x = bo' y ↔ (bo x = bo y ∧ ∀ c', c' < c → ((∃ i, i < L ∧ nxt x c' = sp i) ↔ ∃ i, i < L ∧ nxt y c' = sp i)))) 0 k ⟨rfl, b, bo, P, Nat.le_refl _, fun _ _ => Or.inl rfl, fun x y hx hy => ⟨fun h => ⟨h, fun c' h => by omega⟩, fun h => h.1⟩⟩ (by omega) (by omega) ?_ ?_
  · rintro c ⟨bl, tx, ms, ps, bs, fs, ss, ks, ts, z⟩ h1 h2 ⟨hz, b', bo', P', q1, q2, q3⟩
    simp only at hz P'
    subst hz
    obtain ⟨o, eo, ho⟩ := let_ok (ts := ts) hn (by omega) h2 hk hL hS (G c h2) P'
    refine ⟨o, eo, ?_⟩
    cases o with
    | inr o => exact ho.elim
    | inl o =>
      obtain ⟨e, b2, bo2, P2, r1, r2, r3⟩ := ho
      refine ⟨e, b2, bo2, P2, by omega, fun x hx => ?_, fun x y hx hy => ?_⟩
      · rcases r2 x hx with h | h
        · rw [h]
          exact q2 x hx
        · exact Or.inr (by omega)
      · refine (r3 x y hx hy).trans ?_
        rw [q3 x y hx hy]
        constructor
        · rintro ⟨⟨a1, a2⟩, a3⟩
          refine ⟨a1, fun c' hc' => ?_⟩
          by_cases e : c' = c
          · rw [e]
            exact a3
          · exact a2 c' (by omega)
        · rintro ⟨a1, a2⟩
          exact ⟨⟨a1, fun c' hc' => a2 c' (by omega)⟩, a2 c (by omega)⟩
  · rintro ⟨bl, tx, ms, ps, bs, fs, ss, ks, ts, z⟩ ⟨hz, R⟩
    simp only at hz R
    subst hz
    show Wp (b_X4_refine_56 (nI k) spl st so (nI L) bl tx ms ps bs fs ss ks ts (nI k)) _
    unfold b_X4_refine_56
    rw [if_pos (Int32.le_refl _)]
    exact wp_r R
/-- what holds before splitter j -/
def HI (n k : Nat) (nxt : Nat → Nat → Nat) (mk : Nat → Nat) (j : Nat) (bo : Nat → Nat) : Prop := (∃ S : Nat → Nat → Prop, (∀ i, i < j → ∀ x y, x < n → y < n → bo x = bo y → ∀ c, c < k → (S i (nxt x c) ↔ S i (nxt y c))) ∧ (∀ x, x < n → bo x < j → S (bo x) x) ∧ ∀ i, i < j → ∀ x, x < n → S i x → i ≤ bo x) ∧ (∀ x y, x < n → y < n → bo x = bo y → mk x = mk y) ∧ ∀ x y, x < n → y < n → eqv n k nxt mk x y → bo x = bo y
theorem HI_s {n k j b : Nat} {nxt : Nat → Nat → Nat} {mk bo bo' : Nat → Nat} (hN : ∀ s c, s < n → c < k → nxt s c < n) (H : HI n k nxt mk j bo) (hj : j < b) (hb : ∀ x, x < n → bo x < b) (h1 : ∀ x, x < n → bo' x = bo x ∨ b ≤ bo' x) (h2 : ∀ x y, x < n → y < n → (bo' x = bo' y ↔ (bo x = bo y ∧ ∀ c, c < k → (bo (nxt x c) = j ↔ bo (nxt y c) = j)))) : HI n k nxt mk (j + 1) bo' := by
  obtain ⟨⟨S, s1, s2, s3⟩, s4, s5⟩ := H
  refine ⟨⟨fun i => if i = j then (fun z => bo z = j) else S i, fun i hi x y hx hy e c hc => ?_, fun x hx hxj => ?_, fun i hi x hx hS => ?_⟩, fun x y hx hy e => s4 x y hx hy ((h2 x y hx hy).mp e).1, fun x y hx hy e => ?_⟩
  · show (if i = j then (fun z => bo z = j) else S i) (nxt x c) ↔ (if i = j then (fun z => bo z = j) else S i) (nxt y c)
    obtain ⟨a1, a2⟩ := (h2 x y hx hy).mp e
    by_cases ei : i = j
    · rw [if_pos ei]
      exact a2 c hc
    · rw [if_neg ei]
      exact s1 i (by omega) x y hx hy a1 c hc
  · show (if bo' x = j then (fun z => bo z = j) else S (bo' x)) x
    have e : bo' x = bo x := by
      rcases h1 x hx with h | h
      · exact h
      · omega
    rw [e]
    by_cases ei : bo x = j
    · rw [if_pos ei]
      exact ei
    · rw [if_neg ei]
      exact s2 x hx (by omega)
  · have hS : (if i = j then (fun z => bo z = j) else S i) x := hS
    have le : bo x ≤ bo' x := by
      have := hb x hx
      rcases h1 x hx with h | h
      · omega
      · omega
    by_cases ei : i = j
    · rw [if_pos ei] at hS
      have hS : bo x = j := hS
      omega
    · rw [if_neg ei] at hS
      have := s3 i (by omega) x hx hS
      omega
  · refine (h2 x y hx hy).mpr ⟨s5 x y hx hy e, fun c hc => ?_⟩
    rw [s5 _ _ (hN x c hx hc) (hN y c hy hc) (eqv_d e hx hy hc)]
theorem HI_e {n k b : Nat} {nxt : Nat → Nat → Nat} {mk bo : Nat → Nat} (hN : ∀ s c, s < n → c < k → nxt s c < n) (H : HI n k nxt mk b bo) (hb : ∀ x, x < n → bo x < b) {x y : Nat} (hx : x < n) (hy : y < n) : bo x = bo y ↔ eqv n k nxt mk x y := by
  obtain ⟨⟨S, s1, s2, s3⟩, s4, s5⟩ := H
  refine ⟨fun e => eqv_lab (f := bo) (fun s t hs ht e => ⟨s4 s t hs ht e, fun c hc => ?_⟩) hx hy e, s5 x y hx hy⟩
  have key : ∀ s t, s < n → t < n → bo s = bo t → bo (nxt t c) ≤ bo (nxt s c) := by
    intro s t hs ht e
    have a := hN s c hs hc
    have d := hN t c ht hc
    have q := hb _ d
    exact s3 _ q _ a ((s1 _ q s t hs ht e c hc).mpr (s2 _ d q))
  have := key s t hs ht e
  have := key t s ht hs e.symm
  omega
theorem hop_ok {n k : Nat} {nxt : Nat → Nat → Nat} {mk : Nat → Nat} {nx mrk ms ps bs fs ss ks ts sp st so : Nat → Int32} {bl : Int32} (hk : k ≤ 3) (hn : n ≤ 2000) (N : NX1 k n nxt nx) (hM : ∀ s, s < n → mk s < 10 ∧ mrk s = nI (mk s)) : Wp (f_X4_refine (nI k) (nI n) nx mrk bl (0 : Int32) ms ps bs fs ss ks ts sp st so) (fun u => ∃ b mm pl bo fi sz, u.1 = nI b ∧ u.2.1 = 0 ∧ PD n b mm pl bo fi sz u.2.2.1 u.2.2.2.1 u.2.2.2.2.1 u.2.2.2.2.2.1 u.2.2.2.2.2.2.1 ∧ ∀ x y, x < n → y < n → (bo x = bo y ↔ eqv n k nxt mk x y)) := by
  have hN : ∀ s c, s < n → c < k → nxt s c < n := fun s c hs hc => (N s c hs hc).1
  unfold f_X4_refine
  refine wp_seq (group_ok hn hM) (fun g hg => wp_seq (gather_ok hk hn N) (fun h hG => ?_))
  obtain ⟨b0, mm0, pl0, bo0, fi0, sz0, g1, D0, g2, g3⟩ := hg
  refine wp_seq (Q := fun u => ∃ b mm pl bo fi sz, u.1 = nI b ∧ u.2.1 = 0 ∧ PD n b mm pl bo fi sz u.2.2.1 u.2.2.2.1 u.2.2.2.2.1 u.2.2.2.2.2.1 u.2.2.2.2.2.2.1 ∧ ∀ x y, x < n → y < n → (bo x = bo y ↔ eqv n k nxt mk x y)) ?_ (fun u hu => wp_some hu)
  refine wp_it (fun q v => ∃ j b bo, q = 2000 - j ∧ j ≤ b ∧ v.2.2.2.2.2.2.2.2.2.2 = nI j ∧ PS n b bo v.1 v.2.1 v.2.2.1 v.2.2.2.1 v.2.2.2.2.1 v.2.2.2.2.2.1 v.2.2.2.2.2.2.1 v.2.2.2.2.2.2.2.1 ∧ HI n k nxt mk j bo) 2000 ⟨0, b0, bo0, rfl, by omega, rfl, ⟨mm0, pl0, fi0, sz0, g1, rfl, D0, g2⟩, ⟨fun _ _ => False, fun i hi => by omega, fun x hx h => by omega, fun i hi => by omega⟩, fun x y hx hy => (g3 x y hx hy).mp, fun x y hx hy e => (g3 x y hx hy).mpr (eqv_m e hx hy)⟩ (by omega) ?_
  rintro q ⟨bl, tx, ms, ps, bs, fs, ss, ks, ts, sp, z⟩ ⟨j, b, bo, rfl, hjb, hz, P, H⟩
  simp only at hz P
  subst hz
  have P0 := P
  obtain ⟨mm, pl, fi, sz, e1, e2, D, hks⟩ := P
  have hbn := PD_b D
  have D1 := D
  obtain ⟨p1, p2, p3, p4⟩ := D
  have hbo : ∀ x, x < n → bo x < b := fun x hx => (p2 x hx).2.2.2.2
  show Wp (b_X4_refine_12 (nI k) h.1 h.2 bl tx ms ps bs fs ss ks ts sp (nI j)) _
  unfold b_X4_refine_12
  by_cases c : j = b
  · have fin : ∃ b mm pl bo fi sz, bl = nI b ∧ tx = 0 ∧ PD n b mm pl bo fi sz ms ps bs fs ss ∧ ∀ x y, x < n → y < n → (bo x = bo y ↔ eqv n k nxt mk x y) := ⟨b, mm, pl, bo, fi, sz, e1, e2, D1, fun x y hx hy => HI_e hN (c ▸ H) hbo hx hy⟩
    by_cases c2 : (2000 : Int32) ≤ nI j
    · rw [if_pos c2]
      exact wp_r fin
    · rw [if_neg c2, e1, if_pos (by rw [c]; exact Int32.le_refl _)]
      rw [e1] at fin
      exact wp_r fin
  · obtain ⟨f1, f2, f3, f4⟩ := p3 j (by omega)
    rw [if_neg (show ¬ (2000 : Int32) ≤ nI j from fun h => by have := (pI_le_iff (a := 2000) (by omega) (by omega)).mp h; omega), e1, if_neg (show ¬ nI b ≤ nI j by rw [pI_le_iff (by omega) (by omega)]; omega), ldA_n (by omega) (by omega), f2, ldA_n (by omega) (by omega), f1, show cpA ms sp 2000 2000 (nI (fi j)) (0 : Int32) (nI (sz j)) _ = _ from cpA_n (b := 0) (by omega) (by omega) (by omega) (by omega)]
    rw [e1] at P0
    refine wp_seq (lets_ok (sp := fun i => mm (fi j + i)) (L := sz j) hn hk (by omega) (fun i hi => ?_) hG P0) (fun u hu => ?_)
    · obtain ⟨a1, a2, _⟩ := p1 (fi j + i) (by omega)
      refine ⟨?_, a2⟩
      unfold va_cpy
      rw [if_pos (by omega), show fi j + (i - 0) = fi j + i by omega]
      exact a1
    · obtain ⟨b', bo', P', r1, r2, r3⟩ := hu
      have hS : ∀ x, x < n → ((∃ i, i < sz j ∧ x = mm (fi j + i)) ↔ bo x = j) := by
        intro x hx
        have a := p4 x j hx (by omega)
        constructor
        · rintro ⟨i, i1, i2⟩
          refine a.mpr ?_
          rw [i2, (p1 (fi j + i) (by omega)).2.2]
          omega
        · intro e
          have := a.mp e
          exact ⟨pl x - fi j, by omega, by rw [show fi j + (pl x - fi j) = pl x by omega, (p2 x hx).2.2.1]⟩
      refine wp_l ⟨2000 - (j + 1), by omega, j + 1, b', bo', rfl, by omega, pI_add, P', HI_s hN H (by omega) hbo r2 (fun x y hx hy => ?_)⟩
      refine (r3 x y hx hy).trans ?_
      constructor
      · rintro ⟨a1, a2⟩
        refine ⟨a1, fun c hc => ?_⟩
        rw [← hS _ (hN x c hx hc), ← hS _ (hN y c hy hc)]
        exact a2 c hc
      · rintro ⟨a1, a2⟩
        refine ⟨a1, fun c hc => ?_⟩
        rw [hS _ (hN x c hx hc), hS _ (hN y c hy hc)]
        exact a2 c hc
