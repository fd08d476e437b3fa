set_option linter.unusedVariables false
/-! a partition of the states, and the first one: by their marks -/
def PD (n b : Nat) (mm pl bo fi sz : Nat → Nat) (ms ps bs fs ss : Nat → Int32) : Prop :=
  (∀ i, i < n → ms i = nI (mm i) ∧ mm i < n ∧ pl (mm i) = i) ∧
  (∀ x, x < n → ps x = nI (pl x) ∧ pl x < n ∧ mm (pl x) = x ∧ bs x = nI (bo x) ∧ bo x < b) ∧
  (∀ j, j < b → fs j = nI (fi j) ∧ ss j = nI (sz j) ∧ 1 ≤ sz j ∧ fi j + sz j ≤ n) ∧
  ∀ x j, x < n → j < b → (bo x = j ↔ (fi j ≤ pl x ∧ pl x < fi j + sz j))
theorem PD_n {n b : Nat} {mm pl bo fi sz : Nat → Nat} {ms ps bs fs ss : Nat → Int32} (P : PD n b mm pl bo fi sz ms ps bs fs ss) : ncl bo n = b := by
  obtain ⟨p1, p2, p3, p4⟩ := P
  refine ncl_lab (fun s hs => (p2 s hs).2.2.2.2) (fun j hj => ?_)
  obtain ⟨_, _, q1, q2⟩ := p3 j hj
  obtain ⟨_, r1, r2⟩ := p1 (fi j) (by omega)
  exact ⟨mm (fi j), r1, (p4 _ j r1 hj).mpr (by rw [r2]; omega)⟩
theorem PD_b {n b : Nat} {mm pl bo fi sz : Nat → Nat} {ms ps bs fs ss : Nat → Int32} (P : PD n b mm pl bo fi sz ms ps bs fs ss) : b ≤ n := by
  rw [← PD_n P]
  exact ncl_le
def GP (n : Nat) (Q : Nat → Prop) (p : Nat) (mm pl bo : Nat → Nat) (ms ps bs : Nat → Int32) : Prop := (∀ i, i < p → ms i = nI (mm i) ∧ mm i < n ∧ Q (mm i) ∧ pl (mm i) = i) ∧ ∀ x, x < n → Q x → ps x = nI (pl x) ∧ pl x < p ∧ mm (pl x) = x ∧ bs x = nI (bo x)
theorem GP_add {n p t b : Nat} {Q Q' : Nat → Prop} {mm pl bo : Nat → Nat} {ms ps bs : Nat → Int32} (G : GP n Q p mm pl bo ms ps bs) (ht : t < n) (h1 : ¬ Q t) (h2 : ∀ x, Q' x ↔ (Q x ∨ x = t)) : GP n Q' (p + 1) (va_up mm p t) (va_up pl t p) (va_up bo t b) (va_up ms p (nI t)) (va_up ps t (nI p)) (va_up bs t (nI b)) := by
  obtain ⟨g1, g2⟩ := G
  refine ⟨fun i hi => ?_, fun x hx hQ => ?_⟩
  · by_cases e : i = p
    · rw [upE e, upE e, upE rfl]
      exact ⟨rfl, ht, (h2 t).mpr (Or.inr rfl), e.symm⟩
    · obtain ⟨a1, a2, a3, a4⟩ := g1 i (by omega)
      rw [upN e, upN e, upN (fun h => h1 (by rw [← h]; exact a3))]
      exact ⟨a1, a2, (h2 _).mpr (Or.inl a3), a4⟩
  · by_cases e : x = t
    · rw [upE e, upE e, upE e, upE e, upE rfl]
      exact ⟨rfl, by omega, e.symm, rfl⟩
    · have hq : Q x := by
        rcases (h2 x).mp hQ with h | h
        · exact h
        · exact absurd h e
      obtain ⟨a1, a2, a3, a4⟩ := g2 x hx hq
      rw [upN e, upN e, upN e, upN e, upN (by omega)]
      exact ⟨a1, by omega, a3, a4⟩
theorem GP_q {n p : Nat} {Q Q' : Nat → Prop} {mm pl bo : Nat → Nat} {ms ps bs : Nat → Int32} (G : GP n Q p mm pl bo ms ps bs) (h : ∀ x, Q' x ↔ Q x) : GP n Q' p mm pl bo ms ps bs := ⟨fun i hi => ⟨(G.1 i hi).1, (G.1 i hi).2.1, (h _).mpr (G.1 i hi).2.2.1, (G.1 i hi).2.2.2⟩, fun x hx hQ => G.2 x hx ((h x).mp hQ)⟩
def cm (mk : Nat → Nat) (v t : Nat) : Nat := cn (fun x _ => mk x) 0 v t
def cv (mk : Nat → Nat) (n v : Nat) : Nat := cs (fun x _ => mk x) 0 n v
theorem grp_in {n v p b : Nat} {mk mm pl bo : Nat → Nat} {mrk ms ps bs : Nat → Int32} (hn : n ≤ 2000) (hM : ∀ s, s < n → mk s < 10 ∧ mrk s = nI (mk s)) (hv : v < 10) (hp : p = cv mk n v) (G : GP n (fun x => mk x < v) p mm pl bo ms ps bs) : Wp (loopN (fun z => b_X4_groupByMark_21 (nI n) mrk (nI b) (nI v) z.1 z.2.1 z.2.2.1 z.2.2.2.1 z.2.2.2.2) FU (ms, ps, bs, nI p, (0 : Int32))) (fun u => ∃ mm' pl' bo', u.2.2.2 = nI (p + cm mk v n) ∧ GP n (fun x => mk x < v + 1) (p + cm mk v n) mm' pl' bo' u.1 u.2.1 u.2.2.1 ∧ (∀ x, x < n → mk x < v → pl' x = pl x ∧ bo' x = bo x) ∧ ∀ x, x < n → mk x = v → bo' x = b ∧ p ≤ pl' x) := by
  refine wp_up (fun t z => z.2.2.2.2 = nI t ∧ ∃ mm' pl' bo', z.2.2.2.1 = nI (p + cm mk v t) ∧ GP n (fun x => mk x < v ∨ (mk x = v ∧ x < t)) (p + cm mk v t) mm' pl' bo' z.1 z.2.1 z.2.2.1 ∧ (∀ x, x < n → mk x < v → pl' x = pl x ∧ bo' x = bo x) ∧ ∀ x, x < n → mk x = v → x < t → bo' x = b ∧ p ≤ pl' x) 0 n ⟨rfl, mm, pl, bo, rfl, GP_q G (fun x => ⟨fun h => h.elim id (fun h => by omega), fun h => Or.inl h⟩), fun _ _ _ => ⟨rfl, rfl⟩, fun x _ _ h => by omega⟩ (by omega) (by omega) ?_ ?_
  · rintro t ⟨ms, ps, bs, x2, y⟩ h1 h2 ⟨hy, mm', pl', bo', hx, G', K1, K2⟩
    simp only at hy hx G'
    subst hy hx
    obtain ⟨m1, m2⟩ := hM t h2
    show Wp (b_X4_groupByMark_21 (nI n) mrk (nI b) (nI v) ms ps bs (nI (p + cm mk v t)) (nI t)) _
    unfold b_X4_groupByMark_21
    rw [if_neg (show ¬ nI n ≤ nI t by rw [pI_le_iff (by omega) (by omega)]; omega), ldA_n (by omega) (by omega), m2]
    have cS : cm mk v (t + 1) = cm mk v t + (if mk t = v then 1 else 0) := cn_s
    by_cases e : mk t = v
    · rw [if_pos e] at cS
      have q1 : cm mk v (t + 1) ≤ cm mk v n := cntN_mon (by omega)
      have q2 : cv mk n (v + 1) = cv mk n v + cm mk v n := cs_s n
      have q3 : cv mk n (v + 1) ≤ n := cs_le
      rw [e, if_pos rfl, stA_n (by omega) (by omega), stA_n (by omega) (by omega), stA_n (by omega) (by omega)]
      refine wp_l ⟨pI_add, va_up mm' (p + cm mk v t) t, va_up pl' t (p + cm mk v t), va_up bo' t b, ?_, ?_, fun x hx hv' => ?_, fun x hx hxv hxt => ?_⟩
      · show nI (p + cm mk v t) + (1 : Int32) = _
        rw [pL1, pI_add, cS, Nat.add_assoc]
      · show GP n _ (p + cm mk v (t + 1)) _ _ _ _ _ _
        rw [cS, ← Nat.add_assoc]
        refine GP_add G' h2 (fun h => by omega) (fun x => ?_)
        show (mk x < v ∨ (mk x = v ∧ x < t + 1)) ↔ ((mk x < v ∨ (mk x = v ∧ x < t)) ∨ x = t)
        by_cases ex : x = t
        · subst ex
          exact ⟨fun _ => Or.inr rfl, fun _ => Or.inr ⟨e, by omega⟩⟩
        · constructor
          · intro h
            exact Or.inl (by omega)
          · intro h
            omega
      · rw [upN (fun h => by rw [h] at hv'; omega), upN (fun h => by rw [h] at hv'; omega)]
        exact K1 x hx hv'
      · by_cases ex : x = t
        · rw [upE ex, upE ex]
          exact ⟨rfl, by omega⟩
        · rw [upN ex, upN ex]
          exact K2 x hx hxv (by omega)
    · have cS : cm mk v (t + 1) = cm mk v t := by
        rw [cS, if_neg e]
        rfl
      rw [if_neg (show ¬ nI (mk t) = nI v from fun h => e (pI_inj (by omega) (by omega) h))]
      refine wp_l ⟨pI_add, mm', pl', bo', by rw [cS], ?_, K1, fun x hx hxv hxt => ?_⟩
      · rw [cS]
        refine GP_q G' (fun x => ?_)
        show (mk x < v ∨ (mk x = v ∧ x < t + 1)) ↔ (mk x < v ∨ (mk x = v ∧ x < t))
        by_cases ex : x = t
        · subst ex
          omega
        · omega
      · by_cases ex : x = t
        · rw [ex] at hxv
          exact absurd hxv e
        · exact K2 x hx hxv (by omega)
  · rintro ⟨ms, ps, bs, x2, y⟩ ⟨hy, mm', pl', bo', hx, G', K1, K2⟩
    simp only at hy hx G'
    subst hy hx
    show Wp (b_X4_groupByMark_21 (nI n) mrk (nI b) (nI v) ms ps bs (nI (p + cm mk v n)) (nI n)) _
    unfold b_X4_groupByMark_21
    rw [if_pos (Int32.le_refl _)]
    refine wp_r ⟨mm', pl', bo', rfl, ⟨fun i hi => ?_, fun x hx hQ => ?_⟩, K1, fun x hx hxv => K2 x hx hxv hx⟩
    · obtain ⟨a1, a2, a3, a4⟩ := G'.1 i hi
      refine ⟨a1, a2, ?_, a4⟩
      show mk (mm' i) < v + 1
      omega
    · have hQ : mk x < v + 1 := hQ
      exact G'.2 x hx (by show mk x < v ∨ (mk x = v ∧ x < n); omega)
def BR (n v p b : Nat) (mk pl bo fi sz : Nat → Nat) (fs ss ks : Nat → Int32) : Prop := (∀ j, j < b → fs j = nI (fi j) ∧ ss j = nI (sz j) ∧ ks j = nI 0 ∧ 1 ≤ sz j ∧ fi j + sz j ≤ p) ∧ (∀ x, x < n → mk x < v → bo x < b ∧ ∀ j, j < b → (bo x = j ↔ (fi j ≤ pl x ∧ pl x < fi j + sz j))) ∧ ∀ x y, x < n → y < n → mk x < v → mk y < v → (bo x = bo y ↔ mk x = mk y)
theorem group_ok {n : Nat} {mk : Nat → Nat} {mrk ms ps bs fs ss ks : Nat → Int32} {bl : Int32} (hn : n ≤ 2000) (hM : ∀ s, s < n → mk s < 10 ∧ mrk s = nI (mk s)) : Wp (f_X4_groupByMark (nI n) mrk bl ms ps bs fs ss ks) (fun u => ∃ b mm pl bo fi sz, u.1 = nI b ∧ PD n b mm pl bo fi sz u.2.1 u.2.2.1 u.2.2.2.1 u.2.2.2.2.1 u.2.2.2.2.2.1 ∧ (∀ j, j < b → u.2.2.2.2.2.2 j = nI 0) ∧ ∀ x y, x < n → y < n → (bo x = bo y ↔ mk x = mk y)) := by
  unfold f_X4_groupByMark
  refine wp_seq (Q := fun u => ∃ b mm pl bo fi sz, u.1 = nI b ∧ PD n b mm pl bo fi sz u.2.1 u.2.2.1 u.2.2.2.1 u.2.2.2.2.1 u.2.2.2.2.2.1 ∧ (∀ j, j < b → u.2.2.2.2.2.2 j = nI 0) ∧ ∀ x y, x < n → y < n → (bo x = bo y ↔ mk x = mk y)) ?_ (fun u hu => wp_some hu)
  refine wp_up (fun v z => z.2.2.2.2.2.2.2.2 = nI v ∧ ∃ b p mm pl bo fi sz, b ≤ v ∧ p = cv mk n v ∧ z.1 = nI b ∧ z.2.2.2.2.2.2.2.1 = nI p ∧ GP n (fun x => mk x < v) p mm pl bo z.2.1 z.2.2.1 z.2.2.2.1 ∧ BR n v p b mk pl bo fi sz z.2.2.2.2.1 z.2.2.2.2.2.1 z.2.2.2.2.2.2.1) 0 10 ⟨rfl, 0, 0, fun _ => 0, fun _ => 0, fun _ => 0, fun _ => 0, fun _ => 0, by omega, cs_0.symm, rfl, rfl, ⟨fun i hi => by omega, fun x _ h => by have h : mk x < 0 := h; omega⟩, fun j hj => by omega, fun x _ h => by omega, fun x y _ _ h => by omega⟩ (by omega) (by omega) ?_ ?_
  · rintro v ⟨bl, ms, ps, bs, fs, ss, ks, x2, y⟩ h1 h2 ⟨hy, b, p, mm, pl, bo, fi, sz, hb, hp, e1, e2, G, R1, R2, R3⟩
    simp only at hy e1 e2 G R1
    subst hy e1 e2
    have q2 : cv mk n (v + 1) = cv mk n v + cm mk v n := cs_s n
    have q3 : cv mk n (v + 1) ≤ n := cs_le
    show Wp (b_X4_groupByMark_9 (nI n) mrk (nI b) ms ps bs fs ss ks (nI p) (nI v)) _
    unfold b_X4_groupByMark_9
    rw [if_neg (show ¬ (10 : Int32) ≤ nI v from fun h => by have := (pI_le_iff (a := 10) (by omega) (by omega)).mp h; omega)]
    refine wp_seq (grp_in hn hM h2 hp G) (fun u hu => ?_)
    obtain ⟨mm', pl', bo', u1, G', K1, K2⟩ := hu
    rw [u1]
    by_cases c : p + cm mk v n ≤ p
    · rw [if_pos ((pI_le_iff (by omega) (by omega)).mpr c)]
      have no : ∀ x, x < n → mk x < v + 1 → mk x < v := by
        intro x hx hxv
        by_cases ex : mk x = v
        · have a1 := (G'.2 x hx hxv).2.1
          have a2 := (K2 x hx ex).2
          omega
        · omega
      refine wp_l ⟨pI_add, b, p, mm', pl', bo', fi, sz, by omega, by omega, rfl, by show nI (p + cm mk v n) = nI p; rw [show p + cm mk v n = p by omega], by rw [show p = p + cm mk v n by omega]; exact G', R1, fun x hx hxv => ?_, fun x y hx hy hxv hyv => ?_⟩
      · rw [(K1 x hx (no x hx hxv)).1, (K1 x hx (no x hx hxv)).2]
        exact R2 x hx (no x hx hxv)
      · rw [(K1 x hx (no x hx hxv)).2, (K1 y hy (no y hy hyv)).2]
        exact R3 x y hx hy (no x hx hxv) (no y hy hyv)
    · rw [if_neg (show ¬ nI (p + cm mk v n) ≤ nI p by rw [pI_le_iff (by omega) (by omega)]; exact c), pI_sub (by omega), Nat.add_sub_cancel_left]
      unfold f_X4_openBlock
      rw [stA_n (by omega) (by omega), stA_n (by omega) (by omega), stA_n (by omega) (by omega), ob_s]
      refine wp_l ⟨pI_add, b + 1, p + cm mk v n, mm', pl', bo', va_up fi b p, va_up sz b (cm mk v n), by omega, by omega, pI_add, rfl, G', fun j hj => ?_, fun x hx hxv => ?_, fun x y hx hy hxv hyv => ?_⟩
      · show va_up fs b (nI p) j = nI (va_up fi b p j) ∧ va_up ss b (nI (cm mk v n)) j = nI (va_up sz b (cm mk v n) j) ∧ va_up ks b (0 : Int32) j = nI 0 ∧ 1 ≤ va_up sz b (cm mk v n) j ∧ va_up fi b p j + va_up sz b (cm mk v n) j ≤ p + cm mk v n
        by_cases ej : j = b
        · rw [upE ej, upE ej, upE ej, upE ej, upE ej]
          exact ⟨rfl, rfl, rfl, by omega, by omega⟩
        · obtain ⟨a1, a2, a3, a4, a5⟩ := R1 j (by omega)
          rw [upN ej, upN ej, upN ej, upN ej, upN ej]
          exact ⟨a1, a2, a3, a4, by omega⟩
      · have hx' := (G'.2 x hx hxv).2.1
        by_cases ex : mk x = v
        · obtain ⟨b1, b2⟩ := K2 x hx ex
          refine ⟨by omega, fun j hj => ?_⟩
          by_cases ej : j = b
          · rw [upE ej, upE ej]
            omega
          · obtain ⟨_, _, _, _, a5⟩ := R1 j (by omega)
            rw [upN ej, upN ej]
            omega
        · obtain ⟨b1, b2⟩ := K1 x hx (by omega)
          obtain ⟨r1, r2⟩ := R2 x hx (by omega)
          rw [b1, b2]
          refine ⟨by omega, fun j hj => ?_⟩
          by_cases ej : j = b
          · rw [upE ej, upE ej]
            have := (G.2 x hx (by show mk x < v; omega)).2.1
            omega
          · rw [upN ej, upN ej]
            exact r2 j (by omega)
      · by_cases ex : mk x = v
        · by_cases ey : mk y = v
          · rw [(K2 x hx ex).1, (K2 y hy ey).1, ex, ey]
            exact ⟨fun _ => rfl, fun _ => rfl⟩
          · have := (R2 y hy (by omega)).1
            rw [(K2 x hx ex).1, (K1 y hy (by omega)).2]
            omega
        · by_cases ey : mk y = v
          · have := (R2 x hx (by omega)).1
            rw [(K2 y hy ey).1, (K1 x hx (by omega)).2]
            omega
          · rw [(K1 x hx (by omega)).2, (K1 y hy (by omega)).2]
            exact R3 x y hx hy (by omega) (by omega)
  · rintro ⟨bl, ms, ps, bs, fs, ss, ks, x2, y⟩ ⟨hy, b, p, mm, pl, bo, fi, sz, hb, hp, e1, e2, G, R1, R2, R3⟩
    simp only at hy e1 e2 G R1
    subst hy e1 e2
    have hpn : p = n := by
      rw [hp]
      exact cntN_all (fun x hx => decide_eq_true (hM x hx).1)
    subst hpn
    show Wp (b_X4_groupByMark_9 (nI p) mrk (nI b) ms ps bs fs ss ks (nI p) (nI 10)) _
    unfold b_X4_groupByMark_9
    rw [if_pos (show (10 : Int32) ≤ nI 10 by decide)]
    refine wp_r ⟨b, mm, pl, bo, fi, sz, rfl, ⟨fun i hi => ?_, fun x hx => ?_, fun j hj => ?_, fun x j hx hj => ?_⟩, fun j hj => (R1 j hj).2.2.1, fun x y hx hy => R3 x y hx hy (hM x hx).1 (hM y hy).1⟩
    · obtain ⟨a1, a2, a3, a4⟩ := G.1 i hi
      exact ⟨a1, a2, a4⟩
    · obtain ⟨a1, a2, a3, a4⟩ := G.2 x hx (hM x hx).1
      exact ⟨a1, a2, a3, a4, (R2 x hx (hM x hx).1).1⟩
    · obtain ⟨a1, a2, a3, a4, a5⟩ := R1 j hj
      exact ⟨a1, a2, a4, a5⟩
    · exact (R2 x hx (hM x hx).1).2 j hj
