set_option linter.unusedVariables false
/-! the sources of each state, by a letter -/
theorem cntN_mon {c : Nat → Bool} {a b : Nat} (h : a ≤ b) : cntN c a ≤ cntN c b := by
  induction b with
  | zero => rw [show a = 0 by omega]; exact Nat.le_refl _
  | succ b ih =>
    by_cases e : a = b + 1
    · rw [e]; exact Nat.le_refl _
    · have := ih (by omega)
      show _ ≤ cntN c b + (if c b = true then 1 else 0)
      omega
def cn (nxt : Nat → Nat → Nat) (c y t : Nat) : Nat := cntN (fun x => decide (nxt x c = y)) t
def cs (nxt : Nat → Nat → Nat) (c n y : Nat) : Nat := cntN (fun x => decide (nxt x c < y)) n
theorem cn_s {nxt : Nat → Nat → Nat} {c y t : Nat} : cn nxt c y (t + 1) = cn nxt c y t + (if nxt t c = y then 1 else 0) := by
  show cntN _ t + (if decide (nxt t c = y) = true then 1 else 0) = _
  by_cases e : nxt t c = y
  · rw [if_pos e, if_pos (decide_eq_true e)]; rfl
  · rw [if_neg e, if_neg (fun h => e (of_decide_eq_true h))]; rfl
theorem cs_s {nxt : Nat → Nat → Nat} {c y : Nat} : ∀ n, cs nxt c n (y + 1) = cs nxt c n y + cn nxt c y n
  | 0 => rfl
  | n + 1 => by
    show cs nxt c n (y + 1) + (if decide (nxt n c < y + 1) = true then 1 else 0) = cs nxt c n y + (if decide (nxt n c < y) = true then 1 else 0) + cn nxt c y (n + 1)
    rw [cn_s, cs_s n]
    by_cases e : nxt n c = y
    · rw [if_pos e, if_pos (decide_eq_true (by omega)), if_neg (fun h => by have := of_decide_eq_true h; omega)]
      omega
    · by_cases e2 : nxt n c < y
      · rw [if_neg e, if_pos (decide_eq_true (by omega)), if_pos (decide_eq_true e2)]
        omega
      · rw [if_neg e, if_neg (fun h => by have := of_decide_eq_true h; omega), if_neg (fun h => by have := of_decide_eq_true h; omega)]
        omega
theorem cs_le {nxt : Nat → Nat → Nat} {c n y : Nat} : cs nxt c n y ≤ n := cntN_le
theorem cs_mon {nxt : Nat → Nat → Nat} {c n y z : Nat} (h : y ≤ z) : cs nxt c n y ≤ cs nxt c n z := by
  induction z with
  | zero => rw [show y = 0 by omega]; exact Nat.le_refl _
  | succ z ih =>
    by_cases e : y = z + 1
    · rw [e]; exact Nat.le_refl _
    · have := ih (by omega)
      rw [cs_s]
      omega
theorem cs_0 {nxt : Nat → Nat → Nat} {c n : Nat} : cs nxt c n 0 = 0 := cntN_none (fun x _ => decide_eq_false (by omega))
theorem cn_0 {nxt : Nat → Nat → Nat} {c y : Nat} : cn nxt c y 0 = 0 := rfl
theorem gz_ok {n o : Nat} {ss : Nat → Int32} (hn : n ≤ 2000) (ho : o + 2001 ≤ 6003) : Wp (loopN (fun v => b_X4_gatherSources_22 (nI n) (nI o) v.1 v.2) FU (ss, (0 : Int32))) (fun u => ∀ j, u j = if o ≤ j ∧ j < o + n then nI 0 else ss j) := by
  refine wp_fill o 0 n (fun _ => nI 0) (by omega) (by omega) (fun i f h1 h2 hf => ?_) (fun f hf => ?_)
  · show b_X4_gatherSources_22 (nI n) (nI o) f (nI i) = _
    unfold b_X4_gatherSources_22
    rw [if_neg (show ¬ nI n ≤ nI i by rw [pI_le_iff (by omega) (by omega)]; omega), pI_add, stA_n (by omega) (by omega), pL1, pI_add]
    rfl
  · show Wp (b_X4_gatherSources_22 (nI n) (nI o) f (nI n)) _
    unfold b_X4_gatherSources_22
    rw [if_pos (Int32.le_refl _)]
    exact wp_r hf
theorem gc_ok {k n o c : Nat} {nxt : Nat → Nat → Nat} {nx ss : Nat → Int32} (hk : k ≤ 3) (hn : n ≤ 2000) (hc : c < k) (N : NX1 k n nxt nx) (ho : o + 2001 ≤ 6003) (h0 : ∀ y, y < n → ss (o + y) = nI 0) : Wp (loopN (fun v => b_X4_gatherSources_51 (nI n) nx (nI c) (nI o) v.1 v.2) FU (ss, (0 : Int32))) (fun u => (∀ y, y < n → u (o + y) = nI (cn nxt c y n)) ∧ ∀ j, j < o ∨ o + n ≤ j → u j = ss j) := by
  refine wp_up (fun t v => v.2 = nI t ∧ (∀ y, y < n → v.1 (o + y) = nI (cn nxt c y t)) ∧ ∀ j, j < o ∨ o + n ≤ j → v.1 j = ss j) 0 n ⟨rfl, h0, fun _ _ => rfl⟩ (by omega) (by omega) ?_ ?_
  · rintro t ⟨x, y⟩ h1 h2 ⟨hy, hx, hz⟩
    simp only at hy hx hz
    subst hy
    obtain ⟨n1, n2⟩ := N t c h2 hc
    show Wp (b_X4_gatherSources_51 (nI n) nx (nI c) (nI o) x (nI t)) _
    unfold b_X4_gatherSources_51
    rw [if_neg (show ¬ nI n ≤ nI t by rw [pI_le_iff (by omega) (by omega)]; omega), pL3, pI_mul, pI_add, show t * 3 + c = 3 * t + c by omega, ldA_n (by omega) (by omega), n2, pI_add, ldA_n (by omega) (by omega), hx _ n1, pL1, pI_add, stA_n (by omega) (by omega)]
    refine wp_l ⟨pI_add, fun y hy => ?_, fun j hj => ?_⟩
    · show va_up x (o + nxt t c) (nI (cn nxt c (nxt t c) t + 1)) (o + y) = _
      rw [cn_s]
      by_cases e : nxt t c = y
      · rw [upE (by omega), if_pos e, e]
      · rw [upN (by omega), if_neg e, hx y hy, Nat.add_zero]
    · show va_up x (o + nxt t c) (nI (cn nxt c (nxt t c) t + 1)) j = _
      rw [upN (by omega), hz j hj]
  · rintro ⟨x, y⟩ ⟨hy, hx, hz⟩
    simp only at hy hx hz
    subst hy
    show Wp (b_X4_gatherSources_51 (nI n) nx (nI c) (nI o) x (nI n)) _
    unfold b_X4_gatherSources_51
    rw [if_pos (Int32.le_refl _)]
    exact wp_r ⟨hx, hz⟩
theorem gp_ok {n o c Bs : Nat} {nxt : Nat → Nat → Nat} {ss : Nat → Int32} (hn : n ≤ 2000) (ho : o + 2001 ≤ 6003) (h0 : ∀ y, y < n → ss (o + y) = nI (cn nxt c y n)) : Wp (loopN (fun v => b_X4_gatherSources_92 (nI n) (nI o) v.1 v.2.1 v.2.2) FU (ss, nI Bs, (0 : Int32))) (fun u => u.2 = nI (Bs + cs nxt c n n) ∧ (∀ y, y < n → u.1 (o + y) = nI (Bs + cs nxt c n (y + 1))) ∧ ∀ j, j < o ∨ o + n ≤ j → u.1 j = ss j) := by
  refine wp_up (fun t v => v.2.2 = nI t ∧ v.2.1 = nI (Bs + cs nxt c n t) ∧ (∀ y, y < t → v.1 (o + y) = nI (Bs + cs nxt c n (y + 1))) ∧ (∀ y, t ≤ y → y < n → v.1 (o + y) = nI (cn nxt c y n)) ∧ ∀ j, j < o ∨ o + n ≤ j → v.1 j = ss j) 0 n ⟨rfl, by rw [cs_0]; rfl, fun y hy => by omega, fun y _ hy => h0 y hy, fun _ _ => rfl⟩ (by omega) (by omega) ?_ ?_
  · rintro t ⟨x, y, z⟩ h1 h2 ⟨hz, hy, k1, k2, k3⟩
    simp only at hz hy k1 k2 k3
    subst hz hy
    show Wp (b_X4_gatherSources_92 (nI n) (nI o) x (nI (Bs + cs nxt c n t)) (nI t)) _
    unfold b_X4_gatherSources_92
    rw [if_neg (show ¬ nI n ≤ nI t by rw [pI_le_iff (by omega) (by omega)]; omega), pI_add, ldA_n (by omega) (by omega), k2 t (Nat.le_refl _) h2, pI_add, stA_n (by omega) (by omega), show Bs + cs nxt c n t + cn nxt c t n = Bs + cs nxt c n (t + 1) by rw [cs_s]; omega]
    refine wp_l ⟨pI_add, rfl, fun y hy => ?_, fun y hy1 hy2 => ?_, fun j hj => ?_⟩
    · show va_up x (o + t) (nI (Bs + cs nxt c n (t + 1))) (o + y) = _
      by_cases e : y = t
      · rw [upE (by omega), e]
      · rw [upN (by omega)]
        exact k1 y (by omega)
    · show va_up x (o + t) (nI (Bs + cs nxt c n (t + 1))) (o + y) = _
      rw [upN (by omega)]
      exact k2 y (by omega) hy2
    · show va_up x (o + t) (nI (Bs + cs nxt c n (t + 1))) j = _
      rw [upN (by omega)]
      exact k3 j hj
  · rintro ⟨x, y, z⟩ ⟨hz, hy, k1, k2, k3⟩
    simp only at hz hy k1 k2 k3
    subst hz hy
    show Wp (b_X4_gatherSources_92 (nI n) (nI o) x (nI (Bs + cs nxt c n n)) (nI n)) _
    unfold b_X4_gatherSources_92
    rw [if_pos (Int32.le_refl _)]
    exact wp_r ⟨rfl, k1, k3⟩
theorem gs_ok {k n o c Bs : Nat} {nxt : Nat → Nat → Nat} {nx ss so : Nat → Int32} (hk : k ≤ 3) (hn : n ≤ 2000) (hc : c < k) (N : NX1 k n nxt nx) (ho : o + 2001 ≤ 6003) (hB : Bs + n ≤ 6000) (h0 : ∀ y, y < n → ss (o + y) = nI (Bs + cs nxt c n (y + 1))) : Wp (loopN (fun v => b_X4_gatherSources_147 (nI n) nx (nI c) (nI o) v.1 v.2.1 v.2.2) FU (ss, so, (0 : Int32))) (fun u => (∀ y, y < n → u.1 (o + y) = nI (Bs + cs nxt c n y)) ∧ (∀ j, j < o ∨ o + n ≤ j → u.1 j = ss j) ∧ (∀ i, i < Bs → u.2 i = so i) ∧ ∀ y, y < n → (∀ i, Bs + cs nxt c n y ≤ i → i < Bs + cs nxt c n (y + 1) → ∃ x, x < n ∧ u.2 i = nI x ∧ nxt x c = y) ∧ ∀ x, x < n → nxt x c = y → ∃ i, Bs + cs nxt c n y ≤ i ∧ i < Bs + cs nxt c n (y + 1) ∧ u.2 i = nI x) := by
  refine wp_up (fun t v => v.2.2 = nI t ∧ (∀ y, y < n → v.1 (o + y) = nI (Bs + cs nxt c n (y + 1) - cn nxt c y t)) ∧ (∀ j, j < o ∨ o + n ≤ j → v.1 j = ss j) ∧ (∀ i, i < Bs → v.2.1 i = so i) ∧ ∀ y, y < n → (∀ i, Bs + cs nxt c n (y + 1) - cn nxt c y t ≤ i → i < Bs + cs nxt c n (y + 1) → ∃ x, x < t ∧ v.2.1 i = nI x ∧ nxt x c = y) ∧ ∀ x, x < t → nxt x c = y → ∃ i, Bs + cs nxt c n (y + 1) - cn nxt c y t ≤ i ∧ i < Bs + cs nxt c n (y + 1) ∧ v.2.1 i = nI x) 0 n ⟨rfl, fun y hy => by rw [cn_0]; exact h0 y hy, fun _ _ => rfl, fun _ _ => rfl, fun y hy => ⟨fun i h1 h2 => by rw [cn_0] at h1; omega, fun x hx => by omega⟩⟩ (by omega) (by omega) ?_ ?_
  · rintro t ⟨x, so', z⟩ h1 h2 ⟨hz, k1, k2, k3, k4⟩
    simp only at hz k1 k2 k3 k4
    subst hz
    obtain ⟨n1, n2⟩ := N t c h2 hc
    have q1 : cn nxt c (nxt t c) (t + 1) ≤ cn nxt c (nxt t c) n := cntN_mon (by omega)
    have q2 : cn nxt c (nxt t c) (t + 1) = cn nxt c (nxt t c) t + 1 := by rw [cn_s, if_pos rfl]
    have q3 := cs_s (nxt := nxt) (c := c) (y := nxt t c) n
    have q4 := cs_le (nxt := nxt) (c := c) (n := n) (y := nxt t c + 1)
    obtain ⟨p, hp⟩ : ∃ p, p = Bs + cs nxt c n (nxt t c + 1) - cn nxt c (nxt t c) t - 1 := ⟨_, rfl⟩
    show Wp (b_X4_gatherSources_147 (nI n) nx (nI c) (nI o) x so' (nI t)) _
    unfold b_X4_gatherSources_147
    rw [if_neg (show ¬ nI n ≤ nI t by rw [pI_le_iff (by omega) (by omega)]; omega), pL3, pI_mul, pI_add, show t * 3 + c = 3 * t + c by omega, ldA_n (by omega) (by omega), n2, pI_add, ldA_n (by omega) (by omega), k1 _ n1, pL1, pI_sub (by omega), ← hp, stA_n (by omega) (by omega), ldA_n (by omega) (by omega), upE rfl, stA_n (by omega) (by omega)]
    refine wp_l ⟨pI_add, fun y hy => ?_, fun j hj => ?_, fun i hi => ?_, fun y hy => ?_⟩
    · show va_up x (o + nxt t c) (nI p) (o + y) = _
      rw [cn_s]
      by_cases e : nxt t c = y
      · rw [upE (by omega), if_pos e, hp, e, Nat.sub_sub]
      · rw [upN (by omega), if_neg e, k1 y hy]
        rfl
    · show va_up x (o + nxt t c) (nI p) j = _
      rw [upN (by omega)]
      exact k2 j hj
    · show va_up so' p (nI t) i = _
      rw [upN (by omega)]
      exact k3 i hi
    · show (∀ i, Bs + cs nxt c n (y + 1) - cn nxt c y (t + 1) ≤ i → i < Bs + cs nxt c n (y + 1) → ∃ x, x < t + 1 ∧ va_up so' p (nI t) i = nI x ∧ nxt x c = y) ∧ ∀ x, x < t + 1 → nxt x c = y → ∃ i, Bs + cs nxt c n (y + 1) - cn nxt c y (t + 1) ≤ i ∧ i < Bs + cs nxt c n (y + 1) ∧ va_up so' p (nI t) i = nI x
      obtain ⟨j1, j2⟩ := k4 y hy
      rw [cn_s]
      by_cases e : nxt t c = y
      · rw [if_pos e]
        rw [e] at hp q1 q2 q3
        refine ⟨fun i hi1 hi2 => ?_, fun x' hx' ex => ?_⟩
        · by_cases ei : i = p
          · rw [upE ei]
            exact ⟨t, by omega, rfl, e⟩
          · rw [upN ei]
            obtain ⟨x', r1, r2, r3⟩ := j1 i (by omega) hi2
            exact ⟨x', by omega, r2, r3⟩
        · by_cases et : x' = t
          · refine ⟨p, by omega, by omega, ?_⟩
            rw [upE rfl, et]
          · obtain ⟨i, r1, r2, r3⟩ := j2 x' (by omega) ex
            refine ⟨i, by omega, r2, ?_⟩
            rw [upN (by omega), r3]
      · rw [if_neg e, Nat.add_zero]
        have w1 : cn nxt c y t ≤ cn nxt c y n := cntN_mon (by omega)
        have w2 := cs_s (nxt := nxt) (c := c) (y := y) n
        have dj : ∀ i, Bs + cs nxt c n (y + 1) - cn nxt c y t ≤ i → i < Bs + cs nxt c n (y + 1) → i ≠ p := by
          intro i hi1 hi2 ei
          by_cases lt : y < nxt t c
          · have := cs_mon (nxt := nxt) (c := c) (n := n) (show y + 1 ≤ nxt t c by omega)
            omega
          · have := cs_mon (nxt := nxt) (c := c) (n := n) (show nxt t c + 1 ≤ y by omega)
            omega
        refine ⟨fun i hi1 hi2 => ?_, fun x' hx' ex => ?_⟩
        · rw [upN (dj i hi1 hi2)]
          obtain ⟨x', r1, r2, r3⟩ := j1 i hi1 hi2
          exact ⟨x', by omega, r2, r3⟩
        · obtain ⟨i, r1, r2, r3⟩ := j2 x' (by
            by_cases et : x' = t
            · rw [et] at ex
              exact absurd ex e
            · omega) ex
          refine ⟨i, r1, r2, ?_⟩
          rw [upN (dj i r1 r2), r3]
  · rintro ⟨x, so', z⟩ ⟨hz, k1, k2, k3, k4⟩
    simp only at hz k1 k2 k3 k4
    subst hz
    have sb : ∀ y, Bs + cs nxt c n (y + 1) - cn nxt c y n = Bs + cs nxt c n y := fun y => by
      rw [cs_s]
      omega
    show Wp (b_X4_gatherSources_147 (nI n) nx (nI c) (nI o) x so' (nI n)) _
    unfold b_X4_gatherSources_147
    rw [if_pos (Int32.le_refl _)]
    refine wp_r ⟨fun y hy => ?_, k2, k3, fun y hy => ?_⟩
    · show x (o + y) = _
      rw [k1 y hy, sb y]
    · have := k4 y hy
      rw [sb y] at this
      exact this
/-- the states that letter c takes to y lie between two starts -/
def GSP (n : Nat) (nxt : Nat → Nat → Nat) (c Bd : Nat) (ss so : Nat → Int32) : Prop := ∀ y, y < n → ∃ lo hi, ss (2001 * c + y) = nI lo ∧ ss (2001 * c + (y + 1)) = nI hi ∧ lo ≤ hi ∧ hi ≤ Bd ∧ (∀ i, lo ≤ i → i < hi → ∃ x, x < n ∧ so i = nI x ∧ nxt x c = y) ∧ ∀ x, x < n → nxt x c = y → ∃ i, lo ≤ i ∧ i < hi ∧ so i = nI x
theorem GSP_fr {n c Bd Bd' : Nat} {nxt : Nat → Nat → Nat} {ss so ss' so' : Nat → Int32} (h : GSP n nxt c Bd ss so) (hB : Bd ≤ Bd') (e1 : ∀ y, y ≤ n → ss' (2001 * c + y) = ss (2001 * c + y)) (e2 : ∀ i, i < Bd → so' i = so i) : GSP n nxt c Bd' ss' so' := by
  intro y hy
  obtain ⟨lo, hi, h1, h2, h3, h4, h5, h6⟩ := h y hy
  refine ⟨lo, hi, (e1 y (by omega)).trans h1, (e1 (y + 1) (by omega)).trans h2, h3, by omega, fun i i1 i2 => ?_, fun x x1 x2 => ?_⟩
  · rw [e2 i (by omega)]
    exact h5 i i1 i2
  · obtain ⟨i, i1, i2, i3⟩ := h6 x x1 x2
    exact ⟨i, i1, i2, by rw [e2 i (by omega)]; exact i3⟩
theorem gather_ok {k n : Nat} {nxt : Nat → Nat → Nat} {nx ss so : Nat → Int32} (hk : k ≤ 3) (hn : n ≤ 2000) (N : NX1 k n nxt nx) : Wp (f_X4_gatherSources (nI k) (nI n) nx ss so) (fun u => ∀ c, c < k → GSP n nxt c 6000 u.1 u.2) := by
  unfold f_X4_gatherSources
  refine wp_seq (Q := fun u => ∀ c, c < k → GSP n nxt c 6000 u.1 u.2) ?_ (fun u hu => wp_some hu)
  refine wp_up (fun c v => v.2.2.2 = nI c ∧ ∃ Bs, Bs ≤ c * 2000 ∧ v.2.2.1 = nI Bs ∧ ∀ d, d < c → GSP n nxt d Bs v.1 v.2.1) 0 k ⟨rfl, 0, by omega, rfl, fun d hd => by omega⟩ (by omega) (by omega) ?_ ?_
  · rintro c ⟨ss, so, x, y⟩ h1 h2 ⟨hy, Bs, hB, hx, G⟩
    simp only at hy hx G
    subst hy hx
    show Wp (b_X4_gatherSources_4 (nI k) (nI n) nx ss so (nI Bs) (nI c)) _
    unfold b_X4_gatherSources_4
    rw [if_neg (show ¬ nI k ≤ nI c by rw [pI_le_iff (by omega) (by omega)]; omega), pL2001, pI_mul, show c * 2001 = 2001 * c by omega]
    refine wp_seq (gz_ok hn (by omega)) (fun u hu => ?_)
    refine wp_seq (gc_ok hk hn h2 N (by omega) (fun y hy => by rw [hu, if_pos (by omega)])) (fun v hv => ?_)
    refine wp_seq (gp_ok (Bs := Bs) hn (by omega) hv.1) (fun w hw => ?_)
    obtain ⟨w1, w2, w3⟩ := hw
    have cl := cs_le (nxt := nxt) (c := c) (n := n) (y := n)
    rw [w1, pI_add, stA_n (by omega) (by omega)]
    refine wp_seq (gs_ok (Bs := Bs) hk hn h2 N (by omega) (by omega) (fun y hy => by rw [upN (by omega)]; exact w2 y hy)) (fun z hz => ?_)
    obtain ⟨z1, z2, z3, z4⟩ := hz
    have fr : ∀ j, j < 2001 * c ∨ 2001 * c + n < j → z.1 j = ss j := by
      intro j hj
      rw [z2 j (by omega), upN (by omega), w3 j (by omega), hv.2 j (by omega), hu j, if_neg (by omega)]
    refine wp_l ⟨pI_add, Bs + cs nxt c n n, by omega, rfl, fun d hd => ?_⟩
    by_cases e : d = c
    · subst e
      intro y hy
      obtain ⟨r1, r2⟩ := z4 y hy
      refine ⟨Bs + cs nxt d n y, Bs + cs nxt d n (y + 1), z1 y hy, ?_, by have := cs_mon (nxt := nxt) (c := d) (n := n) (show y ≤ y + 1 by omega); omega, by have := cs_mon (nxt := nxt) (c := d) (n := n) (show y + 1 ≤ n by omega); omega, r1, r2⟩
      by_cases ey : y + 1 = n
      · show z.1 (2001 * d + (y + 1)) = _
        rw [ey, z2 _ (by omega), upE rfl]
      · exact z1 (y + 1) (by omega)
    · exact GSP_fr (G d (by omega)) (by omega) (fun y hy => fr _ (by omega)) z3
  · rintro ⟨ss, so, x, y⟩ ⟨hy, Bs, hB, hx, G⟩
    simp only at hy hx G
    subst hy hx
    show Wp (b_X4_gatherSources_4 (nI k) (nI n) nx ss so (nI Bs) (nI k)) _
    unfold b_X4_gatherSources_4
    rw [if_pos (Int32.le_refl _)]
    exact wp_r (fun c hc => GSP_fr (G c hc) (by omega) (fun _ _ => rfl) (fun _ _ => rfl))
