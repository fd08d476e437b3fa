set_option linter.unusedVariables false
/-! the two tables of states -/
def hRx (x y : Int64) : Int32 := (ushL ((((x * (-7046029254386353131 : Int64)) + (y * (-4417276706812531889 : Int64))) ^^^ (ushL ((x * (-7046029254386353131 : Int64)) + (y * (-4417276706812531889 : Int64))) (29 : Int32))) * (-4658895280553007687 : Int64)) (52 : Int32)).toInt32
def hR (x y : Int64) : Nat := (hRx x y).toNatClampNeg
theorem ush52 (z : Int64) : ∃ m, m < 4096 ∧ (ushL z (52 : Int32)).toInt32 = nI m := by
  obtain ⟨n, hn, rfl⟩ := wb_of z
  refine ⟨n / 2 ^ 52, ?_, ?_⟩
  · omega
  · show (ushL (lN n) (nI 52)).toInt32 = _
    unfold ushL
    rw [wb_shr hn (by omega), lN_i]
theorem hR_ok (x y : Int64) : hRx x y = nI (hR x y) ∧ hR x y < 4096 := by
  obtain ⟨m, hm, e⟩ := ush52 ((((x * (-7046029254386353131 : Int64)) + (y * (-4417276706812531889 : Int64))) ^^^ (ushL ((x * (-7046029254386353131 : Int64)) + (y * (-4417276706812531889 : Int64))) (29 : Int32))) * (-4658895280553007687 : Int64))
  have e : hRx x y = nI m := e
  unfold hR
  rw [e, nI_clamp (by omega)]
  exact ⟨rfl, hm⟩
def hFx (x y : Int64) : Int32 := ((((x * (1000003 : Int64)) + (y * (7919 : Int64))) ^^^ (ushL x (23 : Int32))) &&& (8191 : Int64)).toInt32
def hF (x y : Int64) : Nat := (hFx x y).toNatClampNeg
theorem hF_ok (x y : Int64) : hFx x y = nI (hF x y) ∧ hF x y < 8192 := by
  obtain ⟨n, hn, e⟩ := wb_of (((x * (1000003 : Int64)) + (y * (7919 : Int64))) ^^^ (ushL x (23 : Int32)))
  have e : hFx x y = nI (n % 2 ^ 13) := by
    unfold hFx
    rw [e, show (8191 : Int64) = lN (2 ^ 13 - 1) from rfl, wb_mask hn (by omega), lN_i]
  have hm : n % 2 ^ 13 < 8192 := Nat.mod_lt _ (by decide)
  unfold hF
  rw [e, nI_clamp (by omega)]
  exact ⟨rfl, hm⟩
theorem and8191M {a M : Nat} (hM : M = 8192) (h : a < 2 ^ 31) : nI a &&& (8191 : Int32) = nI (a % M) := by
  rw [hM]
  exact pk_andN (by omega) 13 (by decide)
theorem reach_loop {low high : Nat → Int64} {x y : Int64} {sl : Nat → Int32} {n d M H0 : Nat} (hM : M = 4096) (hn : n ≤ 2000) (hH : H0 < 4096) (h1' : ∀ j, j < M → sl j = -nI 1 ∨ ∃ i, i < n ∧ True ∧ sl j = nI i) (d1 : d < M) (d2 : sl ((H0 + d) % M) = -nI 1) (d3 : ∀ d', d' < d → sl ((H0 + d') % M) ≠ -nI 1) : Wp (loopN (fun v => b_X0_reach_38 low high sl x y (nI H0) v) FU (0 : Int32)) (fun u => (u = Sum.inl (nI ((H0 + d) % M)) ∧ ∀ d', d' < d → ∀ r, r < n → sl ((H0 + d') % M) = nI r → ¬ (low r = x ∧ high r = y)) ∨ ∃ r, r < n ∧ u = Sum.inr (Sum.inl (nI r)) ∧ low r = x ∧ high r = y) := by
  refine wp_up (fun i v => v = nI i ∧ ∀ d', d' < i → ∀ r, r < n → sl ((H0 + d') % M) = nI r → ¬ (low r = x ∧ high r = y)) 0 d ⟨rfl, fun d' h => by omega⟩ (by omega) (by omega) ?_ ?_
  · rintro i v h1 h2 ⟨rfl, hv⟩
    have hm := Nat.mod_lt (H0 + i) (show 0 < M by omega)
    obtain ⟨r, hr, _, er⟩ := (h1' ((H0 + i) % M) hm).resolve_left (d3 i h2)
    have go : ¬ (low r = x ∧ high r = y) → Wp (some (Sum.inl (nI i + (1 : Int32)) : Int32 ⊕ (Int32 ⊕ Int32 ⊕ Unit))) (Sum.elim (fun v' => v' = nI (i + 1) ∧ ∀ d', d' < i + 1 → ∀ r, r < n → sl ((H0 + d') % M) = nI r → ¬ (low r = x ∧ high r = y)) (fun u => (u = Sum.inl (nI ((H0 + d) % M)) ∧ ∀ d', d' < d → ∀ r, r < n → sl ((H0 + d') % M) = nI r → ¬ (low r = x ∧ high r = y)) ∨ ∃ r, r < n ∧ u = Sum.inr (Sum.inl (nI r)) ∧ low r = x ∧ high r = y)) := by
      intro ne
      refine wp_l ⟨pI_add, fun d' hd' r' hr' er' => ?_⟩
      by_cases e2 : d' = i
      · subst e2
        rw [er] at er'
        rw [← pI_inj (by omega) (by omega) er']
        exact ne
      · exact hv d' (by omega) r' hr' er'
    show Wp (b_X0_reach_38 low high sl x y (nI H0) (nI i)) _
    unfold b_X0_reach_38
    rw [pI_add, and4095M hM (by omega), ldA_n (by omega) (by omega), er, if_pos (nI_pos' (by omega)), ldA_n (by omega) (by omega), if_neg (show ¬ (4096 : Int32) ≤ nI i by rw [pL4096, pI_le_iff (by omega) (by omega)]; omega)]
    by_cases c1 : low r = x
    · rw [if_pos ((lg_cmp_eq _ _).mpr c1), ldA_n (by omega) (by omega)]
      by_cases c2 : high r = y
      · rw [if_pos ((lg_cmp_eq _ _).mpr c2)]
        exact wp_r (Or.inr ⟨r, hr, rfl, c1, c2⟩)
      · rw [if_neg (fun h => c2 ((lg_cmp_eq _ _).mp h))]
        exact go (fun h => c2 h.2)
    · rw [if_neg (fun h => c1 ((lg_cmp_eq _ _).mp h))]
      exact go (fun h => c1 h.1)
  · rintro v ⟨rfl, hv⟩
    have hm := Nat.mod_lt (H0 + d) (show 0 < M by omega)
    show Wp (b_X0_reach_38 low high sl x y (nI H0) (nI d)) _
    unfold b_X0_reach_38
    rw [pI_add, and4095M hM (by omega), ldA_n (by omega) (by omega), d2, if_neg (show ¬ (0 : Int32) ≤ -nI 1 by decide), if_neg (show ¬ (4096 : Int32) ≤ nI d by rw [pL4096, pI_le_iff (by omega) (by omega)]; omega)]
    exact wp_r (Or.inl ⟨rfl, hv⟩)
/-- the class's table of states -/
def TC (M : Nat) (sl : Nat → Int32) (n : Nat) (low high : Nat → Int64) : Prop := HT M sl n (fun _ => True) (fun i => hR (low i) (high i))
theorem reach_ok {low high : Nat → Int64} {x y : Int64} {sl : Nat → Int32} {n M : Nat} (hM : M = 4096) (hn : n ≤ 2000) (H : TC M sl n low high) : Wp (f_X0_reach x y (nI n) low high sl) (fun o => (∃ r, r < n ∧ low r = x ∧ high r = y ∧ o = (nI r, nI n, low, high, sl)) ∨ ((∀ r, r < n → ¬ (low r = x ∧ high r = y)) ∧ ((n < 2000 ∧ ∃ sl', o = (nI n, nI (n + 1), va_up low n x, va_up high n y, sl') ∧ TC M sl' (n + 1) (va_up low n x) (va_up high n y)) ∨ (n = 2000 ∧ o.1 = -nI 1)))) := by
  obtain ⟨e1, e2⟩ := hR_ok x y
  have H2 : HT M sl n (fun _ => True) (fun i => hR (va_up low n x i) (va_up high n y i)) := HT_congr H (fun _ _ => Iff.rfl) (fun i hi => by rw [upN (by omega), upN (by omega)])
  have hh : hR (va_up low n x n) (va_up high n y n) = hR x y := by rw [upE rfl, upE rfl]
  obtain ⟨d, d1, d2, d3⟩ := HT_empty H (by omega) (hR x y)
  unfold f_X0_reach
  rw [show (ushL ((((x * (-7046029254386353131 : Int64)) + (y * (-4417276706812531889 : Int64))) ^^^ (ushL ((x * (-7046029254386353131 : Int64)) + (y * (-4417276706812531889 : Int64))) (29 : Int32))) * (-4658895280553007687 : Int64)) (52 : Int32)).toInt32 = nI (hR x y) from e1]
  refine wp_seq (reach_loop hM hn e2 H.1 d1 d2 d3) (fun u hu => ?_)
  rcases hu with ⟨rfl, hv⟩ | ⟨r, hr, rfl, c1, c2⟩
  · have hm := Nat.mod_lt (hR x y + d) (show 0 < M by omega)
    have hno : ∀ r, r < n → ¬ (low r = x ∧ high r = y) := by
      intro r hr hc
      refine HT_no (i := r) (d := d) H (by omega) hr trivial ?_ (fun d' hd' e3 => ?_)
      · show sl ((hR (low r) (high r) + d) % M) = _
        rw [hc.1, hc.2]
        exact d2
      · have e3 : sl ((hR (low r) (high r) + d') % M) = nI r := e3
        rw [hc.1, hc.2] at e3
        exact hv d' hd' r hr e3 hc
    rw [Sum.elim_inl]
    unfold f_X0_settle
    by_cases c : n = 2000
    · rw [if_neg (show ¬ nI n < (2000 : Int32) from fun h => by have := (pI_lt_iff (b := 2000) (by omega) (by omega)).mp h; omega)]
      exact wp_some (Or.inr ⟨hno, Or.inr ⟨c, rfl⟩⟩)
    · rw [if_pos (show nI n < (2000 : Int32) from (pI_lt_iff (b := 2000) (by omega) (by omega)).mpr (by omega)), stA_n (by omega) (by omega), stA_n (by omega) (by omega), stA_n (by omega) (by omega), pL1, pI_add, pI_sub (by omega), Nat.add_sub_cancel]
      refine wp_some (Or.inr ⟨hno, Or.inl ⟨by omega, _, rfl, ?_⟩⟩)
      have := HT_ins (d := d) H2 (by omega) (by omega) d1 (by show sl ((hR (va_up low n x n) (va_up high n y n) + d) % M) = _; rw [hh]; exact d2) (fun d' hd' => by show sl ((hR (va_up low n x n) (va_up high n y n) + d') % M) ≠ _; rw [hh]; exact d3 d' hd') trivial
      have this : HT M (va_up sl ((hR (va_up low n x n) (va_up high n y n) + d) % M) (nI n)) (n + 1) (fun _ => True) (fun i => hR (va_up low n x i) (va_up high n y i)) := this
      rw [hh] at this
      exact this
  · exact wp_some (Or.inl ⟨r, hr, c1, c2, rfl⟩)
/-- the reference's table: item i has the key ca i, cb i -/
def TR (M : Nat) (fd : Nat → Int32) (n : Nat) (kA kB ca cb : Nat → Int64) : Prop := HT M fd n (fun _ => True) (fun i => hF (ca i) (cb i)) ∧ ∀ j i, j < M → i < n → fd j = nI i → kA j = ca i ∧ kB j = cb i
theorem mod_s {H0 d M : Nat} : ((H0 + d) % M + 1) % M = (H0 + (d + 1)) % M := by
  rw [Nat.mod_add_mod]
  rfl
theorem slot_loop {kA kB ca cb : Nat → Int64} {x y : Int64} {fd : Nat → Int32} {n d M H0 : Nat} (hM : M = 8192) (hn : n ≤ 2000) (hH : H0 < M) (h1' : ∀ j, j < M → fd j = -nI 1 ∨ ∃ i, i < n ∧ True ∧ fd j = nI i) (hk : ∀ j i, j < M → i < n → fd j = nI i → kA j = ca i ∧ kB j = cb i) (d1 : d < M) (d2 : fd ((H0 + d) % M) = -nI 1) (d3 : ∀ d', d' < d → fd ((H0 + d') % M) ≠ -nI 1) : Wp (loopN (fun v => b_X12_slotOf_23 kA kB fd x y v) FU (nI H0)) (fun u => (u = nI ((H0 + d) % M) ∧ ∀ d', d' < d → ∀ r, r < n → fd ((H0 + d') % M) = nI r → ¬ (ca r = x ∧ cb r = y)) ∨ ∃ j r, j < M ∧ r < n ∧ u = nI j ∧ fd j = nI r ∧ ca r = x ∧ cb r = y) := by
  refine wp_up (fun i v => v = nI ((H0 + i) % M) ∧ ∀ d', d' < i → ∀ r, r < n → fd ((H0 + d') % M) = nI r → ¬ (ca r = x ∧ cb r = y)) 0 d ⟨by rw [Nat.add_zero, Nat.mod_eq_of_lt hH], fun d' h => by omega⟩ (by omega) (by omega) ?_ ?_
  · rintro i v h1 h2 ⟨rfl, hv⟩
    have hm := Nat.mod_lt (H0 + i) (show 0 < M by omega)
    obtain ⟨r, hr, _, er⟩ := (h1' ((H0 + i) % M) hm).resolve_left (d3 i h2)
    obtain ⟨k1, k2⟩ := hk _ r hm hr er
    have go : ¬ (ca r = x ∧ cb r = y) → Wp (j_X12_slotOf_57 (nI ((H0 + i) % M))) (Sum.elim (fun v' => v' = nI ((H0 + (i + 1)) % M) ∧ ∀ d', d' < i + 1 → ∀ r, r < n → fd ((H0 + d') % M) = nI r → ¬ (ca r = x ∧ cb r = y)) (fun u => (u = nI ((H0 + d) % M) ∧ ∀ d', d' < d → ∀ r, r < n → fd ((H0 + d') % M) = nI r → ¬ (ca r = x ∧ cb r = y)) ∨ ∃ j r, j < M ∧ r < n ∧ u = nI j ∧ fd j = nI r ∧ ca r = x ∧ cb r = y)) := by
      intro ne
      unfold j_X12_slotOf_57
      rw [pL1, pI_add, and8191M hM (by omega), mod_s]
      refine wp_l ⟨rfl, fun d' hd' r' hr' er' => ?_⟩
      by_cases e2 : d' = i
      · subst e2
        rw [er] at er'
        rw [← pI_inj (by omega) (by omega) er']
        exact ne
      · exact hv d' (by omega) r' hr' er'
    show Wp (b_X12_slotOf_23 kA kB fd x y (nI ((H0 + i) % M))) _
    unfold b_X12_slotOf_23
    rw [ldA_n (by omega) (by omega), er, if_neg (pI_nneg (by omega)), ldA_n (by omega) (by omega), k1]
    by_cases c1 : ca r = x
    · rw [if_pos ((lg_cmp_eq _ _).mpr c1), ldA_n (by omega) (by omega), k2]
      by_cases c2 : cb r = y
      · rw [if_pos ((lg_cmp_eq _ _).mpr c2)]
        exact wp_r (Or.inr ⟨_, r, hm, hr, rfl, er, c1, c2⟩)
      · rw [if_neg (fun h => c2 ((lg_cmp_eq _ _).mp h))]
        exact go (fun h => c2 h.2)
    · rw [if_neg (fun h => c1 ((lg_cmp_eq _ _).mp h))]
      exact go (fun h => c1 h.1)
  · rintro v ⟨rfl, hv⟩
    have hm := Nat.mod_lt (H0 + d) (show 0 < M by omega)
    show Wp (b_X12_slotOf_23 kA kB fd x y (nI ((H0 + d) % M))) _
    unfold b_X12_slotOf_23
    rw [ldA_n (by omega) (by omega), d2, if_pos (show -nI 1 < (0 : Int32) by decide)]
    exact wp_r (Or.inl ⟨rfl, hv⟩)
theorem slot_ok {kA kB ca cb : Nat → Int64} {x y : Int64} {fd : Nat → Int32} {n M : Nat} (hM : M = 8192) (hn : n ≤ 2000) (T : TR M fd n kA kB ca cb) : Wp (f_X12_slotOf x y kA kB fd) (fun u => ∃ j, j < 8192 ∧ u = nI j ∧ ((∃ r, r < n ∧ fd j = nI r ∧ ca r = x ∧ cb r = y) ∨ (fd j = -nI 1 ∧ (∀ r, r < n → ¬ (ca r = x ∧ cb r = y)) ∧ TR M (va_up fd j (nI n)) (n + 1) (va_up kA j x) (va_up kB j y) (va_up ca n x) (va_up cb n y)))) := by
  obtain ⟨H, hk⟩ := T
  obtain ⟨e1, e2⟩ := hF_ok x y
  have H2 : HT M fd n (fun _ => True) (fun i => hF (va_up ca n x i) (va_up cb n y i)) := HT_congr H (fun _ _ => Iff.rfl) (fun i hi => by rw [upN (by omega), upN (by omega)])
  have hh : hF (va_up ca n x n) (va_up cb n y n) = hF x y := by rw [upE rfl, upE rfl]
  obtain ⟨d, d1, d2, d3⟩ := HT_empty H (by omega) (hF x y)
  unfold f_X12_slotOf
  rw [show ((((x * (1000003 : Int64)) + (y * (7919 : Int64))) ^^^ (ushL x (23 : Int32))) &&& (8191 : Int64)).toInt32 = nI (hF x y) from e1]
  refine wp_seq (slot_loop hM hn (by omega) H.1 hk d1 d2 d3) (fun u hu => wp_some ?_)
  rcases hu with ⟨rfl, hv⟩ | ⟨j, r, hj, hr, rfl, er, c1, c2⟩
  · have hm := Nat.mod_lt (hF x y + d) (show 0 < M by omega)
    refine ⟨(hF x y + d) % M, by omega, rfl, Or.inr ⟨d2, fun r hr hc => ?_, ?_, fun j i hj hi e => ?_⟩⟩
    · refine HT_no (i := r) (d := d) H (by omega) hr trivial ?_ (fun d' hd' e3 => ?_)
      · show fd ((hF (ca r) (cb r) + d) % M) = _
        rw [hc.1, hc.2]
        exact d2
      · have e3 : fd ((hF (ca r) (cb r) + d') % M) = nI r := e3
        rw [hc.1, hc.2] at e3
        exact hv d' hd' r hr e3 hc
    · have := HT_ins (d := d) H2 (by omega) (by omega) d1 (by show fd ((hF (va_up ca n x n) (va_up cb n y n) + d) % M) = _; rw [hh]; exact d2) (fun d' hd' => by show fd ((hF (va_up ca n x n) (va_up cb n y n) + d') % M) ≠ _; rw [hh]; exact d3 d' hd') trivial
      have this : HT M (va_up fd ((hF (va_up ca n x n) (va_up cb n y n) + d) % M) (nI n)) (n + 1) (fun _ => True) (fun i => hF (va_up ca n x i) (va_up cb n y i)) := this
      rw [hh] at this
      exact this
    · by_cases c : j = (hF x y + d) % M
      · rw [upE c] at e
        have := pI_inj (by omega) (by omega) e
        subst this
        rw [upE c, upE c, upE rfl, upE rfl]
        exact ⟨rfl, rfl⟩
      · rw [upN c] at e
        by_cases ci : i = n
        · rcases H.1 j hj with h | ⟨i', hi', _, h⟩
          · rw [h] at e
            exact absurd e.symm (nI_ne_m1 (by omega))
          · rw [h] at e
            have := pI_inj (by omega) (by omega) e
            omega
        · rw [upN c, upN c, upN ci, upN ci]
          exact hk j i hj (by omega) e
  · exact ⟨j, by omega, rfl, Or.inl ⟨r, hr, er, c1, c2⟩⟩
theorem clear_ok {fd : Nat → Int32} {M : Nat} (hM : M = 8192) : Wp (f_X12_clearKeys fd) (fun o => ∀ j, j < M → o j = -nI 1) := by
  unfold f_X12_clearKeys
  refine wp_seq (Q := fun o => ∀ j, j < M → o j = -nI 1) (wp_fill 0 0 M (fun _ => -nI 1) (by omega) (by omega) (fun i f h1 h2 hf => ?_) (fun f hf => ?_)) (fun u hu => wp_some hu)
  · show b_X12_clearKeys_2 f (nI i) = _
    unfold b_X12_clearKeys_2
    rw [if_neg (show ¬ (8192 : Int32) ≤ nI i by rw [pL8192, pI_le_iff (by omega) (by omega)]; omega), stA_n (by omega) (by omega), pL1, pI_add, Nat.zero_add]
  · show Wp (b_X12_clearKeys_2 f (nI M)) _
    unfold b_X12_clearKeys_2
    rw [if_pos (show (8192 : Int32) ≤ nI M by rw [hM]; decide)]
    exact wp_r (fun j hj => by rw [hf, if_pos (by omega)])
theorem TR_0 {M : Nat} {fd : Nat → Int32} {kA kB ca cb : Nat → Int64} (h : ∀ j, j < M → fd j = -nI 1) : TR M fd 0 kA kB ca cb := ⟨HT_0 h, fun j i _ hi => by omega⟩
