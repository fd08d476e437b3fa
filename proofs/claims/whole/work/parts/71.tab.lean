set_option linter.unusedVariables false
/-! truth tables -/
theorem bt_1 : ∀ i, i < 32 → bt (nI 1) i = decide (i = 0) := by decide +kernel
theorem bt_sh1 : ∀ n, n < 32 → ∀ s, s < 32 → bt ((1 : Int32) <<< (nI n &&& 31)) s = decide (s = n) := by decide +kernel
theorem bt_z : ∀ s, s < 32 → bt (nI 0) s = false := by decide +kernel
theorem bit_u {x : Int32} {s : Nat} (hs : s < 32) : ushI x (nI s) &&& (1 : Int32) = nI (if bt x s = true then 1 else 0) := by
  apply b_ext
  intro i hi
  rw [b_and]
  unfold ushI
  rw [b_ushr s hs, show bt (1 : Int32) i = bt (nI 1) i from rfl, bt_1 i hi]
  by_cases c : i = 0
  · subst c
    rw [Nat.add_zero, decide_eq_true rfl, Bool.and_true]
    by_cases e : bt x s = true
    · rw [if_pos e, e, bt_1 0 hi]; rfl
    · rw [if_neg e, Bool.eq_false_iff.mpr e, bt_z 0 hi]
  · rw [decide_eq_false c, Bool.and_false]
    by_cases e : bt x s = true
    · rw [if_pos e, bt_1 i hi, decide_eq_false c]
    · rw [if_neg e, bt_z i hi]
theorem bit_s {x : Int32} {s : Nat} (hs : s < 32) : (x >>> (nI s &&& 31)) &&& (1 : Int32) = nI (if bt x s = true then 1 else 0) := by
  apply b_ext
  intro i hi
  rw [b_and, b_sshr s hs _ hi, show bt (1 : Int32) i = bt (nI 1) i from rfl, bt_1 i hi]
  by_cases c : i = 0
  · subst c
    rw [Nat.add_zero, if_pos hs, decide_eq_true rfl, Bool.and_true]
    by_cases e : bt x s = true
    · rw [if_pos e, e, bt_1 0 hi]; rfl
    · rw [if_neg e, Bool.eq_false_iff.mpr e, bt_z 0 hi]
  · rw [decide_eq_false c, Bool.and_false]
    by_cases e : bt x s = true
    · rw [if_pos e, bt_1 i hi, decide_eq_false c]
    · rw [if_neg e, bt_z i hi]
theorem acc_ok {t : Int32} {s : Nat} (hs : s < 32) : f_X2_accepts (nI s) t = some (nI (if bt t s = true then 1 else 0)) := by
  unfold f_X2_accepts
  rw [bit_u hs]
  by_cases e : bt t s = true
  · rw [if_pos e, if_pos (show nI 1 = (1 : Int32) from rfl)]; rfl
  · rw [if_neg e, if_neg (show ¬ nI 0 = (1 : Int32) by decide)]; rfl
theorem sh_pow : ∀ m, m < 5 → (1 : Int32) <<< (nI m &&& 31) = nI (2 ^ m) := by decide +kernel
theorem cases_ok {m : Nat} (h : m < 5) : f_X2_cases (nI m) = some (nI (2 ^ m)) := by
  unfold f_X2_cases
  rw [sh_pow m h]
theorem jt_idx : ∀ m, m < 4 → ∀ i, i < 8 → ∀ j, j < 8 → i < 2 ^ m → i + j * 2 ^ m < 16 → ((nI i ||| (nI j <<< (nI m &&& 31))) &&& 31) = nI (i + j * 2 ^ m) &&& 31 := by decide +kernel
theorem jt_lo : ∀ m, m < 4 → ∀ t, t < 16 → ((nI t &&& (((1 : Int32) <<< (nI m &&& 31)) - (1 : Int32))) &&& 31) = nI (t % 2 ^ m) &&& 31 := by decide +kernel
theorem jt_hi : ∀ m, m < 4 → ∀ t, t < 16 → ((nI t >>> (nI m &&& 31)) &&& 31) = nI (t / 2 ^ m) &&& 31 := by decide +kernel
def opB (u a b : Bool) : Bool := if u = true then a || b else a && b
theorem jt_body {u : Bool} {m1 m2 i j : Nat} {t1 t2 x : Int32} (h1 : m1 < 4) (h2 : m2 < 4) (hi : i < 8) (hj : j < 2 ^ m2) (hi2 : i < 2 ^ m1) (hij : i + j * 2 ^ m1 < 16) (hj8 : j < 8) : b_X2_joinedTable_17 (nI m1) t1 (nI m2) t2 (nI (if u = true then 3 else 2)) (nI i) x (nI j) = some (.inl (if opB u (bt t1 i) (bt t2 j) = true then x ||| ((1 : Int32) <<< (nI (i + j * 2 ^ m1) &&& 31)) else x, nI (j + 1))) := by
  have hp : 2 ^ m2 ≤ 2 ^ 3 := Nat.pow_le_pow_right (by omega) (by omega)
  have hp : 2 ^ m2 ≤ 8 := hp
  unfold b_X2_joinedTable_17 j_X2_joinedTable_48 j_X2_joinedTable_49 j_X2_joinedTable_69 j_X2_joinedTable_74 j_X2_joinedTable_94
  rw [cases_ok (by omega), acc_ok (s := i) (by omega), acc_ok (s := j) (by omega), jt_idx m1 h1 i hi j hj8 hi2 hij, ob_s, if_neg (show ¬ nI (2 ^ m2) ≤ nI j by rw [pI_le_iff (by omega) (by omega)]; omega), pL1, pI_add]
  unfold opB
  cases u with
  | true =>
    rw [if_pos rfl, if_pos rfl]
    cases ha : bt t1 i with
    | true =>
      cases hb : bt t2 j with
      | true => rfl
      | false => rfl
    | false =>
      cases hb : bt t2 j with
      | true => rfl
      | false => rfl
  | false =>
    rw [if_neg (show ¬ false = true by decide), if_neg (show ¬ false = true by decide)]
    cases ha : bt t1 i with
    | true =>
      cases hb : bt t2 j with
      | true => rfl
      | false => rfl
    | false =>
      cases hb : bt t2 j with
      | true => rfl
      | false => rfl
theorem md_of {M i j : Nat} (hi : i < M) : (i + j * M) % M = i ∧ (i + j * M) / M = j := by
  refine ⟨?_, ?_⟩
  · rw [Nat.add_mul_mod_self_right, Nat.mod_eq_of_lt hi]
  · rw [Nat.add_mul_div_right _ _ (by omega), Nat.div_eq_of_lt hi, Nat.zero_add]
theorem md_eq {M s : Nat} : s % M + s / M * M = s := by rw [Nat.mul_comm]; exact Nat.mod_add_div s M
/-- the joined table -/
def jB (u : Bool) (M : Nat) (t1 t2 : Int32) (s : Nat) : Bool := opB u (bt t1 (s % M)) (bt t2 (s / M))
theorem ml_lt {i j M1 M2 : Nat} (hi : i < M1) (hj : j < M2) : i + j * M1 < M1 * M2 := by
  have h1 : (j + 1) * M1 ≤ M2 * M1 := Nat.mul_le_mul_right _ hj
  rw [Nat.succ_mul, Nat.mul_comm M2] at h1
  omega
theorem jt_in {u : Bool} {m1 m2 i : Nat} {t1 t2 x : Int32} (h1 : m1 < 4) (h2 : m2 < 4) (hM : 2 ^ m1 * 2 ^ m2 ≤ 16) (hi2 : i < 2 ^ m1) (hx : ∀ s, s < 32 → bt x s = (decide (s < 2 ^ m1 * 2 ^ m2 ∧ s % 2 ^ m1 < i) && jB u (2 ^ m1) t1 t2 s)) : Wp (loopN (fun v => b_X2_joinedTable_17 (nI m1) t1 (nI m2) t2 (nI (if u = true then 3 else 2)) (nI i) v.1 v.2) FU (x, (0 : Int32))) (fun o => ∀ s, s < 32 → bt o s = (decide (s < 2 ^ m1 * 2 ^ m2 ∧ s % 2 ^ m1 < i + 1) && jB u (2 ^ m1) t1 t2 s)) := by
  have hp1 : 2 ^ m1 ≤ 8 := Nat.pow_le_pow_right (n := 2) (by omega) (show m1 ≤ 3 by omega)
  have hp2 : 2 ^ m2 ≤ 8 := Nat.pow_le_pow_right (n := 2) (by omega) (show m2 ≤ 3 by omega)
  have k0 : ∀ s, s < 2 ^ m1 * 2 ^ m2 → s / 2 ^ m1 < 2 ^ m2 := fun s hs => Nat.div_lt_of_lt_mul hs
  refine wp_up (fun j v => v.2 = nI j ∧ ∀ s, s < 32 → bt v.1 s = (decide (s < 2 ^ m1 * 2 ^ m2 ∧ (s % 2 ^ m1 < i ∨ (s % 2 ^ m1 = i ∧ s / 2 ^ m1 < j))) && jB u (2 ^ m1) t1 t2 s)) 0 (2 ^ m2) ⟨rfl, fun s hs => ?_⟩ (Nat.zero_le _) (by omega) ?_ ?_
  · rw [hx s hs]
    congr 2
    refine propext ⟨fun h => ⟨h.1, Or.inl h.2⟩, fun h => ⟨h.1, ?_⟩⟩
    rcases h.2 with h | h
    · exact h
    · exact absurd h.2 (Nat.not_lt_zero _)
  · rintro j ⟨y, z⟩ h3 h4 ⟨hz, hy⟩
    simp only at hz hy
    subst hz
    have hij := ml_lt hi2 h4
    have hmd := md_of (j := j) hi2
    show Wp (b_X2_joinedTable_17 (nI m1) t1 (nI m2) t2 (nI (if u = true then 3 else 2)) (nI i) y (nI j)) _
    rw [jt_body h1 h2 (by omega) h4 hi2 (by omega) (by omega)]
    refine wp_l ⟨rfl, fun s hs => ?_⟩
    have hj : jB u (2 ^ m1) t1 t2 (i + j * 2 ^ m1) = opB u (bt t1 i) (bt t2 j) := by
      unfold jB
      rw [hmd.1, hmd.2]
    show bt (if opB u (bt t1 i) (bt t2 j) = true then y ||| ((1 : Int32) <<< (nI (i + j * 2 ^ m1) &&& 31)) else y) s = _
    by_cases es : s = i + j * 2 ^ m1
    · have hcond : s < 2 ^ m1 * 2 ^ m2 ∧ (s % 2 ^ m1 < i ∨ (s % 2 ^ m1 = i ∧ s / 2 ^ m1 < j + 1)) := by
        rw [es, hmd.1, hmd.2]
        exact ⟨hij, Or.inr ⟨rfl, by omega⟩⟩
      have hncond : ¬ (s < 2 ^ m1 * 2 ^ m2 ∧ (s % 2 ^ m1 < i ∨ (s % 2 ^ m1 = i ∧ s / 2 ^ m1 < j))) := by
        rw [es, hmd.1, hmd.2]
        omega
      rw [decide_eq_true hcond, Bool.true_and, es, hj]
      by_cases c : opB u (bt t1 i) (bt t2 j) = true
      · rw [if_pos c, b_or, ← es, bt_sh1 s hs s hs, decide_eq_true rfl, Bool.or_true, c]
      · rw [if_neg c, ← es, hy s hs, decide_eq_false hncond, Bool.false_and, Bool.eq_false_iff.mpr c]
    · have hc : (s < 2 ^ m1 * 2 ^ m2 ∧ (s % 2 ^ m1 < i ∨ (s % 2 ^ m1 = i ∧ s / 2 ^ m1 < j))) = (s < 2 ^ m1 * 2 ^ m2 ∧ (s % 2 ^ m1 < i ∨ (s % 2 ^ m1 = i ∧ s / 2 ^ m1 < j + 1))) := by
        refine propext ⟨fun h => ⟨h.1, h.2.elim Or.inl (fun h => Or.inr ⟨h.1, by omega⟩)⟩, fun h => ⟨h.1, h.2.elim Or.inl (fun h => Or.inr ⟨h.1, ?_⟩)⟩⟩
        refine Classical.byContradiction (fun h5 => es ?_)
        have e6 : s / 2 ^ m1 = j := by omega
        rw [← md_eq (M := 2 ^ m1) (s := s), h.1, e6]
      have hkeep : bt (if opB u (bt t1 i) (bt t2 j) = true then y ||| ((1 : Int32) <<< (nI (i + j * 2 ^ m1) &&& 31)) else y) s = bt y s := by
        by_cases c : opB u (bt t1 i) (bt t2 j) = true
        · rw [if_pos c, b_or, bt_sh1 (i + j * 2 ^ m1) (by omega) s hs, decide_eq_false es, Bool.or_false]
        · rw [if_neg c]
      rw [hkeep, hy s hs]
      congr 2
  · rintro ⟨y, z⟩ ⟨hz, hy⟩
    simp only at hz hy
    subst hz
    show Wp (b_X2_joinedTable_17 (nI m1) t1 (nI m2) t2 (nI (if u = true then 3 else 2)) (nI i) y (nI (2 ^ m2))) _
    unfold b_X2_joinedTable_17
    rw [cases_ok (by omega), ob_s, if_pos (Int32.le_refl _)]
    refine wp_r (fun s hs => ?_)
    rw [hy s hs]
    congr 2
    refine propext ⟨fun h => ⟨h.1, ?_⟩, fun h => ⟨h.1, ?_⟩⟩
    · rcases h.2 with h | h
      · omega
      · omega
    · have := k0 s h.1
      by_cases c : s % 2 ^ m1 < i
      · exact Or.inl c
      · exact Or.inr ⟨by omega, this⟩
theorem jt_ok {u : Bool} {m1 m2 : Nat} {t1 t2 : Int32} (h1 : m1 < 4) (h2 : m2 < 4) (hM : 2 ^ m1 * 2 ^ m2 ≤ 16) : Wp (f_X2_joinedTable (nI (if u = true then 3 else 2)) (nI m1) t1 (nI m2) t2) (fun o => ∀ s, s < 2 ^ m1 * 2 ^ m2 → bt o s = jB u (2 ^ m1) t1 t2 s) := by
  have hp1 : 2 ^ m1 ≤ 8 := Nat.pow_le_pow_right (n := 2) (by omega) (show m1 ≤ 3 by omega)
  have hpos : 0 < 2 ^ m1 := Nat.pow_pos (by omega)
  unfold f_X2_joinedTable
  refine wp_seq (Q := fun o => ∀ s, s < 32 → bt o s = (decide (s < 2 ^ m1 * 2 ^ m2 ∧ s % 2 ^ m1 < 2 ^ m1) && jB u (2 ^ m1) t1 t2 s)) ?_ (fun o ho => wp_some (fun s hs => ?_))
  · refine wp_up (fun i v => v.2 = nI i ∧ ∀ s, s < 32 → bt v.1 s = (decide (s < 2 ^ m1 * 2 ^ m2 ∧ s % 2 ^ m1 < i) && jB u (2 ^ m1) t1 t2 s)) 0 (2 ^ m1) ⟨rfl, fun s hs => ?_⟩ (Nat.zero_le _) (by omega) ?_ ?_
    · rw [decide_eq_false (fun h => by omega), Bool.false_and]
      exact bt_z s hs
    · rintro i ⟨y, z⟩ h3 h4 ⟨hz, hy⟩
      simp only at hz hy
      subst hz
      show Wp (b_X2_joinedTable_5 (nI m1) t1 (nI m2) t2 (nI (if u = true then 3 else 2)) y (nI i)) _
      unfold b_X2_joinedTable_5
      rw [cases_ok (by omega), ob_s, if_neg (show ¬ nI (2 ^ m1) ≤ nI i by rw [pI_le_iff (by omega) (by omega)]; omega)]
      exact wp_seq (jt_in h1 h2 hM h4 hy) (fun o ho => wp_l ⟨pI_add, ho⟩)
    · rintro ⟨y, z⟩ ⟨hz, hy⟩
      simp only at hz hy
      subst hz
      show Wp (b_X2_joinedTable_5 (nI m1) t1 (nI m2) t2 (nI (if u = true then 3 else 2)) y (nI (2 ^ m1))) _
      unfold b_X2_joinedTable_5
      rw [cases_ok (by omega), ob_s, if_pos (Int32.le_refl _)]
      exact wp_r hy
  · rw [ho s (by omega), decide_eq_true ⟨hs, Nat.mod_lt _ hpos⟩, Bool.true_and]
theorem sh0 : ∀ t, t < 32 → nI 0 <<< (nI t &&& 31) = nI 0 := by decide +kernel
theorem jn_ok {u : Bool} {l1 l2 m1 m2 : Nat} {parts truth : Nat → Int32} (hl1 : l1 < 4) (hl2 : l2 < 4) (e2 : parts l2 = nI m2) (h1 : m1 < 4) (h2 : m2 < 4) (hm : m1 + m2 ≤ 4) : Wp (loopN (fun v => b_X12_join_78 parts truth (nI l1) (nI l2) (nI (if u = true then 1 else 0)) (nI m1) v.1 v.2) FU ((0 : Int32), (0 : Int32))) (fun o => ∀ s, s < 2 ^ (m1 + m2) → bt o s = jB u (2 ^ m1) (truth l1) (truth l2) s) := by
  have hp : 2 ^ (m1 + m2) ≤ 16 := Nat.pow_le_pow_right (n := 2) (by omega) hm
  refine wp_up (fun t v => v.2 = nI t ∧ ∀ s, s < 32 → bt v.1 s = (decide (s < t) && jB u (2 ^ m1) (truth l1) (truth l2) s)) 0 (2 ^ (m1 + m2)) ⟨rfl, fun s hs => ?_⟩ (Nat.zero_le _) (by omega) ?_ ?_
  · rw [decide_eq_false (by omega), Bool.false_and]
    exact bt_z s hs
  · rintro t ⟨y, z⟩ h3 h4 ⟨hz, hy⟩
    simp only at hz hy
    subst hz
    have hlo : t % 2 ^ m1 < 32 := Nat.lt_of_le_of_lt (Nat.mod_le _ _) (by omega)
    have hhi : t / 2 ^ m1 < 32 := Nat.lt_of_le_of_lt (Nat.div_le_self _ _) (by omega)
    have key : ∀ c : Bool, c = jB u (2 ^ m1) (truth l1) (truth l2) t → Wp (j_X12_join_150 (nI t) (nI (if c = true then 1 else 0)) y) (Sum.elim (fun v' : Int32 × Int32 => v'.2 = nI (t + 1) ∧ ∀ s, s < 32 → bt v'.1 s = (decide (s < t + 1) && jB u (2 ^ m1) (truth l1) (truth l2) s)) (fun o : Int32 => ∀ s, s < 2 ^ (m1 + m2) → bt o s = jB u (2 ^ m1) (truth l1) (truth l2) s)) := by
      intro c hc
      unfold j_X12_join_150
      refine wp_l ⟨pI_add, fun s hs => ?_⟩
      show bt (y ||| (nI (if c = true then 1 else 0) <<< (nI t &&& 31))) s = _
      rw [b_or, hy s hs]
      cases hcc : c with
      | true =>
        rw [if_pos rfl, show nI 1 <<< (nI t &&& 31) = (1 : Int32) <<< (nI t &&& 31) from rfl, bt_sh1 t (by omega) s hs]
        by_cases es : s = t
        · rw [decide_eq_true es, decide_eq_true (show s < t + 1 by omega), Bool.or_true, Bool.true_and, es, ← hc, hcc]
        · rw [decide_eq_false es, Bool.or_false]
          congr 2
          exact propext ⟨fun h => by omega, fun h => by omega⟩
      | false =>
        rw [if_neg (by decide), sh0 t (by omega), bt_z s hs, Bool.or_false]
        by_cases es : s = t
        · rw [decide_eq_false (show ¬ s < t by omega), decide_eq_true (show s < t + 1 by omega), Bool.true_and, Bool.false_and, es, ← hc, hcc]
        · congr 2
          exact propext ⟨fun h => by omega, fun h => by omega⟩
    show Wp (b_X12_join_78 parts truth (nI l1) (nI l2) (nI (if u = true then 1 else 0)) (nI m1) y (nI t)) _
    unfold b_X12_join_78
    rw [ldA_n hl2 (by omega), e2, pI_add, sh_pow (m1 + m2) (by omega), if_neg (show ¬ nI (2 ^ (m1 + m2)) ≤ nI t by rw [pI_le_iff (by omega) (by omega)]; omega), ldA_n hl1 (by omega), ldA_n hl2 (by omega), jt_lo m1 h1 t (by omega), jt_hi m1 h1 t (by omega), bit_s hlo, bit_s hhi]
    cases u with
    | true =>
      rw [if_neg (show ¬ nI (if true = true then 1 else 0) = (0 : Int32) by decide)]
      refine wp_eq ?_ (key (bt (truth l1) (t % 2 ^ m1) || bt (truth l2) (t / 2 ^ m1)) rfl)
      cases bt (truth l1) (t % 2 ^ m1) <;> cases bt (truth l2) (t / 2 ^ m1) <;> rfl
    | false =>
      rw [if_pos (show nI (if false = true then 1 else 0) = (0 : Int32) by decide)]
      refine wp_eq ?_ (key (bt (truth l1) (t % 2 ^ m1) && bt (truth l2) (t / 2 ^ m1)) rfl)
      cases bt (truth l1) (t % 2 ^ m1) <;> cases bt (truth l2) (t / 2 ^ m1) <;> rfl
  · rintro ⟨y, z⟩ ⟨hz, hy⟩
    simp only at hz hy
    subst hz
    show Wp (b_X12_join_78 parts truth (nI l1) (nI l2) (nI (if u = true then 1 else 0)) (nI m1) y (nI (2 ^ (m1 + m2)))) _
    unfold b_X12_join_78
    rw [ldA_n hl2 (by omega), e2, pI_add, sh_pow (m1 + m2) (by omega), if_pos (Int32.le_refl _)]
    refine wp_r (fun s hs => ?_)
    rw [hy s (by omega), decide_eq_true hs, Bool.true_and]
/-- sets of bits that grow -/
theorem set_or : ∀ i, i < 4 → ∀ s, s < 2 ^ i → nI s ||| ((1 : Int32) <<< (nI i &&& 31)) = nI (s + 2 ^ i) := by decide +kernel
theorem cmpl_ok {m s : Nat} {t : Int32} (hm : 1 ≤ m) (hm4 : m ≤ 4) (hs : s < 2 ^ m) : bt (t ^^^ (((1 : Int32) <<< (nI (2 ^ m) &&& 31)) - (1 : Int32))) s = !(bt t s) := by
  have key : ∀ m, m < 5 → 1 ≤ m → ∀ s, s < 16 → s < 2 ^ m → bt (((1 : Int32) <<< (nI (2 ^ m) &&& 31)) - (1 : Int32)) s = true := by decide +kernel
  have hp : 2 ^ m ≤ 16 := Nat.pow_le_pow_right (n := 2) (by omega) hm4
  rw [b_xor, key m (by omega) hm s (by omega) hs, Bool.xor_true]
theorem cmpl2_ok {s : Nat} {t : Int32} (hs : s < 32) : bt (t ^^^ (-1 : Int32)) s = !(bt t s) := by
  rw [b_xor, b_m1 s hs, Bool.xor_true]
