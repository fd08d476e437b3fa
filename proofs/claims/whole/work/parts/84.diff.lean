set_option linter.unusedVariables false
/-! the first word in which two languages differ -/
theorem b2n {b : Bool} : (if b = true then 1 else 0) < 2 := by cases b <;> decide
theorem markD_ok {tq : Nat → Option TV} {m1 m2 n : Nat} {tab1 tab2 : Int32} {mb : Nat → Option Nat} {vs1 vs2 : Nat → Int32} {K B N : Nat → Nat} {P : Nat → Nat → Int32} {Sg : Nat → Nat → Nat → Nat} {lo hi : Nat → Int64} {marks : Nat → Int32} (hm1 : m1 ≤ 4) (hm2 : m2 ≤ 4) (hn : n ≤ 2000) (D : BDat tq (m1 + m2) mb K B N P) (E : ∀ s, s < n → sOK (m1 + m2) K B N (Sg s) ∧ lo s = pHf (Sg s) (m1 + m2) 0 ∧ hi s = pHf (Sg s) (m1 + m2) 1) : Wp (f_X0_markDifference m1 m2 tq (nI n) (nI m1) tab1 (nI m2) tab2 lo hi vs1 vs2 mb marks) (fun u => ∀ s, s < n → u s = nI (if bt tab1 (stB (fun i => decide (nI (vS (K i) (N i) (Sg s i)) = vs1 i)) m1) = bt tab2 (stB (fun i => decide (nI (vS (K (m1 + i)) (N (m1 + i)) (Sg s (m1 + i))) = vs2 i)) m2) then 0 else 1)) := by
  unfold f_X0_markDifference
  refine wp_seq (Q := fun u => ∀ s, s < n → u s = nI (if bt tab1 (stB (fun i => decide (nI (vS (K i) (N i) (Sg s i)) = vs1 i)) m1) = bt tab2 (stB (fun i => decide (nI (vS (K (m1 + i)) (N (m1 + i)) (Sg s (m1 + i))) = vs2 i)) m2) then 0 else 1)) (wp_fill 0 0 n (fun s => nI (if bt tab1 (stB (fun i => decide (nI (vS (K i) (N i) (Sg s i)) = vs1 i)) m1) = bt tab2 (stB (fun i => decide (nI (vS (K (m1 + i)) (N (m1 + i)) (Sg s (m1 + i))) = vs2 i)) m2) then 0 else 1)) (by omega) (by omega) (fun i f h1 h2 hf => ?_) (fun f hf => ?_)) (fun u hu => wp_some hu)
  · show b_X0_markDifference_2 m1 m2 tq (nI n) (nI m1) tab1 (nI m2) tab2 lo hi vs1 vs2 mb f (nI i) = _
    obtain ⟨H, e1, e2⟩ := E i h2
    have hh := holdsAt_ok (off := 0) (m := m1) (tab := tab1) (vs := vs1) (show m1 + m2 ≤ 8 by omega) hm1 (by omega) D H
    simp only [Nat.zero_add] at hh
    have hh2 := holdsAt_ok (off := m1) (m := m2) (tab := tab2) (vs := vs2) (show m1 + m2 ≤ 8 by omega) hm2 (by omega) D H
    unfold b_X0_markDifference_2
    rw [if_neg (show ¬ nI n ≤ nI i by rw [pI_le_iff (by omega) (by omega)]; omega), ldA_n (by omega) (by omega), ldA_n (by omega) (by omega), e1, e2, show f_X2_holdsAt (0 : Int32) (pHf (Sg i) (m1 + m2) 0) (pHf (Sg i) (m1 + m2) 1) m1 tq (nI m1) tab1 vs1 mb = _ from hh, ob_s, ldA_n (by omega) (by omega), ldA_n (by omega) (by omega), e1, e2, hh2, ob_s]
    generalize bt tab1 (stB (fun j => decide (nI (vS (K j) (N j) (Sg i j)) = vs1 j)) m1) = c1
    generalize bt tab2 (stB (fun j => decide (nI (vS (K (m1 + j)) (N (m1 + j)) (Sg i (m1 + j))) = vs2 j)) m2) = c2
    rw [stA_n (by omega) (by omega), stA_n (by omega) (by omega), pL1, pI_add, Nat.zero_add]
    cases c1 <;> cases c2 <;> rfl
  · show Wp (b_X0_markDifference_2 m1 m2 tq (nI n) (nI m1) tab1 (nI m2) tab2 lo hi vs1 vs2 mb f (nI n)) _
    unfold b_X0_markDifference_2
    rw [if_pos (Int32.le_refl _)]
    refine wp_r (fun s hs => ?_)
    rw [hf s, if_pos (by omega), Nat.sub_zero]
theorem xor2 {a b : Bool} : nI (if a = true then 1 else 0) ^^^ nI (if b = true then 1 else 0) = nI (if a = b then 0 else 1) := by
  cases a <;> cases b <;> decide
/-- where part i of the pair lies in the bundle -/
def rD (m1 m2 i : Nat) : Nat := if i < m1 then i else if i < 4 then m1 + m2 else m1 + (i - 4)
theorem expD_ok {tq : Nat → Option TV} {m1 m2 k : Nat} {tab1 tab2 tr1 tr2 : Int32} {ts1 ts2 atm : Nat → Option Nat} {al as' ac st : Int32} {vs1 vs2 k1 b1 l1 v1 p1 k2 b2 l2 v2 p2 an am ad ap all asl mk mbd ml mv mp dg fd nx' bf by' : Nat → Int32} {alo ahi cA cB kA kB : Nat → Int64} (hk3 : k ≤ 3) (P1 : PartsR tq m1 ts1 vs1 k1 b1 l1 v1 p1) (P2 : PartsR tq m2 ts2 vs2 k2 b2 l2 v2 p2) (h11 : 1 ≤ m1) (hm1 : m1 ≤ 4) (h21 : 1 ≤ m2) (hm2 : m2 ≤ 4) (hb1 : ∀ s, s < 2 ^ m1 → bt tab1 s = bt tr1 s) (hb2 : ∀ s, s < 2 ^ m2 → bt tab2 s = bt tr2 s) (A1 : ∀ j, j < m1 → mk j = k1 j ∧ mbd j = b1 j ∧ ml j = l1 j ∧ mv j = v1 j) (A2 : ∀ j, m1 ≤ j → j < 4 → mk j = 1 ∧ mbd j = 1 ∧ ml j = 0) (A3 : ∀ j, j < m2 → mk (4 + j) = k2 j ∧ mbd (4 + j) = b2 j ∧ ml (4 + j) = l2 j ∧ mv (4 + j) = v2 j) (A4 : ∀ j, j < 4 * m1 → mp j = p1 j) (A5 : ∀ j, j < 4 * m2 → mp (16 + j) = p2 j) :
    W2 (f_X11_exploreDifference m1 m1 m2 m2 tq (nI m1) tab1 (nI m2) tab2 (nI k) ts1 vs1 ts2 vs2 al as' ac an am ad alo ahi ap all asl atm) (f_X12_builds mk mbd ml mp (nI k) (nI (4 + m2)) st dg cA cB kA kB fd nx' bf by') (fun o m => (o.1 = 0 ∧ m.1 = 0) ∨ (o.1 = 1 ∧ m.1 = 1 ∧ AT 2 k o.2.2.1 o.2.2.2.2.1 o.2.2.2.2.2.1 o.2.2.2.2.2.2.1 o.2.2.2.2.2.2.2.2.2.1 o.2.2.2.2.2.2.2.2.2.2.1 m.2.1 m.2.2.2.2.2.2.2.2.1 m.2.2.2.2.2.2.2.2.2.1 m.2.2.2.2.2.2.2.2.2.2 (fun s => f_X12_answerAt s 0 (nI (4 + m2)) (nI m1) tr1 tr2 1 ml mv m.2.2.2.1 m.2.2.2.2.1))) := by
  obtain ⟨ts, hts⟩ : ∃ ts : Nat → Option Nat, ts = fun i => if i < m1 then ts1 i else ts2 (i - m1) := ⟨_, rfl⟩
  have ta : ∀ i, i < m1 → ts i = ts1 i ∧ catF m1 vs1 vs2 i = vs1 i := fun i hi => by
    rw [hts]
    exact ⟨if_pos hi, if_pos hi⟩
  have tb : ∀ i, i < m2 → ts (m1 + i) = ts2 i ∧ catF m1 vs1 vs2 (m1 + i) = vs2 i := fun i hi => by
    rw [hts]
    refine ⟨?_, ?_⟩
    · show (if m1 + i < m1 then ts1 (m1 + i) else ts2 (m1 + i - m1)) = ts2 i
      rw [if_neg (by omega), Nat.add_sub_cancel_left]
    · show (if m1 + i < m1 then vs1 (m1 + i) else vs2 (m1 + i - m1)) = vs2 i
      rw [if_neg (by omega), Nat.add_sub_cancel_left]
  have PC := PartsR_cat (ts := ts) P1 P2 ta tb (fun _ _ => rfl) (fun _ _ => rfl) (fun _ _ => rfl) (fun _ _ => rfl) (fun _ _ => rfl)
  have D := TDat_of (T := m1 + m2) (tq := tq) (mb := ts) (kd := catF m1 k1 k2) (bd := catF m1 b1 b2) (ln := catF m1 l1 l2) (pt := catF (4 * m1) p1 p2) (fun x hx => (PC x hx).1)
  obtain ⟨K, hK⟩ : ∃ K : Nat → Nat, K = fun i => (catF m1 k1 k2 i).toNatClampNeg := ⟨_, rfl⟩
  obtain ⟨B, hB⟩ : ∃ B : Nat → Nat, B = fun i => (catF m1 b1 b2 i).toNatClampNeg := ⟨_, rfl⟩
  obtain ⟨N, hN⟩ : ∃ N : Nat → Nat, N = fun i => (catF m1 l1 l2 i).toNatClampNeg := ⟨_, rfl⟩
  rw [← hK, ← hB, ← hN] at D
  have Kk := TDat_k D
  have ca : ∀ (f g : Nat → Int32) i, i < m1 → catF m1 f g i = f i := fun f g i hi => if_pos hi
  have cb : ∀ (f g : Nat → Int32) i, catF m1 f g (m1 + i) = g i := fun f g i => by
    show (if m1 + i < m1 then f (m1 + i) else g (m1 + i - m1)) = g i
    rw [if_neg (by omega), Nat.add_sub_cancel_left]
  have ra : ∀ i, i < m1 → rD m1 m2 i = i := fun i hi => if_pos hi
  have rb : ∀ i, m1 ≤ i → i < 4 → rD m1 m2 i = m1 + m2 := fun i h1 h2 => by
    unfold rD
    rw [if_neg (by omega), if_pos h2]
  have rc : ∀ i, rD m1 m2 (4 + i) = m1 + i := fun i => by
    unfold rD
    rw [if_neg (by omega), if_neg (by omega), Nat.add_sub_cancel_left]
  obtain ⟨K', hK'⟩ : ∃ K' : Nat → Nat, K' = fun i => if rD m1 m2 i < m1 + m2 then K (rD m1 m2 i) else 1 := ⟨_, rfl⟩
  obtain ⟨B', hB'⟩ : ∃ B' : Nat → Nat, B' = fun i => if rD m1 m2 i < m1 + m2 then B (rD m1 m2 i) else 1 := ⟨_, rfl⟩
  obtain ⟨N', hN'⟩ : ∃ N' : Nat → Nat, N' = fun i => if rD m1 m2 i < m1 + m2 then N (rD m1 m2 i) else 0 := ⟨_, rfl⟩
  have ka : ∀ i, rD m1 m2 i < m1 + m2 → K' i = K (rD m1 m2 i) ∧ B' i = B (rD m1 m2 i) ∧ N' i = N (rD m1 m2 i) := fun i hi => by
    rw [hK', hB', hN']
    exact ⟨if_pos hi, if_pos hi, if_pos hi⟩
  have kb : ∀ i, ¬ rD m1 m2 i < m1 + m2 → K' i = 1 ∧ B' i = 1 ∧ N' i = 0 := fun i hi => by
    rw [hK', hB', hN']
    exact ⟨if_neg hi, if_neg hi, if_neg hi⟩
  have MD : MDat (4 + m2) mk mbd ml K' B' N' := by
    intro i hi
    by_cases c1 : i < m1
    · obtain ⟨q1, q2, q3⟩ := ka i (by rw [ra i c1]; omega)
      obtain ⟨a, v, d1, d2, d3, d4, d5, d6, _⟩ := D i (by omega)
      obtain ⟨e1, e2, e3, _⟩ := A1 i c1
      rw [q1, q2, q3, ra i c1, e1, e2, e3]
      rw [ca _ _ i c1] at d4 d5 d6
      exact ⟨kOK_of d3, d4, d5, d6⟩
    · by_cases c2 : i < 4
      · obtain ⟨q1, q2, q3⟩ := kb i (by rw [rb i (by omega) c2]; omega)
        obtain ⟨e1, e2, e3⟩ := A2 i (by omega) c2
        rw [q1, q2, q3, e1, e2, e3]
        exact ⟨⟨by omega, by omega, Or.inl ⟨rfl, rfl⟩⟩, rfl, rfl, rfl⟩
      · obtain ⟨j, rfl⟩ : ∃ j, i = 4 + j := ⟨i - 4, by omega⟩
        obtain ⟨q1, q2, q3⟩ := ka (4 + j) (by rw [rc j]; omega)
        obtain ⟨a, v, d1, d2, d3, d4, d5, d6, _⟩ := D (m1 + j) (by omega)
        obtain ⟨e1, e2, e3, _⟩ := A3 j (by omega)
        rw [q1, q2, q3, rc j, e1, e2, e3]
        rw [cb _ _ j] at d4 d5 d6
        exact ⟨kOK_of d3, d4, d5, d6⟩
  unfold f_X11_exploreDifference f_X0_restart
  rw [ob_s]
  refine w2_l (show Wp (f_X2_addTestsTo m1 tq (nI m1) ts1 (0 : Int32) atm) _ from addT_ok (c := 0) P1 (by omega)) (fun x hx => ?_)
  obtain ⟨x1, x2⟩ := hx
  rw [Nat.zero_add] at x1
  rw [x1]
  refine w2_l (addT_ok (c := m1) P2 (by omega)) (fun y hy => ?_)
  obtain ⟨y1, y2⟩ := hy
  rw [y1]
  have hmb : ∀ i, i < m1 + m2 → y.2 i = ts i := fun i hi => by
    rw [y2 i]
    by_cases c : i < m1
    · rw [if_neg (by omega), x2 i, if_pos (by omega), Nat.sub_zero, (ta i c).1]
    · obtain ⟨j, rfl⟩ : ∃ j, i = m1 + j := ⟨i - m1, by omega⟩
      rw [if_pos (by omega), Nat.add_sub_cancel_left, (tb j (by omega)).1]
  have BD := TDat_b D hmb
  have R : RHO (m1 + m2) (4 + m2) K B N (fun i => patOf tq (y.2 i)) K' B' N' mp (rD m1 m2) := by
    refine ⟨fun i hi => ?_, fun i hi => ?_⟩
    · by_cases c1 : i < m1
      · obtain ⟨q1, q2, q3⟩ := ka i (by rw [ra i c1]; omega)
        refine Or.inl ⟨by rw [ra i c1]; omega, q1, q2, q3, fun j hj => ?_⟩
        rw [ra i c1] at hj ⊢
        have := N_le4 (Kk i (by omega))
        rw [A4 _ (by omega)]
        show _ = patOf tq (y.2 i) j
        rw [← TDat_p D hmb (show i < m1 + m2 by omega) hj]
        exact (if_pos (show 4 * i + j < 4 * m1 by omega)).symm
      · by_cases c2 : i < 4
        · obtain ⟨q1, q2, q3⟩ := kb i (by rw [rb i (by omega) c2]; omega)
          exact Or.inr ⟨by rw [rb i (by omega) c2]; omega, q1, q2, q3⟩
        · obtain ⟨a, rfl⟩ : ∃ a, i = 4 + a := ⟨i - 4, by omega⟩
          obtain ⟨q1, q2, q3⟩ := ka (4 + a) (by rw [rc a]; omega)
          refine Or.inl ⟨by rw [rc a]; omega, q1, q2, q3, fun j hj => ?_⟩
          rw [rc a] at hj ⊢
          have := N_le4 (Kk (m1 + a) (by omega))
          rw [show 4 * (4 + a) + j = 16 + (4 * a + j) by omega, A5 _ (by omega)]
          show _ = patOf tq (y.2 (m1 + a)) j
          rw [← TDat_p D hmb (show m1 + a < m1 + m2 by omega) hj]
          show _ = (if 4 * (m1 + a) + j < 4 * m1 then p1 (4 * (m1 + a) + j) else p2 (4 * (m1 + a) + j - 4 * m1))
          rw [if_neg (by omega), show 4 * (m1 + a) + j - 4 * m1 = 4 * a + j by omega]
    · by_cases c1 : i < m1
      · exact ⟨i, by omega, ra i c1⟩
      · exact ⟨4 + (i - m1), by omega, by rw [rc]; omega⟩
  have hE := exp_ok (st := st) (nx := an) (dp := ad) (pa := ap) (la := all) (sl := asl) (dg := dg) (fd := fd) (nx' := nx') (bf := bf) (by' := by') (lo := alo) (hi := ahi) (cA := cA) (cB := cB) (kA := kA) (kB := kB) (show m1 + m2 ≤ 8 by omega) (show 4 + m2 ≤ 8 by omega) hk3 Kk BD MD R
  obtain ⟨o, mo, eo, em, hom⟩ := hE
  rw [show f_X0_explore tq (nI (m1 + m2)) y.2 (nI k) (0 : Int32) an ad alo ahi ap all asl = some o from eo, em, ob_s]
  rcases hom with ⟨h1, h2⟩ | ⟨h1, h2, n, Sg, h3, h4, A⟩
  · rw [if_pos h1]
    exact w2_s (Or.inl ⟨rfl, h2⟩)
  · have hn := A.2.1
    rw [if_neg (show ¬ o.1 = 0 by rw [h1]; decide), h3]
    obtain ⟨u, eu, hu⟩ := markD_ok (tab1 := tab1) (tab2 := tab2) (vs1 := vs1) (vs2 := vs2) (marks := am) hm1 hm2 hn BD (fun s hs => ⟨(A.2.2.1.1 s hs).1, (A.2.2.1.1 s hs).2.2.1, (A.2.2.1.1 s hs).2.2.2.1⟩)
    rw [eu, ob_s]
    refine w2_s (Or.inr ⟨rfl, h2, n, fun s => if bt tab1 (stB (fun i => decide (nI (vS (K i) (N i) (Sg s i)) = vs1 i)) m1) = bt tab2 (stB (fun i => decide (nI (vS (K (m1 + i)) (N (m1 + i)) (Sg s (m1 + i))) = vs2 i)) m2) then 0 else 1, rfl, h4, SHP_of A, fun s hs => ?_⟩)
    obtain ⟨H1, H2, H3, H4, H5, H6⟩ := A.2.2.1.1 s hs
    have G := rho_ok R H1 H2
    have ub : (if bt tab1 (stB (fun i => decide (nI (vS (K i) (N i) (Sg s i)) = vs1 i)) m1) = bt tab2 (stB (fun i => decide (nI (vS (K (m1 + i)) (N (m1 + i)) (Sg s (m1 + i))) = vs2 i)) m2) then 0 else 1) < 2 := by
      by_cases c : bt tab1 (stB (fun i => decide (nI (vS (K i) (N i) (Sg s i)) = vs1 i)) m1) = bt tab2 (stB (fun i => decide (nI (vS (K (m1 + i)) (N (m1 + i)) (Sg s (m1 + i))) = vs2 i)) m2)
      · rw [if_pos c]; omega
      · rw [if_neg c]; omega
    refine ⟨ub, hu s hs, ?_⟩
    show f_X12_answerAt (nI s) 0 (nI (4 + m2)) (nI m1) tr1 tr2 1 ml mv mo.2.2.2.1 mo.2.2.2.2.1 = _
    unfold f_X12_answerAt
    rw [if_pos rfl]
    obtain ⟨z, hz, e⟩ := bits_ok (s := s) (n := n) (mv := mv) (show 4 + m2 ≤ 8 by omega) (by omega) MD G H5 H6
    obtain ⟨bb, hbb⟩ : ∃ bb : Nat → Bool, bb = fun j => decide (nI (vS (K' j) (N' j) (Sg s (rD m1 m2 j))) = mv j) := ⟨_, rfl⟩
    have e : z = nI (stB bb (4 + m2)) := by rw [hbb]; exact e
    have t1 : stB bb m1 = stB (fun i => decide (nI (vS (K i) (N i) (Sg s i)) = vs1 i)) m1 := stB_congr (fun i hi => by
      obtain ⟨q1, q2, q3⟩ := ka i (by rw [ra i hi]; omega)
      rw [hbb]
      show decide (nI (vS (K' i) (N' i) (Sg s (rD m1 m2 i))) = mv i) = decide (nI (vS (K i) (N i) (Sg s i)) = vs1 i)
      rw [q1, q3, ra i hi, (A1 i hi).2.2.2, (P1 i hi).2.1])
    have t2 : stB (fun i => bb (4 + i)) m2 = stB (fun i => decide (nI (vS (K (m1 + i)) (N (m1 + i)) (Sg s (m1 + i))) = vs2 i)) m2 := stB_congr (fun i hi => by
      obtain ⟨q1, q2, q3⟩ := ka (4 + i) (by rw [rc i]; omega)
      rw [hbb]
      show decide (nI (vS (K' (4 + i)) (N' (4 + i)) (Sg s (rD m1 m2 (4 + i)))) = mv (4 + i)) = decide (nI (vS (K (m1 + i)) (N (m1 + i)) (Sg s (m1 + i))) = vs2 i)
      rw [q1, q3, rc i, (A3 i hi).2.2.2, (P2 i hi).2.1])
    have s1 := (stB_md (b := bb) (m := m1) (n := 4 - m1 + m2)).1
    rw [show m1 + (4 - m1 + m2) = 4 + m2 by omega, t1] at s1
    have s2 := (stB_md (b := bb) (m := 4) (n := m2)).2
    rw [show 2 ^ 4 = 16 from rfl, t2] at s2
    have hlt := stB_lt (b := bb) (4 + m2)
    have hp8 : 2 ^ (4 + m2) ≤ 256 := Nat.pow_le_pow_right (n := 2) (by omega) (show 4 + m2 ≤ 8 by omega)
    have l1 := stB_lt (b := fun i => decide (nI (vS (K i) (N i) (Sg s i)) = vs1 i)) m1
    have l2 := stB_lt (b := fun i => decide (nI (vS (K (m1 + i)) (N (m1 + i)) (Sg s (m1 + i))) = vs2 i)) m2
    have p1' : 2 ^ m1 ≤ 16 := Nat.pow_le_pow_right (n := 2) (by omega) hm1
    have p2' : 2 ^ m2 ≤ 16 := Nat.pow_le_pow_right (n := 2) (by omega) hm2
    rw [hz, ob_s, if_neg (show ¬ (1 : Int32) = 0 by decide), e, st_lo m1 (by omega) _ (by omega), st_hi _ (by omega), s1, s2, bit_s (by omega), bit_s (by omega), xor2, ← hb1 _ l1, ← hb2 _ l2]
