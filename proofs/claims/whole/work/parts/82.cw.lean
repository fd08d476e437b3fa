set_option linter.unusedVariables false
/-! countWords, fillCounts -/
theorem p_cw {tq : Nat → Option TV} {l m q i : Nat} {a b tab : Int32} {ts atm lg : Nat → Option Nat} {al as' ac mp0 fp ft ip st st2 : Int32} {vs form parts truth pk pb pl pv pp an am ad ap all asl mk mbd ml mv mp dg fd nx' bf by' : Nat → Int32} {lc pa1 lo1 alo ahi cA cB kA kB ws nws cts : Nat → Int64} (hL : LetR a b) (hl : l < 4) (hi : i ≤ 20) (r1 : lg l = some q) (r2 : 0 ≤ form l) (h1m : 1 ≤ m) (hm : m ≤ 4) (em : parts l = nI m) (P : PartsR tq m ts vs (fun i => pk (4 * l + i)) (fun i => pb (4 * l + i)) (fun i => pl (4 * l + i)) (fun i => pv (4 * l + i)) (fun i => pp (16 * l + i))) (hb : ∀ s, s < 2 ^ m → bt tab s = bt (truth l) s) :
    W2 (f_X11_countWords (nI l) (nI i) m m q tq (nI m) tab a ts vs lg al as' lc ac an am ad alo ahi ap all asl pa1 lo1 atm) (f_X12_countWords (nI l) (nI i) form parts truth pk pb pl pv pp b st2 mp0 fp ft ip st mk mbd ml mv mp dg cA cB kA kB fd nx' bf by' ws nws cts) (fun o m => o.1 = m.1) := by
  obtain ⟨k, hk1, hk3, rfl, rfl⟩ := hL
  have hbt : f_X12_isBetween (nI i) (0 : Int32) (20 : Int32) = some (nI 1) := by
    rcases btw_T (x := nI i) (T := 21) (by omega) with ⟨j, hj, _, e⟩ | ⟨_, e⟩
    · exact e
    · rcases e with e | e
      · exact absurd e (pI_nneg (by omega))
      · have := (pI_le_iff (by omega) (by omega)).mp e
        omega
  unfold f_X11_countWords f_X12_countWords
  rw [isL1 hl, isL2 hl, ob_s, ob_s, if_neg (show ¬ nI 1 = (0 : Int32) by decide), if_neg (show ¬ nI 1 = (0 : Int32) by decide), if_neg (show ¬ nI i < (0 : Int32) from pI_nneg (by omega)), if_pos (show nI i ≤ (20 : Int32) from (pI_le_iff (b := 20) (by omega) (by omega)).mpr hi), ldA_n hl (by omega), r1, nlA_s, asR_some, hbt, ob_s, if_neg (show ¬ nI 1 = (0 : Int32) by decide), ldA_n hl (by omega), if_pos r2]
  refine w2_b (expL_ok hl hk3 h1m hm em P hb) (fun o mo h => ?_)
  rcases h with ⟨h1, h2⟩ | ⟨h1, h2, h3, A⟩
  · rw [if_pos h1, if_pos h2]
    exact w2_s rfl
  · obtain ⟨n, mks, a1, a2, S, M⟩ := A st2
    obtain ⟨nxt, N1, N2⟩ := NX_of S.2.1 S.2.2.1
    rw [if_neg (show ¬ o.1 = 0 by rw [h1]; decide), if_neg (show ¬ mo.1 = 0 by rw [h2]; decide), h3, a1, a2]
    refine w2_l (cbl_ok hk3 S.1 S.2.1 hi N1 (fun s hs => ⟨Nat.lt_trans (M s hs).1 (by omega), (M s hs).2.1⟩)) (fun x hx => w2_r (ca_ok hk3 S.1 S.2.1 hi N2 (fun s hs => ⟨Nat.lt_trans (M s hs).1 (by omega), (M s hs).2.2⟩)) (fun y hy => ?_))
    rw [ldA_n (by omega) (by omega), ldA_n (by omega) (by omega)]
    exact w2_s ((hx i (Nat.le_refl _)).trans (hy i (Nat.le_refl _)).symm)
theorem n_cw {x1 x2 b : Int32} {lg : Nat → Option Nat} {mp0 fp ft ip st st2 : Int32} {form parts truth pk pb pl pv pp mk mbd ml mv mp dg fd nx' bf by' : Nat → Int32} {cA cB kA kB ws nws cts : Nat → Int64} (h : (f_X11_isLanguage x1 = some (nI 0) ∧ f_X12_isLanguage x1 = some (nI 0)) ∨ ∃ l, l < 4 ∧ x1 = nI l ∧ ((x2 < nI 0 ∨ nI 21 ≤ x2) ∨ (lg l = none ∧ ¬ 0 ≤ form l))) :
    W2 (f_X11_countWords__e x1 x2 lg) (f_X12_countWords x1 x2 form parts truth pk pb pl pv pp b st2 mp0 fp ft ip st mk mbd ml mv mp dg cA cB kA kB fd nx' bf by' ws nws cts) (fun o m => o = m.1) := by
  unfold f_X11_countWords__e f_X12_countWords
  rcases h with ⟨h1, h2⟩ | ⟨l, hl, rfl, h⟩
  · rw [h1, h2]
    exact w2_s rfl
  · rw [isL1 hl, isL2 hl, ob_s, ob_s, if_neg (show ¬ nI 1 = (0 : Int32) by decide), if_neg (show ¬ nI 1 = (0 : Int32) by decide)]
    rcases btw_T (x := x2) (T := 21) (by omega) with ⟨j, hj, rfl, e⟩ | ⟨e, e'⟩
    · rcases h with h | ⟨h1, h2⟩
      · rcases h with h | h
        · exact absurd h (pI_nneg (by omega))
        · have := (pI_le_iff (by omega) (by omega)).mp h
          omega
      · rw [show f_X12_isBetween (nI j) (0 : Int32) (20 : Int32) = some (nI 1) from e, ob_s, if_neg (show ¬ nI j < (0 : Int32) from pI_nneg (by omega)), if_pos (show nI j ≤ (20 : Int32) from (pI_le_iff (b := 20) (by omega) (by omega)).mpr (by omega)), ldA_n hl (by omega), h1, nlA_n, if_neg (show ¬ nI 1 = (0 : Int32) by decide), ldA_n hl (by omega), if_neg h2]
        exact w2_s rfl
    · rw [show f_X12_isBetween x2 (0 : Int32) (20 : Int32) = some (nI 0) from e, ob_s, if_pos (show nI 0 = (0 : Int32) from rfl)]
      by_cases hx : x2 < 0
      · rw [if_pos hx]
        exact w2_s rfl
      · have h21 : nI 21 ≤ x2 := by
          rcases e' with e' | e'
          · exact absurd e' hx
          · exact e'
        rw [if_neg hx, if_neg (show ¬ x2 ≤ (20 : Int32) from fun h => absurd (Int32.le_trans h21 h) (by decide))]
        exact w2_s rfl
def nrw (ty : Int32) (z : Int64) : Int32 := if ty = 0 then z.toInt32.toInt16.toInt32 else z.toInt32
theorem fill1_ok {S qa qb n1 n2 : Nat} {tq : Nat → Option TV} {ty : Int32} {c : Nat → Int64} {el : Nat → Int32} (hS : S ≤ 21) : Wp (loopN (fun v => b_X11_fillCounts_85 n1 n2 qa qb tq ty (nI S) c v.1 v.2) FU (el, (0 : Int32))) (fun u => ∀ j, u j = if j < S then nrw ty (c j) else el j) := by
  refine wp_fill 0 0 S (fun i => nrw ty (c i)) (by omega) (by omega) (fun i f h1 h2 hf => ?_) (fun f hf => ?_)
  · show b_X11_fillCounts_85 n1 n2 qa qb tq ty (nI S) c f (nI i) = _
    unfold b_X11_fillCounts_85 f_X6_put nrw
    rw [if_neg (show ¬ nI S ≤ nI i by rw [pI_le_iff (by omega) (by omega)]; omega), ldA_n (by omega) (by omega), stA_n (by omega) (by omega), stA_n (by omega) (by omega), Nat.zero_add]
    by_cases e : ty = 0
    · rw [if_pos e, if_pos e, ob_s, pL1, pI_add]
    · rw [if_neg e, if_neg e, ob_s, pL1, pI_add]
  · show Wp (b_X11_fillCounts_85 n1 n2 qa qb tq ty (nI S) c f (nI S)) _
    unfold b_X11_fillCounts_85
    rw [if_pos (Int32.le_refl _)]
    refine wp_r (fun j => ?_)
    rw [hf j]
    by_cases e : j < S
    · rw [if_pos e, if_pos (by omega), Nat.sub_zero]
    · rw [if_neg e, if_neg (by omega)]
theorem fill2_ok {S w : Nat} {tyA rl it : Nat → Int32} {c : Nat → Int64} (hw : w < 3) (hS : S ≤ 21) (hr : rl w = nI S) : Wp (loopN (fun v => b_X12_fillCounts_59 tyA rl c (nI w) v.1 v.2) FU (it, (0 : Int32))) (fun u => ∀ j, u j = if 21 * w ≤ j ∧ j < 21 * w + S then nrw (tyA w) (c (j - 21 * w)) else it j) := by
  refine wp_fill (21 * w) 0 S (fun i => nrw (tyA w) (c i)) (by omega) (by omega) (fun i f h1 h2 hf => ?_) (fun f hf => ?_)
  · show b_X12_fillCounts_59 tyA rl c (nI w) f (nI i) = _
    unfold b_X12_fillCounts_59 f_X12_setItem nrw
    rw [ldA_n hw (by omega), hr, if_neg (show ¬ nI S ≤ nI i by rw [pI_le_iff (by omega) (by omega)]; omega), ldA_n (by omega) (by omega), ldA_n hw (by omega), pL21, pI_mul, pI_add, stA_n (by omega) (by omega), stA_n (by omega) (by omega)]
    by_cases e : tyA w = 0
    · rw [if_pos e, if_pos e, ob_s, pL1, pI_add]
    · rw [if_neg e, if_neg e, ob_s, pL1, pI_add]
  · show Wp (b_X12_fillCounts_59 tyA rl c (nI w) f (nI S)) _
    unfold b_X12_fillCounts_59
    rw [ldA_n hw (by omega), hr, if_pos (Int32.le_refl _)]
    exact wp_r hf
theorem cbl_neg {k n : Nat} {x : Int32} {nx mrk : Nat → Int32} {p pt g : Nat → Int64} (hn : n ≤ 2000) (hx : x < nI 0) : Wp (f_X0_countByLength x 21 (nI k) (nI n) nx mrk p pt g) (fun u => True) := by
  unfold f_X0_countByLength
  refine wp_seq (clr_ok hn) (fun u hu => ?_)
  rw [show stA u 2000 (0 : Int32) (1 : Int64) _ = _ from stA_n (j := 0) (by omega) (by omega)]
  refine wp_seq (Q := fun u => True) ?_ (fun u hu => wp_some trivial)
  refine wp_up (fun i v => v.2.2.2 = nI i) 0 0 rfl (by omega) (by omega) (fun i v h1 h2 => by omega) ?_
  rintro ⟨x', y, z, t⟩ ht
  simp only at ht
  subst ht
  show Wp (b_X0_countByLength_17 21 (nI k) (nI n) nx mrk x x' y z (nI 0)) _
  unfold b_X0_countByLength_17
  rw [if_pos hx]
  exact wp_r trivial
theorem p_fc {tq : Nat → Option TV} {l m q w qr : Nat} {a b tab : Int32} {ts atm lg rows : Nat → Option Nat} {al as' ac mp0 fp ft ip st st2 ty sz : Int32} {vs form parts truth pk pb pl pv pp an am ad ap all asl mk mbd ml mv mp dg fd nx' bf by' el tyA rlA it : Nat → Int32} {lc pa1 lo1 alo ahi cA cB kA kB ws nws cts : Nat → Int64} (hL : LetR a b) (hw : w < 3) (rr : rows w = some qr) (R : RowR ty sz el (tyA w) (rlA w) it (21 * w)) (hl : l < 4) (r1 : lg l = some q) (r2 : 0 ≤ form l) (h1m : 1 ≤ m) (hm : m ≤ 4) (em : parts l = nI m) (P : PartsR tq m ts vs (fun i => pk (4 * l + i)) (fun i => pb (4 * l + i)) (fun i => pl (4 * l + i)) (fun i => pv (4 * l + i)) (fun i => pp (16 * l + i))) (hb : ∀ s, s < 2 ^ m → bt tab s = bt (truth l) s) :
    W2 (f_X11_fillCounts (nI w) (nI l) m m q qr tq (nI m) tab ty sz a rows ts vs lg al as' lc el ac an am ad alo ahi ap all asl pa1 lo1 atm) (f_X12_fillCounts (nI w) (nI l) form parts truth pk pb pl pv pp tyA rlA b st2 mp0 fp ft ip st mk mbd ml mv mp dg cA cB kA kB fd nx' bf by' ws nws cts it) (fun o m => o.1 = m.1 ∧ (∀ i, i < 21 → o.2.2.2.2.1 i = m.2.2.2.2.2.2.2.2.2.2.2.2.2.2.2.2.2.2.2.2.2.2.2 (21 * w + i)) ∧ ∀ j, j < 21 * w ∨ 21 * w + 21 ≤ j → m.2.2.2.2.2.2.2.2.2.2.2.2.2.2.2.2.2.2.2.2.2.2.2 j = it j) := by
  obtain ⟨k, hk1, hk3, rfl, rfl⟩ := hL
  obtain ⟨rfl, R2, ⟨S, hS, rfl, s2, s3⟩, R4⟩ := R
  unfold f_X11_fillCounts f_X12_fillCounts
  rw [isRw1 hw, isRw2 hw, ob_s, ob_s, if_neg (show ¬ nI 1 = (0 : Int32) by decide), if_neg (show ¬ nI 1 = (0 : Int32) by decide), isL1 hl, isL2 hl, ob_s, ob_s, if_neg (show ¬ nI 1 = (0 : Int32) by decide), if_neg (show ¬ nI 1 = (0 : Int32) by decide), ldA_n hl (by omega), r1, nlA_s, asR_some, ldA_n hw (by omega), rr, asR_some, ldA_n hl (by omega), if_pos r2, ldA_n hw (by omega)]
  by_cases ct : tyA w = -1
  · rw [if_pos ct, if_neg (show ¬ 0 ≤ tyA w by rw [ct]; decide)]
    exact w2_s ⟨rfl, R4, fun _ _ => rfl⟩
  rw [if_neg ct, if_pos (show 0 ≤ tyA w by rcases R2 with h | h | h <;> first | exact absurd h ct | (rw [h]; decide))]
  refine w2_b (expL_ok hl hk3 h1m hm em P hb) (fun o mo h => ?_)
  rcases h with ⟨h1, h2⟩ | ⟨h1, h2, h3, A⟩
  · rw [if_pos h1, if_pos h2]
    exact w2_s ⟨rfl, R4, fun _ _ => rfl⟩
  · obtain ⟨n, mks, a1, a2, SS, M⟩ := A st2
    obtain ⟨nxt, N1, N2⟩ := NX_of SS.2.1 SS.2.2.1
    rw [if_neg (show ¬ o.1 = 0 by rw [h1]; decide), if_neg (show ¬ mo.1 = 0 by rw [h2]; decide), h3, a1, a2]
    have c1 : ∀ {p pt g : Nat → Int64}, Wp (f_X0_countByLength (nI S - (1 : Int32)) 21 (nI k) (nI n) o.2.2.2.2.1 o.2.2.2.2.2.1 p pt g) (fun u => ∀ i, i < S → u.1 i = CT nxt mks k n i) := by
      intro p pt g
      by_cases e : S = 0
      · exact wp_mono (cbl_neg SS.2.1 (by rw [e]; exact n1_neg)) (fun u _ i hi => by omega)
      · rw [pL1, pI_sub (by omega)]
        exact wp_mono (cbl_ok hk3 SS.1 SS.2.1 (by omega) N1 (fun s hs => ⟨Nat.lt_trans (M s hs).1 (by omega), (M s hs).2.1⟩)) (fun u hu i hi => hu i (by omega))
    refine w2_l c1 (fun x hx => w2_r (show Wp (f_X12_countAll (20 : Int32) (nI k) mo.2.1 mo.2.2.1 mo.2.2.2.1 st2 mo.2.2.2.2.1 (nI n) mo.2.2.2.2.2.2.2.2.1 mo.2.2.2.2.2.2.2.2.2.1 mo.2.2.2.2.2.2.2.2.2.2.2.2.1 mo.2.2.2.2.2.2.2.2.2.2.2.2.2.1 mo.2.2.2.2.2.2.2.2.2.2.2.2.2.2.2.2.2.1 ws nws cts) _ from ca_ok (L := 20) hk3 SS.1 SS.2.1 (by omega) N2 (fun s hs => ⟨Nat.lt_trans (M s hs).1 (by omega), (M s hs).2.2⟩)) (fun y hy => ?_))
    refine w2_l (fill1_ok hS) (fun u hu => w2_r (fill2_ok hw hS s2) (fun v hv => ?_))
    rw [ldA_n hw (by omega), s2]
    refine w2_s ⟨rfl, fun i hi => ?_, fun j hj => ?_⟩
    · show u i = v (21 * w + i)
      rw [hu i, hv (21 * w + i)]
      by_cases e : i < S
      · rw [if_pos e, if_pos (by omega), Nat.add_sub_cancel_left, hx i e, hy i (by omega)]
      · rw [if_neg e, if_neg (by omega)]
        exact R4 i hi
    · show v j = it j
      rw [hv j, if_neg (by omega)]
theorem n_fc {x1 x2 b : Int32} {qr : Nat} {lg rows : Nat → Option Nat} {mp0 fp ft ip st st2 ty : Int32} {form parts truth pk pb pl pv pp mk mbd ml mv mp dg fd nx' bf by' tyA rlA it : Nat → Int32} {cA cB kA kB ws nws cts : Nat → Int64} (h : (f_X11_isRow x1 = some (nI 0) ∧ f_X12_isRow x1 = some (nI 0)) ∨ ∃ w, w < 3 ∧ x1 = nI w ∧ ((f_X11_isLanguage x2 = some (nI 0) ∧ f_X12_isLanguage x2 = some (nI 0)) ∨ ∃ l, l < 4 ∧ x2 = nI l ∧ lg l = none ∧ ¬ 0 ≤ form l)) :
    W2 (f_X11_fillCounts__e x1 x2 qr ty rows lg) (f_X12_fillCounts x1 x2 form parts truth pk pb pl pv pp tyA rlA b st2 mp0 fp ft ip st mk mbd ml mv mp dg cA cB kA kB fd nx' bf by' ws nws cts it) (fun o m => o = m.1 ∧ m.2.2.2.2.2.2.2.2.2.2.2.2.2.2.2.2.2.2.2.2.2.2.2 = it) := by
  unfold f_X11_fillCounts__e f_X12_fillCounts
  rcases h with ⟨h1, h2⟩ | ⟨w, hw, rfl, h⟩
  · rw [h1, h2]
    exact w2_s ⟨rfl, rfl⟩
  · rw [isRw1 hw, isRw2 hw, ob_s, ob_s, if_neg (show ¬ nI 1 = (0 : Int32) by decide), if_neg (show ¬ nI 1 = (0 : Int32) by decide)]
    rcases h with ⟨h1, h2⟩ | ⟨l, hl, rfl, h1, h2⟩
    · rw [h1, h2]
      exact w2_s ⟨rfl, rfl⟩
    · rw [isL1 hl, isL2 hl, ob_s, ob_s, if_neg (show ¬ nI 1 = (0 : Int32) by decide), if_neg (show ¬ nI 1 = (0 : Int32) by decide), ldA_n hl (by omega), h1, nlA_n, ldA_n hl (by omega), if_neg h2]
      exact w2_s ⟨rfl, rfl⟩
