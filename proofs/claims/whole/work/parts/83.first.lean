set_option linter.unusedVariables false
/-! the first word -/
theorem fm_ok {n : Nat} {mk : Nat → Nat} {mrk : Nat → Int32} {mp fp ft st ip : Int32} {ml mv : Nat → Int32} {cA cB : Nat → Int64} (hn : n ≤ 2000) (M : ANS 2 n mk mrk (fun s => f_X12_answerAt s 0 mp fp ft st ip ml mv cA cB)) : W2 (loopN (fun v => b_X0_firstMarked_2 (nI n) mrk v) FU (0 : Int32)) (loopN (fun v => b_X12_firstInto_2 mp fp ft st ip (nI n) ml mv cA cB v) FU (0 : Int32)) (fun x y => (∃ s, s < n ∧ x = .inl (nI s) ∧ y = .inl (nI s)) ∨ (x = .inr () ∧ y = .inr ())) := by
  refine w2_up (fun i v w => v = nI i ∧ w = nI i) 0 n ⟨rfl, rfl⟩ (by omega) (by omega) ?_ ?_
  · rintro i v w h1 h2 ⟨rfl, rfl⟩
    obtain ⟨m1, m2, m3⟩ := M i h2
    show W2 (b_X0_firstMarked_2 (nI n) mrk (nI i)) (b_X12_firstInto_2 mp fp ft st ip (nI n) ml mv cA cB (nI i)) _
    unfold b_X0_firstMarked_2 b_X12_firstInto_2
    rw [if_neg (show ¬ nI n ≤ nI i by rw [pI_le_iff (by omega) (by omega)]; omega), if_neg (show ¬ nI n ≤ nI i by rw [pI_le_iff (by omega) (by omega)]; omega), ldA_n (by omega) (by omega), m2, show f_X12_answerAt (nI i) (0 : Int32) mp fp ft st ip ml mv cA cB = _ from m3, ob_s]
    by_cases c : mk i = 1
    · rw [c, if_pos (show nI 1 = (1 : Int32) from rfl), if_neg (show ¬ nI 1 = (0 : Int32) by decide)]
      exact w2_rr (Or.inl ⟨i, h2, rfl, rfl⟩)
    · rw [show mk i = 0 by omega, if_neg (show ¬ nI 0 = (1 : Int32) by decide), if_pos (show nI 0 = (0 : Int32) from rfl)]
      exact w2_ll ⟨pI_add, pI_add⟩
  · rintro v w ⟨rfl, rfl⟩
    show W2 (b_X0_firstMarked_2 (nI n) mrk (nI n)) (b_X12_firstInto_2 mp fp ft st ip (nI n) ml mv cA cB (nI n)) _
    unfold b_X0_firstMarked_2 b_X12_firstInto_2
    rw [if_pos (Int32.le_refl _), if_pos (Int32.le_refl _)]
    exact w2_rr (Or.inr ⟨rfl, rfl⟩)
theorem shp_d {k n : Nat} {nx dp pa la nx' bf by' : Nat → Int32} (S : SHP k n nx dp pa la nx' bf by') {s : Nat} (hs : s < n) : ∃ d, d ≤ s ∧ dp s = nI d := by
  obtain ⟨_, _, _, e1, e2, e3⟩ := S
  by_cases c : s = 0
  · subst c
    exact ⟨0, by omega, e2⟩
  · obtain ⟨p, c, d, h1, h2, h3, h4, h5, h6, h7, h8, h9⟩ := e3 s (by omega) hs
    exact ⟨d + 1, by omega, h9⟩
theorem shp_up {k n : Nat} {nx dp pa la nx' bf by' : Nat → Int32} (S : SHP k n nx dp pa la nx' bf by') {s d : Nat} (hs : s < n) (hd : dp s = nI d) (hd2 : d ≤ s) : (s = 0 ∧ d = 0 ∧ bf s = -nI 1) ∨ (∃ p c e, d = e + 1 ∧ p < s ∧ e ≤ p ∧ dp p = nI e ∧ pa s = nI p ∧ bf s = nI p ∧ la s = nI c ∧ by' s = nI c) := by
  have hn := S.2.1
  have hS := S
  obtain ⟨_, _, _, e1, e2, e3⟩ := S
  by_cases c : s = 0
  · exact Or.inl ⟨c, by omega, by rw [c]; exact e1⟩
  · obtain ⟨p, c, e, h1, h2, h3, h4, h5, h6, h7, h8, h9⟩ := e3 s (by omega) hs
    obtain ⟨e', he, hp⟩ := shp_d hS (show p < n by omega)
    have q1 : e' = e := pI_inj (by omega) (by omega) (hp.symm.trans h8)
    have q2 : d = e + 1 := pI_inj (by omega) (by omega) (hd.symm.trans h9)
    exact Or.inr ⟨p, c, e, q2, h1, by omega, h8, h4, h5, h6, h7⟩
theorem dep2_ok {k n s D : Nat} {nx dp pa la nx' bf by' : Nat → Int32} (S : SHP k n nx dp pa la nx' bf by') (hs : s < n) (hD : dp s = nI D) (hD2 : D ≤ s) : Wp (loopN (fun v => b_X12_firstInto_27 bf v.1 v.2) FU ((0 : Int32), nI s)) (fun u => u = nI D) := by
  have hn := S.2.1
  refine wp_it (fun q v => ∃ t d, q = d ∧ t < n ∧ d ≤ t ∧ d ≤ D ∧ dp t = nI d ∧ v.1 = nI (D - d) ∧ v.2 = nI t) D ⟨s, D, rfl, hs, hD2, Nat.le_refl _, hD, by rw [Nat.sub_self]; rfl, rfl⟩ (by omega) ?_
  rintro q ⟨x, y⟩ ⟨t, d, rfl, ht, hdt, hdD, hd, hx, hy⟩
  simp only at hx hy
  subst hx hy
  show Wp (b_X12_firstInto_27 bf (nI (D - q)) (nI t)) _
  unfold b_X12_firstInto_27
  rw [ldA_n (by omega) (by omega)]
  rcases shp_up S ht hd hdt with ⟨z1, z2, z3⟩ | ⟨p, c, e, z1, z2, z3, z4, z5, z6, z7, z8⟩
  · rw [z3, if_pos (show -nI 1 < (0 : Int32) by decide)]
    refine wp_r ?_
    rw [z2, Nat.sub_zero]
  · rw [z6, if_neg (show ¬ nI p < (0 : Int32) from pI_nneg (by omega)), ldA_n (by omega) (by omega), z6]
    refine wp_l ⟨e, by omega, p, e, rfl, by omega, z3, by omega, z4, ?_, rfl⟩
    show nI (D - q) + (1 : Int32) = nI (D - e)
    rw [pL1, pI_add, show D - q + 1 = D - e by omega]
theorem spell2_ok {k n s D w : Nat} {nx dp pa la nx' bf by' ls wd : Nat → Int32} (S : SHP k n nx dp pa la nx' bf by') (hw : w < 3) (hs : s < n) (hD : dp s = nI D) (hD2 : D ≤ s) (hD12 : D ≤ 12) : W2 (loopN (fun v => b_X0_spell_25 pa la v.1 v.2.1 v.2.2) FU (ls, nI s, nI D - (1 : Int32))) (loopN (fun v => b_X12_firstInto_73 bf by' (nI w) v.1 v.2.1 v.2.2) FU (wd, nI D, nI s)) (fun x y => (∀ i, i < D → x i = y (12 * w + i)) ∧ ∀ j, j < 12 * w ∨ 12 * w + 12 ≤ j → y j = wd j) := by
  have hn := S.2.1
  refine w2_it (fun q v w' => ∃ t d, q = d ∧ t < n ∧ d ≤ t ∧ d ≤ D ∧ dp t = nI d ∧ v.2.1 = nI t ∧ v.2.2 = nI d - nI 1 ∧ w'.2.1 = nI d ∧ w'.2.2 = nI t ∧ (∀ i, d ≤ i → i < D → v.1 i = w'.1 (12 * w + i)) ∧ ∀ j, j < 12 * w ∨ 12 * w + 12 ≤ j → w'.1 j = wd j) D ⟨s, D, rfl, hs, hD2, Nat.le_refl _, hD, rfl, rfl, rfl, rfl, fun i h1 h2 => by omega, fun _ _ => rfl⟩ (by omega) ?_
  rintro q ⟨x, y, z⟩ ⟨x', y', z'⟩ ⟨t, d, rfl, ht, hdt, hdD, hd, k1, k2, k3, k4, k5, k6⟩
  simp only at k1 k2 k3 k4 k5 k6
  subst k1 k2 k3 k4
  show W2 (b_X0_spell_25 pa la x (nI t) (nI q - nI 1)) (b_X12_firstInto_73 bf by' (nI w) x' (nI q) (nI t)) _
  unfold b_X0_spell_25 b_X12_firstInto_73
  rcases shp_up S ht hd hdt with ⟨z1, z2, z3⟩ | ⟨p, c, e, z1, z2, z3, z4, z5, z6, z7, z8⟩
  · rw [z2, if_pos (show nI 0 - nI 1 < (0 : Int32) from n1_neg), ldA_n (by omega) (by omega), z3, if_pos (show -nI 1 < (0 : Int32) by decide)]
    exact w2_rr ⟨fun i hi => k5 i (by omega) hi, k6⟩
  · rw [pI_sub (show 1 ≤ q by omega), if_neg (show ¬ nI (q - 1) < (0 : Int32) from pI_nneg (by omega)), ldA_n (by omega) (by omega), z7, stA_n (by omega) (by omega), ldA_n (by omega) (by omega), z5, ldA_n (by omega) (by omega), z6, if_neg (show ¬ nI p < (0 : Int32) from pI_nneg (by omega)), ldA_n (by omega) (by omega), z8, show nI q + (-1 : Int32) = nI (q - 1) from pI_dec (by omega), pL12, pI_mul, pI_add, stA_n (by omega) (by omega), ldA_n (by omega) (by omega), z6]
    refine w2_ll ⟨e, by omega, p, e, rfl, by omega, z3, by omega, z4, rfl, ?_, ?_, rfl, fun i h1 h2 => ?_, fun j hj => ?_⟩
    · show nI (q - 1) + (-1 : Int32) = nI e - nI 1
      rw [show q - 1 = e by omega]
      exact n_sub1
    · show nI (q - 1) = nI e
      rw [show q - 1 = e by omega]
    · show va_up x (q - 1) (nI c) i = va_up x' (12 * w + (q - 1)) (nI c) (12 * w + i)
      by_cases e1 : i = q - 1
      · rw [upE e1, upE (by omega)]
      · rw [upN e1, upN (by omega)]
        exact k5 i (by omega) h2
    · show va_up x' (12 * w + (q - 1)) (nI c) j = _
      rw [upN (by omega)]
      exact k6 j hj
theorem take_ok {k n w : Nat} {mk : Nat → Nat} {mrk nx dp pa la nx' bf by' ls wl wd : Nat → Int32} {mp fp ft st ip sz : Int32} {ml mv : Nat → Int32} {cA cB : Nat → Int64} (hw : w < 3) (S : SHP k n nx dp pa la nx' bf by') (M : ANS 2 n mk mrk (fun s => f_X12_answerAt s 0 mp fp ft st ip ml mv cA cB)) (W : WordR sz ls (wl w) wd (12 * w)) : W2 (f_X11_takeFirst (nI n) mrk dp pa la sz ls) (f_X12_firstInto (nI w) mp fp ft st ip (nI n) ml mv cA cB bf by' wl wd) (fun o m => o.1 = m.1 ∧ WordR o.2.1 o.2.2 (m.2.1 w) m.2.2 (12 * w) ∧ (∀ v, v ≠ w → m.2.1 v = wl v) ∧ ∀ j, j < 12 * w ∨ 12 * w + 12 ≤ j → m.2.2 j = wd j) := by
  have hn := S.2.1
  unfold f_X11_takeFirst f_X12_firstInto f_X0_firstMarked
  obtain ⟨x, y, ex, ey, h⟩ := fm_ok hn M
  rw [ex, ey, ob_s, ob_s]
  rcases h with ⟨s, hs, rfl, rfl⟩ | ⟨rfl, rfl⟩
  · obtain ⟨D, hD2, hD⟩ := shp_d S hs
    show W2 ((some (nI s)).bind _) ((loopN (fun v => b_X12_firstInto_27 bf v.1 v.2) FU ((0 : Int32), nI s)).bind _) _
    obtain ⟨u, eu, rfl⟩ := dep2_ok S hs hD hD2
    rw [eu, ob_s, ob_s, if_pos (nI_pos' (by omega)), ldA_n (by omega) (by omega), hD]
    by_cases c : D ≤ 12
    · rw [if_neg (show ¬ (12 : Int32) < nI D from fun h => by have := (pI_lt_iff (a := 12) (by omega) (by omega)).mp h; omega), if_pos (show nI D ≤ (12 : Int32) from (pI_le_iff (b := 12) (by omega) (by omega)).mpr c), stA_n hw (by omega)]
      unfold f_X0_spell
      rw [ldA_n (by omega) (by omega), hD, show mnI (nI D) (12 : Int32) = nI D from if_neg (fun h => by have := (pI_lt_iff (a := 12) (by omega) (by omega)).mp h; omega)]
      obtain ⟨a, b, ea, eb, h1, h2⟩ := spell2_ok (ls := ls) (wd := wd) S hw hs hD hD2 c
      rw [ea, eb, ob_s, ob_s, ob_s]
      exact w2_s ⟨rfl, ⟨D, c, rfl, upE rfl, h1⟩, fun v hv => upN hv, h2⟩
    · rw [if_pos (show (12 : Int32) < nI D from (pI_lt_iff (a := 12) (by omega) (by omega)).mpr (by omega)), if_neg (show ¬ nI D ≤ (12 : Int32) from fun h => c ((pI_le_iff (b := 12) (by omega) (by omega)).mp h))]
      exact w2_s ⟨rfl, W, fun _ _ => rfl, fun _ _ => rfl⟩
  · show W2 ((some (-1 : Int32)).bind _) (some _) _
    rw [ob_s, if_neg (show ¬ (0 : Int32) ≤ -1 by decide)]
    exact w2_s ⟨rfl, W, fun _ _ => rfl, fun _ _ => rfl⟩
theorem p_fw {tq : Nat → Option TV} {l m q w qw : Nat} {a b tab : Int32} {ts atm lg rf : Nat → Option Nat} {al as' ac mp0 fp ft ip st st2 sz : Int32} {vs form parts truth pk pb pl pv pp an am ad ap all asl mk mbd ml mv mp dg fd nx' bf by' ls wl wd : Nat → Int32} {alo ahi cA cB kA kB : Nat → Int64} (hL : LetR a b) (hw : w < 3) (rr : rf w = some qw) (W : WordR sz ls (wl w) wd (12 * w)) (hl : l < 4) (r1 : lg l = some q) (r2 : 0 ≤ form l) (h1m : 1 ≤ m) (hm : m ≤ 4) (em : parts l = nI m) (P : PartsR tq m ts vs (fun i => pk (4 * l + i)) (fun i => pb (4 * l + i)) (fun i => pl (4 * l + i)) (fun i => pv (4 * l + i)) (fun i => pp (16 * l + i))) (hb : ∀ s, s < 2 ^ m → bt tab s = bt (truth l) s) :
    W2 (f_X11_firstWord (nI l) (nI w) m m q qw tq (nI m) tab a ts vs rf lg sz al as' ls ac an am ad alo ahi ap all asl atm) (f_X12_firstWord (nI l) (nI w) form parts truth pk pb pl pv pp b st2 mp0 fp ft ip st wl wd mk mbd ml mv mp dg cA cB kA kB fd nx' bf by') (fun o m => o.1 = m.1 ∧ WordR o.2.1 o.2.2.2.2.1 (m.2.2.2.2.2.2.1 w) m.2.2.2.2.2.2.2.1 (12 * w) ∧ (∀ v, v ≠ w → m.2.2.2.2.2.2.1 v = wl v) ∧ ∀ j, j < 12 * w ∨ 12 * w + 12 ≤ j → m.2.2.2.2.2.2.2.1 j = wd j) := by
  obtain ⟨k, hk1, hk3, rfl, rfl⟩ := hL
  unfold f_X11_firstWord f_X12_firstWord
  rw [isL1 hl, isL2 hl, ob_s, ob_s, if_neg (show ¬ nI 1 = (0 : Int32) by decide), if_neg (show ¬ nI 1 = (0 : Int32) by decide), isW1 hw, isW2 hw, ob_s, ob_s, if_neg (show ¬ nI 1 = (0 : Int32) by decide), if_neg (show ¬ nI 1 = (0 : Int32) by decide), ldA_n hl (by omega), r1, nlA_s, asR_some, ldA_n hl (by omega), if_pos r2]
  refine w2_b (expL_ok hl hk3 h1m hm em P hb) (fun o mo h => ?_)
  rcases h with ⟨h1, h2⟩ | ⟨h1, h2, h3, A⟩
  · rw [if_pos h1, if_pos h2]
    exact w2_s ⟨rfl, W, fun _ _ => rfl, fun _ _ => rfl⟩
  · obtain ⟨n, mks, a1, a2, SS, M⟩ := A st2
    rw [if_neg (show ¬ o.1 = 0 by rw [h1]; decide), if_neg (show ¬ mo.1 = 0 by rw [h2]; decide), ldA_n hw (by omega), rr, asR_some, a1, a2]
    exact w2_b (take_ok hw SS M W) (fun u v h => w2_s h)
theorem n_fw {x1 x2 b : Int32} {lg : Nat → Option Nat} {mp0 fp ft ip st st2 : Int32} {form parts truth pk pb pl pv pp mk mbd ml mv mp dg fd nx' bf by' wl wd : Nat → Int32} {cA cB kA kB : Nat → Int64} (h : (f_X11_isLanguage x1 = some (nI 0) ∧ f_X12_isLanguage x1 = some (nI 0)) ∨ ∃ l, l < 4 ∧ x1 = nI l ∧ ((f_X11_isWord x2 = some (nI 0) ∧ f_X12_isWord x2 = some (nI 0)) ∨ ∃ w, w < 3 ∧ x2 = nI w ∧ lg l = none ∧ ¬ 0 ≤ form l)) :
    W2 (f_X11_firstWord__e x1 x2 lg) (f_X12_firstWord x1 x2 form parts truth pk pb pl pv pp b st2 mp0 fp ft ip st wl wd mk mbd ml mv mp dg cA cB kA kB fd nx' bf by') (fun o m => o = m.1 ∧ m.2.2.2.2.2.2.1 = wl ∧ m.2.2.2.2.2.2.2.1 = wd) := by
  unfold f_X11_firstWord__e f_X12_firstWord
  rcases h with ⟨h1, h2⟩ | ⟨l, hl, rfl, h⟩
  · rw [h1, h2]
    exact w2_s ⟨rfl, rfl, rfl⟩
  · rw [isL1 hl, isL2 hl, ob_s, ob_s, if_neg (show ¬ nI 1 = (0 : Int32) by decide), if_neg (show ¬ nI 1 = (0 : Int32) by decide)]
    rcases h with ⟨h1, h2⟩ | ⟨w, hw, rfl, h1, h2⟩
    · rw [h1, h2]
      exact w2_s ⟨rfl, rfl, rfl⟩
    · rw [isW1 hw, isW2 hw, ob_s, ob_s, if_neg (show ¬ nI 1 = (0 : Int32) by decide), if_neg (show ¬ nI 1 = (0 : Int32) by decide), ldA_n hl (by omega), h1, nlA_n, ldA_n hl (by omega), if_neg h2]
      exact w2_s ⟨rfl, rfl, rfl⟩
