set_option linter.unusedVariables false
/-! firstDifference -/
theorem fil_ok {m1 : Nat} {pp mk mb ml mv mp : Nat → Int32} (hm : m1 ≤ 4) : Wp (loopN (fun v => b_X12_firstDifference_77 pp v.1 v.2.1 v.2.2.1 v.2.2.2.1 v.2.2.2.2.1 v.2.2.2.2.2) FU (nI m1, mk, mb, ml, mv, mp)) (fun u => u.1 = nI 4 ∧ (∀ j, j < m1 → u.2.1 j = mk j ∧ u.2.2.1 j = mb j ∧ u.2.2.2.1 j = ml j ∧ u.2.2.2.2.1 j = mv j) ∧ (∀ j, m1 ≤ j → j < 4 → u.2.1 j = 1 ∧ u.2.2.1 j = 1 ∧ u.2.2.2.1 j = 0) ∧ ∀ j, j < 4 * m1 → u.2.2.2.2.2 j = mp j) := by
  refine wp_up (fun i u => u.1 = nI i ∧ (∀ j, j < m1 → u.2.1 j = mk j ∧ u.2.2.1 j = mb j ∧ u.2.2.2.1 j = ml j ∧ u.2.2.2.2.1 j = mv j) ∧ (∀ j, m1 ≤ j → j < i → u.2.1 j = 1 ∧ u.2.2.1 j = 1 ∧ u.2.2.2.1 j = 0) ∧ ∀ j, j < 4 * m1 → u.2.2.2.2.2 j = mp j) m1 4 ⟨rfl, fun j hj => ⟨rfl, rfl, rfl, rfl⟩, fun j h1 h2 => by omega, fun _ _ => rfl⟩ hm (by omega) ?_ ?_
  · rintro i ⟨x, f1, f2, f3, f4, f5⟩ h1 h2 ⟨hx, k1, k2, k3⟩
    simp only at hx k1 k2 k3
    subst hx
    show Wp (b_X12_firstDifference_77 pp (nI i) f1 f2 f3 f4 f5) _
    unfold b_X12_firstDifference_77
    rw [if_neg (show ¬ (4 : Int32) ≤ nI i from fun h => by have := (pI_le_iff (a := 4) (by omega) (by omega)).mp h; omega)]
    refine wp_seq (show Wp (f_X12_addPart (1 : Int32) (1 : Int32) (0 : Int32) (-1 : Int32) (0 : Int32) 64 pp (nI i) f1 f2 f3 f4 f5) _ from addPart_ok (o := 0) (by omega) (by omega) (by omega)) (fun u hu => ?_)
    obtain ⟨u1, u2, u3, u4, u5, u6⟩ := hu
    refine wp_l ⟨u1, fun j hj => ?_, fun j hj1 hj2 => ?_, fun j hj => ?_⟩
    · show u.2.1 j = _ ∧ u.2.2.1 j = _ ∧ u.2.2.2.1 j = _ ∧ u.2.2.2.2.1 j = _
      rw [u2, u3, u4, u5, upN (by omega), upN (by omega), upN (by omega), upN (by omega)]
      exact k1 j hj
    · show u.2.1 j = _ ∧ u.2.2.1 j = _ ∧ u.2.2.2.1 j = _
      rw [u2, u3, u4]
      by_cases e : j = i
      · rw [upE e, upE e, upE e]
        exact ⟨rfl, rfl, rfl⟩
      · rw [upN e, upN e, upN e]
        exact k2 j hj1 (by omega)
    · show u.2.2.2.2.2 j = _
      rw [u6 j, if_neg (by omega)]
      exact k3 j hj
  · rintro ⟨x, f1, f2, f3, f4, f5⟩ ⟨hx, k1, k2, k3⟩
    simp only at hx k1 k2 k3
    subst hx
    show Wp (b_X12_firstDifference_77 pp (nI 4) f1 f2 f3 f4 f5) _
    unfold b_X12_firstDifference_77
    rw [if_pos (show (4 : Int32) ≤ nI 4 by decide)]
    exact wp_r ⟨rfl, k1, k2, k3⟩
theorem p_fd {tq : Nat → Option TV} {l1 l2 m1 m2 q1 q2 w qw : Nat} {a b tab1 tab2 : Int32} {ts1 ts2 atm lg rf : Nat → Option Nat} {al as' ac mp0 fp ft ip st st2 sz : Int32} {vs1 vs2 form parts truth pk pb pl pv pp an am ad ap all asl mk mbd ml mv mp dg fd nx' bf by' ls wl wd : Nat → Int32} {alo ahi cA cB kA kB : Nat → Int64} (hL : LetR a b) (hw : w < 3) (rr : rf w = some qw) (W : WordR sz ls (wl w) wd (12 * w)) (hl1 : l1 < 4) (r1 : lg l1 = some q1) (r2 : ¬ form l1 < 0) (h11 : 1 ≤ m1) (hm1 : m1 ≤ 4) (em1 : parts l1 = nI m1) (P1 : PartsR tq m1 ts1 vs1 (fun i => pk (4 * l1 + i)) (fun i => pb (4 * l1 + i)) (fun i => pl (4 * l1 + i)) (fun i => pv (4 * l1 + i)) (fun i => pp (16 * l1 + i))) (hb1 : ∀ s, s < 2 ^ m1 → bt tab1 s = bt (truth l1) s) (hl2 : l2 < 4) (r3 : lg l2 = some q2) (r4 : 0 ≤ form l2) (h21 : 1 ≤ m2) (hm2 : m2 ≤ 4) (em2 : parts l2 = nI m2) (P2 : PartsR tq m2 ts2 vs2 (fun i => pk (4 * l2 + i)) (fun i => pb (4 * l2 + i)) (fun i => pl (4 * l2 + i)) (fun i => pv (4 * l2 + i)) (fun i => pp (16 * l2 + i))) (hb2 : ∀ s, s < 2 ^ m2 → bt tab2 s = bt (truth l2) s) :
    W2 (f_X11_firstDifference (nI l1) (nI l2) (nI w) m1 m1 m2 m2 q1 q2 qw tq (nI m1) tab1 (nI m2) tab2 a ts1 vs1 ts2 vs2 rf lg sz al as' ls ac an am ad alo ahi ap all asl atm) (f_X12_firstDifference (nI l1) (nI l2) (nI w) form parts truth pk pb pl pv pp b mp0 fp ft st2 ip st wl wd mk mbd ml mv mp dg cA cB kA kB fd nx' bf by') (fun o m => o.1 = m.1 ∧ WordR o.2.1 o.2.2.2.2.1 (m.2.2.2.2.2.2.2.1 w) m.2.2.2.2.2.2.2.2.1 (12 * w) ∧ (∀ v, v ≠ w → m.2.2.2.2.2.2.2.1 v = wl v) ∧ ∀ j, j < 12 * w ∨ 12 * w + 12 ≤ j → m.2.2.2.2.2.2.2.2.1 j = wd j) := by
  obtain ⟨k, hk1, hk3, rfl, rfl⟩ := hL
  unfold f_X11_firstDifference f_X12_firstDifference
  rw [isL1 hl1, isL2 hl1, ob_s, ob_s, if_neg (show ¬ nI 1 = (0 : Int32) by decide), if_neg (show ¬ nI 1 = (0 : Int32) by decide), isL1 hl2, isL2 hl2, ob_s, ob_s, if_neg (show ¬ nI 1 = (0 : Int32) by decide), if_neg (show ¬ nI 1 = (0 : Int32) by decide), isW1 hw, isW2 hw, ob_s, ob_s, if_neg (show ¬ nI 1 = (0 : Int32) by decide), if_neg (show ¬ nI 1 = (0 : Int32) by decide), ldA_n hl1 (by omega), r1, nlA_s, asR_some, ldA_n hl2 (by omega), r3, nlA_s, asR_some, ldA_n hl1 (by omega), if_neg r2, ldA_n hl2 (by omega), if_pos r4]
  refine w2_r (show Wp (f_X12_addLanguage (nI l1) parts pk pb pl pv pp (0 : Int32) mk mbd ml mv mp) _ from addLang_ok (c := 0) hl1 em1 hm1 (by omega)) (fun x hx => ?_)
  obtain ⟨x1, x2, x3, x4, x5, x6⟩ := hx
  rw [Nat.zero_add] at x1
  rw [ldA_n hl1 (by omega), x1]
  refine w2_r (fil_ok hm1) (fun y hy => ?_)
  obtain ⟨y1, y2, y3, y4⟩ := hy
  rw [y1]
  refine w2_r (addLang_ok (c := 4) hl2 em2 hm2 (by omega)) (fun z hz => ?_)
  obtain ⟨z1, z2, z3, z4, z5, z6⟩ := hz
  rw [ldA_n hl2 (by omega), z1]
  have c1 : ∀ (f g : Nat → Int32) j, j < 4 → cpF 4 m2 f g (4 * l2) j = g j := fun f g j hj => by
    unfold cpF
    rw [if_neg (by omega)]
  have c2 : ∀ (f g : Nat → Int32) j, j < m2 → cpF 4 m2 f g (4 * l2) (4 + j) = f (4 * l2 + j) := fun f g j hj => by
    unfold cpF
    rw [if_pos (by omega), Nat.add_sub_cancel_left]
  have c3 : ∀ (f g : Nat → Int32) j, j < m1 → cpF 0 m1 f g (4 * l1) j = f (4 * l1 + j) := fun f g j hj => by
    unfold cpF
    rw [if_pos (by omega), Nat.sub_zero]
  refine w2_b (expD_ok hk3 P1 P2 h11 hm1 h21 hm2 hb1 hb2 (mv := z.2.2.2.2.1) (fun j hj => ?_) (fun j h1 h2 => ?_) (fun j hj => ?_) (fun j hj => ?_) (fun j hj => ?_)) (fun o mo h => ?_)
  · rw [z2, z3, z4, z5, c1 _ _ j (by omega), c1 _ _ j (by omega), c1 _ _ j (by omega), c1 _ _ j (by omega)]
    obtain ⟨i1, i2, i3, i4⟩ := y2 j hj
    rw [i1, i2, i3, i4, x2, x3, x4, x5, c3 _ _ j hj, c3 _ _ j hj, c3 _ _ j hj, c3 _ _ j hj]
    exact ⟨rfl, rfl, rfl, rfl⟩
  · rw [z2, z3, z4, c1 _ _ j h2, c1 _ _ j h2, c1 _ _ j h2]
    exact y3 j h1 h2
  · rw [z2, z3, z4, z5, c2 _ _ j hj, c2 _ _ j hj, c2 _ _ j hj, c2 _ _ j hj]
    exact ⟨rfl, rfl, rfl, rfl⟩
  · rw [z6]
    unfold cpF
    rw [if_neg (by omega), y4 j hj, x6]
    unfold cpF
    rw [if_pos (by omega), Nat.mul_zero, Nat.sub_zero]
  · rw [z6]
    unfold cpF
    rw [if_pos (by omega), show 16 + j - 4 * 4 = j by omega]
  · rcases h with ⟨h1, h2⟩ | ⟨h1, h2, A⟩
    · rw [if_pos h1, if_pos h2]
      exact w2_s ⟨rfl, W, fun _ _ => rfl, fun _ _ => rfl⟩
    · obtain ⟨n, mks, a1, a2, SS, M⟩ := A
      rw [if_neg (show ¬ o.1 = 0 by rw [h1]; decide), if_neg (show ¬ mo.1 = 0 by rw [h2]; decide), ldA_n hw (by omega), rr, asR_some, a1, a2]
      exact w2_b (take_ok hw SS M W) (fun u v h => w2_s h)
theorem n_fd {x1 x2 x3 b : Int32} {lg : Nat → Option Nat} {mp0 fp ft ip st st2 : Int32} {form parts truth pk pb pl pv pp mk mbd ml mv mp dg fd nx' bf by' wl wd : Nat → Int32} {cA cB kA kB : Nat → Int64} (h : (f_X11_isLanguage x1 = some (nI 0) ∧ f_X12_isLanguage x1 = some (nI 0)) ∨ ∃ l1, l1 < 4 ∧ x1 = nI l1 ∧ ((f_X11_isLanguage x2 = some (nI 0) ∧ f_X12_isLanguage x2 = some (nI 0)) ∨ ∃ l2, l2 < 4 ∧ x2 = nI l2 ∧ ((f_X11_isWord x3 = some (nI 0) ∧ f_X12_isWord x3 = some (nI 0)) ∨ ∃ w, w < 3 ∧ x3 = nI w ∧ ((lg l1 = none ∧ form l1 < 0) ∨ ((∃ q, lg l1 = some q ∧ ¬ form l1 < 0) ∧ lg l2 = none ∧ ¬ 0 ≤ form l2))))) :
    W2 (f_X11_firstDifference__e x1 x2 x3 lg) (f_X12_firstDifference x1 x2 x3 form parts truth pk pb pl pv pp b mp0 fp ft st2 ip st wl wd mk mbd ml mv mp dg cA cB kA kB fd nx' bf by') (fun o m => o = m.1 ∧ m.2.2.2.2.2.2.2.1 = wl ∧ m.2.2.2.2.2.2.2.2.1 = wd) := by
  unfold f_X11_firstDifference__e f_X12_firstDifference
  rcases h with ⟨h1, h2⟩ | ⟨l, hl, rfl, h⟩
  · rw [h1, h2]
    exact w2_s ⟨rfl, rfl, rfl⟩
  · rw [isL1 hl, isL2 hl, ob_s, ob_s, if_neg (show ¬ nI 1 = (0 : Int32) by decide), if_neg (show ¬ nI 1 = (0 : Int32) by decide)]
    rcases h with ⟨h1, h2⟩ | ⟨l2, hl2, rfl, h⟩
    · rw [h1, h2]
      exact w2_s ⟨rfl, rfl, rfl⟩
    · rw [isL1 hl2, isL2 hl2, ob_s, ob_s, if_neg (show ¬ nI 1 = (0 : Int32) by decide), if_neg (show ¬ nI 1 = (0 : Int32) by decide)]
      rcases h with ⟨h1, h2⟩ | ⟨w, hw, rfl, h⟩
      · rw [h1, h2]
        exact w2_s ⟨rfl, rfl, rfl⟩
      · rw [isW1 hw, isW2 hw, ob_s, ob_s, if_neg (show ¬ nI 1 = (0 : Int32) by decide), if_neg (show ¬ nI 1 = (0 : Int32) by decide), ldA_n hl (by omega)]
        rcases h with ⟨h1, h2⟩ | ⟨⟨q, h1, h2⟩, h3, h4⟩
        · rw [h1, nlA_n, ldA_n hl2 (by omega), ldA_n hl (by omega), if_pos h2]
          cases lg l2 with
          | none =>
            rw [nlA_n]
            exact w2_s ⟨rfl, rfl, rfl⟩
          | some q2 =>
            rw [nlA_s]
            exact w2_s ⟨rfl, rfl, rfl⟩
        · rw [h1, nlA_s, ldA_n hl2 (by omega), h3, nlA_n, ldA_n hl (by omega), if_neg h2, ldA_n hl2 (by omega), if_neg h4]
          exact w2_s ⟨rfl, rfl, rfl⟩
