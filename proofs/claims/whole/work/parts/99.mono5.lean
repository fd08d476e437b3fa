set_option linter.unusedVariables false
/-! monoidSize, with and without the object's monoid -/
theorem p_mh {x1 cnt ts a b al as' ac bl tc mp0 ip st fp ft st2 sc els mc mpt : Int32} {tq : Nat → Option TV} {mb atm : Nat → Option Nat} {kd bd ln pt an am ad ap all asl mk mbd ml mv mp dg fd nx' bf by' qm qp qb qf qs qk qt qq qo qr co nc me el pr mg mi msl : Nat → Int32} {alo ahi cA cB kA kB : Nat → Int64} (hz : tc = 0) (hL : LetR a b) (hT : TestsR tq cnt mb ts kd bd ln pt) :
    W2 (f_X11_monoidSize__has x1 tq a cnt mb al as' bl tc mc mpt ac an am ad alo ahi ap all asl qm qp qb qf qs qk qt qq qo qr mg mi msl atm) (f_X12_monoidSize x1 kd bd ln pt b ts fp ft st2 mp0 ip st sc els mk mbd ml mv mp dg cA cB kA kB fd nx' bf by' co nc me el pr) (fun o m => o.1 = m.1 ∧ o.2.2.2.2.1 = 0) := by
  obtain ⟨⟨T, hT6, rfl, rfl, ht⟩, hM⟩ := hT
  obtain ⟨k, hk1, hk3, rfl, rfl⟩ := hL
  subst hz
  unfold f_X11_monoidSize__has f_X12_monoidSize
  rcases testC x1 hT6 with ⟨j, hj, rfl, e1, e2⟩ | ⟨e1, e2⟩
  · rw [e1, e2, ob_s, ob_s, if_neg (show ¬ nI 1 = (0 : Int32) by decide), if_neg (show ¬ nI 1 = (0 : Int32) by decide)]
    refine w2_b (expT_ok (T := 0) (by omega) hk3 (ht j hj)) (fun o m h => ?_)
    rcases h with ⟨h1, h2⟩ | ⟨h1, h2, h3, A⟩
    · rw [if_pos h1, if_pos h2]
      exact w2_s ⟨rfl, rfl⟩
    · obtain ⟨n, mks, a1, a2, S, M⟩ := A m.2.1 fp ft st2 m.2.2.1 m.2.2.2.2.2.2.2.1
      obtain ⟨nxt, N1, N2⟩ := NX_of S.2.1 S.2.2.1
      rw [if_neg (show ¬ o.1 = 0 by rw [h1]; decide), if_neg (show ¬ m.1 = 0 by rw [h2]; decide), h3, a1, a2]
      refine w2_l (hop_ok hk3 S.2.1 N1 (fun s hs => ⟨(M s hs).1, (M s hs).2.1⟩)) (fun x hx => w2_r (min_ok hk3 S.1 S.2.1 N2 (fun s hs => ⟨(M s hs).1, (M s hs).2.2⟩)) (fun y hy => ?_))
      obtain ⟨b, mm, pl, bo, fi, sz, x1, x2, x3, x4⟩ := hx
      obtain ⟨a, g, mem, y1, y2, y3, y4, y5⟩ := hy
      have hba := bc_eq x3 x4 y4 y5
      subst hba
      have hS2 := S.2.1
      rw [x1, y1]
      by_cases c : b ≤ 400
      · rw [if_pos (show nI b ≤ (400 : Int32) from (pI_le_iff (b := 400) (by omega) (by omega)).mpr c)]
        obtain ⟨o2, m2, f1, f2, h⟩ := gen_ok (cnt := mc) (pts := mpt) (gn := mg) (im := mi) (sl := msl) (pr := pr) (el := el) S.2.1 hk1 hk3 c N1 N2 x3 x4 y4 y5
        rw [f1, ob_s]
        unfold RM at f2
        obtain ⟨w, ew, f2⟩ := Option.bind_eq_some_iff.mp f2
        obtain ⟨z, ez, f2⟩ := Option.bind_eq_some_iff.mp f2
        rw [ew, ob_s, ez, ob_s, f2, ob_s]
        rcases h with ⟨q1, y, rfl⟩ | ⟨q1, y, rfl, q2⟩
        · rw [if_pos q1]
          exact w2_s ⟨rfl, x2⟩
        · rw [if_neg (show ¬ o2.1 = 0 by rw [q1]; decide)]
          exact w2_s ⟨q2, x2⟩
      · rw [if_neg (show ¬ nI b ≤ (400 : Int32) from fun h => c ((pI_le_iff (b := 400) (by omega) (by omega)).mp h))]
        unfold f_X3_generate
        rw [if_neg (show ¬ nI b ≤ (400 : Int32) from fun h => c ((pI_le_iff (b := 400) (by omega) (by omega)).mp h)), ob_s, if_pos rfl]
        exact w2_s ⟨rfl, x2⟩
  · rw [e1, e2, ob_s, ob_s, if_pos (show nI 0 = (0 : Int32) from rfl), if_pos (show nI 0 = (0 : Int32) from rfl)]
    exact w2_s ⟨rfl, rfl⟩
theorem p_mn {x1 cnt ts a b al as' ac bl tc mp0 ip st fp ft st2 sc els : Int32} {tq : Nat → Option TV} {mb atm : Nat → Option Nat} {kd bd ln pt an am ad ap all asl mk mbd ml mv mp dg fd nx' bf by' qm qp qb qf qs qk qt qq qo qr co nc me el pr : Nat → Int32} {alo ahi cA cB kA kB : Nat → Int64} (hz : tc = 0) (hL : LetR a b) (hT : TestsR tq cnt mb ts kd bd ln pt) :
    W2 (f_X11_monoidSize__null x1 tq a cnt mb al as' bl tc ac an am ad alo ahi ap all asl qm qp qb qf qs qk qt qq qo qr atm) (f_X12_monoidSize x1 kd bd ln pt b ts fp ft st2 mp0 ip st sc els mk mbd ml mv mp dg cA cB kA kB fd nx' bf by' co nc me el pr) (fun o m => o.1 = m.1 ∧ o.2.2.2.2.1 = 0) := by
  obtain ⟨⟨T, hT6, rfl, rfl, ht⟩, hM⟩ := hT
  obtain ⟨k, hk1, hk3, rfl, rfl⟩ := hL
  subst hz
  unfold f_X11_monoidSize__null f_X12_monoidSize
  rcases testC x1 hT6 with ⟨j, hj, rfl, e1, e2⟩ | ⟨e1, e2⟩
  · rw [e1, e2, ob_s, ob_s, if_neg (show ¬ nI 1 = (0 : Int32) by decide), if_neg (show ¬ nI 1 = (0 : Int32) by decide)]
    refine w2_b (expT_ok (T := 0) (by omega) hk3 (ht j hj)) (fun o m h => ?_)
    rcases h with ⟨h1, h2⟩ | ⟨h1, h2, h3, A⟩
    · rw [if_pos h1, if_pos h2]
      exact w2_s ⟨rfl, rfl⟩
    · obtain ⟨n, mks, a1, a2, S, M⟩ := A m.2.1 fp ft st2 m.2.2.1 m.2.2.2.2.2.2.2.1
      obtain ⟨nxt, N1, N2⟩ := NX_of S.2.1 S.2.2.1
      rw [if_neg (show ¬ o.1 = 0 by rw [h1]; decide), if_neg (show ¬ m.1 = 0 by rw [h2]; decide), h3, a1, a2]
      refine w2_l (hop_ok hk3 S.2.1 N1 (fun s hs => ⟨(M s hs).1, (M s hs).2.1⟩)) (fun x hx => w2_r (min_ok hk3 S.1 S.2.1 N2 (fun s hs => ⟨(M s hs).1, (M s hs).2.2⟩)) (fun y hy => ?_))
      obtain ⟨b, mm, pl, bo, fi, sz, x1, x2, x3, x4⟩ := hx
      obtain ⟨a, g, mem, y1, y2, y3, y4, y5⟩ := hy
      have hba := bc_eq x3 x4 y4 y5
      subst hba
      have hS2 := S.2.1
      rw [x1, y1]
      by_cases c : b ≤ 400
      · rw [if_pos (show nI b ≤ (400 : Int32) from (pI_le_iff (b := 400) (by omega) (by omega)).mpr c)]
        obtain ⟨o2, m2, f1, f2, h⟩ := gen_ok (cnt := (0 : Int32)) (pts := (0 : Int32)) (gn := (fun _ => 0)) (im := (fun _ => 0)) (sl := (fun _ => 0)) (pr := pr) (el := el) S.2.1 hk1 hk3 c N1 N2 x3 x4 y4 y5
        rw [f1, ob_s]
        unfold RM at f2
        obtain ⟨w, ew, f2⟩ := Option.bind_eq_some_iff.mp f2
        obtain ⟨z, ez, f2⟩ := Option.bind_eq_some_iff.mp f2
        rw [ew, ob_s, ez, ob_s, f2, ob_s]
        rcases h with ⟨q1, y, rfl⟩ | ⟨q1, y, rfl, q2⟩
        · rw [if_pos q1]
          exact w2_s ⟨rfl, x2⟩
        · rw [if_neg (show ¬ o2.1 = 0 by rw [q1]; decide)]
          exact w2_s ⟨q2, x2⟩
      · rw [if_neg (show ¬ nI b ≤ (400 : Int32) from fun h => c ((pI_le_iff (b := 400) (by omega) (by omega)).mp h))]
        unfold f_X3_generate
        rw [if_neg (show ¬ nI b ≤ (400 : Int32) from fun h => c ((pI_le_iff (b := 400) (by omega) (by omega)).mp h)), ob_s, if_pos rfl]
        exact w2_s ⟨rfl, x2⟩
  · rw [e1, e2, ob_s, ob_s, if_pos (show nI 0 = (0 : Int32) from rfl), if_pos (show nI 0 = (0 : Int32) from rfl)]
    exact w2_s ⟨rfl, rfl⟩
