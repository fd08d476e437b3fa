set_option linter.unusedVariables false
/-! minimalStates, languageStates -/
theorem bc_eq {n b a k : Nat} {nxt : Nat → Nat → Nat} {mk mm pl bo fi sz g mem : Nat → Nat} {ms ps bs fs ss co me : Nat → Int32} (D : PD n b mm pl bo fi sz ms ps bs fs ss) (h1 : ∀ x y, x < n → y < n → (bo x = bo y ↔ eqv n k nxt mk x y)) (L : LB n a g mem co me) (h2 : ∀ x y, x < n → y < n → (g x = g y ↔ eqv n k nxt mk x y)) : b = a := by
  rw [← PD_n D, ← LB_n L]
  exact ncl_congr (fun x y hx hy => (h1 x y hx hy).trans (h2 x y hx hy).symm)
theorem p_min {x1 cnt ts a b al as' ac bl tc mp0 ip st fp ft st2 sc : Int32} {tq : Nat → Option TV} {mb atm : Nat → Option Nat} {kd bd ln pt an am ad ap all asl mk mbd ml mv mp dg fd nx' bf by' qm qp qb qf qs qk qt qq qo qr co nc me : Nat → Int32} {alo ahi cA cB kA kB : Nat → Int64} (hz : tc = 0) (hL : LetR a b) (hT : TestsR tq cnt mb ts kd bd ln pt) :
    W2 (f_X11_minimalStates x1 tq a cnt mb al as' bl tc ac an am ad alo ahi ap all asl qm qp qb qf qs qk qt qq qo qr atm) (f_X12_minimalStates x1 kd bd ln pt b ts fp ft st2 mp0 ip st sc mk mbd ml mv mp dg cA cB kA kB fd nx' bf by' co nc me) (fun o m => o.1 = m.1 ∧ o.2.2.2.2.1 = 0) := by
  obtain ⟨⟨T, hT6, rfl, rfl, ht⟩, hM⟩ := hT
  obtain ⟨k, hk1, hk3, rfl, rfl⟩ := hL
  subst hz
  unfold f_X11_minimalStates f_X12_minimalStates
  rcases testC x1 hT6 with ⟨j, hj, rfl, e1, e2⟩ | ⟨e1, e2⟩
  · rw [e1, e2, ob_s, ob_s, if_neg (show ¬ nI 1 = (0 : Int32) by decide), if_neg (show ¬ nI 1 = (0 : Int32) by decide)]
    refine w2_b (expT_ok (T := 0) (by omega) hk3 (ht j hj)) (fun o m h => ?_)
    rcases h with ⟨h1, h2⟩ | ⟨h1, h2, h3, A⟩
    · rw [if_pos h1, if_pos h2]
      exact w2_s ⟨rfl, rfl⟩
    · obtain ⟨n, mks, a1, a2, S, M⟩ := A m.2.1 fp ft st2 m.2.2.1 m.2.2.2.2.2.2.2.1
      obtain ⟨nxt, N1, N2⟩ := NX_of S.2.1 S.2.2.1
      rw [if_neg (show ¬ o.1 = 0 by rw [h1]; decide), if_neg (show ¬ m.1 = 0 by rw [h2]; decide), h3, a1, a2]
      refine w2_l (hop_ok hk3 S.2.1 N1 (fun s hs => ⟨(M s hs).1, (M s hs).2.1⟩)) (fun x hx => w2_r (min_ok hk3 S.1 S.2.1 N2 (fun s hs => ⟨(M s hs).1, (M s hs).2.2⟩)) (fun y hy => ?_))
      obtain ⟨b, mm, pl, bo, fi, sz, x1, x2, x3, x4⟩ := hx
      obtain ⟨a, g, mem, y1, y2, y3, y4, y5⟩ := hy
      exact w2_s ⟨by rw [x1, y1, bc_eq x3 x4 y4 y5], x2⟩
  · rw [e1, e2, ob_s, ob_s, if_pos (show nI 0 = (0 : Int32) from rfl), if_pos (show nI 0 = (0 : Int32) from rfl)]
    exact w2_s ⟨rfl, rfl⟩
theorem p_ls {tq : Nat → Option TV} {l m q : Nat} {a b tab : Int32} {ts atm lg : Nat → Option Nat} {al as' ac bl tc mp0 fp ft ip st st2 sc : Int32} {vs form parts truth pk pb pl pv pp an am ad ap all asl mk mbd ml mv mp dg fd nx' bf by' qm qp qb qf qs qk qt qq qo qr co nc me : Nat → Int32} {alo ahi cA cB kA kB : Nat → Int64} (hz : tc = 0) (hL : LetR a b) (hl : l < 4) (r1 : lg l = some q) (r2 : 0 ≤ form l) (h1m : 1 ≤ m) (hm : m ≤ 4) (em : parts l = nI m) (P : PartsR tq m ts vs (fun i => pk (4 * l + i)) (fun i => pb (4 * l + i)) (fun i => pl (4 * l + i)) (fun i => pv (4 * l + i)) (fun i => pp (16 * l + i))) (hb : ∀ s, s < 2 ^ m → bt tab s = bt (truth l) s) :
    W2 (f_X11_languageStates (nI l) m m q tq (nI m) tab a ts vs lg al as' bl tc ac an am ad alo ahi ap all asl qm qp qb qf qs qk qt qq qo qr atm) (f_X12_languageStates (nI l) form parts truth pk pb pl pv pp b st2 mp0 fp ft ip st sc mk mbd ml mv mp dg cA cB kA kB fd nx' bf by' co nc me) (fun o m => o.1 = m.1 ∧ o.2.2.2.2.1 = 0) := by
  obtain ⟨k, hk1, hk3, rfl, rfl⟩ := hL
  subst hz
  unfold f_X11_languageStates f_X12_languageStates f_X12_notLanguage
  rw [isL1 hl, isL2 hl, ob_s, ob_s, if_neg (show ¬ nI 1 = (0 : Int32) by decide), if_neg (show ¬ nI 1 = (0 : Int32) by decide), ldA_n hl (by omega), r1, nlA_s, asR_some, ldA_n hl (by omega), if_pos r2, ob_s, if_pos (show (0 : Int32) ≤ 0 by decide)]
  refine w2_b (expL_ok hl hk3 h1m hm em P hb) (fun o mo h => ?_)
  rcases h with ⟨h1, h2⟩ | ⟨h1, h2, h3, A⟩
  · rw [if_pos h1, if_pos h2]
    exact w2_s ⟨rfl, rfl⟩
  · obtain ⟨n, mks, a1, a2, S, M⟩ := A st2
    obtain ⟨nxt, N1, N2⟩ := NX_of S.2.1 S.2.2.1
    rw [if_neg (show ¬ o.1 = 0 by rw [h1]; decide), if_neg (show ¬ mo.1 = 0 by rw [h2]; decide), h3, a1, a2]
    refine w2_l (hop_ok hk3 S.2.1 N1 (fun s hs => ⟨Nat.lt_trans (M s hs).1 (by omega), (M s hs).2.1⟩)) (fun x hx => w2_r (min_ok hk3 S.1 S.2.1 N2 (fun s hs => ⟨Nat.lt_trans (M s hs).1 (by omega), (M s hs).2.2⟩)) (fun y hy => ?_))
    obtain ⟨b, mm, pl, bo, fi, sz, x1, x2, x3, x4⟩ := hx
    obtain ⟨a, g, mem, y1, y2, y3, y4, y5⟩ := hy
    exact w2_s ⟨by rw [x1, y1, bc_eq x3 x4 y4 y5], x2⟩
theorem n_ls {x1 b : Int32} {lg : Nat → Option Nat} {mp0 fp ft ip st st2 sc : Int32} {form parts truth pk pb pl pv pp mk mbd ml mv mp dg fd nx' bf by' co nc me : Nat → Int32} {cA cB kA kB : Nat → Int64} (h : (f_X11_isLanguage x1 = some (nI 0) ∧ f_X12_isLanguage x1 = some (nI 0)) ∨ ∃ l, l < 4 ∧ x1 = nI l ∧ lg l = none ∧ ¬ 0 ≤ form l) :
    W2 (f_X11_languageStates__e x1 lg) (f_X12_languageStates x1 form parts truth pk pb pl pv pp b st2 mp0 fp ft ip st sc mk mbd ml mv mp dg cA cB kA kB fd nx' bf by' co nc me) (fun o m => o = m.1) := by
  unfold f_X11_languageStates__e f_X12_languageStates f_X12_notLanguage
  rcases h with ⟨h1, h2⟩ | ⟨l, hl, rfl, h1, h2⟩
  · rw [h1, h2]
    exact w2_s rfl
  · rw [isL1 hl, isL2 hl, ob_s, ob_s, if_neg (show ¬ nI 1 = (0 : Int32) by decide), if_neg (show ¬ nI 1 = (0 : Int32) by decide), ldA_n hl (by omega), h1, nlA_n, ldA_n hl (by omega), if_neg h2, ob_s, if_neg (show ¬ (0 : Int32) ≤ -5 by decide)]
    exact w2_s rfl
theorem op22 {cy : Nat → ClassId} {n : Nat} {ad : Nat → Nat} {E : Nat → va_E} {PT : va_W} {tq : Nat → Option TV} {lq : Nat → Bool} (H : REL cy n ad E PT tq lq) (x1 : Int32) : OP22 (REL cy) cy n ad E PT tq lq x1 := by
  obtain ⟨rR, rL, rW0, rW1, rW2, rT, rG, rI, rA, rB, rC, rS, rM, rZ⟩ := rel_el H
  exact op2_of (p_min rZ rL rT) (fun o m h => ⟨h.1, (rel_mk rR rL rW0 rW1 rW2 rT rG rI rA rB rC rS rM h.2)⟩)
theorem op32 {cy : Nat → ClassId} {n : Nat} {ad : Nat → Nat} {E : Nat → va_E} {PT : va_W} {tq : Nat → Option TV} {lq : Nat → Bool} (H : REL cy n ad E PT tq lq) (x1 : Int32) : OP32 (REL cy) cy n ad E PT tq lq x1 := by
  obtain ⟨rR, rL, rW0, rW1, rW2, rT, rG, rI, rA, rB, rC, rS, rM, rZ⟩ := rel_el H
  rcases langC x1 with ⟨l, hl, rfl⟩ | hb
  · rcases lang_form (rG l hl) with ⟨r1, r2, r3, r4⟩ | ⟨q, d, f, m, tab, ts, vs, r1, r2, r3, r4, c1, c2, c3, r5, r6, r7, r8, r9, P, hb⟩
    · exact Or.inl (op2_of (n_ls (Or.inr ⟨l, hl, rfl, r1, r3⟩)) (fun o m h => ⟨h, (rel_mk rR rL rW0 rW1 rW2 rT rG rI rA rB rC rS rM rZ)⟩))
    · exact Or.inr ⟨q, d, nI f, nI m, tab, m, m, ts, vs, op3_of c1 c2 c3 (p_ls rZ rL hl r1 r2 r8 r9 r7 P hb) (fun o m h => ⟨h.1, (rel_mk rR rL rW0 rW1 rW2 rT rG rI rA rB rC rS rM h.2)⟩)⟩
  · exact Or.inl (op2_of (n_ls (Or.inl hb)) (fun o m h => ⟨h, (rel_mk rR rL rW0 rW1 rW2 rT rG rI rA rB rC rS rM rZ)⟩))
