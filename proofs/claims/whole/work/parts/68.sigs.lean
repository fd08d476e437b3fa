set_option linter.unusedVariables false
/-! classes, classSize, findCollision -/
theorem ush_n {y : Int32} {s k : Nat} (hs : (((nI s).toUInt32 &&& Int32.toUInt32 31).toBitVec % 32).toNat = k) : ushI y (nI s) = nI (y.toBitVec.toNat / 2 ^ k) := by
  have h1 := pk_ushr y (nI s) k hs
  have h2 : y.toBitVec.toNat / 2 ^ k < 2 ^ 32 := Nat.lt_of_le_of_lt (Nat.div_le_self _ _) y.toBitVec.isLt
  apply Int32.toBitVec_inj.mp
  apply BitVec.eq_of_toNat_eq
  rw [pk_tn h2]
  exact h1
/-- where a signature's place in the table begins -/
def hS (x : Int32) : Nat := (x * (-1640531535 : Int32)).toBitVec.toNat / 2 ^ 20
theorem hS_lt {x : Int32} : hS x < 4096 := by
  have := (x * (-1640531535 : Int32)).toBitVec.isLt
  unfold hS
  omega
theorem hS_ok {x : Int32} : ushI (x * (-1640531535 : Int32)) (20 : Int32) = nI (hS x) := ush_n (s := 20) (k := 20) (by decide)
theorem and4095 {a : Nat} (h : a < 2 ^ 31) : nI a &&& (4095 : Int32) = nI (a % 4096) := pk_andN (by omega) 12 (by decide)
/-- first of its signature -/
def fS (sg : Nat → Int32) (i : Nat) : Prop := seen sg i (sg i) = false
theorem and4095M {a M : Nat} (hM : M = 4096) (h : a < 2 ^ 31) : nI a &&& (4095 : Int32) = nI (a % M) := by
  rw [hM]
  exact and4095 h
theorem fws_loop {sg sl : Nat → Int32} {w d M : Nat} (hM : M = 4096) (hw : w < 2187) (h1' : ∀ j, j < M → sl j = -nI 1 ∨ ∃ i, i < w ∧ fS sg i ∧ sl j = nI i) (d1 : d < M) (d2 : sl ((hS (sg w) + d) % M) = -nI 1) (d3 : ∀ d', d' < d → sl ((hS (sg w) + d') % M) ≠ -nI 1) : Wp (loopN (fun v => b_X10_firstWithSignatureOf_15 sg sl (nI w) (nI (hS (sg w))) v) FU (0 : Int32)) (fun u => (u = Sum.inl (nI ((hS (sg w) + d) % M)) ∧ ∀ d', d' < d → ∀ r, r < w → sl ((hS (sg w) + d') % M) = nI r → sg r ≠ sg w) ∨ ∃ j r, u = Sum.inr (Sum.inl (nI j)) ∧ j < M ∧ r < w ∧ fS sg r ∧ sl j = nI r ∧ sg r = sg w) := by
  have hh := hS_lt (x := sg w)
  obtain ⟨H0, hH0⟩ : ∃ x, x = hS (sg w) := ⟨_, rfl⟩
  rw [← hH0] at d2 d3 hh ⊢
  refine wp_up (fun i v => v = nI i ∧ ∀ d', d' < i → ∀ r, r < w → sl ((H0 + d') % M) = nI r → sg r ≠ sg w) 0 d ⟨rfl, fun d' h => by omega⟩ (by omega) (by omega) ?_ ?_
  · rintro i v h1 h2 ⟨rfl, hv⟩
    have hm := Nat.mod_lt (H0 + i) (show 0 < M by omega)
    obtain ⟨r, hr, hS', er⟩ := (h1' ((H0 + i) % M) hm).resolve_left (d3 i h2)
    show Wp (b_X10_firstWithSignatureOf_15 sg sl (nI w) (nI H0) (nI i)) _
    unfold b_X10_firstWithSignatureOf_15
    rw [pI_add, and4095M hM (by omega), ldA_n (by omega) (by omega), ldA_n (by omega) (by omega), er, if_pos (nI_pos' (by omega)), ldA_n (by omega) (by omega), ldA_n hw (by omega), if_neg (show ¬ (4096 : Int32) ≤ nI i by rw [pL4096, pI_le_iff (by omega) (by omega)]; omega)]
    refine wp_if (fun e => wp_r (Or.inr ⟨_, r, rfl, hm, hr, hS', er, e⟩)) (fun e => wp_l ⟨pI_add, fun d' hd' r' hr' er' => ?_⟩)
    by_cases e2 : d' = i
    · subst e2
      rw [er] at er'
      rw [← pI_inj (by omega) (by omega) er']
      exact e
    · exact hv d' (by omega) r' hr' er'
  · rintro v ⟨rfl, hv⟩
    have hm := Nat.mod_lt (H0 + d) (show 0 < M by omega)
    show Wp (b_X10_firstWithSignatureOf_15 sg sl (nI w) (nI H0) (nI d)) _
    unfold b_X10_firstWithSignatureOf_15
    rw [pI_add, and4095M hM (by omega), ldA_n (by omega) (by omega), d2, if_neg (show ¬ (0 : Int32) ≤ -nI 1 by decide), if_neg (show ¬ (4096 : Int32) ≤ nI d by rw [pL4096, pI_le_iff (by omega) (by omega)]; omega)]
    exact wp_r (Or.inl ⟨rfl, hv⟩)
theorem fws_ok {sg sl : Nat → Int32} {w M : Nat} (hM : M = 4096) (hw : w < 2187) (H : HT M sl w (fS sg) (fun i => hS (sg i))) : Wp (f_X10_firstWithSignatureOf (nI w) sg sl) (fun o => HT M o.2 (w + 1) (fS sg) (fun i => hS (sg i)) ∧ ((fS sg w ∧ o.1 = nI w) ∨ ∃ r, r < w ∧ sg r = sg w ∧ fS sg r ∧ o.1 = nI r)) := by
  obtain ⟨d, d1, d2, d3⟩ := HT_empty H (by omega) (hS (sg w))
  unfold f_X10_firstWithSignatureOf
  rw [ldA_n hw (by omega), hS_ok]
  refine wp_seq (fws_loop hM hw H.1 d1 d2 d3) (fun u hu => ?_)
  rcases hu with ⟨rfl, hv⟩ | ⟨j, r, rfl, hj, hr, hf, er, e⟩
  · have hm := Nat.mod_lt (hS (sg w) + d) (show 0 < M by omega)
    have hfw : fS sg w := by
      refine seen_f (fun s hs e => ?_)
      obtain ⟨r, r1, r2, r3⟩ := fst_lab (f := sg) s
      have e2 : sg r = sg w := r2.trans e
      refine HT_no (i := r) (d := d) H (by omega) (by omega) r3 ?_ (fun d' hd' e3 => ?_)
      · show sl ((hS (sg r) + d) % M) = _
        rw [e2]; exact d2
      · have e3 : sl ((hS (sg r) + d') % M) = nI r := e3
        rw [e2] at e3
        exact hv d' hd' r (by omega) e3 e2
    rw [Sum.elim_inl, stA_n (by omega) (by omega)]
    exact wp_some ⟨HT_ins H (by omega) (by omega) d1 d2 d3 hfw, Or.inl ⟨hfw, rfl⟩⟩
  · rw [Sum.elim_inr, Sum.elim_inl, ldA_n (by omega) (by omega), er]
    refine wp_some ⟨HT_skip H (fun h => ?_), Or.inr ⟨r, hr, e, hf, rfl⟩⟩
    have h2 := seen_iff.mpr ⟨r, hr, e⟩
    rw [show seen sg w (sg w) = false from h] at h2
    cases h2
theorem dist_ok {sg sl : Nat → Int32} {q : Nat} (hq : q ≤ 2187) : Wp (f_X10_distinctSignatures (nI q) sg sl) (fun o => o.1 = nI (ncl sg q)) := by
  unfold f_X10_distinctSignatures
  obtain ⟨M, hM⟩ : ∃ M, M = 4096 := ⟨_, rfl⟩
  rw [← hM]
  refine wp_seq (fill_ok (by omega)) (fun u hu => wp_seq (Q := fun o => o.2 = nI (ncl sg q)) ?_ (fun v hv => wp_some hv))
  refine wp_up (fun w v => v.2.2 = nI w ∧ v.2.1 = nI (ncl sg w) ∧ HT M v.1 w (fS sg) (fun i => hS (sg i))) 0 q ⟨rfl, rfl, HT_0 hu.1⟩ (by omega) (by omega) ?_ ?_
  · rintro w ⟨f, x, y⟩ h1 h2 ⟨hy, hx, hf⟩
    simp only at hy hx hf
    subst hy hx
    show Wp (b_X10_distinctSignatures_12 (nI q) sg f (nI (ncl sg w)) (nI w)) _
    unfold b_X10_distinctSignatures_12
    rw [if_neg (show ¬ nI q ≤ nI w by rw [pI_le_iff (by omega) (by omega)]; omega)]
    refine wp_seq (fws_ok hM (by omega) hf) (fun o ho => ?_)
    obtain ⟨ho1, ho2⟩ := ho
    rcases ho2 with ⟨a1, a2⟩ | ⟨r, r1, r2, r3, r4⟩
    · rw [a2, if_pos rfl]
      refine wp_l ⟨pI_add, ?_, ho1⟩
      show nI (ncl sg w) + nI 1 = nI (ncl sg (w + 1))
      rw [pI_add, ncl_s, show seen sg w (sg w) = false from a1]
      rfl
    · rw [r4, if_neg (show ¬ nI r = nI w from fun e => by have := pI_inj (by omega) (by omega) e; omega)]
      refine wp_l ⟨pI_add, ?_, ho1⟩
      show nI (ncl sg w) = nI (ncl sg (w + 1))
      rw [ncl_s, if_pos (seen_iff.mpr ⟨r, r1, r2⟩), Nat.add_zero]
  · rintro ⟨f, x, y⟩ ⟨hy, hx, hf⟩
    simp only at hy hx hf
    subst hy hx
    show Wp (b_X10_distinctSignatures_12 (nI q) sg f (nI (ncl sg q)) (nI q)) _
    unfold b_X10_distinctSignatures_12
    rw [if_pos (Int32.le_refl _)]
    exact wp_r rfl
theorem new_ok {sg : Nat → Int32} {w : Nat} (hw : w < 2187) : Wp (loopN (fun v => b_X12_classes_35 sg (nI w) v.1 v.2) FU ((1 : Int32), (0 : Int32))) (fun u => u = nI (if seen sg w (sg w) = true then 0 else 1)) := by
  refine wp_up (fun i v => v.2 = nI i ∧ v.1 = nI (if seen sg i (sg w) = true then 0 else 1)) 0 w ⟨rfl, rfl⟩ (by omega) (by omega) ?_ ?_
  · rintro i ⟨x, y⟩ h1 h2 ⟨hy, hx⟩
    simp only at hy hx
    subst hy hx
    show Wp (b_X12_classes_35 sg (nI w) (nI (if seen sg i (sg w) = true then 0 else 1)) (nI i)) _
    unfold b_X12_classes_35
    rw [if_neg (show ¬ nI w ≤ nI i by rw [pI_le_iff (by omega) (by omega)]; omega)]
    by_cases c : seen sg i (sg w) = true
    · rw [if_pos c, if_pos (show nI 0 = 0 from rfl)]
      refine wp_r ?_
      obtain ⟨s, s1, s2⟩ := seen_iff.mp c
      rw [if_pos (seen_iff.mpr ⟨s, by omega, s2⟩)]
    · rw [if_neg c, if_neg (show ¬ nI 1 = 0 by decide), ldA_n (by omega) (by omega), ldA_n hw (by omega)]
      refine wp_if (fun e => wp_l ⟨pI_add, ?_⟩) (fun e => wp_l ⟨pI_add, ?_⟩)
      · rw [if_pos (seen_iff.mpr ⟨i, by omega, e⟩)]
        rfl
      · have : ¬ seen sg (i + 1) (sg w) = true := by
          intro h
          obtain ⟨s, s1, s2⟩ := seen_iff.mp h
          by_cases es : s = i
          · rw [es] at s2; exact e s2
          · exact c (seen_iff.mpr ⟨s, by omega, s2⟩)
        rw [if_neg this]
        rfl
  · rintro ⟨x, y⟩ ⟨hy, hx⟩
    simp only at hy hx
    subst hy hx
    show Wp (b_X12_classes_35 sg (nI w) (nI (if seen sg w (sg w) = true then 0 else 1)) (nI w)) _
    unfold b_X12_classes_35
    rw [if_pos (Int32.le_refl _)]
    exact wp_r rfl
theorem cls_ok {sg : Nat → Int32} {q : Nat} (hq : q ≤ 2187) : Wp (loopN (fun v => b_X12_classes_21 (nI q) sg v.1 v.2) FU ((0 : Int32), (0 : Int32))) (fun u => u = nI (ncl sg q)) := by
  refine wp_up (fun w v => v.2 = nI w ∧ v.1 = nI (ncl sg w)) 0 q ⟨rfl, rfl⟩ (by omega) (by omega) ?_ ?_
  · rintro w ⟨x, y⟩ h1 h2 ⟨hy, hx⟩
    simp only at hy hx
    subst hy hx
    show Wp (b_X12_classes_21 (nI q) sg (nI (ncl sg w)) (nI w)) _
    unfold b_X12_classes_21
    rw [if_neg (show ¬ nI q ≤ nI w by rw [pI_le_iff (by omega) (by omega)]; omega)]
    refine wp_seq (new_ok (by omega)) (fun u hu => ?_)
    subst hu
    by_cases c : seen sg w (sg w) = true
    · rw [if_pos c, if_pos (show nI 0 = 0 from rfl)]
      refine wp_l ⟨pI_add, ?_⟩
      show nI (ncl sg w) + nI 0 = nI (ncl sg (w + 1))
      rw [pI_add, ncl_s, if_pos c]
    · rw [if_neg c, if_neg (show ¬ nI 1 = 0 by decide)]
      refine wp_l ⟨pI_add, ?_⟩
      show nI (ncl sg w) + nI 1 = nI (ncl sg (w + 1))
      rw [pI_add, ncl_s, if_neg c]
  · rintro ⟨x, y⟩ ⟨hy, hx⟩
    simp only at hy hx
    subst hy hx
    show Wp (b_X12_classes_21 (nI q) sg (nI (ncl sg q)) (nI q)) _
    unfold b_X12_classes_21
    rw [if_pos (Int32.le_refl _)]
    exact wp_r rfl
theorem csz_ok {sg sg' : Nat → Int32} {x : Int32} {q : Nat} (hq : q ≤ 2187) (h : ∀ w, w < q → sg w = sg' w) : W2 (f_X10_wordsWith x (nI q) sg) (loopN (fun v => b_X12_classSize_22 (nI q) sg' x v.1 v.2) FU ((0 : Int32), (0 : Int32))) (fun o m => o = m) := by
  unfold f_X10_wordsWith
  have key : W2 (loopN (fun v => b_X10_wordsWith_4 (nI q) sg x v.1 v.2) FU ((0 : Int32), (0 : Int32))) (loopN (fun v => b_X12_classSize_22 (nI q) sg' x v.1 v.2) FU ((0 : Int32), (0 : Int32))) (fun o m => o = m) := by
    refine w2_up (fun i v w => v = w ∧ v.2 = nI i) 0 q ⟨rfl, rfl⟩ (by omega) (by omega) ?_ ?_
    · rintro i ⟨a, b⟩ ⟨c, e⟩ h1 h2 ⟨h3, h4⟩
      cases h3
      simp only at h4
      subst h4
      show W2 (b_X10_wordsWith_4 (nI q) sg x a (nI i)) (b_X12_classSize_22 (nI q) sg' x a (nI i)) _
      unfold b_X10_wordsWith_4 b_X12_classSize_22
      rw [if_neg (show ¬ nI q ≤ nI i by rw [pI_le_iff (by omega) (by omega)]; omega), if_neg (show ¬ nI q ≤ nI i by rw [pI_le_iff (by omega) (by omega)]; omega), ldA_n (by omega) (by omega), ldA_n (by omega) (by omega), h i h2]
      by_cases e : sg' i = x
      · rw [if_pos e, if_pos e]
        exact w2_ll ⟨rfl, pI_add⟩
      · rw [if_neg e, if_neg e]
        refine w2_ll ⟨?_, pI_add⟩
        rw [Int32.add_zero]
    · rintro ⟨a, b⟩ ⟨c, e⟩ ⟨h3, h4⟩
      cases h3
      simp only at h4
      subst h4
      show W2 (b_X10_wordsWith_4 (nI q) sg x a (nI q)) (b_X12_classSize_22 (nI q) sg' x a (nI q)) _
      unfold b_X10_wordsWith_4 b_X12_classSize_22
      rw [if_pos (Int32.le_refl _), if_pos (Int32.le_refl _)]
      exact w2_rr rfl
  obtain ⟨o, m, e1, e2, e3⟩ := key
  exact ⟨o, m, by rw [e1]; rfl, e2, e3⟩
/-- b is the first partner of a -/
def isP (sg : Nat → Int32) (a b : Nat) : Prop := a < b ∧ sg a = sg b ∧ ∀ y, a < y → y < b → sg a ≠ sg y
def prI (sg : Nat → Int32) (q w : Nat) (pf ps : Int32) : Prop := (pf = nI q ∧ ∀ x y, x < y → y < w → sg x ≠ sg y) ∨ ∃ a b, pf = nI a ∧ ps = nI b ∧ isP sg a b ∧ b < w ∧ ∀ x y, x < y → y < w → sg x = sg y → a ≤ x
theorem pair1_ok {sg sl : Nat → Int32} {q : Nat} {p1 p2 : Int32} (hq : q ≤ 2187) : Wp (f_X10_findPair sg (nI q) p1 p2 sl) (fun o => (o.1 = 0 ∧ ∀ x y, x < y → y < q → sg x ≠ sg y) ∨ (o.1 = 1 ∧ ∃ a b, o.2.1 = nI a ∧ o.2.2.1 = nI b ∧ isP sg a b ∧ b < q ∧ ∀ x y, x < y → y < q → sg x = sg y → a ≤ x)) := by
  unfold f_X10_findPair
  obtain ⟨M, hM⟩ : ∃ M, M = 4096 := ⟨_, rfl⟩
  rw [← hM]
  refine wp_seq (fill_ok (by omega)) (fun u hu => wp_seq (Q := fun o => prI sg q q o.1 o.2.1) ?_ (fun v hv => ?_))
  · refine wp_up (fun w v => v.2.2.2 = nI w ∧ prI sg q w v.1 v.2.1 ∧ HT M v.2.2.1 w (fS sg) (fun i => hS (sg i))) 0 q ⟨rfl, Or.inl ⟨rfl, fun x y _ h => by omega⟩, HT_0 hu.1⟩ (by omega) (by omega) ?_ ?_
    · rintro w ⟨x1, x2, f, y⟩ h1 h2 ⟨hy, hp, hf⟩
      simp only at hy hp hf
      subst hy
      show Wp (b_X10_findPair_18 sg (nI q) x1 x2 f (nI w)) _
      unfold b_X10_findPair_18
      rw [if_neg (show ¬ nI q ≤ nI w by rw [pI_le_iff (by omega) (by omega)]; omega)]
      refine wp_seq (fws_ok hM (by omega) hf) (fun o ho => ?_)
      obtain ⟨ho1, ho2⟩ := ho
      rcases ho2 with ⟨a1, a2⟩ | ⟨r, r1, r2, r3, r4⟩
      · rw [a2, if_pos (Int32.le_refl _)]
        have nw : ∀ x, x < w → sg x ≠ sg w := fun x hx e => by
          have h2 := seen_iff.mpr ⟨x, hx, e⟩
          rw [show seen sg w (sg w) = false from a1] at h2
          cases h2
        refine wp_l ⟨pI_add, ?_, ho1⟩
        rcases hp with ⟨p1, p2⟩ | ⟨a, b, p1, p2, p3, p4, p5⟩
        · refine Or.inl ⟨p1, fun x y hxy hy => ?_⟩
          by_cases e : y = w
          · rw [e] at hxy ⊢; exact nw x hxy
          · exact p2 x y hxy (by omega)
        · refine Or.inr ⟨a, b, p1, p2, p3, by omega, fun x y hxy hy hs => ?_⟩
          by_cases e : y = w
          · rw [e] at hxy hs; exact absurd hs (nw x hxy)
          · exact p5 x y hxy (by omega) hs
      · have rm : ∀ x, x < w → sg x = sg w → r ≤ x := fun x hx e => by
          refine Classical.byContradiction (fun h => ?_)
          have h2 := seen_iff.mpr ⟨x, show x < r by omega, e.trans r2.symm⟩
          rw [show seen sg r (sg r) = false from r3] at h2
          cases h2
        rw [r4, if_neg (show ¬ nI w ≤ nI r by rw [pI_le_iff (by omega) (by omega)]; omega)]
        rcases hp with ⟨p1, p2⟩ | ⟨a, b, p1, p2, p3, p4, p5⟩
        · rw [p1, if_neg (show ¬ nI q ≤ nI r by rw [pI_le_iff (by omega) (by omega)]; omega)]
          refine wp_l ⟨pI_add, Or.inr ⟨r, w, rfl, rfl, ⟨r1, r2, fun y hy1 hy2 => p2 r y hy1 hy2⟩, by omega, fun x y hxy hy hs => ?_⟩, ho1⟩
          by_cases e : y = w
          · rw [e] at hxy hs; exact rm x hxy hs
          · exact absurd hs (p2 x y hxy (by omega))
        · have ha : a < 2187 := by have := p3.1; omega
          rw [p1]
          by_cases c : a ≤ r
          · rw [if_pos (show nI a ≤ nI r from (pI_le_iff (by omega) (by omega)).mpr c)]
            refine wp_l ⟨pI_add, Or.inr ⟨a, b, rfl, p2, p3, by omega, fun x y hxy hy hs => ?_⟩, ho1⟩
            by_cases e : y = w
            · rw [e] at hxy hs
              have := rm x hxy hs
              omega
            · exact p5 x y hxy (by omega) hs
          · rw [if_neg (show ¬ nI a ≤ nI r by rw [pI_le_iff (by omega) (by omega)]; exact c)]
            refine wp_l ⟨pI_add, Or.inr ⟨r, w, rfl, rfl, ⟨r1, r2, fun y hy1 hy2 hs => ?_⟩, by omega, fun x y hxy hy hs => ?_⟩, ho1⟩
            · have := p5 r y hy1 hy2 hs
              omega
            · by_cases e : y = w
              · rw [e] at hxy hs; exact rm x hxy hs
              · have := p5 x y hxy (by omega) hs
                omega
    · rintro ⟨x1, x2, f, y⟩ ⟨hy, hp, hf⟩
      simp only at hy hp hf
      subst hy
      show Wp (b_X10_findPair_18 sg (nI q) x1 x2 f (nI q)) _
      unfold b_X10_findPair_18
      rw [if_pos (Int32.le_refl _)]
      exact wp_r hp
  · rcases hv with ⟨p1, p2⟩ | ⟨a, b, p1, p2, p3, p4, p5⟩
    · rw [p1, if_pos (Int32.le_refl _)]
      exact wp_some (Or.inl ⟨rfl, p2⟩)
    · have := p3.1
      rw [p1, if_neg (show ¬ nI q ≤ nI a by rw [pI_le_iff (by omega) (by omega)]; omega)]
      exact wp_some (Or.inr ⟨rfl, a, b, rfl, p2, p3, p4, p5⟩)
theorem pair2_ok {sg : Nat → Int32} {q : Nat} (hq : q ≤ 2187) : Wp (loopN (fun v => b_X12_findCollision_15 (nI q) sg v) FU (0 : Int32)) (fun u => (u = Sum.inr () ∧ ∀ x y, x < y → y < q → sg x ≠ sg y) ∨ ∃ a b, u = Sum.inl (nI a, nI b) ∧ isP sg a b ∧ b < q ∧ ∀ x y, x < y → y < q → sg x = sg y → a ≤ x) := by
  refine wp_up (fun i v => v = nI i ∧ ∀ x y, x < i → x < y → y < q → sg x ≠ sg y) 0 q ⟨rfl, fun x y h => by omega⟩ (by omega) (by omega) ?_ ?_
  · rintro i v h1 h2 ⟨rfl, hv⟩
    show Wp (b_X12_findCollision_15 (nI q) sg (nI i)) _
    unfold b_X12_findCollision_15
    rw [if_neg (show ¬ nI q ≤ nI i by rw [pI_le_iff (by omega) (by omega)]; omega)]
    refine wp_seq (Q := fun u => (u = Sum.inr () ∧ ∀ y, i < y → y < q → sg i ≠ sg y) ∨ ∃ b, u = Sum.inl (nI b) ∧ isP sg i b ∧ b < q) ?_ (fun u hu => ?_)
    · refine wp_up (fun j v => v = nI j ∧ ∀ y, i < y → y < j → sg i ≠ sg y) (i + 1) q ⟨pI_add, fun y h3 h4 => by omega⟩ (by omega) (by omega) ?_ ?_
      · rintro j v h3 h4 ⟨rfl, hj⟩
        show Wp (b_X12_findCollision_27 (nI q) sg (nI i) (nI j)) _
        unfold b_X12_findCollision_27
        rw [if_neg (show ¬ nI q ≤ nI j by rw [pI_le_iff (by omega) (by omega)]; omega), ldA_n (by omega) (by omega), ldA_n (by omega) (by omega)]
        refine wp_if (fun e => wp_r (Or.inr ⟨j, rfl, ⟨by omega, e, hj⟩, h4⟩)) (fun e => wp_l ⟨pI_add, fun y h5 h6 => ?_⟩)
        by_cases ey : y = j
        · rw [ey]; exact e
        · exact hj y h5 (by omega)
      · rintro v ⟨rfl, hj⟩
        show Wp (b_X12_findCollision_27 (nI q) sg (nI i) (nI q)) _
        unfold b_X12_findCollision_27
        rw [if_pos (Int32.le_refl _)]
        exact wp_r (Or.inl ⟨rfl, hj⟩)
    · rcases hu with ⟨rfl, hj⟩ | ⟨b, rfl, hp, hb⟩
      · refine wp_l ⟨pI_add, fun x y h3 h4 h5 => ?_⟩
        by_cases ex : x = i
        · rw [ex] at h4 ⊢; exact hj y h4 h5
        · exact hv x y (by omega) h4 h5
      · refine wp_r (Or.inr ⟨i, b, rfl, hp, hb, fun x y h3 h4 h5 => ?_⟩)
        refine Classical.byContradiction (fun h => ?_)
        exact hv x y (by omega) h3 h4 h5
  · rintro v ⟨rfl, hv⟩
    show Wp (b_X12_findCollision_15 (nI q) sg (nI q)) _
    unfold b_X12_findCollision_15
    rw [if_pos (Int32.le_refl _)]
    exact wp_r (Or.inl ⟨rfl, fun x y h3 h4 => hv x y (by omega) h3 h4⟩)
theorem pair_un {sg sg' : Nat → Int32} {q a b a' b' : Nat} (h : ∀ w, w < q → sg w = sg' w) (p : isP sg a b) (hb : b < q) (m : ∀ x y, x < y → y < q → sg x = sg y → a ≤ x) (p' : isP sg' a' b') (hb' : b' < q) (m' : ∀ x y, x < y → y < q → sg' x = sg' y → a' ≤ x) : a = a' ∧ b = b' := by
  have l := p.1
  have l' := p'.1
  have e1 : a' ≤ a := m' a b l hb (by rw [← h a (by omega), ← h b hb]; exact p.2.1)
  have e2 : a ≤ a' := m a' b' l' hb' (by rw [h a' (by omega), h b' hb']; exact p'.2.1)
  have e : a = a' := by omega
  subst e
  refine ⟨rfl, ?_⟩
  rcases Nat.lt_trichotomy b b' with c | c | c
  · exact absurd (by rw [← h a (by omega), ← h b hb]; exact p.2.1) (p'.2.2 b l c)
  · exact c
  · exact absurd (by rw [h a (by omega), h b' hb']; exact p'.2.1) (p.2.2 b' l' c)
