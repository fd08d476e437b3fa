set_option linter.unusedVariables false
/-! the law's words OP25 to OP31 -/
theorem TP_mono {cy : Nat → ClassId} {PT PT1 : va_W} {tq : Nat → Option TV} (hm : ∀ q, q ∈ PT → q ∈ PT1) (h : TP cy PT tq) : TP cy PT1 tq := fun a v e => ⟨hm _ (h a v e).1, hm _ (h a v e).2⟩
theorem LQ_new {PT PT1 : va_W} {lq : Nat → Bool} {q : Nat} {fs : List Value} (hm : ∀ q, q ∈ PT → q ∈ PT1) (h : LQ PT lq) (hq : (q, .inr (2, fs)) ∈ PT1) : LQ PT1 (fun a => decide (a = q) || lq a) := by
  intro a ha
  have ha : (decide (a = q) || lq a) = true := ha
  rw [Bool.or_eq_true, decide_eq_true_iff] at ha
  rcases ha with rfl | ha
  · exact ⟨fs, hq⟩
  · obtain ⟨fs', h'⟩ := h a ha
    exact ⟨fs', hm _ h'⟩
theorem lq_up {lq : Nat → Bool} {q : Nat} : ∀ a, lq a = true → (fun a => decide (a = q) || lq a) a = true := by
  intro a ha
  show (decide (a = q) || lq a) = true
  rw [ha, Bool.or_true]
theorem lq_at {lq : Nat → Bool} {q : Nat} : (fun a => decide (a = q) || lq a) q = true := by
  show (decide (q = q) || lq q) = true
  rw [decide_eq_true rfl, Bool.true_or]
theorem op25 {cy : Nat → ClassId} {n : Nat} {ad : Nat → Nat} {E : Nat → va_E} {PT : va_W} {tq : Nat → Option TV} {lq : Nat → Bool} (H : REL cy n ad E PT tq lq) (hTP : TP cy PT tq) (hLQ : LQ PT lq) (x1 : Int32) (x2 : Int32) (x3 : Int32) : OP25 (REL cy) cy n ad E PT tq lq x1 x2 x3 := by
  obtain ⟨rR, rL, rW0, rW1, rW2, rT, rG, rI, rA, rB, rC, rS, rM, rZ⟩ := rel_el H
  obtain ⟨⟨T, hT6, hcnt, hts, ht⟩, hM⟩ := rT
  have rT : TestsR tq (gS (E 64) 1) (gR (E 65)) (gS (E 0) 10) (gI (E 5)) (gI (E 6)) (gI (E 7)) (gI (E 8)) := ⟨⟨T, hT6, hcnt, hts, ht⟩, hM⟩
  have bad : f_X11_setBasic x1 x2 x3 tq (gS (E 64) 1) (gR (E 65)) (gR (E 66)) = some (-1, (fun _ => gR (E 66)), none) → f_X12_setBasic x1 x2 x3 (gS (E 0) 10) (gI (E 5)) (gI (E 6)) (gI (E 7)) (gI (E 8)) (gI (E 12)) (gI (E 13)) (gI (E 14)) (gI (E 15)) (gI (E 16)) (gI (E 17)) (gI (E 18)) (gI (E 19)) = some (-1, gI (E 12), gI (E 13), gI (E 14), gI (E 15), gI (E 16), gI (E 17), gI (E 18), gI (E 19)) → OP25 (REL cy) cy n ad E PT tq lq x1 x2 x3 := by
    intro hf hg
    refine ⟨_, _, hf, hg, rfl, fun u _ => ?_⟩
    refine ⟨tq, lq, ?_, ?_, ?_⟩
    · show TP cy (PT ++ []) tq
      rw [List.append_nil]
      exact hTP
    · show LQ (PT ++ []) lq
      rw [List.append_nil]
      exact hLQ
    · show REL cy n ad _ (PT ++ []) tq lq
      rw [List.append_nil]
      exact (rel_mk rR rL rW0 rW1 rW2 rT rG rI rA rB rC rS rM rZ)
  rcases langC x1 with ⟨l, hl, rfl⟩ | hb
  · rcases testC x2 hT6 with ⟨t, ht', rfl, e1, e2⟩ | ⟨e1, e2⟩
    · have hTR := ht t ht'
      obtain ⟨a, v, k, b, c, t1, t2, t3, t4, t5, t6, t7⟩ := ht t ht'
      have Kk := kOK_of t3
      have Kk2 := Kk.2.2
      have hr := t3.2.2.1
      rcases btw_T (x := x3) (T := (if k = 2 then b + 1 else b)) (by have := Kk.1; by_cases c2 : k = 2 <;> simp only [c2, if_true, if_false] <;> omega) with ⟨j, hj, rfl, e⟩ | ⟨e, e'⟩
      · have hj10 : j < 10 := by
          have := Kk.1
          by_cases c2 : k = 2
          · rw [if_pos c2] at hj; omega
          · rw [if_neg c2] at hj; omega
        have hr10 : (if k = 2 then b + 1 else b) < 2 ^ 31 := by
          have := Kk.1
          by_cases c2 : k = 2
          · rw [if_pos c2]; omega
          · rw [if_neg c2]; omega
        have hf : f_X11_setBasic (nI l) (nI t) (nI j) tq (gS (E 64) 1) (gR (E 65)) (gR (E 66)) = some (1, (fun u => va_up (gR (E 66)) l (some (u 0))), some (0, Int32.ofNat 1, 2, 1, va_up (fun _ => none) 0 (some a), 1, va_up (fun _ => 0) 0 (nI j))) := by
          unfold f_X11_setBasic f_X2_basic f_X2_init
          rw [hcnt, isL1 hl, ob_s, if_neg (show ¬ nI 1 = (0 : Int32) by decide), e1, ob_s, if_neg (show ¬ nI 1 = (0 : Int32) by decide), ldA_n (by omega) (by omega), t1, tsA_s t2, if_neg (show ¬ nI j < (0 : Int32) from pI_nneg (by omega)), hr, if_pos ((pI_lt_iff (by omega) hr10).mpr hj), ob_s, ob_s, ckA_n hl (by omega), nI_clamp (by omega)]
        obtain ⟨m, hg, m1, m2, m3, m4, m5, m6, m7⟩ := sb2_ok (T_ := T) (x := nI j) (ln := gI (E 7)) (pt := gI (E 8)) (form := gI (E 12)) (parts := gI (E 13)) (truth := gI (E 14)) (pk := gI (E 15)) (pb := gI (E 16)) (pl := gI (E 17)) (pv := gI (E 18)) (pp := gI (E 19)) (n := 0) hl (show t < 6 by omega) e2 (show k < 3 by omega) Kk.1 t4 t5 e
        rw [← hts] at hg
        refine ⟨_, m, hf, hg, m1.symm, fun u _ => ?_⟩
        obtain ⟨L, hL⟩ : ∃ L : va_W, L = [((u 0), ob 2 [.int (0 : Int32), .int (Int32.ofNat 1), .int (2 : Int32), .ref (u 1), .ref (u 2)]), ((u 1), aR cy 4 1 (va_up (fun _ => none) 0 (some a))), ((u 2), aI cy 1 (va_up (fun _ => 0) 0 (nI j)))] := ⟨_, rfl⟩
        have hmm : ∀ q, q ∈ PT → q ∈ PT ++ L := fun q hq => List.mem_append_left _ hq
        show ∃ (tq1 : Nat → Option TV) (lq1 : Nat → Bool), TP cy (PT ++ [((u 0), ob 2 [.int (0 : Int32), .int (Int32.ofNat 1), .int (2 : Int32), .ref (u 1), .ref (u 2)]), ((u 1), aR cy 4 1 (va_up (fun _ => none) 0 (some a))), ((u 2), aI cy 1 (va_up (fun _ => 0) 0 (nI j)))]) tq1 ∧ LQ (PT ++ [((u 0), ob 2 [.int (0 : Int32), .int (Int32.ofNat 1), .int (2 : Int32), .ref (u 1), .ref (u 2)]), ((u 1), aR cy 4 1 (va_up (fun _ => none) 0 (some a))), ((u 2), aI cy 1 (va_up (fun _ => 0) 0 (nI j)))]) lq1 ∧ REL cy n ad _ (PT ++ [((u 0), ob 2 [.int (0 : Int32), .int (Int32.ofNat 1), .int (2 : Int32), .ref (u 1), .ref (u 2)]), ((u 1), aR cy 4 1 (va_up (fun _ => none) 0 (some a))), ((u 2), aI cy 1 (va_up (fun _ => 0) 0 (nI j)))]) tq1 lq1
        rw [← hL]
        have c1 : (u 0, ob 2 (oX2 (fun x => if x = 3 then u 1 else u 2) (nI 0) (nI 1) (nI 2))) ∈ PT ++ L := by
          rw [hL]
          exact List.mem_append_right _ (List.mem_cons_self ..)
        have c2 : ((fun x => if x = 3 then u 1 else u 2) 3, aR cy 4 1 (va_up (fun _ => none) 0 (some a))) ∈ PT ++ L := by
          rw [hL]
          exact List.mem_append_right _ (List.mem_cons_of_mem _ (List.mem_cons_self ..))
        have c3 : ((fun x => if x = 3 then u 1 else u 2) 4, aI cy 1 (va_up (fun _ => 0) 0 (nI j))) ∈ PT ++ L := by
          rw [hL]
          exact List.mem_append_right _ (List.mem_cons_of_mem _ (List.mem_cons_of_mem _ (List.mem_cons_self ..)))
        refine ⟨tq, fun a => decide (a = u 0) || lq a, TP_mono hmm hTP, LQ_new hmm hLQ c1, ?_⟩
        refine (rel_mk rR rL rW0 rW1 rW2 rT ?_ rI rA rB rC (SnapR_mono hmm (fun _ _ h => h) lq_up rS) rM rZ)
        refine LangsR_new rG m2 hmm lq_up rfl lq_at c1 c2 c3 (by omega) (by omega) (by omega) (fun i hi => ?_) (fun s hs => rfl)
        rcases (show i = 0 by omega) with rfl
        refine ⟨?_, ?_, j, rfl, hj10⟩
        · show TestR tq (some a) (m.2.2.2.2.1 (4 * l)) (m.2.2.2.2.2.1 (4 * l)) (m.2.2.2.2.2.2.1 (4 * l)) (fun x => m.2.2.2.2.2.2.2.2 (16 * l + (4 * 0 + x)))
          rw [m3, m4, m5, ← t1]
          exact TestR_fr hTR rfl rfl rfl (fun x hx => by show m.2.2.2.2.2.2.2.2 (16 * l + (4 * 0 + x)) = _; rw [show 4 * 0 + x = x by omega, m7 x hx])
        · show nI j = m.2.2.2.2.2.2.2.1 (4 * l)
          rw [m6]
      · refine bad ?_ ?_
        · unfold f_X11_setBasic
          rw [hcnt, isL1 hl, ob_s, if_neg (show ¬ nI 1 = (0 : Int32) by decide), e1, ob_s, if_neg (show ¬ nI 1 = (0 : Int32) by decide), ldA_n (by omega) (by omega), t1, tsA_s t2, hr]
          by_cases hx : x3 < 0
          · rw [if_pos hx]
          · rw [if_neg hx, if_neg (fun h => by
              rcases e' with h1 | h1
              · exact hx h1
              · exact absurd h (Int32.not_lt.mpr h1))]
        · unfold f_X12_setBasic
          rw [hts, isL2 hl, ob_s, if_neg (show ¬ nI 1 = (0 : Int32) by decide), e2, ob_s, if_neg (show ¬ nI 1 = (0 : Int32) by decide), rangeOf_ok (show t < 6 by omega) (show k < 3 by omega) Kk.1 t4 t5, ob_s, show f_X12_isBetween x3 0 (nI (if k = 2 then b + 1 else b) - 1) = some (nI 0) from e]
          rfl
    · refine bad ?_ ?_
      · unfold f_X11_setBasic
        rw [hcnt, isL1 hl, e1]
        rfl
      · unfold f_X12_setBasic
        rw [hts, isL2 hl, e2]
        rfl
  · refine bad ?_ ?_
    · unfold f_X11_setBasic
      rw [hb.1]
      rfl
    · unfold f_X12_setBasic
      rw [hb.2]
      rfl
theorem op26 {cy : Nat → ClassId} {n : Nat} {ad : Nat → Nat} {E : Nat → va_E} {PT : va_W} {tq : Nat → Option TV} {lq : Nat → Bool} (H : REL cy n ad E PT tq lq) (hTP : TP cy PT tq) (hLQ : LQ PT lq) (x1 : Int32) (x2 : Int32) : OP26 (REL cy) cy n ad E PT tq lq x1 x2 := by
  obtain ⟨rR, rL, rW0, rW1, rW2, rT, rG, rI, rA, rB, rC, rS, rM, rZ⟩ := rel_el H
  have bad : ∀ z, f_X11_complement__e x1 x2 (gR (E 66)) = some z → f_X12_complement x1 x2 (gS (E 0) 29) (gI (E 12)) (gI (E 13)) (gI (E 14)) (gI (E 15)) (gI (E 16)) (gI (E 17)) (gI (E 18)) (gI (E 19)) (gI (E 20)) (gI (E 21)) (gI (E 22)) (gI (E 23)) (gI (E 24)) = some (z, gS (E 0) 29, gI (E 12), gI (E 13), gI (E 14), gI (E 15), gI (E 16), gI (E 17), gI (E 18), gI (E 19), gI (E 20), gI (E 21), gI (E 22), gI (E 23), gI (E 24)) → OP26 (REL cy) cy n ad E PT tq lq x1 x2 := by
    intro z hf hg
    exact Or.inl ⟨_, _, hf, hg, rfl, (rel_mk rR rL rW0 rW1 rW2 rT rG rI rA rB rC rS rM rZ)⟩
  rcases langC x1 with ⟨t, ht, rfl⟩ | hb
  · rcases langC x2 with ⟨l, hl, rfl⟩ | hb
    · rcases lang_form (rG l hl) with ⟨r1, r2, r3, r4⟩ | ⟨q, d, f, m, tab, ts, vs, r1, r2, r3, r4, c1, c2, c3, r5, r6, r7, r8, r9, P, hb⟩
      · refine bad (-5) ?_ ?_
        · unfold f_X11_complement__e
          rw [isL1 ht, isL1 hl, ob_s, if_neg (show ¬ nI 1 = (0 : Int32) by decide), ob_s, if_neg (show ¬ nI 1 = (0 : Int32) by decide), ldA_n hl (by omega), r1, nlA_n]
        · unfold f_X12_complement
          rw [isL2 ht, isL2 hl, ob_s, if_neg (show ¬ nI 1 = (0 : Int32) by decide), ob_s, if_neg (show ¬ nI 1 = (0 : Int32) by decide), ldA_n hl (by omega), if_neg r3]
      · have hf : f_X11_complement (nI t) (nI l) m q (nI m) tab (gR (E 66)) = some (nI m, (fun u => va_up (gR (E 66)) t (some (u 0))), some (1, Int32.ofNat m, tab ^^^ (((1 : Int32) <<< (nI (2 ^ m) &&& 31)) - (1 : Int32)))) := by
          unfold f_X11_complement f_X2_complementOf f_X2_init
          rw [isL1 ht, isL1 hl, ob_s, if_neg (show ¬ nI 1 = (0 : Int32) by decide), ob_s, if_neg (show ¬ nI 1 = (0 : Int32) by decide), ldA_n hl (by omega), r1, nlA_s, asR_some, cases_ok (by omega), ob_s, ob_s, ob_s, ckA_n ht (by omega), nI_clamp (by omega)]
        obtain ⟨mo, hg, m1, m2, m3, m4, m5, m6, m7⟩ := cmp2L_ok (np := gS (E 0) 29) (truth := gI (E 14)) (pk := gI (E 15)) (pb := gI (E 16)) (pl := gI (E 17)) (pv := gI (E 18)) (pp := gI (E 19)) (nk := gI (E 20)) (nb := gI (E 21)) (nl := gI (E 22)) (nv := gI (E 23)) (npt := gI (E 24)) ht hl r2 r7 r9
        refine Or.inr ⟨q, d, nI f, nI m, tab, m, m, ts, vs, _, mo, c1, c2, c3, hf, hg, m1.symm, fun u _ => ?_⟩
        obtain ⟨L, hL⟩ : ∃ L : va_W, L = [((u 0), ob 2 [.int (1 : Int32), .int (Int32.ofNat m), .int (tab ^^^ (((1 : Int32) <<< (nI (2 ^ m) &&& 31)) - (1 : Int32))), .ref (d 3), .ref (d 4)])] := ⟨_, rfl⟩
        have hmm : ∀ q, q ∈ PT → q ∈ PT ++ L := fun q hq => List.mem_append_left _ hq
        show ∃ (tq1 : Nat → Option TV) (lq1 : Nat → Bool), TP cy (PT ++ [((u 0), ob 2 [.int (1 : Int32), .int (Int32.ofNat m), .int (tab ^^^ (((1 : Int32) <<< (nI (2 ^ m) &&& 31)) - (1 : Int32))), .ref (d 3), .ref (d 4)])]) tq1 ∧ LQ (PT ++ [((u 0), ob 2 [.int (1 : Int32), .int (Int32.ofNat m), .int (tab ^^^ (((1 : Int32) <<< (nI (2 ^ m) &&& 31)) - (1 : Int32))), .ref (d 3), .ref (d 4)])]) lq1 ∧ REL cy n ad _ (PT ++ [((u 0), ob 2 [.int (1 : Int32), .int (Int32.ofNat m), .int (tab ^^^ (((1 : Int32) <<< (nI (2 ^ m) &&& 31)) - (1 : Int32))), .ref (d 3), .ref (d 4)])]) tq1 lq1
        rw [← hL]
        have k1 : (u 0, ob 2 (oX2 d (nI 1) (nI m) (tab ^^^ (((1 : Int32) <<< (nI (2 ^ m) &&& 31)) - (1 : Int32))))) ∈ PT ++ L := by
          rw [hL]
          exact List.mem_append_right _ (List.mem_cons_self ..)
        refine ⟨tq, fun a => decide (a = u 0) || lq a, TP_mono hmm hTP, LQ_new hmm hLQ k1, ?_⟩
        refine (rel_mk rR rL rW0 rW1 rW2 rT ?_ rI rA rB rC (SnapR_mono hmm (fun _ _ h => h) lq_up rS) rM rZ)
        refine LangsR_new rG m2 hmm lq_up rfl lq_at k1 (hmm _ c2) (hmm _ c3) (by omega) r8 r9 (PartsR_fr P m3 m4 m5 m6 m7) (fun s hs => ?_)
        have hp : 2 ^ m ≤ 16 := Nat.pow_le_pow_right (n := 2) (by omega) r9
        rw [cmpl_ok r8 r9 hs, cmpl2_ok (by omega), hb s hs]
    · refine bad (-1) ?_ ?_
      · unfold f_X11_complement__e
        rw [isL1 ht, hb.1]
        rfl
      · unfold f_X12_complement
        rw [isL2 ht, hb.2]
        rfl
  · refine bad (-1) ?_ ?_
    · unfold f_X11_complement__e
      rw [hb.1]
      rfl
    · unfold f_X12_complement
      rw [hb.2]
      rfl
theorem op27 {cy : Nat → ClassId} {n : Nat} {ad : Nat → Nat} {E : Nat → va_E} {PT : va_W} {tq : Nat → Option TV} {lq : Nat → Bool} (H : REL cy n ad E PT tq lq) (hTP : TP cy PT tq) (hLQ : LQ PT lq) (x1 : Int32) (x2 : Int32) (x3 : Int32) : OP27 (REL cy) cy n ad E PT tq lq x1 x2 x3 := by
  obtain ⟨rR, rL, rW0, rW1, rW2, rT, rG, rI, rA, rB, rC, rS, rM, rZ⟩ := rel_el H
  have bad : ∀ z, f_X11_intersect__e x1 x2 x3 (gR (E 66)) = some z → f_X12_intersect x1 x2 x3 (gS (E 0) 29) (gI (E 12)) (gI (E 13)) (gI (E 14)) (gI (E 15)) (gI (E 16)) (gI (E 17)) (gI (E 18)) (gI (E 19)) (gI (E 20)) (gI (E 21)) (gI (E 22)) (gI (E 23)) (gI (E 24)) = some (z, gS (E 0) 29, gI (E 12), gI (E 13), gI (E 14), gI (E 15), gI (E 16), gI (E 17), gI (E 18), gI (E 19), gI (E 20), gI (E 21), gI (E 22), gI (E 23), gI (E 24)) → OP27 (REL cy) cy n ad E PT tq lq x1 x2 x3 := by
    intro z hf hg
    exact Or.inl ⟨_, _, hf, hg, rfl, (rel_mk rR rL rW0 rW1 rW2 rT rG rI rA rB rC rS rM rZ)⟩
  rcases langC x1 with ⟨t, ht, rfl⟩ | hb
  · rcases langC x2 with ⟨l1, hl1, rfl⟩ | hb
    · rcases langC x3 with ⟨l2, hl2, rfl⟩ | hb
      · rcases lang_form (rG l1 hl1) with ⟨r1, r2, r3, r4⟩ | ⟨q, d, f, m1, tab1, ts1, vs1, r1, r2, r3, r4, c1, c2, c3, r5, r6, r7, r8, r9, P1, hb1⟩
        · refine bad (-5) ?_ ?_
          · unfold f_X11_intersect__e f_X11_combine__e
            rw [isL1 ht, isL1 hl1, isL1 hl2, ob_s, if_neg (show ¬ nI 1 = (0 : Int32) by decide), ob_s, if_neg (show ¬ nI 1 = (0 : Int32) by decide), ob_s, if_neg (show ¬ nI 1 = (0 : Int32) by decide), ldA_n hl1 (by omega), r1, nlA_n, ldA_n hl2 (by omega)]
            rcases lang_form (rG l2 hl2) with ⟨s1, _⟩ | ⟨q', d', f', m', tab', ts', vs', s1, _⟩
            · rw [s1, nlA_n]
              rfl
            · rw [s1, nlA_s]
              rfl
          · unfold f_X12_intersect f_X12_join
            rw [isL2 ht, isL2 hl1, isL2 hl2, ob_s, if_neg (show ¬ nI 1 = (0 : Int32) by decide), ob_s, if_neg (show ¬ nI 1 = (0 : Int32) by decide), ob_s, if_neg (show ¬ nI 1 = (0 : Int32) by decide), ldA_n hl1 (by omega), if_pos r4]
            rfl
        · rcases lang_form (rG l2 hl2) with ⟨s1, s2, s3, s4⟩ | ⟨q', d', f', m2, tab2, ts2, vs2, s1, s2, s3, s4, c4, c5, c6, s5, s6, s7, s8, s9, P2, hb2⟩
          · refine bad (-5) ?_ ?_
            · unfold f_X11_intersect__e f_X11_combine__e
              rw [isL1 ht, isL1 hl1, isL1 hl2, ob_s, if_neg (show ¬ nI 1 = (0 : Int32) by decide), ob_s, if_neg (show ¬ nI 1 = (0 : Int32) by decide), ob_s, if_neg (show ¬ nI 1 = (0 : Int32) by decide), ldA_n hl1 (by omega), r1, nlA_s, ldA_n hl2 (by omega), s1, nlA_n]
              rfl
            · unfold f_X12_intersect f_X12_join
              rw [isL2 ht, isL2 hl1, isL2 hl2, ob_s, if_neg (show ¬ nI 1 = (0 : Int32) by decide), ob_s, if_neg (show ¬ nI 1 = (0 : Int32) by decide), ob_s, if_neg (show ¬ nI 1 = (0 : Int32) by decide), ldA_n hl1 (by omega), if_neg r3, ldA_n hl2 (by omega), if_neg s3]
              rfl
          · by_cases hm : m1 + m2 ≤ 4
            · have e16 : 2 ^ m1 * 2 ^ m2 = 2 ^ (m1 + m2) := (Nat.pow_add 2 m1 m2).symm
              obtain ⟨z, hz, z1, z2, z3, z4, z5, z6, z7⟩ := joined_ok (u := false) (t1 := tab1) (t2 := tab2) r8 s8 hm P1 P2
              have hf : f_X11_intersect (nI t) (nI l1) (nI l2) m1 m1 m2 m2 q q' tq (nI m1) tab1 (nI m2) tab2 ts1 vs1 ts2 vs2 (gR (E 66)) = some (nI (m1 + m2), (fun u => va_up (gR (E 66)) t (some (u 0))), some z) := by
                unfold f_X11_intersect f_X11_combine
                rw [isL1 ht, isL1 hl1, isL1 hl2, ob_s, if_neg (show ¬ nI 1 = (0 : Int32) by decide), ob_s, if_neg (show ¬ nI 1 = (0 : Int32) by decide), ob_s, if_neg (show ¬ nI 1 = (0 : Int32) by decide), ldA_n hl1 (by omega), r1, nlA_s, asR_some, ldA_n hl2 (by omega), s1, nlA_s, asR_some, pI_add, if_pos (show nI (m1 + m2) ≤ (4 : Int32) from (pI_le_iff (b := 4) (by omega) (by omega)).mpr hm), show f_X2_joined (2 : Int32) m1 m1 m2 m2 tq (nI m1) tab1 (nI m2) tab2 ts1 vs1 ts2 vs2 = some z from hz, ob_s, ckA_n ht (by omega), ob_s, nI_clamp (by omega)]
              obtain ⟨mo, hg, m1', ⟨tr, m2', hbt⟩, m3, m4, m5, m6, m7⟩ := join2_ok (u := false) (np := gS (E 0) 29) (truth := gI (E 14)) (pk := gI (E 15)) (pb := gI (E 16)) (pl := gI (E 17)) (pv := gI (E 18)) (pp := gI (E 19)) (nk := gI (E 20)) (nb := gI (E 21)) (nl := gI (E 22)) (nv := gI (E 23)) (npt := gI (E 24)) ht hl1 hl2 r3 s2 r7 s7 r8 s8 hm
              have hg2 : f_X12_intersect (nI t) (nI l1) (nI l2) (gS (E 0) 29) (gI (E 12)) (gI (E 13)) (gI (E 14)) (gI (E 15)) (gI (E 16)) (gI (E 17)) (gI (E 18)) (gI (E 19)) (gI (E 20)) (gI (E 21)) (gI (E 22)) (gI (E 23)) (gI (E 24)) = some mo := by
                unfold f_X12_intersect
                rw [show f_X12_join (nI t) (nI l1) (nI l2) (0 : Int32) (gS (E 0) 29) (gI (E 12)) (gI (E 13)) (gI (E 14)) (gI (E 15)) (gI (E 16)) (gI (E 17)) (gI (E 18)) (gI (E 19)) (gI (E 20)) (gI (E 21)) (gI (E 22)) (gI (E 23)) (gI (E 24)) = some mo from hg]
                rfl
              refine Or.inr ⟨q, d, nI f, nI m1, tab1, m1, m1, ts1, vs1, q', d', nI f', nI m2, tab2, m2, m2, ts2, vs2, _, mo, c1, c2, c3, c4, c5, c6, hf, hg2, m1'.symm, fun u _ => ?_⟩
              obtain ⟨L, hL⟩ : ∃ L : va_W, L = [((u 0), ob 2 [.int z.1, .int z.2.1, .int z.2.2.1, .ref (u 1), .ref (u 2)]), ((u 1), aR cy 4 z.2.2.2.1 z.2.2.2.2.1), ((u 2), aI cy z.2.2.2.2.2.1 z.2.2.2.2.2.2)] := ⟨_, rfl⟩
              have hmm : ∀ q, q ∈ PT → q ∈ PT ++ L := fun q hq => List.mem_append_left _ hq
              show ∃ (tq1 : Nat → Option TV) (lq1 : Nat → Bool), TP cy (PT ++ [((u 0), ob 2 [.int z.1, .int z.2.1, .int z.2.2.1, .ref (u 1), .ref (u 2)]), ((u 1), aR cy 4 z.2.2.2.1 z.2.2.2.2.1), ((u 2), aI cy z.2.2.2.2.2.1 z.2.2.2.2.2.2)]) tq1 ∧ LQ (PT ++ [((u 0), ob 2 [.int z.1, .int z.2.1, .int z.2.2.1, .ref (u 1), .ref (u 2)]), ((u 1), aR cy 4 z.2.2.2.1 z.2.2.2.2.1), ((u 2), aI cy z.2.2.2.2.2.1 z.2.2.2.2.2.2)]) lq1 ∧ REL cy n ad _ (PT ++ [((u 0), ob 2 [.int z.1, .int z.2.1, .int z.2.2.1, .ref (u 1), .ref (u 2)]), ((u 1), aR cy 4 z.2.2.2.1 z.2.2.2.2.1), ((u 2), aI cy z.2.2.2.2.2.1 z.2.2.2.2.2.2)]) tq1 lq1
              rw [← hL]
              have k1 : (u 0, ob 2 (oX2 (fun x => if x = 3 then u 1 else u 2) (nI 2) (nI (m1 + m2)) z.2.2.1)) ∈ PT ++ L := by
                rw [hL]
                refine List.mem_append_right _ ?_
                rw [z1, z2]
                exact List.mem_cons_self ..
              have k2 : ((fun x => if x = 3 then u 1 else u 2) 3, aR cy 4 (m1 + m2) z.2.2.2.2.1) ∈ PT ++ L := by
                rw [hL]
                refine List.mem_append_right _ (List.mem_cons_of_mem _ ?_)
                rw [z4]
                exact List.mem_cons_self ..
              have k3 : ((fun x => if x = 3 then u 1 else u 2) 4, aI cy (m1 + m2) z.2.2.2.2.2.2) ∈ PT ++ L := by
                rw [hL]
                refine List.mem_append_right _ (List.mem_cons_of_mem _ (List.mem_cons_of_mem _ ?_))
                rw [z5]
                exact List.mem_cons_self ..
              refine ⟨tq, fun a => decide (a = u 0) || lq a, TP_mono hmm hTP, LQ_new hmm hLQ k1, ?_⟩
              refine (rel_mk rR rL rW0 rW1 rW2 rT ?_ rI rA rB rC (SnapR_mono hmm (fun _ _ h => h) lq_up rS) rM rZ)
              refine LangsR_new (f := 2) rG m2' hmm lq_up rfl lq_at k1 k2 k3 (by omega) (by omega) hm (PartsR_cat P1 P2 z6 z7 m3 m4 m5 m6 m7) (fun s hs => ?_)
              rw [z3 s (by omega), hbt s hs]
              unfold jB
              rw [hb1 (s % 2 ^ m1) (Nat.mod_lt _ (Nat.pow_pos (by omega))), hb2 (s / 2 ^ m1) (Nat.div_lt_of_lt_mul (by omega))]
            · have hf : f_X11_intersect (nI t) (nI l1) (nI l2) m1 m1 m2 m2 q q' tq (nI m1) tab1 (nI m2) tab2 ts1 vs1 ts2 vs2 (gR (E 66)) = some (-3, (fun u => gR (E 66)), none) := by
                unfold f_X11_intersect f_X11_combine
                rw [isL1 ht, isL1 hl1, isL1 hl2, ob_s, if_neg (show ¬ nI 1 = (0 : Int32) by decide), ob_s, if_neg (show ¬ nI 1 = (0 : Int32) by decide), ob_s, if_neg (show ¬ nI 1 = (0 : Int32) by decide), ldA_n hl1 (by omega), r1, nlA_s, asR_some, ldA_n hl2 (by omega), s1, nlA_s, asR_some, pI_add, if_neg (show ¬ nI (m1 + m2) ≤ (4 : Int32) from fun h => by have := (pI_le_iff (b := 4) (by omega) (by omega)).mp h; omega), ob_s]
              have hg2 : f_X12_intersect (nI t) (nI l1) (nI l2) (gS (E 0) 29) (gI (E 12)) (gI (E 13)) (gI (E 14)) (gI (E 15)) (gI (E 16)) (gI (E 17)) (gI (E 18)) (gI (E 19)) (gI (E 20)) (gI (E 21)) (gI (E 22)) (gI (E 23)) (gI (E 24)) = some (-3, gS (E 0) 29, gI (E 12), gI (E 13), gI (E 14), gI (E 15), gI (E 16), gI (E 17), gI (E 18), gI (E 19), gI (E 20), gI (E 21), gI (E 22), gI (E 23), gI (E 24)) := by
                unfold f_X12_intersect
                rw [show f_X12_join (nI t) (nI l1) (nI l2) (0 : Int32) (gS (E 0) 29) (gI (E 12)) (gI (E 13)) (gI (E 14)) (gI (E 15)) (gI (E 16)) (gI (E 17)) (gI (E 18)) (gI (E 19)) (gI (E 20)) (gI (E 21)) (gI (E 22)) (gI (E 23)) (gI (E 24)) = some (-3, gS (E 0) 29, gI (E 12), gI (E 13), gI (E 14), gI (E 15), gI (E 16), gI (E 17), gI (E 18), gI (E 19), gI (E 20), gI (E 21), gI (E 22), gI (E 23), gI (E 24)) from join2_full (u := false) ht hl1 hl2 r3 s2 r7 s7 r9 s9 (by omega)]
                rfl
              refine Or.inr ⟨q, d, nI f, nI m1, tab1, m1, m1, ts1, vs1, q', d', nI f', nI m2, tab2, m2, m2, ts2, vs2, _, _, c1, c2, c3, c4, c5, c6, hf, hg2, rfl, fun u _ => ?_⟩
              refine ⟨tq, lq, ?_, ?_, ?_⟩
              · show TP cy (PT ++ []) tq
                rw [List.append_nil]
                exact hTP
              · show LQ (PT ++ []) lq
                rw [List.append_nil]
                exact hLQ
              · show REL cy n ad _ (PT ++ []) tq lq
                rw [List.append_nil]
                exact (rel_mk rR rL rW0 rW1 rW2 rT rG rI rA rB rC rS rM rZ)
      · refine bad (-1) ?_ ?_
        · unfold f_X11_intersect__e f_X11_combine__e
          rw [isL1 ht, isL1 hl1, hb.1]
          rfl
        · unfold f_X12_intersect f_X12_join
          rw [isL2 ht, isL2 hl1, hb.2]
          rfl
    · refine bad (-1) ?_ ?_
      · unfold f_X11_intersect__e f_X11_combine__e
        rw [isL1 ht, hb.1]
        rfl
      · unfold f_X12_intersect f_X12_join
        rw [isL2 ht, hb.2]
        rfl
  · refine bad (-1) ?_ ?_
    · unfold f_X11_intersect__e f_X11_combine__e
      rw [hb.1]
      rfl
    · unfold f_X12_intersect f_X12_join
      rw [hb.2]
      rfl
theorem op28 {cy : Nat → ClassId} {n : Nat} {ad : Nat → Nat} {E : Nat → va_E} {PT : va_W} {tq : Nat → Option TV} {lq : Nat → Bool} (H : REL cy n ad E PT tq lq) (hTP : TP cy PT tq) (hLQ : LQ PT lq) (x1 : Int32) (x2 : Int32) (x3 : Int32) : OP28 (REL cy) cy n ad E PT tq lq x1 x2 x3 := by
  obtain ⟨rR, rL, rW0, rW1, rW2, rT, rG, rI, rA, rB, rC, rS, rM, rZ⟩ := rel_el H
  have bad : ∀ z, f_X11_unite__e x1 x2 x3 (gR (E 66)) = some z → f_X12_unite x1 x2 x3 (gS (E 0) 29) (gI (E 12)) (gI (E 13)) (gI (E 14)) (gI (E 15)) (gI (E 16)) (gI (E 17)) (gI (E 18)) (gI (E 19)) (gI (E 20)) (gI (E 21)) (gI (E 22)) (gI (E 23)) (gI (E 24)) = some (z, gS (E 0) 29, gI (E 12), gI (E 13), gI (E 14), gI (E 15), gI (E 16), gI (E 17), gI (E 18), gI (E 19), gI (E 20), gI (E 21), gI (E 22), gI (E 23), gI (E 24)) → OP28 (REL cy) cy n ad E PT tq lq x1 x2 x3 := by
    intro z hf hg
    exact Or.inl ⟨_, _, hf, hg, rfl, (rel_mk rR rL rW0 rW1 rW2 rT rG rI rA rB rC rS rM rZ)⟩
  rcases langC x1 with ⟨t, ht, rfl⟩ | hb
  · rcases langC x2 with ⟨l1, hl1, rfl⟩ | hb
    · rcases langC x3 with ⟨l2, hl2, rfl⟩ | hb
      · rcases lang_form (rG l1 hl1) with ⟨r1, r2, r3, r4⟩ | ⟨q, d, f, m1, tab1, ts1, vs1, r1, r2, r3, r4, c1, c2, c3, r5, r6, r7, r8, r9, P1, hb1⟩
        · refine bad (-5) ?_ ?_
          · unfold f_X11_unite__e f_X11_combine__e
            rw [isL1 ht, isL1 hl1, isL1 hl2, ob_s, if_neg (show ¬ nI 1 = (0 : Int32) by decide), ob_s, if_neg (show ¬ nI 1 = (0 : Int32) by decide), ob_s, if_neg (show ¬ nI 1 = (0 : Int32) by decide), ldA_n hl1 (by omega), r1, nlA_n, ldA_n hl2 (by omega)]
            rcases lang_form (rG l2 hl2) with ⟨s1, _⟩ | ⟨q', d', f', m', tab', ts', vs', s1, _⟩
            · rw [s1, nlA_n]
              rfl
            · rw [s1, nlA_s]
              rfl
          · unfold f_X12_unite f_X12_join
            rw [isL2 ht, isL2 hl1, isL2 hl2, ob_s, if_neg (show ¬ nI 1 = (0 : Int32) by decide), ob_s, if_neg (show ¬ nI 1 = (0 : Int32) by decide), ob_s, if_neg (show ¬ nI 1 = (0 : Int32) by decide), ldA_n hl1 (by omega), if_pos r4]
            rfl
        · rcases lang_form (rG l2 hl2) with ⟨s1, s2, s3, s4⟩ | ⟨q', d', f', m2, tab2, ts2, vs2, s1, s2, s3, s4, c4, c5, c6, s5, s6, s7, s8, s9, P2, hb2⟩
          · refine bad (-5) ?_ ?_
            · unfold f_X11_unite__e f_X11_combine__e
              rw [isL1 ht, isL1 hl1, isL1 hl2, ob_s, if_neg (show ¬ nI 1 = (0 : Int32) by decide), ob_s, if_neg (show ¬ nI 1 = (0 : Int32) by decide), ob_s, if_neg (show ¬ nI 1 = (0 : Int32) by decide), ldA_n hl1 (by omega), r1, nlA_s, ldA_n hl2 (by omega), s1, nlA_n]
              rfl
            · unfold f_X12_unite f_X12_join
              rw [isL2 ht, isL2 hl1, isL2 hl2, ob_s, if_neg (show ¬ nI 1 = (0 : Int32) by decide), ob_s, if_neg (show ¬ nI 1 = (0 : Int32) by decide), ob_s, if_neg (show ¬ nI 1 = (0 : Int32) by decide), ldA_n hl1 (by omega), if_neg r3, ldA_n hl2 (by omega), if_neg s3]
              rfl
          · by_cases hm : m1 + m2 ≤ 4
            · have e16 : 2 ^ m1 * 2 ^ m2 = 2 ^ (m1 + m2) := (Nat.pow_add 2 m1 m2).symm
              obtain ⟨z, hz, z1, z2, z3, z4, z5, z6, z7⟩ := joined_ok (u := true) (t1 := tab1) (t2 := tab2) r8 s8 hm P1 P2
              have hf : f_X11_unite (nI t) (nI l1) (nI l2) m1 m1 m2 m2 q q' tq (nI m1) tab1 (nI m2) tab2 ts1 vs1 ts2 vs2 (gR (E 66)) = some (nI (m1 + m2), (fun u => va_up (gR (E 66)) t (some (u 0))), some z) := by
                unfold f_X11_unite f_X11_combine
                rw [isL1 ht, isL1 hl1, isL1 hl2, ob_s, if_neg (show ¬ nI 1 = (0 : Int32) by decide), ob_s, if_neg (show ¬ nI 1 = (0 : Int32) by decide), ob_s, if_neg (show ¬ nI 1 = (0 : Int32) by decide), ldA_n hl1 (by omega), r1, nlA_s, asR_some, ldA_n hl2 (by omega), s1, nlA_s, asR_some, pI_add, if_pos (show nI (m1 + m2) ≤ (4 : Int32) from (pI_le_iff (b := 4) (by omega) (by omega)).mpr hm), show f_X2_joined (3 : Int32) m1 m1 m2 m2 tq (nI m1) tab1 (nI m2) tab2 ts1 vs1 ts2 vs2 = some z from hz, ob_s, ckA_n ht (by omega), ob_s, nI_clamp (by omega)]
              obtain ⟨mo, hg, m1', ⟨tr, m2', hbt⟩, m3, m4, m5, m6, m7⟩ := join2_ok (u := true) (np := gS (E 0) 29) (truth := gI (E 14)) (pk := gI (E 15)) (pb := gI (E 16)) (pl := gI (E 17)) (pv := gI (E 18)) (pp := gI (E 19)) (nk := gI (E 20)) (nb := gI (E 21)) (nl := gI (E 22)) (nv := gI (E 23)) (npt := gI (E 24)) ht hl1 hl2 r3 s2 r7 s7 r8 s8 hm
              have hg2 : f_X12_unite (nI t) (nI l1) (nI l2) (gS (E 0) 29) (gI (E 12)) (gI (E 13)) (gI (E 14)) (gI (E 15)) (gI (E 16)) (gI (E 17)) (gI (E 18)) (gI (E 19)) (gI (E 20)) (gI (E 21)) (gI (E 22)) (gI (E 23)) (gI (E 24)) = some mo := by
                unfold f_X12_unite
                rw [show f_X12_join (nI t) (nI l1) (nI l2) (1 : Int32) (gS (E 0) 29) (gI (E 12)) (gI (E 13)) (gI (E 14)) (gI (E 15)) (gI (E 16)) (gI (E 17)) (gI (E 18)) (gI (E 19)) (gI (E 20)) (gI (E 21)) (gI (E 22)) (gI (E 23)) (gI (E 24)) = some mo from hg]
                rfl
              refine Or.inr ⟨q, d, nI f, nI m1, tab1, m1, m1, ts1, vs1, q', d', nI f', nI m2, tab2, m2, m2, ts2, vs2, _, mo, c1, c2, c3, c4, c5, c6, hf, hg2, m1'.symm, fun u _ => ?_⟩
              obtain ⟨L, hL⟩ : ∃ L : va_W, L = [((u 0), ob 2 [.int z.1, .int z.2.1, .int z.2.2.1, .ref (u 1), .ref (u 2)]), ((u 1), aR cy 4 z.2.2.2.1 z.2.2.2.2.1), ((u 2), aI cy z.2.2.2.2.2.1 z.2.2.2.2.2.2)] := ⟨_, rfl⟩
              have hmm : ∀ q, q ∈ PT → q ∈ PT ++ L := fun q hq => List.mem_append_left _ hq
              show ∃ (tq1 : Nat → Option TV) (lq1 : Nat → Bool), TP cy (PT ++ [((u 0), ob 2 [.int z.1, .int z.2.1, .int z.2.2.1, .ref (u 1), .ref (u 2)]), ((u 1), aR cy 4 z.2.2.2.1 z.2.2.2.2.1), ((u 2), aI cy z.2.2.2.2.2.1 z.2.2.2.2.2.2)]) tq1 ∧ LQ (PT ++ [((u 0), ob 2 [.int z.1, .int z.2.1, .int z.2.2.1, .ref (u 1), .ref (u 2)]), ((u 1), aR cy 4 z.2.2.2.1 z.2.2.2.2.1), ((u 2), aI cy z.2.2.2.2.2.1 z.2.2.2.2.2.2)]) lq1 ∧ REL cy n ad _ (PT ++ [((u 0), ob 2 [.int z.1, .int z.2.1, .int z.2.2.1, .ref (u 1), .ref (u 2)]), ((u 1), aR cy 4 z.2.2.2.1 z.2.2.2.2.1), ((u 2), aI cy z.2.2.2.2.2.1 z.2.2.2.2.2.2)]) tq1 lq1
              rw [← hL]
              have k1 : (u 0, ob 2 (oX2 (fun x => if x = 3 then u 1 else u 2) (nI 3) (nI (m1 + m2)) z.2.2.1)) ∈ PT ++ L := by
                rw [hL]
                refine List.mem_append_right _ ?_
                rw [z1, z2]
                exact List.mem_cons_self ..
              have k2 : ((fun x => if x = 3 then u 1 else u 2) 3, aR cy 4 (m1 + m2) z.2.2.2.2.1) ∈ PT ++ L := by
                rw [hL]
                refine List.mem_append_right _ (List.mem_cons_of_mem _ ?_)
                rw [z4]
                exact List.mem_cons_self ..
              have k3 : ((fun x => if x = 3 then u 1 else u 2) 4, aI cy (m1 + m2) z.2.2.2.2.2.2) ∈ PT ++ L := by
                rw [hL]
                refine List.mem_append_right _ (List.mem_cons_of_mem _ (List.mem_cons_of_mem _ ?_))
                rw [z5]
                exact List.mem_cons_self ..
              refine ⟨tq, fun a => decide (a = u 0) || lq a, TP_mono hmm hTP, LQ_new hmm hLQ k1, ?_⟩
              refine (rel_mk rR rL rW0 rW1 rW2 rT ?_ rI rA rB rC (SnapR_mono hmm (fun _ _ h => h) lq_up rS) rM rZ)
              refine LangsR_new (f := 3) rG m2' hmm lq_up rfl lq_at k1 k2 k3 (by omega) (by omega) hm (PartsR_cat P1 P2 z6 z7 m3 m4 m5 m6 m7) (fun s hs => ?_)
              rw [z3 s (by omega), hbt s hs]
              unfold jB
              rw [hb1 (s % 2 ^ m1) (Nat.mod_lt _ (Nat.pow_pos (by omega))), hb2 (s / 2 ^ m1) (Nat.div_lt_of_lt_mul (by omega))]
            · have hf : f_X11_unite (nI t) (nI l1) (nI l2) m1 m1 m2 m2 q q' tq (nI m1) tab1 (nI m2) tab2 ts1 vs1 ts2 vs2 (gR (E 66)) = some (-3, (fun u => gR (E 66)), none) := by
                unfold f_X11_unite f_X11_combine
                rw [isL1 ht, isL1 hl1, isL1 hl2, ob_s, if_neg (show ¬ nI 1 = (0 : Int32) by decide), ob_s, if_neg (show ¬ nI 1 = (0 : Int32) by decide), ob_s, if_neg (show ¬ nI 1 = (0 : Int32) by decide), ldA_n hl1 (by omega), r1, nlA_s, asR_some, ldA_n hl2 (by omega), s1, nlA_s, asR_some, pI_add, if_neg (show ¬ nI (m1 + m2) ≤ (4 : Int32) from fun h => by have := (pI_le_iff (b := 4) (by omega) (by omega)).mp h; omega), ob_s]
              have hg2 : f_X12_unite (nI t) (nI l1) (nI l2) (gS (E 0) 29) (gI (E 12)) (gI (E 13)) (gI (E 14)) (gI (E 15)) (gI (E 16)) (gI (E 17)) (gI (E 18)) (gI (E 19)) (gI (E 20)) (gI (E 21)) (gI (E 22)) (gI (E 23)) (gI (E 24)) = some (-3, gS (E 0) 29, gI (E 12), gI (E 13), gI (E 14), gI (E 15), gI (E 16), gI (E 17), gI (E 18), gI (E 19), gI (E 20), gI (E 21), gI (E 22), gI (E 23), gI (E 24)) := by
                unfold f_X12_unite
                rw [show f_X12_join (nI t) (nI l1) (nI l2) (1 : Int32) (gS (E 0) 29) (gI (E 12)) (gI (E 13)) (gI (E 14)) (gI (E 15)) (gI (E 16)) (gI (E 17)) (gI (E 18)) (gI (E 19)) (gI (E 20)) (gI (E 21)) (gI (E 22)) (gI (E 23)) (gI (E 24)) = some (-3, gS (E 0) 29, gI (E 12), gI (E 13), gI (E 14), gI (E 15), gI (E 16), gI (E 17), gI (E 18), gI (E 19), gI (E 20), gI (E 21), gI (E 22), gI (E 23), gI (E 24)) from join2_full (u := true) ht hl1 hl2 r3 s2 r7 s7 r9 s9 (by omega)]
                rfl
              refine Or.inr ⟨q, d, nI f, nI m1, tab1, m1, m1, ts1, vs1, q', d', nI f', nI m2, tab2, m2, m2, ts2, vs2, _, _, c1, c2, c3, c4, c5, c6, hf, hg2, rfl, fun u _ => ?_⟩
              refine ⟨tq, lq, ?_, ?_, ?_⟩
              · show TP cy (PT ++ []) tq
                rw [List.append_nil]
                exact hTP
              · show LQ (PT ++ []) lq
                rw [List.append_nil]
                exact hLQ
              · show REL cy n ad _ (PT ++ []) tq lq
                rw [List.append_nil]
                exact (rel_mk rR rL rW0 rW1 rW2 rT rG rI rA rB rC rS rM rZ)
      · refine bad (-1) ?_ ?_
        · unfold f_X11_unite__e f_X11_combine__e
          rw [isL1 ht, isL1 hl1, hb.1]
          rfl
        · unfold f_X12_unite f_X12_join
          rw [isL2 ht, isL2 hl1, hb.2]
          rfl
    · refine bad (-1) ?_ ?_
      · unfold f_X11_unite__e f_X11_combine__e
        rw [isL1 ht, hb.1]
        rfl
      · unfold f_X12_unite f_X12_join
        rw [isL2 ht, hb.2]
        rfl
  · refine bad (-1) ?_ ?_
    · unfold f_X11_unite__e f_X11_combine__e
      rw [hb.1]
      rfl
    · unfold f_X12_unite f_X12_join
      rw [hb.2]
      rfl
theorem op29 {cy : Nat → ClassId} {n : Nat} {ad : Nat → Nat} {E : Nat → va_E} {PT : va_W} {tq : Nat → Option TV} {lq : Nat → Bool} (H : REL cy n ad E PT tq lq) (x1 : Int32) : OP29 (REL cy) cy n ad E PT tq lq x1 := by
  obtain ⟨rR, rL, rW0, rW1, rW2, rT, rG, rI, rA, rB, rC, rS, rM, rZ⟩ := rel_el H
  rcases langC x1 with ⟨l, hl, rfl⟩ | hb
  · have hf : ∀ z, z = (if gR (E 66) l = none then (0 : Int32) else 1) → f_X11_clearLanguage (nI l) (gR (E 66)) = some (z, va_up (gR (E 66)) l none) := by
      rintro z rfl
      unfold f_X11_clearLanguage j_X11_clearLanguage_26
      rw [isL1 hl, ob_s, if_neg (show ¬ nI 1 = (0 : Int32) by decide), ldA_n hl (by omega), stA_n hl (by omega), stA_n hl (by omega)]
      unfold nlA
      by_cases c : gR (E 66) l = none
      · rw [if_pos c, if_pos c]
      · rw [if_neg c, if_neg c]
    have hg : ∀ z, z = (if 0 ≤ gI (E 12) l then (1 : Int32) else 0) → f_X12_clearLanguage (nI l) (gI (E 12)) = some (z, va_up (gI (E 12)) l (-1)) := by
      rintro z rfl
      unfold f_X12_clearLanguage j_X12_clearLanguage_23
      rw [isL2 hl, ob_s, if_neg (show ¬ nI 1 = (0 : Int32) by decide), ldA_n hl (by omega), stA_n hl (by omega), stA_n hl (by omega)]
      by_cases c : 0 ≤ gI (E 12) l
      · rw [if_pos c, if_pos c]
      · rw [if_neg c, if_neg c]
    refine ⟨_, _, hf _ rfl, hg _ rfl, ?_, (rel_mk rR rL rW0 rW1 rW2 rT ?_ rI rA rB rC rS rM rZ)⟩
    · show (if gR (E 66) l = none then (0 : Int32) else 1) = (if 0 ≤ gI (E 12) l then (1 : Int32) else 0)
      rcases lang_form (rG l hl) with ⟨r1, r2, r3, r4⟩ | ⟨q, d, f, m, tab, ts, vs, r1, r2, r3, _⟩
      · rw [if_pos r1, if_neg r3]
      · rw [if_neg (by rw [r1]; intro h; cases h), if_pos r2]
    · exact LangsR_set l (fun _ h => h) (fun _ _ h => h) (fun _ h => h) rG (fun x hx => upN hx) (fun x hx => upN hx) (fun _ _ => rfl) (fun _ _ => rfl) (fun _ _ => rfl) (fun _ _ => rfl) (fun _ _ => rfl) (fun _ _ => rfl) (fun _ _ => rfl) (Or.inl ⟨upE rfl, upE rfl⟩)
  · refine ⟨(-1, gR (E 66)), (-1, gI (E 12)), ?_, ?_, rfl, (rel_mk rR rL rW0 rW1 rW2 rT rG rI rA rB rC rS rM rZ)⟩
    · unfold f_X11_clearLanguage
      rw [hb.1]
      rfl
    · unfold f_X12_clearLanguage
      rw [hb.2]
      rfl
theorem op30 {cy : Nat → ClassId} {n : Nat} {ad : Nat → Nat} {E : Nat → va_E} {PT : va_W} {tq : Nat → Option TV} {lq : Nat → Bool} (H : REL cy n ad E PT tq lq) (x1 : Int32) : OP30 (REL cy) cy n ad E PT tq lq x1 := by
  obtain ⟨rR, rL, rW0, rW1, rW2, rT, rG, rI, rA, rB, rC, rS, rM, rZ⟩ := rel_el H
  rcases langC x1 with ⟨l, hl, rfl⟩ | hb
  · rcases lang_form (rG l hl) with ⟨r1, r2, r3, r4⟩ | ⟨q, d, f, m, tab, ts, vs, r1, r2, r3, r4, c1, c2, c3, r5, r6, _⟩
    · refine Or.inl ⟨-5, -5, ?_, ?_, rfl, H⟩
      · unfold f_X11_form__e
        rw [isL1 hl, ob_s, if_neg (show ¬ nI 1 = (0 : Int32) by decide), ldA_n hl (by omega), r1, nlA_n]
      · unfold f_X12_form
        rw [isL2 hl, ob_s, if_neg (show ¬ nI 1 = (0 : Int32) by decide), ldA_n hl (by omega), if_neg r3]
    · refine Or.inr ⟨q, d, nI f, nI m, tab, m, m, ts, vs, nI f, nI f, c1, c2, c3, ?_, ?_, rfl, H⟩
      · unfold f_X11_form
        rw [isL1 hl, ob_s, if_neg (show ¬ nI 1 = (0 : Int32) by decide), ldA_n hl (by omega), r1, nlA_s, asR_some]
      · unfold f_X12_form
        rw [isL2 hl, ob_s, if_neg (show ¬ nI 1 = (0 : Int32) by decide), ldA_n hl (by omega), if_pos r2, ldA_n hl (by omega), r6]
  · refine Or.inl ⟨-1, -1, ?_, ?_, rfl, H⟩
    · unfold f_X11_form__e
      rw [hb.1]
      rfl
    · unfold f_X12_form
      rw [hb.2]
      rfl
theorem p_contains {cy : Nat → ClassId} {PT : va_W} {tq : Nat → Option TV} {sz : Int32} {q qw l w m : Nat} {tab : Int32} {rf lg ts : Nat → Option Nat} {vs ls wl wd form parts truth pk pb pl pv pp ws : Nat → Int32} (hl : l < 4) (hw : w < 3) (r1 : lg l = some q) (r2 : 0 ≤ form l) (em : parts l = nI m) (hm4 : m ≤ 4) (P : PartsR tq m ts vs (fun i => pk (4 * l + i)) (fun i => pb (4 * l + i)) (fun i => pl (4 * l + i)) (fun i => pv (4 * l + i)) (fun i => pp (16 * l + i))) (hb : ∀ s, s < 2 ^ m → bt tab s = bt (truth l) s) (hq : rf w = some qw) (hW : WordR sz ls (wl w) wd (12 * w)) : W2 (f_X11_contains (nI l) (nI w) m m q qw tq (nI m) tab sz ts vs ls rf lg) (f_X12_contains (nI l) (nI w) wl wd form parts truth pk pb pl pv pp ws) (fun o m => o = m.1) := by
  obtain ⟨L, hL, rfl, hl', hd⟩ := hW
  unfold f_X11_contains f_X12_contains
  rw [isL1 hl, isW1 hw, isL2 hl, isW2 hw, ob_s, if_neg (show ¬ nI 1 = (0 : Int32) by decide), ob_s, if_neg (show ¬ nI 1 = (0 : Int32) by decide), ob_s, if_neg (show ¬ nI 1 = (0 : Int32) by decide), ob_s, if_neg (show ¬ nI 1 = (0 : Int32) by decide), ldA_n hl (by omega), r1, nlA_s, asR_some, ldA_n hw (by omega), hq, asR_some, ldA_n hl (by omega), if_pos r2]
  refine w2_l (holds_ok hm4 hL P) (fun u hu => w2_r (cont_ok (truth := truth) hl hm4 em hw hL hl' P) (fun v hv => ?_))
  have hp : 2 ^ m ≤ 16 := Nat.pow_le_pow_right (n := 2) (by omega) hm4
  have es : stB (fun i => decide (nI (vN (pk (4 * l + i)).toNatClampNeg (pb (4 * l + i)).toNatClampNeg (pl (4 * l + i)).toNatClampNeg (fun j => pp (16 * l + (4 * i + j))) ls L) = pv (4 * l + i))) m = stB (fun i => decide (nI (vN (pk (4 * l + i)).toNatClampNeg (pb (4 * l + i)).toNatClampNeg (pl (4 * l + i)).toNatClampNeg (fun j => pp (16 * l + (4 * i + j))) (fun i => wd (12 * w + i)) L) = pv (4 * l + i))) m := by
    refine stB_congr (fun i hi => ?_)
    show decide _ = decide _
    rw [vN_congr (p' := fun j => pp (16 * l + (4 * i + j))) (t' := fun i => wd (12 * w + i)) (fun _ _ => rfl) hd]
  have hlt := stB_lt (b := fun i => decide (nI (vN (pk (4 * l + i)).toNatClampNeg (pb (4 * l + i)).toNatClampNeg (pl (4 * l + i)).toNatClampNeg (fun j => pp (16 * l + (4 * i + j))) (fun i => wd (12 * w + i)) L) = pv (4 * l + i))) m
  rw [es] at hu
  rw [hu, ldA_n hl (by omega), hv, bit_s (by omega), hb _ hlt]
  by_cases c : bt (truth l) (stB (fun i => decide (nI (vN (pk (4 * l + i)).toNatClampNeg (pb (4 * l + i)).toNatClampNeg (pl (4 * l + i)).toNatClampNeg (fun j => pp (16 * l + (4 * i + j))) (fun i => wd (12 * w + i)) L) = pv (4 * l + i))) m) = true
  · rw [if_pos c, if_neg (show ¬ nI 1 = (0 : Int32) by decide)]
    exact w2_s rfl
  · rw [if_neg c, if_pos (show nI 0 = (0 : Int32) from rfl)]
    exact w2_s rfl
theorem w2_out {α β : Type} {f : Option α} {g : Option β} {Q : α → β → Prop} (h : W2 f g Q) : ∃ (o : α) (m : β), f = some o ∧ g = some m ∧ Q o m := h
theorem op31 {cy : Nat → ClassId} {n : Nat} {ad : Nat → Nat} {E : Nat → va_E} {PT : va_W} {tq : Nat → Option TV} {lq : Nat → Bool} (H : REL cy n ad E PT tq lq) (x1 : Int32) (x2 : Int32) : OP31 (REL cy) cy n ad E PT tq lq x1 x2 := by
  obtain ⟨rR, rL, rW0, rW1, rW2, rT, rG, rI, rA, rB, rC, rS, rM, rZ⟩ := rel_el H
  rcases langC x1 with ⟨l, hl, rfl⟩ | hb
  · rcases wordC x2 with ⟨w, hw, rfl⟩ | hb
    · rcases lang_form (rG l hl) with ⟨r1, r2, r3, r4⟩ | ⟨q, d, f, m, tab, ts, vs, r1, r2, r3, r4, c1, c2, c3, r5, r6, r7, r8, r9, P, hb⟩
      · refine Or.inl ⟨-5, (-5, gI (E 3)), ?_, ?_, rfl, (rel_mk rR rL rW0 rW1 rW2 rT rG rI rA rB rC rS rM rZ)⟩
        · unfold f_X11_contains__e
          rw [isL1 hl, isW1 hw, ob_s, if_neg (show ¬ nI 1 = (0 : Int32) by decide), ob_s, if_neg (show ¬ nI 1 = (0 : Int32) by decide), ldA_n hl (by omega), r1, nlA_n]
        · unfold f_X12_contains
          rw [isL2 hl, isW2 hw, ob_s, if_neg (show ¬ nI 1 = (0 : Int32) by decide), ob_s, if_neg (show ¬ nI 1 = (0 : Int32) by decide), ldA_n hl (by omega), if_neg r3]
      · rcases three hw with rfl | rfl | rfl
        · obtain ⟨out, mo, e1, e2, e3⟩ := w2_out (p_contains (cy := cy) (PT := PT) (ws := gI (E 3)) hl hw r1 r2 r7 r9 P hb rR.1 rW0)
          exact (Or.inr (Or.inl ⟨q, d, nI f, nI m, tab, m, m, ts, vs, out, mo, c1, c2, c3, e1, e2, e3, (rel_mk rR rL rW0 rW1 rW2 rT rG rI rA rB rC rS rM rZ)⟩))
        · obtain ⟨out, mo, e1, e2, e3⟩ := w2_out (p_contains (cy := cy) (PT := PT) (ws := gI (E 3)) hl hw r1 r2 r7 r9 P hb rR.2.1 rW1)
          exact (Or.inr (Or.inr (Or.inl ⟨q, d, nI f, nI m, tab, m, m, ts, vs, out, mo, c1, c2, c3, e1, e2, e3, (rel_mk rR rL rW0 rW1 rW2 rT rG rI rA rB rC rS rM rZ)⟩)))
        · obtain ⟨out, mo, e1, e2, e3⟩ := w2_out (p_contains (cy := cy) (PT := PT) (ws := gI (E 3)) hl hw r1 r2 r7 r9 P hb rR.2.2.1 rW2)
          exact (Or.inr (Or.inr (Or.inr ⟨q, d, nI f, nI m, tab, m, m, ts, vs, out, mo, c1, c2, c3, e1, e2, e3, (rel_mk rR rL rW0 rW1 rW2 rT rG rI rA rB rC rS rM rZ)⟩)))
    · refine Or.inl ⟨-1, (-1, gI (E 3)), ?_, ?_, rfl, (rel_mk rR rL rW0 rW1 rW2 rT rG rI rA rB rC rS rM rZ)⟩
      · unfold f_X11_contains__e
        rw [isL1 hl, hb.1]
        rfl
      · unfold f_X12_contains
        rw [isL2 hl, hb.2]
        rfl
  · refine Or.inl ⟨-1, (-1, gI (E 3)), ?_, ?_, rfl, (rel_mk rR rL rW0 rW1 rW2 rT rG rI rA rB rC rS rM rZ)⟩
    · unfold f_X11_contains__e
      rw [hb.1]
      rfl
    · unfold f_X12_contains
      rw [hb.2]
      rfl
