set_option linter.unusedVariables false
/-- what is kept for a Monoid that may yet be made -/
def sl (n : Nat) : Nat := if n = 127 then 0 else 200000
def HOPS (REL : RelT) (cy : Nat → ClassId) : Prop := ∀ (n : Nat) (ad : Nat → Nat) (E : Nat → va_E) (PT : va_W) (tq : Nat → Option TV) (lq : Nat → Bool), 123 ≤ n → TP cy PT tq → LQ PT lq → SH cy n ad E → REL n ad E PT tq lq → (∀ (x1 : Int32), OP0 REL cy n ad E PT tq lq x1) ∧ OP1 REL cy n ad E PT tq lq ∧ (∀ (x1 x2 : Int32), OP2 REL cy n ad E PT tq lq x1 x2) ∧ (∀ (x1 : Int32), OP3 REL cy n ad E PT tq lq x1) ∧ (∀ (x1 : Int32), OP4 REL cy n ad E PT tq lq x1) ∧ (∀ (x1 x2 : Int32), OP5 REL cy n ad E PT tq lq x1 x2) ∧ (∀ (x1 : Int32), OP6 REL cy n ad E PT tq lq x1) ∧ (∀ (x1 x2 : Int32), OP7 REL cy n ad E PT tq lq x1 x2) ∧ (∀ (x1 x2 : Int32), OP8 REL cy n ad E PT tq lq x1 x2) ∧ (∀ (x1 x2 : Int32), OP9 REL cy n ad E PT tq lq x1 x2) ∧ (∀ (x1 x2 : Int32), OP10 REL cy n ad E PT tq lq x1 x2) ∧ (∀ (x1 : Int32), OP11 REL cy n ad E PT tq lq x1) ∧ OP12 REL cy n ad E PT tq lq ∧ (∀ (x1 : Int32), OP13 REL cy n ad E PT tq lq x1) ∧ OP14 REL cy n ad E PT tq lq ∧ (∀ (x1 x2 : Int32), OP15 REL cy n ad E PT tq lq x1 x2) ∧ (∀ (x1 x2 : Int32), OP16 REL cy n ad E PT tq lq x1 x2) ∧ (∀ (x1 : Int32), OP17 REL cy n ad E PT tq lq x1) ∧ (∀ (x1 : Int32), OP18 REL cy n ad E PT tq lq x1) ∧ (∀ (x1 x2 : Int32), OP19 REL cy n ad E PT tq lq x1 x2) ∧ OP20 REL cy n ad E PT tq lq ∧ (∀ (x1 : Int32), OP21 REL cy n ad E PT tq lq x1) ∧ (∀ (x1 : Int32), OP22 REL cy n ad E PT tq lq x1) ∧ (∀ (x1 : Int32), OP24 REL cy n ad E PT tq lq x1) ∧ (∀ (x1 x2 x3 : Int32), OP25 REL cy n ad E PT tq lq x1 x2 x3) ∧ (∀ (x1 x2 : Int32), OP26 REL cy n ad E PT tq lq x1 x2) ∧ (∀ (x1 x2 x3 : Int32), OP27 REL cy n ad E PT tq lq x1 x2 x3) ∧ (∀ (x1 x2 x3 : Int32), OP28 REL cy n ad E PT tq lq x1 x2 x3) ∧ (∀ (x1 : Int32), OP29 REL cy n ad E PT tq lq x1) ∧ (∀ (x1 : Int32), OP30 REL cy n ad E PT tq lq x1) ∧ (∀ (x1 x2 : Int32), OP31 REL cy n ad E PT tq lq x1 x2) ∧ (∀ (x1 : Int32), OP32 REL cy n ad E PT tq lq x1) ∧ (∀ (x1 x2 : Int32), OP33 REL cy n ad E PT tq lq x1 x2) ∧ (∀ (x1 x2 : Int32), OP34 REL cy n ad E PT tq lq x1 x2) ∧ (∀ (x1 x2 x3 : Int32), OP35 REL cy n ad E PT tq lq x1 x2 x3) ∧ (∀ (x1 x2 x3 : Int32), OP36 REL cy n ad E PT tq lq x1 x2 x3) ∧ (∀ (x1 x2 x3 : Int32), OP37 REL cy n ad E PT tq lq x1 x2 x3) ∧ (∀ (x1 x2 : Int32), OP38 REL cy n ad E PT tq lq x1 x2) ∧ (∀ (x1 x2 x3 x4 x5 : Int32), OP39 REL cy n ad E PT tq lq x1 x2 x3 x4 x5) ∧ (∀ (x1 x2 : Int32), OP40 REL cy n ad E PT tq lq x1 x2) ∧ OP41 REL cy n ad E PT tq lq ∧ OP42 REL cy n ad E PT tq lq
theorem tb43 (v : Int32) : (∃ k : Nat, k < 43 ∧ v = nI k) ∨ v.toInt < 0 ∨ 42 < v.toInt := by
  by_cases h : v.toInt < 0 ∨ 42 < v.toInt
  · exact Or.inr h
  · refine Or.inl ⟨v.toInt.toNat, by omega, ?_⟩
    apply Int32.toInt_inj.mp
    rw [nI_toInt (by omega)]
    omega
theorem nI_p {a b : Nat} : nI a + nI b = nI (a + b) := (Int32.ofNat_add a b).symm
theorem hd_in {L i : Nat} (hL : L ≤ 3072) (hi : i ≤ 4000) (h : ¬ (Int32.ofNat L - (6 : Int32) < nI i)) : i + 6 ≤ L := by
  by_cases h6 : 6 ≤ L
  · have e : Int32.ofNat L - (6 : Int32) = nI (L - 6) := by
      have h1 : nI (L - 6) + nI 6 = Int32.ofNat L := by rw [nI_p, Nat.sub_add_cancel h6]; rfl
      rw [← h1]
      exact Int32.add_sub_cancel _ _
    rw [e, Int32.lt_iff_toInt_lt, nI_toInt (by omega), nI_toInt (by omega)] at h
    omega
  · exfalso
    apply h
    have h0 : (0 : Int) ≤ (nI i).toInt := by rw [nI_toInt (by omega)]; omega
    rw [Int32.lt_iff_toInt_lt]
    rcases (show L = 0 ∨ L = 1 ∨ L = 2 ∨ L = 3 ∨ L = 4 ∨ L = 5 by omega) with e | e | e | e | e | e <;> subst e <;> exact Int.lt_of_lt_of_le (by decide) h0
theorem hd_off {L i : Nat} (hL : L ≤ 3072) (h : i + 6 ≤ L) : ∀ j : Int32, (j = 1 ∨ j = 2 ∨ j = 3 ∨ j = 4 ∨ j = 5) → vp_in (nI i + j) L := by
  intro j hj
  rcases hj with e | e | e | e | e <;> subst e
  · exact (show nI i + (1 : Int32) = nI (i + 1) from nI_p (b := 1)) ▸ vp_in_nI (by omega) (by omega)
  · exact (show nI i + (2 : Int32) = nI (i + 2) from nI_p (b := 2)) ▸ vp_in_nI (by omega) (by omega)
  · exact (show nI i + (3 : Int32) = nI (i + 3) from nI_p (b := 3)) ▸ vp_in_nI (by omega) (by omega)
  · exact (show nI i + (4 : Int32) = nI (i + 4) from nI_p (b := 4)) ▸ vp_in_nI (by omega) (by omega)
  · exact (show nI i + (5 : Int32) = nI (i + 5) from nI_p (b := 5)) ▸ vp_in_nI (by omega) (by omega)
set_option maxHeartbeats 4000000 in
set_option maxRecDepth 100000 in
theorem law_loop {p : Program} {l : Launch} {e : Env} {s : State} {m : MethodId} {below : List Frame} {meth : Method} {c : Code} {A : Nat → Prop} {Q : State → Prop} {D : va_G} {cy : Nat → ClassId} {b L : Nat} {xs : Nat → Int32} {REL : RelT} (X : Cx p m c cL_law 4 s #[.ref b] wsL_law RL A D cy []) (hX : va_X b L xs s s.heap) (hbl : b < s.heap.size) (hbA : ¬ A b) (hL : L ≤ 3072) (hops : HOPS REL cy) (h23 : ∀ (r it : Nat) (n : Nat) (ad : Nat → Nat) (E : Nat → va_E) (PT : va_W) (tq : Nat → Option TV) (lq : Nat → Bool) (cells slots : Nat), 123 ≤ n → TP cy PT tq → LQ PT lq → SH cy n ad E → REL n ad E PT tq lq → 6 * it + 6 ≤ L → L < 6 * it + 6 * (r + 1) + 6 → cells + 8 * (r + 1) ≤ 600000 → slots + 1000 * (r + 1) + sl n ≤ 7302250 → (∀ (n : Nat) (ad : Nat → Nat) (E : Nat → va_E) (PT : va_W) (tq : Nat → Option TV) (lq : Nat → Bool) (cells slots : Nat), 123 ≤ n → TP cy PT tq → LQ PT lq → SH cy n ad E → REL n ad E PT tq lq → L < 6 * (it + 1) + 6 * r + 6 → 6 * (it + 1) ≤ 4000 → cells + 8 * r ≤ 600000 → slots + 1000 * r + sl n ≤ 7302250 → ∀ (H : Heap) (locs : List Loc) (ls : Array Slot), St A D s (wl n ad E ++ PT) H locs → lv_has ls 4 [(0, .ref b), (1, .ref (ad 52)), (2, .ref (ad 0)), (3, .int (nI (6 * (it + 1))))] → W p l e room_1 s m #[.ref b] below meth c H locs cells slots Q (F0 m 18 ls [])) → ∀ (H : Heap) (locs : List Loc) (ls : Array Slot), St A D s (wl n ad E ++ PT) H locs → lv_has ls 4 [(0, .ref b), (1, .ref (ad 52)), (2, .ref (ad 0)), (3, .int (nI (6 * it)))] → W p l e room_1 s m #[.ref b] below meth c H locs cells slots Q (F0 m 799 ls [])) (hexit : ∀ (H : Heap) (locs : List Loc) (ls : Array Slot) (cells slots : Nat), cells ≤ 600000 → slots ≤ 7302250 → (∀ q ∈ locs, A q.base) → W p l e room_1 s m #[.ref b] below meth c H locs cells slots Q (F0 m 1468 ls [.int 1])) : ∀ (r it : Nat) (n : Nat) (ad : Nat → Nat) (E : Nat → va_E) (PT : va_W) (tq : Nat → Option TV) (lq : Nat → Bool) (cells slots : Nat), 123 ≤ n → TP cy PT tq → LQ PT lq → SH cy n ad E → REL n ad E PT tq lq → L < 6 * it + 6 * r + 6 → 6 * it ≤ 4000 → cells + 8 * r ≤ 600000 → slots + 1000 * r + sl n ≤ 7302250 → ∀ (H : Heap) (locs : List Loc) (ls : Array Slot), St A D s (wl n ad E ++ PT) H locs → lv_has ls 4 [(0, .ref b), (1, .ref (ad 52)), (2, .ref (ad 0)), (3, .int (nI (6 * it)))] → W p l e room_1 s m #[.ref b] below meth c H locs cells slots Q (F0 m 18 ls []) := by
  have hx := X.1.1
  have hb := X.1.2.1
  intro r
  induction r with
  | zero =>
    intro it n ad E PT tq lq cells slots hn hT hU hSH hR hm hm2 hc hs H locs ls Z hl
    refine lv_iload_n hx hb dL_law_18 rfl (lv_at hl 3 rfl) ?_
    refine lv_aload_n hx hb dL_law_19 rfl (lv_at hl 0 rfl) ?_
    refine va_slen hx hb hX hbl hbA Z.2.2 dL_law_20 ?_
    refine lv_bipush (v := (6 : Int32)) hx hb dL_law_21 (by decide) ?_
    refine lv_isub hx hb dL_law_23 ?_
    refine lv_icmp_gt (tgt := 1467) hx hb dL_law_24 (by decide) (fun cnd => ?_) (fun cnd => ?_)
    · refine lv_iconst (v := (1 : Int32)) hx hb dL_law_1467 (by decide) ?_
      exact hexit H locs ls cells slots (by omega) (by omega) Z.2.2.2.2
    · exact absurd (hd_in hL (by omega) cnd) (by omega)
  | succ r ih =>
    intro it n ad E PT tq lq cells slots hn hT hU hSH hR hm hm2 hc hs H locs ls Z hl
    refine lv_iload_n hx hb dL_law_18 rfl (lv_at hl 3 rfl) ?_
    refine lv_aload_n hx hb dL_law_19 rfl (lv_at hl 0 rfl) ?_
    refine va_slen hx hb hX hbl hbA Z.2.2 dL_law_20 ?_
    refine lv_bipush (v := (6 : Int32)) hx hb dL_law_21 (by decide) ?_
    refine lv_isub hx hb dL_law_23 ?_
    refine lv_icmp_gt (tgt := 1467) hx hb dL_law_24 (by decide) (fun cnd => ?_) (fun cnd => ?_)
    · refine lv_iconst (v := (1 : Int32)) hx hb dL_law_1467 (by decide) ?_
      exact hexit H locs ls cells slots (by omega) (by omega) Z.2.2.2.2
    · have hin := hd_in hL (by omega) cnd
      have hi := hd_off hL hin
      have hK : ∀ (E1 : Nat → va_E) (PT1 : va_W) (tq1 : Nat → Option TV) (lq1 : Nat → Bool), TP cy PT1 tq1 → LQ PT1 lq1 → SH cy n ad E1 → REL n ad E1 PT1 tq1 lq1 → ∀ (H : Heap) (locs : List Loc) (ls : Array Slot), St A D s (wl n ad E1 ++ PT1) H locs → lv_has ls 4 [(0, .ref b), (1, .ref (ad 52)), (2, .ref (ad 0)), (3, .int (nI (6 * it)))] → W p l e room_1 s m #[.ref b] below meth c H locs (cells + 8) (slots + 1000) Q (F0 m 1461 ls []) := by
        intro E1 PT1 tq1 lq1 hT1 hU1 hS1 hR1 H locs ls Z hl
        refine lv_iinc (v := nI (6 * (it + 1))) (lv' := [(3, .int (nI (6 * (it + 1)))), (0, .ref b), (1, .ref (ad 52)), (2, .ref (ad 0))]) hx hb dL_law_1461 hl (k := 3) rfl (nI_p (a := 6 * it) (b := 6)) (by decide) rfl (fun ls hl => ?_)
        refine lv_goto (tgt := 18) hx hb dL_law_1464 (by decide) ?_
        exact ih (it + 1) n ad E1 PT1 tq1 lq1 (cells + 8) (slots + 1000) hn hT1 hU1 hS1 hR1 (by omega) (by omega) (by omega) (by omega) H locs ls Z (lv_sub hl [1, 2, 3, 0] rfl)
      have hops := hops n ad E PT tq lq hn hT hU hSH hR
      refine lv_aload_n hx hb dL_law_27 rfl (lv_at hl 0 rfl) ?_
      refine lv_iload_n hx hb dL_law_28 rfl (lv_at hl 3 rfl) ?_
      refine va_sld hx hb hX hbl hbA Z.2.2 (vp_in_nI (by omega) (by omega)) dL_law_29 ?_
      refine lv_bipush (v := (63 : Int32)) hx hb dL_law_30 (by decide) ?_
      refine lv_iand hx hb dL_law_32 ?_
      refine lv_topi (fun v ev => ?_)
      rcases tb43 v with ⟨k, hk, hv⟩ | ho
      · subst hv
        rcases (show k = 0 ∨ k = 1 ∨ k = 2 ∨ k = 3 ∨ k = 4 ∨ k = 5 ∨ k = 6 ∨ k = 7 ∨ k = 8 ∨ k = 9 ∨ k = 10 ∨ k = 11 ∨ k = 12 ∨ k = 13 ∨ k = 14 ∨ k = 15 ∨ k = 16 ∨ k = 17 ∨ k = 18 ∨ k = 19 ∨ k = 20 ∨ k = 21 ∨ k = 22 ∨ k = 23 ∨ k = 24 ∨ k = 25 ∨ k = 26 ∨ k = 27 ∨ k = 28 ∨ k = 29 ∨ k = 30 ∨ k = 31 ∨ k = 32 ∨ k = 33 ∨ k = 34 ∨ k = 35 ∨ k = 36 ∨ k = 37 ∨ k = 38 ∨ k = 39 ∨ k = 40 ∨ k = 41 ∨ k = 42 by omega) with rfl | rfl | rfl | rfl | rfl | rfl | rfl | rfl | rfl | rfl | rfl | rfl | rfl | rfl | rfl | rfl | rfl | rfl | rfl | rfl | rfl | rfl | rfl | rfl | rfl | rfl | rfl | rfl | rfl | rfl | rfl | rfl | rfl | rfl | rfl | rfl | rfl | rfl | rfl | rfl | rfl | rfl | rfl
        · refine lv_tableIn (tgt := 220) hx hb dL_law_33 (by decide) (by decide) rfl (by decide) ?_
          exact lawc_0 X hX hbl hbA hn hT hU hSH (by omega) (by omega) hi (hops.1 _) hK H locs ls Z hl
        · refine lv_tableIn (tgt := 243) hx hb dL_law_33 (by decide) (by decide) rfl (by decide) ?_
          exact lawc_1 X hX hbl hbA hn hT hU hSH (by omega) (by omega) hi (hops.2.1) hK H locs ls Z hl
        · refine lv_tableIn (tgt := 256) hx hb dL_law_33 (by decide) (by decide) rfl (by decide) ?_
          exact lawc_2 X hX hbl hbA hn hT hU hSH (by omega) (by omega) hi (hops.2.2.1 _ _) hK H locs ls Z hl
        · refine lv_tableIn (tgt := 289) hx hb dL_law_33 (by decide) (by decide) rfl (by decide) ?_
          exact lawc_3 X hX hbl hbA hn hT hU hSH (by omega) (by omega) hi (hops.2.2.2.1 _) hK H locs ls Z hl
        · refine lv_tableIn (tgt := 312) hx hb dL_law_33 (by decide) (by decide) rfl (by decide) ?_
          exact lawc_4 X hX hbl hbA hn hT hU hSH (by omega) (by omega) hi (hops.2.2.2.2.1 _) hK H locs ls Z hl
        · refine lv_tableIn (tgt := 335) hx hb dL_law_33 (by decide) (by decide) rfl (by decide) ?_
          exact lawc_5 X hX hbl hbA hn hT hU hSH (by omega) (by omega) hi (hops.2.2.2.2.2.1 _ _) hK H locs ls Z hl
        · refine lv_tableIn (tgt := 368) hx hb dL_law_33 (by decide) (by decide) rfl (by decide) ?_
          exact lawc_6 X hX hbl hbA hn hT hU hSH (by omega) (by omega) hi (hops.2.2.2.2.2.2.1 _) hK H locs ls Z hl
        · refine lv_tableIn (tgt := 391) hx hb dL_law_33 (by decide) (by decide) rfl (by decide) ?_
          exact lawc_7 X hX hbl hbA hn hT hU hSH (by omega) (by omega) hi (hops.2.2.2.2.2.2.2.1 _ _) hK H locs ls Z hl
        · refine lv_tableIn (tgt := 424) hx hb dL_law_33 (by decide) (by decide) rfl (by decide) ?_
          exact lawc_8 X hX hbl hbA hn hT hU hSH (by omega) (by omega) hi (hops.2.2.2.2.2.2.2.2.1 _ _) hK H locs ls Z hl
        · refine lv_tableIn (tgt := 457) hx hb dL_law_33 (by decide) (by decide) rfl (by decide) ?_
          exact lawc_9 X hX hbl hbA hn hT hU hSH (by omega) (by omega) hi (hops.2.2.2.2.2.2.2.2.2.1 _ _) hK H locs ls Z hl
        · refine lv_tableIn (tgt := 490) hx hb dL_law_33 (by decide) (by decide) rfl (by decide) ?_
          exact lawc_10 X hX hbl hbA hn hT hU hSH (by omega) (by omega) hi (hops.2.2.2.2.2.2.2.2.2.2.1 _ _) hK H locs ls Z hl
        · refine lv_tableIn (tgt := 523) hx hb dL_law_33 (by decide) (by decide) rfl (by decide) ?_
          exact lawc_11 X hX hbl hbA hn hT hU hSH (by omega) (by omega) hi (hops.2.2.2.2.2.2.2.2.2.2.2.1 _) hK H locs ls Z hl
        · refine lv_tableIn (tgt := 546) hx hb dL_law_33 (by decide) (by decide) rfl (by decide) ?_
          exact lawc_12 X hX hbl hbA hn hT hU hSH (by omega) (by omega) hi (hops.2.2.2.2.2.2.2.2.2.2.2.2.1) hK H locs ls Z hl
        · refine lv_tableIn (tgt := 559) hx hb dL_law_33 (by decide) (by decide) rfl (by decide) ?_
          exact lawc_13 X hX hbl hbA hn hT hU hSH (by omega) (by omega) hi (hops.2.2.2.2.2.2.2.2.2.2.2.2.2.1 _) hK H locs ls Z hl
        · refine lv_tableIn (tgt := 582) hx hb dL_law_33 (by decide) (by decide) rfl (by decide) ?_
          exact lawc_14 X hX hbl hbA hn hT hU hSH (by omega) (by omega) hi (hops.2.2.2.2.2.2.2.2.2.2.2.2.2.2.1) hK H locs ls Z hl
        · refine lv_tableIn (tgt := 595) hx hb dL_law_33 (by decide) (by decide) rfl (by decide) ?_
          exact lawc_15 X hX hbl hbA hn hT hU hSH (by omega) (by omega) hi (hops.2.2.2.2.2.2.2.2.2.2.2.2.2.2.2.1 _ _) hK H locs ls Z hl
        · refine lv_tableIn (tgt := 628) hx hb dL_law_33 (by decide) (by decide) rfl (by decide) ?_
          exact lawc_16 X hX hbl hbA hn hT hU hSH (by omega) (by omega) hi (hops.2.2.2.2.2.2.2.2.2.2.2.2.2.2.2.2.1 _ _) hK H locs ls Z hl
        · refine lv_tableIn (tgt := 661) hx hb dL_law_33 (by decide) (by decide) rfl (by decide) ?_
          exact lawc_17 X hX hbl hbA hn hT hU hSH (by omega) (by omega) hi (hops.2.2.2.2.2.2.2.2.2.2.2.2.2.2.2.2.2.1 _) hK H locs ls Z hl
        · refine lv_tableIn (tgt := 684) hx hb dL_law_33 (by decide) (by decide) rfl (by decide) ?_
          exact lawc_18 X hX hbl hbA hn hT hU hSH (by omega) (by omega) hi (hops.2.2.2.2.2.2.2.2.2.2.2.2.2.2.2.2.2.2.1 _) hK H locs ls Z hl
        · refine lv_tableIn (tgt := 707) hx hb dL_law_33 (by decide) (by decide) rfl (by decide) ?_
          exact lawc_19 X hX hbl hbA hn hT hU hSH (by omega) (by omega) hi (hops.2.2.2.2.2.2.2.2.2.2.2.2.2.2.2.2.2.2.2.1 _ _) hK H locs ls Z hl
        · refine lv_tableIn (tgt := 740) hx hb dL_law_33 (by decide) (by decide) rfl (by decide) ?_
          exact lawc_20 X hX hbl hbA hn hT hU hSH (by omega) (by omega) hi (hops.2.2.2.2.2.2.2.2.2.2.2.2.2.2.2.2.2.2.2.2.1) hK H locs ls Z hl
        · refine lv_tableIn (tgt := 753) hx hb dL_law_33 (by decide) (by decide) rfl (by decide) ?_
          exact lawc_21 X hX hbl hbA hn hT hU hSH (by omega) (by omega) hi (hops.2.2.2.2.2.2.2.2.2.2.2.2.2.2.2.2.2.2.2.2.2.1 _) hK H locs ls Z hl
        · refine lv_tableIn (tgt := 776) hx hb dL_law_33 (by decide) (by decide) rfl (by decide) ?_
          exact lawc_22 X hX hbl hbA hn hT hU hSH (by omega) (by omega) hi (hops.2.2.2.2.2.2.2.2.2.2.2.2.2.2.2.2.2.2.2.2.2.2.1 _) hK H locs ls Z hl
        · refine lv_tableIn (tgt := 799) hx hb dL_law_33 (by decide) (by decide) rfl (by decide) ?_
          exact h23 r it n ad E PT tq lq cells slots hn hT hU hSH hR hin (by omega) hc hs (ih (it + 1)) H locs ls Z hl
        · refine lv_tableIn (tgt := 822) hx hb dL_law_33 (by decide) (by decide) rfl (by decide) ?_
          exact lawc_24 X hX hbl hbA hn hT hU hSH (by omega) (by omega) hi (hops.2.2.2.2.2.2.2.2.2.2.2.2.2.2.2.2.2.2.2.2.2.2.2.1 _) hK H locs ls Z hl
        · refine lv_tableIn (tgt := 845) hx hb dL_law_33 (by decide) (by decide) rfl (by decide) ?_
          exact lawc_25 X hX hbl hbA hn hT hU hSH (by omega) (by omega) hi (hops.2.2.2.2.2.2.2.2.2.2.2.2.2.2.2.2.2.2.2.2.2.2.2.2.1 _ _ _) hK H locs ls Z hl
        · refine lv_tableIn (tgt := 888) hx hb dL_law_33 (by decide) (by decide) rfl (by decide) ?_
          exact lawc_26 X hX hbl hbA hn hT hU hSH (by omega) (by omega) hi (hops.2.2.2.2.2.2.2.2.2.2.2.2.2.2.2.2.2.2.2.2.2.2.2.2.2.1 _ _) hK H locs ls Z hl
        · refine lv_tableIn (tgt := 921) hx hb dL_law_33 (by decide) (by decide) rfl (by decide) ?_
          exact lawc_27 X hX hbl hbA hn hT hU hSH (by omega) (by omega) hi (hops.2.2.2.2.2.2.2.2.2.2.2.2.2.2.2.2.2.2.2.2.2.2.2.2.2.2.1 _ _ _) hK H locs ls Z hl
        · refine lv_tableIn (tgt := 964) hx hb dL_law_33 (by decide) (by decide) rfl (by decide) ?_
          exact lawc_28 X hX hbl hbA hn hT hU hSH (by omega) (by omega) hi (hops.2.2.2.2.2.2.2.2.2.2.2.2.2.2.2.2.2.2.2.2.2.2.2.2.2.2.2.1 _ _ _) hK H locs ls Z hl
        · refine lv_tableIn (tgt := 1007) hx hb dL_law_33 (by decide) (by decide) rfl (by decide) ?_
          exact lawc_29 X hX hbl hbA hn hT hU hSH (by omega) (by omega) hi (hops.2.2.2.2.2.2.2.2.2.2.2.2.2.2.2.2.2.2.2.2.2.2.2.2.2.2.2.2.1 _) hK H locs ls Z hl
        · refine lv_tableIn (tgt := 1030) hx hb dL_law_33 (by decide) (by decide) rfl (by decide) ?_
          exact lawc_30 X hX hbl hbA hn hT hU hSH (by omega) (by omega) hi (hops.2.2.2.2.2.2.2.2.2.2.2.2.2.2.2.2.2.2.2.2.2.2.2.2.2.2.2.2.2.1 _) hK H locs ls Z hl
        · refine lv_tableIn (tgt := 1053) hx hb dL_law_33 (by decide) (by decide) rfl (by decide) ?_
          exact lawc_31 X hX hbl hbA hn hT hU hSH (by omega) (by omega) hi (hops.2.2.2.2.2.2.2.2.2.2.2.2.2.2.2.2.2.2.2.2.2.2.2.2.2.2.2.2.2.2.1 _ _) hK H locs ls Z hl
        · refine lv_tableIn (tgt := 1086) hx hb dL_law_33 (by decide) (by decide) rfl (by decide) ?_
          exact lawc_32 X hX hbl hbA hn hT hU hSH (by omega) (by omega) hi (hops.2.2.2.2.2.2.2.2.2.2.2.2.2.2.2.2.2.2.2.2.2.2.2.2.2.2.2.2.2.2.2.1 _) hK H locs ls Z hl
        · refine lv_tableIn (tgt := 1109) hx hb dL_law_33 (by decide) (by decide) rfl (by decide) ?_
          exact lawc_33 X hX hbl hbA hn hT hU hSH (by omega) (by omega) hi (hops.2.2.2.2.2.2.2.2.2.2.2.2.2.2.2.2.2.2.2.2.2.2.2.2.2.2.2.2.2.2.2.2.1 _ _) hK H locs ls Z hl
        · refine lv_tableIn (tgt := 1143) hx hb dL_law_33 (by decide) (by decide) rfl (by decide) ?_
          exact lawc_34 X hX hbl hbA hn hT hU hSH (by omega) (by omega) hi (hops.2.2.2.2.2.2.2.2.2.2.2.2.2.2.2.2.2.2.2.2.2.2.2.2.2.2.2.2.2.2.2.2.2.1 _ _) hK H locs ls Z hl
        · refine lv_tableIn (tgt := 1176) hx hb dL_law_33 (by decide) (by decide) rfl (by decide) ?_
          exact lawc_35 X hX hbl hbA hn hT hU hSH (by omega) (by omega) hi (hops.2.2.2.2.2.2.2.2.2.2.2.2.2.2.2.2.2.2.2.2.2.2.2.2.2.2.2.2.2.2.2.2.2.2.1 _ _ _) hK H locs ls Z hl
        · refine lv_tableIn (tgt := 1219) hx hb dL_law_33 (by decide) (by decide) rfl (by decide) ?_
          exact lawc_36 X hX hbl hbA hn hT hU hSH (by omega) (by omega) hi (hops.2.2.2.2.2.2.2.2.2.2.2.2.2.2.2.2.2.2.2.2.2.2.2.2.2.2.2.2.2.2.2.2.2.2.2.1 _ _ _) hK H locs ls Z hl
        · refine lv_tableIn (tgt := 1262) hx hb dL_law_33 (by decide) (by decide) rfl (by decide) ?_
          exact lawc_37 X hX hbl hbA hn hT hU hSH (by omega) (by omega) hi (hops.2.2.2.2.2.2.2.2.2.2.2.2.2.2.2.2.2.2.2.2.2.2.2.2.2.2.2.2.2.2.2.2.2.2.2.2.1 _ _ _) hK H locs ls Z hl
        · refine lv_tableIn (tgt := 1305) hx hb dL_law_33 (by decide) (by decide) rfl (by decide) ?_
          exact lawc_38 X hX hbl hbA hn hT hU hSH (by omega) (by omega) hi (hops.2.2.2.2.2.2.2.2.2.2.2.2.2.2.2.2.2.2.2.2.2.2.2.2.2.2.2.2.2.2.2.2.2.2.2.2.2.1 _ _) hK H locs ls Z hl
        · refine lv_tableIn (tgt := 1339) hx hb dL_law_33 (by decide) (by decide) rfl (by decide) ?_
          exact lawc_39 X hX hbl hbA hn hT hU hSH (by omega) (by omega) hi (hops.2.2.2.2.2.2.2.2.2.2.2.2.2.2.2.2.2.2.2.2.2.2.2.2.2.2.2.2.2.2.2.2.2.2.2.2.2.2.1 _ _ _ _ _) hK H locs ls Z hl
        · refine lv_tableIn (tgt := 1402) hx hb dL_law_33 (by decide) (by decide) rfl (by decide) ?_
          exact lawc_40 X hX hbl hbA hn hT hU hSH (by omega) (by omega) hi (hops.2.2.2.2.2.2.2.2.2.2.2.2.2.2.2.2.2.2.2.2.2.2.2.2.2.2.2.2.2.2.2.2.2.2.2.2.2.2.2.1 _ _) hK H locs ls Z hl
        · refine lv_tableIn (tgt := 1435) hx hb dL_law_33 (by decide) (by decide) rfl (by decide) ?_
          exact lawc_41 X hX hbl hbA hn hT hU hSH (by omega) (by omega) hi (hops.2.2.2.2.2.2.2.2.2.2.2.2.2.2.2.2.2.2.2.2.2.2.2.2.2.2.2.2.2.2.2.2.2.2.2.2.2.2.2.2.1) hK H locs ls Z hl
        · refine lv_tableIn (tgt := 1448) hx hb dL_law_33 (by decide) (by decide) rfl (by decide) ?_
          exact lawc_42 X hX hbl hbA hn hT hU hSH (by omega) (by omega) hi (hops.2.2.2.2.2.2.2.2.2.2.2.2.2.2.2.2.2.2.2.2.2.2.2.2.2.2.2.2.2.2.2.2.2.2.2.2.2.2.2.2.2) hK H locs ls Z hl
      · refine lv_tableOut (tgt := 1461) hx hb dL_law_33 ho (by decide) ?_
        refine W.widen (k := cells + 8) (n := slots + 1000) (Nat.le_add_right _ _) (Nat.le_add_right _ _) ?_
        exact hK E PT tq lq hT hU hSH hR H locs ls Z hl
