set_option linter.unusedVariables false
/-! SubwordCounter$Automaton explore ()Z -/
abbrev rm_X0_explore : Room := { frames := 4, cells := 0, slots := 0, locals := 98 }
def RW_X0_explore (cy : Nat → ClassId) (o : Nat) (d : Nat → Nat) (d_tests : Nat → Nat) (PT : va_W) (letters_ : Int32) (states_ : Int32) (next_ : Nat → Int32) (depth_ : Nat → Int32) (low_ : Nat → Int64) (high_ : Nat → Int64) (parent_ : Nat → Int32) (lastLetter_ : Nat → Int32) (slots_ : Nat → Int32) : va_W := [(o, ob 0 (oX0 d letters_ states_)), ((d 3), aI cy 6000 next_), ((d 5), aI cy 2000 depth_), ((d 6), aJ cy 2000 low_), ((d 7), aJ cy 2000 high_), ((d 8), aI cy 2000 parent_), ((d 9), aI cy 2000 lastLetter_), ((d 10), aI cy 4096 slots_)]
def RO_X0_explore (cy : Nat → ClassId) (o : Nat) (d : Nat → Nat) (d_tests : Nat → Nat) (PT : va_W) (tests_count_ : Int32) (tests_members_ : Nat → Option Nat) : va_W := [((d 0), ob 1 (oX1 d_tests tests_count_)), ((d_tests 0), aR cy 4 8 tests_members_)] ++ PT
theorem in_X0_explore_X0 : ∀ w ∈ u_ws RX0 TX0 13, w ∈ wsX0_explore := fun w h => (List.mem_cons_of_mem _ (List.mem_append_left _ (List.mem_append_left _ (List.mem_append_right _ h))))
theorem lk_X0_explore_X0_letters : Lk wsX0_explore RX0 18 0 1 := ⟨RX0, TX0, 13, rfl, by decide, in_X0_explore_X0, mem_at 4 rfl⟩
theorem lk_X0_explore_X0_states : Lk wsX0_explore RX0 22 0 2 := ⟨RX0, TX0, 13, rfl, by decide, in_X0_explore_X0, mem_at 3 rfl⟩
theorem lk_X0_explore_X0_tests : Lk wsX0_explore RX0 12 0 0 := ⟨RX0, TX0, 13, rfl, by decide, in_X0_explore_X0, mem_at 5 rfl⟩
theorem lk_X0_explore_X0_low : Lk wsX0_explore RX0 35 0 6 := ⟨RX0, TX0, 13, rfl, by decide, in_X0_explore_X0, mem_at 6 rfl⟩
theorem lk_X0_explore_X0_high : Lk wsX0_explore RX0 39 0 7 := ⟨RX0, TX0, 13, rfl, by decide, in_X0_explore_X0, mem_at 7 rfl⟩
theorem lk_X0_explore_X0_next : Lk wsX0_explore RX0 25 0 3 := ⟨RX0, TX0, 13, rfl, by decide, in_X0_explore_X0, mem_at 8 rfl⟩
theorem lk_X0_explore_X0_parent : Lk wsX0_explore RX0 42 0 8 := ⟨RX0, TX0, 13, rfl, by decide, in_X0_explore_X0, mem_at 9 rfl⟩
theorem lk_X0_explore_X0_lastLetter : Lk wsX0_explore RX0 45 0 9 := ⟨RX0, TX0, 13, rfl, by decide, in_X0_explore_X0, mem_at 10 rfl⟩
theorem lk_X0_explore_X0_depth : Lk wsX0_explore RX0 32 0 5 := ⟨RX0, TX0, 13, rfl, by decide, in_X0_explore_X0, mem_at 2 rfl⟩
theorem lk_X0_explore_X0_slots : Lk wsX0_explore RX0 48 0 10 := ⟨RX0, TX0, 13, rfl, by decide, in_X0_explore_X0, mem_at 1 rfl⟩
def b_X0_explore_41 (tq : Nat → Option TV) (tests_count_ : Int32) (tests_members_ : Nat → Option Nat) (letters_ : Int32) (x1 : Int32) (states_ : Int32) (next_ : Nat → Int32) (depth_ : Nat → Int32) (low_ : Nat → Int64) (high_ : Nat → Int64) (parent_ : Nat → Int32) (lastLetter_ : Nat → Int32) (slots_ : Nat → Int32) (x2 : Int32) : Option ((Int32 × (Nat → Int32) × (Nat → Int32) × (Nat → Int64) × (Nat → Int64) × (Nat → Int32) × (Nat → Int32) × (Nat → Int32) × Int32) ⊕ ((Int32 × (Nat → Int32) × (Nat → Int32) × (Nat → Int64) × (Nat → Int64) × (Nat → Int32) × (Nat → Int32) × (Nat → Int32)) ⊕ (Int32 × (Nat → Int32) × (Nat → Int32) × (Nat → Int64) × (Nat → Int64) × (Nat → Int32) × (Nat → Int32) × (Nat → Int32)))) :=
  if letters_ ≤ x2 then
  (some (.inr (.inr (states_, next_, depth_, low_, high_, parent_, lastLetter_, slots_))))
  else
  (ldA low_ 2000 x1 (fun v2 =>
  (f_X1_step (0 : Int32) v2 x2 tq tests_count_ tests_members_).bind (fun u4 =>
  ldA high_ 2000 x1 (fun v7 =>
  (f_X1_step (1 : Int32) v7 x2 tq tests_count_ tests_members_).bind (fun u9 =>
  (f_X0_reach u4 u9 states_ low_ high_ slots_).bind (fun u11 =>
  if 0 ≤ u11.1 then
  (stA next_ 6000 ((x1 * (3 : Int32)) + x2) u11.1 (fun next_14 =>
  if u11.1 = states_ then
  (stA parent_ 2000 u11.1 x1 (fun parent_17 =>
  stA lastLetter_ 2000 u11.1 x2 (fun lastLetter_20 =>
  ldA depth_ 2000 x1 (fun v23 =>
  stA depth_ 2000 u11.1 (v23 + (1 : Int32)) (fun depth_26 =>
  some (.inl (u11.2.1, next_14, depth_26, u11.2.2.1, u11.2.2.2.1, parent_17, lastLetter_20, u11.2.2.2.2, (x2 + (1 : Int32)))))))))
  else
  (some (.inl (u11.2.1, next_14, depth_, u11.2.2.1, u11.2.2.2.1, parent_, lastLetter_, u11.2.2.2.2, (x2 + (1 : Int32)))))))
  else
  (some (.inr (.inl (u11.2.1, next_, depth_, u11.2.2.1, u11.2.2.2.1, parent_, lastLetter_, u11.2.2.2.2))))))))))
set_option maxHeartbeats 4000000 in
set_option maxRecDepth 100000 in
theorem wb_X0_explore_41 {p : Program} {l : Launch} {e : Env} {s : State} {m : MethodId} {args : Array Value} {below : List Frame} {meth : Method} {c : Code} {A : Nat → Prop} {Q : State → Prop} {D : va_G} {cy : Nat → ClassId} (o : Nat) (d : Nat → Nat) (d_tests : Nat → Nat) (PT : va_W) (tq : Nat → Option TV) (tests_count_ : Int32) (tests_members_ : Nat → Option Nat) (letters_ : Int32) (x1 : Int32) (states_ : Int32) (next_ : Nat → Int32) (depth_ : Nat → Int32) (low_ : Nat → Int64) (high_ : Nat → Int64) (parent_ : Nat → Int32) (lastLetter_ : Nat → Int32) (slots_ : Nat → Int32) (x2 : Int32) (o1 : (Int32 × (Nat → Int32) × (Nat → Int32) × (Nat → Int64) × (Nat → Int64) × (Nat → Int32) × (Nat → Int32) × (Nat → Int32) × Int32) ⊕ ((Int32 × (Nat → Int32) × (Nat → Int32) × (Nat → Int64) × (Nat → Int64) × (Nat → Int32) × (Nat → Int32) × (Nat → Int32)) ⊕ (Int32 × (Nat → Int32) × (Nat → Int32) × (Nat → Int64) × (Nat → Int64) × (Nat → Int32) × (Nat → Int32) × (Nat → Int32)))) (hT : TP cy PT tq) (X : Cx p m c cX0_explore 5 s args wsX0_explore RX0 A D cy (RO_X0_explore cy o d d_tests PT tests_count_ tests_members_)) (h : b_X0_explore_41 tq tests_count_ tests_members_ letters_ x1 states_ next_ depth_ low_ high_ parent_ lastLetter_ slots_ x2 = some o1) (K : Sum.elim (fun v : Int32 × (Nat → Int32) × (Nat → Int32) × (Nat → Int64) × (Nat → Int64) × (Nat → Int32) × (Nat → Int32) × (Nat → Int32) × Int32 => ∀ (H : Heap) (locs : List Loc) (ls : Array Slot), St A D s (RW_X0_explore cy o d d_tests PT letters_ v.1 v.2.1 v.2.2.1 v.2.2.2.1 v.2.2.2.2.1 v.2.2.2.2.2.1 v.2.2.2.2.2.2.1 v.2.2.2.2.2.2.2.1) H locs → lv_has ls 5 [(0, .ref o), (1, .int x1), (2, .int v.2.2.2.2.2.2.2.2)] → W p l e rm_X0_explore s m args below meth c H locs 0 0 Q (F0 m 41 ls [])) (fun v : (Int32 × (Nat → Int32) × (Nat → Int32) × (Nat → Int64) × (Nat → Int64) × (Nat → Int32) × (Nat → Int32) × (Nat → Int32)) ⊕ (Int32 × (Nat → Int32) × (Nat → Int32) × (Nat → Int64) × (Nat → Int64) × (Nat → Int32) × (Nat → Int32) × (Nat → Int32)) => Sum.elim (fun w : Int32 × (Nat → Int32) × (Nat → Int32) × (Nat → Int64) × (Nat → Int64) × (Nat → Int32) × (Nat → Int32) × (Nat → Int32) => ∀ (H : Heap) (locs : List Loc) (ls : Array Slot), St A D s (RW_X0_explore cy o d d_tests PT letters_ w.1 w.2.1 w.2.2.1 w.2.2.2.1 w.2.2.2.2.1 w.2.2.2.2.2.1 w.2.2.2.2.2.2.1 w.2.2.2.2.2.2.2) H locs → lv_has ls 5 [] → W p l e rm_X0_explore s m args below meth c H locs 0 0 Q (F0 m 95 ls [])) (fun w => ∀ (H : Heap) (locs : List Loc) (ls : Array Slot), St A D s (RW_X0_explore cy o d d_tests PT letters_ w.1 w.2.1 w.2.2.1 w.2.2.2.1 w.2.2.2.2.1 w.2.2.2.2.2.1 w.2.2.2.2.2.2.1 w.2.2.2.2.2.2.2) H locs → lv_has ls 5 [(0, .ref o), (1, .int x1)] → W p l e rm_X0_explore s m args below meth c H locs 0 0 Q (F0 m 152 ls [])) v) o1) : ∀ (H : Heap) (locs : List Loc) (ls : Array Slot), St A D s (RW_X0_explore cy o d d_tests PT letters_ states_ next_ depth_ low_ high_ parent_ lastLetter_ slots_) H locs → lv_has ls 5 [(0, .ref o), (1, .int x1), (2, .int x2)] → W p l e rm_X0_explore s m args below meth c H locs 0 0 Q (F0 m 41 ls []) := by
  intro H locs ls Z hl
  have hx := X.1.1
  have hb := X.1.2.1
  unfold b_X0_explore_41 at h
  refine lv_iload_n hx hb dX0_explore_41 rfl (lv_at hl 2 rfl) ?_
  refine lv_aload_n hx hb dX0_explore_42 rfl (lv_at hl 0 rfl) ?_
  refine x_get X Z 0 1 (v := .int letters_) rfl rfl lk_X0_explore_X0_letters dX0_explore_43 ?_
  refine lv_icmp_ge (tgt := 152) hx hb dX0_explore_46 (by decide) (fun cnd => ?_) (fun cnd => ?_)
  · replace h := ifp h cnd
    obtain rfl := Option.some.inj h
    exact (sk_r (sk_r K)) H locs ls Z (lv_sub hl [0, 1] rfl)
  · replace h := ifn h cnd
    refine lv_aload_n hx hb dX0_explore_49 rfl (lv_at hl 0 rfl) ?_
    refine x_get X Z 0 2 (v := .int states_) rfl rfl lk_X0_explore_X0_states dX0_explore_50 ?_
    refine lv_istore_n (lv' := [(3, .int states_), (0, .ref o), (1, .int x1), (2, .int x2)]) hx hb dX0_explore_53 rfl hl (by decide) rfl (fun ls hl => ?_)
    refine lv_aload_n hx hb dX0_explore_54 rfl (lv_at hl 1 rfl) ?_
    refine lv_aload_n hx hb dX0_explore_55 rfl (lv_at hl 1 rfl) ?_
    refine x_get X Z 0 0 (v := .ref (d 0)) rfl rfl lk_X0_explore_X0_tests dX0_explore_56 ?_
    refine lv_iconst (v := (0 : Int32)) hx hb dX0_explore_59 (by decide) ?_
    refine lv_aload_n hx hb dX0_explore_60 rfl (lv_at hl 1 rfl) ?_
    refine x_get X Z 0 6 (v := .ref (d 6)) rfl rfl lk_X0_explore_X0_low dX0_explore_61 ?_
    refine lv_iload_n hx hb dX0_explore_64 rfl (lv_at hl 2 rfl) ?_
    obtain ⟨hin1, v2, hv3, h⟩ := ld_b h
    refine x_lald X Z 3 rfl hin1 hv3 dX0_explore_65 ?_
    refine lv_iload_n hx hb dX0_explore_66 rfl (lv_at hl 3 rfl) ?_
    obtain ⟨u4, hc5, h⟩ := ob_some h
    refine x_runVl (RW' := (RW_X0_explore cy o d d_tests PT letters_ states_ next_ depth_ low_ high_ parent_ lastLetter_ slots_)) (wr := [(o, ob 0 (oX0 d letters_ states_)), ((d 3), aI cy 6000 next_), ((d 5), aI cy 2000 depth_), ((d 6), aJ cy 2000 low_), ((d 7), aJ cy 2000 high_), ((d 8), aI cy 2000 parent_), ((d 9), aI cy 2000 lastLetter_), ((d 10), aI cy 4096 slots_)]) (isC := []) (isR := [0, 1, 2, 3, 4, 5, 6, 7]) (isF := [0, 1, 2, 3, 4, 5, 6, 7]) (rest := [.ref o]) (As := [.int (0 : Int32), .long v2, .int x2]) (n := 3) X Z (c_X1_step l D cy (d 0) d_tests PT tq tests_count_ tests_members_ (0 : Int32) v2 x2 u4 hT hc5) gX0_explore_X1_step rfl (by decide +kernel) ⟨Nat.le_of_ble_eq_true rfl, Nat.le_of_ble_eq_true rfl⟩ ⟨rfl, rfl⟩ ⟨Nat.le_of_ble_eq_true rfl, Nat.le_of_ble_eq_true rfl⟩ (x_rvO X Z 0 rfl rfl) ⟨rfl, rfl, (roC (Or.inr (mem_at 0 rfl)) (roC (Or.inr (mem_at 1 rfl)) (fun q hq => Or.inr (List.mem_append_right _ hq)))), rfl, rfl, by decide⟩ ⟨rfl, rfl⟩ rfl hl.1 rfl (Nat.le_of_ble_eq_true rfl) dX0_explore_67 (fun H locs Z => ?_)
    refine lv_aload_n hx hb dX0_explore_70 rfl (lv_at hl 1 rfl) ?_
    refine x_get X Z 0 0 (v := .ref (d 0)) rfl rfl lk_X0_explore_X0_tests dX0_explore_71 ?_
    refine lv_iconst (v := (1 : Int32)) hx hb dX0_explore_74 (by decide) ?_
    refine lv_aload_n hx hb dX0_explore_75 rfl (lv_at hl 1 rfl) ?_
    refine x_get X Z 0 7 (v := .ref (d 7)) rfl rfl lk_X0_explore_X0_high dX0_explore_76 ?_
    refine lv_iload_n hx hb dX0_explore_79 rfl (lv_at hl 2 rfl) ?_
    obtain ⟨hin6, v7, hv8, h⟩ := ld_b h
    refine x_lald X Z 4 rfl hin6 hv8 dX0_explore_80 ?_
    refine lv_iload_n hx hb dX0_explore_81 rfl (lv_at hl 3 rfl) ?_
    obtain ⟨u9, hc10, h⟩ := ob_some h
    refine x_runVl (RW' := (RW_X0_explore cy o d d_tests PT letters_ states_ next_ depth_ low_ high_ parent_ lastLetter_ slots_)) (wr := [(o, ob 0 (oX0 d letters_ states_)), ((d 3), aI cy 6000 next_), ((d 5), aI cy 2000 depth_), ((d 6), aJ cy 2000 low_), ((d 7), aJ cy 2000 high_), ((d 8), aI cy 2000 parent_), ((d 9), aI cy 2000 lastLetter_), ((d 10), aI cy 4096 slots_)]) (isC := []) (isR := [0, 1, 2, 3, 4, 5, 6, 7]) (isF := [0, 1, 2, 3, 4, 5, 6, 7]) (rest := [.long u4, .ref o]) (As := [.int (1 : Int32), .long v7, .int x2]) (n := 3) X Z (c_X1_step l D cy (d 0) d_tests PT tq tests_count_ tests_members_ (1 : Int32) v7 x2 u9 hT hc10) gX0_explore_X1_step rfl (by decide +kernel) ⟨Nat.le_of_ble_eq_true rfl, Nat.le_of_ble_eq_true rfl⟩ ⟨rfl, rfl⟩ ⟨Nat.le_of_ble_eq_true rfl, Nat.le_of_ble_eq_true rfl⟩ (x_rvO X Z 0 rfl rfl) ⟨rfl, rfl, (roC (Or.inr (mem_at 0 rfl)) (roC (Or.inr (mem_at 1 rfl)) (fun q hq => Or.inr (List.mem_append_right _ hq)))), rfl, rfl, by decide⟩ ⟨rfl, rfl⟩ rfl hl.1 rfl (Nat.le_of_ble_eq_true rfl) dX0_explore_82 (fun H locs Z => ?_)
    obtain ⟨u11, hc12, h⟩ := ob_some h
    refine x_runVi (RW' := (RW_X0_explore cy o d d_tests PT letters_ u11.2.1 next_ depth_ u11.2.2.1 u11.2.2.2.1 parent_ lastLetter_ u11.2.2.2.2)) (wr := [((d 3), aI cy 6000 next_), ((d 5), aI cy 2000 depth_), ((d 8), aI cy 2000 parent_), ((d 9), aI cy 2000 lastLetter_)]) (isC := [0, 3, 4, 7]) (isR := [1, 2, 5, 6]) (isF := [4, 0, 1, 5, 6, 2, 3, 7]) (rest := []) (As := [.long u4, .long u9]) (n := 2) X Z (c_X0_reach l D cy o d letters_ states_ low_ high_ slots_ u4 u9 u11 hc12) gX0_explore_X0_reach rfl (by decide +kernel) ⟨Nat.le_of_ble_eq_true rfl, Nat.le_of_ble_eq_true rfl⟩ ⟨rfl, rfl⟩ ⟨Nat.le_of_ble_eq_true rfl, Nat.le_of_ble_eq_true rfl⟩ (x_rv X Z 0 rfl rfl) ⟨rfl, rfl, roN, rfl, rfl, by decide⟩ ⟨rfl, rfl⟩ rfl hl.1 rfl (Nat.le_of_ble_eq_true rfl) dX0_explore_85 (fun H locs Z => ?_)
    refine lv_istore (lv' := [(4, .int u11.1), (3, .int states_), (0, .ref o), (1, .int x1), (2, .int x2)]) hx hb dX0_explore_88 hl (by decide) rfl (fun ls hl => ?_)
    refine lv_iload hx hb dX0_explore_90 (lv_at hl 0 rfl) ?_
    refine lv_if_ge (tgt := 97) hx hb dX0_explore_92 (by decide) (fun cnd => ?_) (fun cnd => ?_)
    · replace h := ifp h cnd
      refine lv_aload_n hx hb dX0_explore_97 rfl (lv_at hl 2 rfl) ?_
      refine x_get X Z 0 3 (v := .ref (d 3)) rfl rfl lk_X0_explore_X0_next dX0_explore_98 ?_
      refine lv_iload_n hx hb dX0_explore_101 rfl (lv_at hl 3 rfl) ?_
      refine lv_iconst (v := (3 : Int32)) hx hb dX0_explore_102 (by decide) ?_
      refine lv_imul hx hb dX0_explore_103 ?_
      refine lv_iload_n hx hb dX0_explore_104 rfl (lv_at hl 4 rfl) ?_
      refine lv_iadd hx hb dX0_explore_105 ?_
      refine lv_iload hx hb dX0_explore_106 (lv_at hl 0 rfl) ?_
      obtain ⟨hin13, next_14, hv15, h⟩ := st_b h
      refine x_iast X Z 1 (RW_X0_explore cy o d d_tests PT letters_ u11.2.1 next_14 depth_ u11.2.2.1 u11.2.2.2.1 parent_ lastLetter_ u11.2.2.2.2) rfl hin13 hv15 rfl dX0_explore_108 (fun H locs Z => ?_)
      refine lv_iload hx hb dX0_explore_109 (lv_at hl 0 rfl) ?_
      refine lv_iload_n hx hb dX0_explore_111 rfl (lv_at hl 1 rfl) ?_
      refine lv_icmp_ne (tgt := 146) hx hb dX0_explore_112 (by decide) (fun cnd => ?_) (fun cnd => ?_)
      · replace h := ifn h cnd
        refine lv_iinc (v := (x2 + (1 : Int32))) (lv' := [(2, .int (x2 + (1 : Int32))), (4, .int u11.1), (3, .int states_), (0, .ref o), (1, .int x1)]) hx hb dX0_explore_146 hl (k := 4) rfl rfl (by decide) rfl (fun ls hl => ?_)
        refine lv_goto (tgt := 41) hx hb dX0_explore_149 (by decide) ?_
        obtain rfl := Option.some.inj h
        exact sk_l K H locs ls Z (lv_sub hl [3, 4, 0] rfl)
      · replace h := ifp h cnd
        refine lv_aload_n hx hb dX0_explore_115 rfl (lv_at hl 2 rfl) ?_
        refine x_get X Z 0 8 (v := .ref (d 8)) rfl rfl lk_X0_explore_X0_parent dX0_explore_116 ?_
        refine lv_iload hx hb dX0_explore_119 (lv_at hl 0 rfl) ?_
        refine lv_iload_n hx hb dX0_explore_121 rfl (lv_at hl 3 rfl) ?_
        obtain ⟨hin16, parent_17, hv18, h⟩ := st_b h
        refine x_iast X Z 5 (RW_X0_explore cy o d d_tests PT letters_ u11.2.1 next_14 depth_ u11.2.2.1 u11.2.2.2.1 parent_17 lastLetter_ u11.2.2.2.2) rfl hin16 hv18 rfl dX0_explore_122 (fun H locs Z => ?_)
        refine lv_aload_n hx hb dX0_explore_123 rfl (lv_at hl 2 rfl) ?_
        refine x_get X Z 0 9 (v := .ref (d 9)) rfl rfl lk_X0_explore_X0_lastLetter dX0_explore_124 ?_
        refine lv_iload hx hb dX0_explore_127 (lv_at hl 0 rfl) ?_
        refine lv_iload_n hx hb dX0_explore_129 rfl (lv_at hl 4 rfl) ?_
        obtain ⟨hin19, lastLetter_20, hv21, h⟩ := st_b h
        refine x_iast X Z 6 (RW_X0_explore cy o d d_tests PT letters_ u11.2.1 next_14 depth_ u11.2.2.1 u11.2.2.2.1 parent_17 lastLetter_20 u11.2.2.2.2) rfl hin19 hv21 rfl dX0_explore_130 (fun H locs Z => ?_)
        refine lv_aload_n hx hb dX0_explore_131 rfl (lv_at hl 2 rfl) ?_
        refine x_get X Z 0 5 (v := .ref (d 5)) rfl rfl lk_X0_explore_X0_depth dX0_explore_132 ?_
        refine lv_iload hx hb dX0_explore_135 (lv_at hl 0 rfl) ?_
        refine lv_aload_n hx hb dX0_explore_137 rfl (lv_at hl 2 rfl) ?_
        refine x_get X Z 0 5 (v := .ref (d 5)) rfl rfl lk_X0_explore_X0_depth dX0_explore_138 ?_
        refine lv_iload_n hx hb dX0_explore_141 rfl (lv_at hl 3 rfl) ?_
        obtain ⟨hin22, v23, hv24, h⟩ := ld_b h
        refine x_iald X Z 2 rfl hin22 hv24 dX0_explore_142 ?_
        refine lv_iconst (v := (1 : Int32)) hx hb dX0_explore_143 (by decide) ?_
        refine lv_iadd hx hb dX0_explore_144 ?_
        obtain ⟨hin25, depth_26, hv27, h⟩ := st_b h
        refine x_iast X Z 2 (RW_X0_explore cy o d d_tests PT letters_ u11.2.1 next_14 depth_26 u11.2.2.1 u11.2.2.2.1 parent_17 lastLetter_20 u11.2.2.2.2) rfl hin25 hv27 rfl dX0_explore_145 (fun H locs Z => ?_)
        refine lv_iinc (v := (x2 + (1 : Int32))) (lv' := [(2, .int (x2 + (1 : Int32))), (4, .int u11.1), (3, .int states_), (0, .ref o), (1, .int x1)]) hx hb dX0_explore_146 hl (k := 4) rfl rfl (by decide) rfl (fun ls hl => ?_)
        refine lv_goto (tgt := 41) hx hb dX0_explore_149 (by decide) ?_
        obtain rfl := Option.some.inj h
        exact sk_l K H locs ls Z (lv_sub hl [3, 4, 0] rfl)
    · replace h := ifn h cnd
      obtain rfl := Option.some.inj h
      exact (sk_l (sk_r K)) H locs ls Z (lv_sub hl [] rfl)
set_option maxHeartbeats 4000000 in
set_option maxRecDepth 100000 in
theorem wl_X0_explore_41 {p : Program} {l : Launch} {e : Env} {s : State} {m : MethodId} {args : Array Value} {below : List Frame} {meth : Method} {c : Code} {A : Nat → Prop} {Q : State → Prop} {D : va_G} {cy : Nat → ClassId} (o : Nat) (d : Nat → Nat) (d_tests : Nat → Nat) (PT : va_W) (tq : Nat → Option TV) (tests_count_ : Int32) (tests_members_ : Nat → Option Nat) (letters_ : Int32) (x1 : Int32) (n : Nat) (v : Int32 × (Nat → Int32) × (Nat → Int32) × (Nat → Int64) × (Nat → Int64) × (Nat → Int32) × (Nat → Int32) × (Nat → Int32) × Int32) (x : (Int32 × (Nat → Int32) × (Nat → Int32) × (Nat → Int64) × (Nat → Int64) × (Nat → Int32) × (Nat → Int32) × (Nat → Int32)) ⊕ (Int32 × (Nat → Int32) × (Nat → Int32) × (Nat → Int64) × (Nat → Int64) × (Nat → Int32) × (Nat → Int32) × (Nat → Int32))) (hT : TP cy PT tq) (X : Cx p m c cX0_explore 5 s args wsX0_explore RX0 A D cy (RO_X0_explore cy o d d_tests PT tests_count_ tests_members_)) (h : loopN (fun v => b_X0_explore_41 tq tests_count_ tests_members_ letters_ x1 v.1 v.2.1 v.2.2.1 v.2.2.2.1 v.2.2.2.2.1 v.2.2.2.2.2.1 v.2.2.2.2.2.2.1 v.2.2.2.2.2.2.2.1 v.2.2.2.2.2.2.2.2) n v = some x) (K : Sum.elim (fun w : Int32 × (Nat → Int32) × (Nat → Int32) × (Nat → Int64) × (Nat → Int64) × (Nat → Int32) × (Nat → Int32) × (Nat → Int32) => ∀ (H : Heap) (locs : List Loc) (ls : Array Slot), St A D s (RW_X0_explore cy o d d_tests PT letters_ w.1 w.2.1 w.2.2.1 w.2.2.2.1 w.2.2.2.2.1 w.2.2.2.2.2.1 w.2.2.2.2.2.2.1 w.2.2.2.2.2.2.2) H locs → lv_has ls 5 [] → W p l e rm_X0_explore s m args below meth c H locs 0 0 Q (F0 m 95 ls [])) (fun w => ∀ (H : Heap) (locs : List Loc) (ls : Array Slot), St A D s (RW_X0_explore cy o d d_tests PT letters_ w.1 w.2.1 w.2.2.1 w.2.2.2.1 w.2.2.2.2.1 w.2.2.2.2.2.1 w.2.2.2.2.2.2.1 w.2.2.2.2.2.2.2) H locs → lv_has ls 5 [(0, .ref o), (1, .int x1)] → W p l e rm_X0_explore s m args below meth c H locs 0 0 Q (F0 m 152 ls [])) x) : ∀ (H : Heap) (locs : List Loc) (ls : Array Slot), St A D s (RW_X0_explore cy o d d_tests PT letters_ v.1 v.2.1 v.2.2.1 v.2.2.2.1 v.2.2.2.2.1 v.2.2.2.2.2.1 v.2.2.2.2.2.2.1 v.2.2.2.2.2.2.2.1) H locs → lv_has ls 5 [(0, .ref o), (1, .int x1), (2, .int v.2.2.2.2.2.2.2.2)] → W p l e rm_X0_explore s m args below meth c H locs 0 0 Q (F0 m 41 ls []) :=
  loop_gen (B := (fun v => b_X0_explore_41 tq tests_count_ tests_members_ letters_ x1 v.1 v.2.1 v.2.2.1 v.2.2.2.1 v.2.2.2.2.1 v.2.2.2.2.2.1 v.2.2.2.2.2.2.1 v.2.2.2.2.2.2.2.1 v.2.2.2.2.2.2.2.2)) (Head := fun v : Int32 × (Nat → Int32) × (Nat → Int32) × (Nat → Int64) × (Nat → Int64) × (Nat → Int32) × (Nat → Int32) × (Nat → Int32) × Int32 => ∀ (H : Heap) (locs : List Loc) (ls : Array Slot), St A D s (RW_X0_explore cy o d d_tests PT letters_ v.1 v.2.1 v.2.2.1 v.2.2.2.1 v.2.2.2.2.1 v.2.2.2.2.2.1 v.2.2.2.2.2.2.1 v.2.2.2.2.2.2.2.1) H locs → lv_has ls 5 [(0, .ref o), (1, .int x1), (2, .int v.2.2.2.2.2.2.2.2)] → W p l e rm_X0_explore s m args below meth c H locs 0 0 Q (F0 m 41 ls [])) (Exit := fun v : (Int32 × (Nat → Int32) × (Nat → Int32) × (Nat → Int64) × (Nat → Int64) × (Nat → Int32) × (Nat → Int32) × (Nat → Int32)) ⊕ (Int32 × (Nat → Int32) × (Nat → Int32) × (Nat → Int64) × (Nat → Int64) × (Nat → Int32) × (Nat → Int32) × (Nat → Int32)) => Sum.elim (fun w : Int32 × (Nat → Int32) × (Nat → Int32) × (Nat → Int64) × (Nat → Int64) × (Nat → Int32) × (Nat → Int32) × (Nat → Int32) => ∀ (H : Heap) (locs : List Loc) (ls : Array Slot), St A D s (RW_X0_explore cy o d d_tests PT letters_ w.1 w.2.1 w.2.2.1 w.2.2.2.1 w.2.2.2.2.1 w.2.2.2.2.2.1 w.2.2.2.2.2.2.1 w.2.2.2.2.2.2.2) H locs → lv_has ls 5 [] → W p l e rm_X0_explore s m args below meth c H locs 0 0 Q (F0 m 95 ls [])) (fun w => ∀ (H : Heap) (locs : List Loc) (ls : Array Slot), St A D s (RW_X0_explore cy o d d_tests PT letters_ w.1 w.2.1 w.2.2.1 w.2.2.2.1 w.2.2.2.2.1 w.2.2.2.2.2.1 w.2.2.2.2.2.2.1 w.2.2.2.2.2.2.2) H locs → lv_has ls 5 [(0, .ref o), (1, .int x1)] → W p l e rm_X0_explore s m args below meth c H locs 0 0 Q (F0 m 152 ls [])) v) (fun v o9 hb1 K1 => wb_X0_explore_41 o d d_tests PT tq tests_count_ tests_members_ letters_ x1 v.1 v.2.1 v.2.2.1 v.2.2.2.1 v.2.2.2.2.1 v.2.2.2.2.2.1 v.2.2.2.2.2.2.1 v.2.2.2.2.2.2.2.1 v.2.2.2.2.2.2.2.2 o9 hT X hb1 K1) n v x h K
def b_X0_explore_24 (tq : Nat → Option TV) (tests_count_ : Int32) (tests_members_ : Nat → Option Nat) (letters_ : Int32) (states_ : Int32) (next_ : Nat → Int32) (depth_ : Nat → Int32) (low_ : Nat → Int64) (high_ : Nat → Int64) (parent_ : Nat → Int32) (lastLetter_ : Nat → Int32) (slots_ : Nat → Int32) (x1 : Int32) : Option ((Int32 × (Nat → Int32) × (Nat → Int32) × (Nat → Int64) × (Nat → Int64) × (Nat → Int32) × (Nat → Int32) × (Nat → Int32) × Int32) ⊕ ((Int32 × (Nat → Int32) × (Nat → Int32) × (Nat → Int64) × (Nat → Int64) × (Nat → Int32) × (Nat → Int32) × (Nat → Int32)) ⊕ (Int32 × (Nat → Int32) × (Nat → Int32) × (Nat → Int64) × (Nat → Int64) × (Nat → Int32) × (Nat → Int32) × (Nat → Int32)))) :=
  if (2000 : Int32) ≤ x1 then
  (some (.inr (.inr (states_, next_, depth_, low_, high_, parent_, lastLetter_, slots_))))
  else
  (if states_ ≤ x1 then
  (some (.inr (.inr (states_, next_, depth_, low_, high_, parent_, lastLetter_, slots_))))
  else
  ((loopN (fun v => b_X0_explore_41 tq tests_count_ tests_members_ letters_ x1 v.1 v.2.1 v.2.2.1 v.2.2.2.1 v.2.2.2.2.1 v.2.2.2.2.2.1 v.2.2.2.2.2.2.1 v.2.2.2.2.2.2.2.1 v.2.2.2.2.2.2.2.2) FU (states_, next_, depth_, low_, high_, parent_, lastLetter_, slots_, (0 : Int32))).bind (fun u28 =>
  Sum.elim (fun u28 =>
  some (.inr (.inl (u28.1, u28.2.1, u28.2.2.1, u28.2.2.2.1, u28.2.2.2.2.1, u28.2.2.2.2.2.1, u28.2.2.2.2.2.2.1, u28.2.2.2.2.2.2.2)))) (fun u28 =>
  some (.inl (u28.1, u28.2.1, u28.2.2.1, u28.2.2.2.1, u28.2.2.2.2.1, u28.2.2.2.2.2.1, u28.2.2.2.2.2.2.1, u28.2.2.2.2.2.2.2, (x1 + (1 : Int32))))) u28)))
set_option maxHeartbeats 4000000 in
set_option maxRecDepth 100000 in
theorem wb_X0_explore_24 {p : Program} {l : Launch} {e : Env} {s : State} {m : MethodId} {args : Array Value} {below : List Frame} {meth : Method} {c : Code} {A : Nat → Prop} {Q : State → Prop} {D : va_G} {cy : Nat → ClassId} (o : Nat) (d : Nat → Nat) (d_tests : Nat → Nat) (PT : va_W) (tq : Nat → Option TV) (tests_count_ : Int32) (tests_members_ : Nat → Option Nat) (letters_ : Int32) (states_ : Int32) (next_ : Nat → Int32) (depth_ : Nat → Int32) (low_ : Nat → Int64) (high_ : Nat → Int64) (parent_ : Nat → Int32) (lastLetter_ : Nat → Int32) (slots_ : Nat → Int32) (x1 : Int32) (o1 : (Int32 × (Nat → Int32) × (Nat → Int32) × (Nat → Int64) × (Nat → Int64) × (Nat → Int32) × (Nat → Int32) × (Nat → Int32) × Int32) ⊕ ((Int32 × (Nat → Int32) × (Nat → Int32) × (Nat → Int64) × (Nat → Int64) × (Nat → Int32) × (Nat → Int32) × (Nat → Int32)) ⊕ (Int32 × (Nat → Int32) × (Nat → Int32) × (Nat → Int64) × (Nat → Int64) × (Nat → Int32) × (Nat → Int32) × (Nat → Int32)))) (hT : TP cy PT tq) (X : Cx p m c cX0_explore 5 s args wsX0_explore RX0 A D cy (RO_X0_explore cy o d d_tests PT tests_count_ tests_members_)) (h : b_X0_explore_24 tq tests_count_ tests_members_ letters_ states_ next_ depth_ low_ high_ parent_ lastLetter_ slots_ x1 = some o1) (K : Sum.elim (fun v : Int32 × (Nat → Int32) × (Nat → Int32) × (Nat → Int64) × (Nat → Int64) × (Nat → Int32) × (Nat → Int32) × (Nat → Int32) × Int32 => ∀ (H : Heap) (locs : List Loc) (ls : Array Slot), St A D s (RW_X0_explore cy o d d_tests PT letters_ v.1 v.2.1 v.2.2.1 v.2.2.2.1 v.2.2.2.2.1 v.2.2.2.2.2.1 v.2.2.2.2.2.2.1 v.2.2.2.2.2.2.2.1) H locs → lv_has ls 5 [(0, .ref o), (1, .int v.2.2.2.2.2.2.2.2)] → W p l e rm_X0_explore s m args below meth c H locs 0 0 Q (F0 m 24 ls [])) (fun v : (Int32 × (Nat → Int32) × (Nat → Int32) × (Nat → Int64) × (Nat → Int64) × (Nat → Int32) × (Nat → Int32) × (Nat → Int32)) ⊕ (Int32 × (Nat → Int32) × (Nat → Int32) × (Nat → Int64) × (Nat → Int64) × (Nat → Int32) × (Nat → Int32) × (Nat → Int32)) => Sum.elim (fun w : Int32 × (Nat → Int32) × (Nat → Int32) × (Nat → Int64) × (Nat → Int64) × (Nat → Int32) × (Nat → Int32) × (Nat → Int32) => ∀ (H : Heap) (locs : List Loc) (ls : Array Slot), St A D s (RW_X0_explore cy o d d_tests PT letters_ w.1 w.2.1 w.2.2.1 w.2.2.2.1 w.2.2.2.2.1 w.2.2.2.2.2.1 w.2.2.2.2.2.2.1 w.2.2.2.2.2.2.2) H locs → lv_has ls 5 [] → W p l e rm_X0_explore s m args below meth c H locs 0 0 Q (F0 m 95 ls [])) (fun w => ∀ (H : Heap) (locs : List Loc) (ls : Array Slot), St A D s (RW_X0_explore cy o d d_tests PT letters_ w.1 w.2.1 w.2.2.1 w.2.2.2.1 w.2.2.2.2.1 w.2.2.2.2.2.1 w.2.2.2.2.2.2.1 w.2.2.2.2.2.2.2) H locs → lv_has ls 5 [] → W p l e rm_X0_explore s m args below meth c H locs 0 0 Q (F0 m 158 ls [])) v) o1) : ∀ (H : Heap) (locs : List Loc) (ls : Array Slot), St A D s (RW_X0_explore cy o d d_tests PT letters_ states_ next_ depth_ low_ high_ parent_ lastLetter_ slots_) H locs → lv_has ls 5 [(0, .ref o), (1, .int x1)] → W p l e rm_X0_explore s m args below meth c H locs 0 0 Q (F0 m 24 ls []) := by
  intro H locs ls Z hl
  have hx := X.1.1
  have hb := X.1.2.1
  unfold b_X0_explore_24 at h
  refine lv_iload_n hx hb dX0_explore_24 rfl (lv_at hl 1 rfl) ?_
  refine lv_sipush (v := (2000 : Int32)) hx hb dX0_explore_25 (by decide) ?_
  refine lv_icmp_ge (tgt := 158) hx hb dX0_explore_28 (by decide) (fun cnd => ?_) (fun cnd => ?_)
  · replace h := ifp h cnd
    obtain rfl := Option.some.inj h
    exact (sk_r (sk_r K)) H locs ls Z (lv_sub hl [] rfl)
  · replace h := ifn h cnd
    refine lv_iload_n hx hb dX0_explore_31 rfl (lv_at hl 1 rfl) ?_
    refine lv_aload_n hx hb dX0_explore_32 rfl (lv_at hl 0 rfl) ?_
    refine x_get X Z 0 2 (v := .int states_) rfl rfl lk_X0_explore_X0_states dX0_explore_33 ?_
    refine lv_icmp_ge (tgt := 158) hx hb dX0_explore_36 (by decide) (fun cnd => ?_) (fun cnd => ?_)
    · replace h := ifp h cnd
      obtain rfl := Option.some.inj h
      exact (sk_r (sk_r K)) H locs ls Z (lv_sub hl [] rfl)
    · replace h := ifn h cnd
      refine lv_iconst (v := (0 : Int32)) hx hb dX0_explore_39 (by decide) ?_
      refine lv_istore_n (lv' := [(2, .int (0 : Int32)), (0, .ref o), (1, .int x1)]) hx hb dX0_explore_40 rfl hl (by decide) rfl (fun ls hl => ?_)
      obtain ⟨u28, hL29, h⟩ := ob_some h
      rcases u28 with u28 | u28
      · replace h := se_l h
        refine wl_X0_explore_41 o d d_tests PT tq tests_count_ tests_members_ letters_ x1 FU (states_, next_, depth_, low_, high_, parent_, lastLetter_, slots_, (0 : Int32)) (.inl u28) hT X hL29 (sk_li (fun H locs ls Z hl => ?_)) H locs ls Z (lv_sub hl [1, 2, 0] rfl)
        obtain rfl := Option.some.inj h
        exact (sk_l (sk_r K)) H locs ls Z (lv_sub hl [] rfl)
      · replace h := se_r h
        refine wl_X0_explore_41 o d d_tests PT tq tests_count_ tests_members_ letters_ x1 FU (states_, next_, depth_, low_, high_, parent_, lastLetter_, slots_, (0 : Int32)) (.inr u28) hT X hL29 (sk_ri (fun H locs ls Z hl => ?_)) H locs ls Z (lv_sub hl [1, 2, 0] rfl)
        refine lv_iinc (v := (x1 + (1 : Int32))) (lv' := [(1, .int (x1 + (1 : Int32))), (0, .ref o)]) hx hb dX0_explore_152 hl (k := 1) rfl rfl (by decide) rfl (fun ls hl => ?_)
        refine lv_goto (tgt := 24) hx hb dX0_explore_155 (by decide) ?_
        obtain rfl := Option.some.inj h
        exact sk_l K H locs ls Z (lv_sub hl [1, 0] rfl)
set_option maxHeartbeats 4000000 in
set_option maxRecDepth 100000 in
theorem wl_X0_explore_24 {p : Program} {l : Launch} {e : Env} {s : State} {m : MethodId} {args : Array Value} {below : List Frame} {meth : Method} {c : Code} {A : Nat → Prop} {Q : State → Prop} {D : va_G} {cy : Nat → ClassId} (o : Nat) (d : Nat → Nat) (d_tests : Nat → Nat) (PT : va_W) (tq : Nat → Option TV) (tests_count_ : Int32) (tests_members_ : Nat → Option Nat) (letters_ : Int32) (n : Nat) (v : Int32 × (Nat → Int32) × (Nat → Int32) × (Nat → Int64) × (Nat → Int64) × (Nat → Int32) × (Nat → Int32) × (Nat → Int32) × Int32) (x : (Int32 × (Nat → Int32) × (Nat → Int32) × (Nat → Int64) × (Nat → Int64) × (Nat → Int32) × (Nat → Int32) × (Nat → Int32)) ⊕ (Int32 × (Nat → Int32) × (Nat → Int32) × (Nat → Int64) × (Nat → Int64) × (Nat → Int32) × (Nat → Int32) × (Nat → Int32))) (hT : TP cy PT tq) (X : Cx p m c cX0_explore 5 s args wsX0_explore RX0 A D cy (RO_X0_explore cy o d d_tests PT tests_count_ tests_members_)) (h : loopN (fun v => b_X0_explore_24 tq tests_count_ tests_members_ letters_ v.1 v.2.1 v.2.2.1 v.2.2.2.1 v.2.2.2.2.1 v.2.2.2.2.2.1 v.2.2.2.2.2.2.1 v.2.2.2.2.2.2.2.1 v.2.2.2.2.2.2.2.2) n v = some x) (K : Sum.elim (fun w : Int32 × (Nat → Int32) × (Nat → Int32) × (Nat → Int64) × (Nat → Int64) × (Nat → Int32) × (Nat → Int32) × (Nat → Int32) => ∀ (H : Heap) (locs : List Loc) (ls : Array Slot), St A D s (RW_X0_explore cy o d d_tests PT letters_ w.1 w.2.1 w.2.2.1 w.2.2.2.1 w.2.2.2.2.1 w.2.2.2.2.2.1 w.2.2.2.2.2.2.1 w.2.2.2.2.2.2.2) H locs → lv_has ls 5 [] → W p l e rm_X0_explore s m args below meth c H locs 0 0 Q (F0 m 95 ls [])) (fun w => ∀ (H : Heap) (locs : List Loc) (ls : Array Slot), St A D s (RW_X0_explore cy o d d_tests PT letters_ w.1 w.2.1 w.2.2.1 w.2.2.2.1 w.2.2.2.2.1 w.2.2.2.2.2.1 w.2.2.2.2.2.2.1 w.2.2.2.2.2.2.2) H locs → lv_has ls 5 [] → W p l e rm_X0_explore s m args below meth c H locs 0 0 Q (F0 m 158 ls [])) x) : ∀ (H : Heap) (locs : List Loc) (ls : Array Slot), St A D s (RW_X0_explore cy o d d_tests PT letters_ v.1 v.2.1 v.2.2.1 v.2.2.2.1 v.2.2.2.2.1 v.2.2.2.2.2.1 v.2.2.2.2.2.2.1 v.2.2.2.2.2.2.2.1) H locs → lv_has ls 5 [(0, .ref o), (1, .int v.2.2.2.2.2.2.2.2)] → W p l e rm_X0_explore s m args below meth c H locs 0 0 Q (F0 m 24 ls []) :=
  loop_gen (B := (fun v => b_X0_explore_24 tq tests_count_ tests_members_ letters_ v.1 v.2.1 v.2.2.1 v.2.2.2.1 v.2.2.2.2.1 v.2.2.2.2.2.1 v.2.2.2.2.2.2.1 v.2.2.2.2.2.2.2.1 v.2.2.2.2.2.2.2.2)) (Head := fun v : Int32 × (Nat → Int32) × (Nat → Int32) × (Nat → Int64) × (Nat → Int64) × (Nat → Int32) × (Nat → Int32) × (Nat → Int32) × Int32 => ∀ (H : Heap) (locs : List Loc) (ls : Array Slot), St A D s (RW_X0_explore cy o d d_tests PT letters_ v.1 v.2.1 v.2.2.1 v.2.2.2.1 v.2.2.2.2.1 v.2.2.2.2.2.1 v.2.2.2.2.2.2.1 v.2.2.2.2.2.2.2.1) H locs → lv_has ls 5 [(0, .ref o), (1, .int v.2.2.2.2.2.2.2.2)] → W p l e rm_X0_explore s m args below meth c H locs 0 0 Q (F0 m 24 ls [])) (Exit := fun v : (Int32 × (Nat → Int32) × (Nat → Int32) × (Nat → Int64) × (Nat → Int64) × (Nat → Int32) × (Nat → Int32) × (Nat → Int32)) ⊕ (Int32 × (Nat → Int32) × (Nat → Int32) × (Nat → Int64) × (Nat → Int64) × (Nat → Int32) × (Nat → Int32) × (Nat → Int32)) => Sum.elim (fun w : Int32 × (Nat → Int32) × (Nat → Int32) × (Nat → Int64) × (Nat → Int64) × (Nat → Int32) × (Nat → Int32) × (Nat → Int32) => ∀ (H : Heap) (locs : List Loc) (ls : Array Slot), St A D s (RW_X0_explore cy o d d_tests PT letters_ w.1 w.2.1 w.2.2.1 w.2.2.2.1 w.2.2.2.2.1 w.2.2.2.2.2.1 w.2.2.2.2.2.2.1 w.2.2.2.2.2.2.2) H locs → lv_has ls 5 [] → W p l e rm_X0_explore s m args below meth c H locs 0 0 Q (F0 m 95 ls [])) (fun w => ∀ (H : Heap) (locs : List Loc) (ls : Array Slot), St A D s (RW_X0_explore cy o d d_tests PT letters_ w.1 w.2.1 w.2.2.1 w.2.2.2.1 w.2.2.2.2.1 w.2.2.2.2.2.1 w.2.2.2.2.2.2.1 w.2.2.2.2.2.2.2) H locs → lv_has ls 5 [] → W p l e rm_X0_explore s m args below meth c H locs 0 0 Q (F0 m 158 ls [])) v) (fun v o9 hb1 K1 => wb_X0_explore_24 o d d_tests PT tq tests_count_ tests_members_ letters_ v.1 v.2.1 v.2.2.1 v.2.2.2.1 v.2.2.2.2.1 v.2.2.2.2.2.1 v.2.2.2.2.2.2.1 v.2.2.2.2.2.2.2.1 v.2.2.2.2.2.2.2.2 o9 hT X hb1 K1) n v x h K
def f_X0_explore (tq : Nat → Option TV) (tests_count_ : Int32) (tests_members_ : Nat → Option Nat) (letters_ : Int32) (states_ : Int32) (next_ : Nat → Int32) (depth_ : Nat → Int32) (low_ : Nat → Int64) (high_ : Nat → Int64) (parent_ : Nat → Int32) (lastLetter_ : Nat → Int32) (slots_ : Nat → Int32) : Option (Int32 × Int32 × (Nat → Int32) × (Nat → Int32) × (Nat → Int64) × (Nat → Int64) × (Nat → Int32) × (Nat → Int32) × (Nat → Int32)) :=
  (f_J7_fill_53178 (-1 : Int32) 4096 slots_).bind (fun u30 =>
  stA depth_ 2000 (0 : Int32) (0 : Int32) (fun depth_33 =>
  (f_X0_reach (0 : Int64) (0 : Int64) states_ low_ high_ u30).bind (fun u35 =>
  (loopN (fun v => b_X0_explore_24 tq tests_count_ tests_members_ letters_ v.1 v.2.1 v.2.2.1 v.2.2.2.1 v.2.2.2.2.1 v.2.2.2.2.2.1 v.2.2.2.2.2.2.1 v.2.2.2.2.2.2.2.1 v.2.2.2.2.2.2.2.2) FU (u35.2.1, next_, depth_33, u35.2.2.1, u35.2.2.2.1, parent_, lastLetter_, u35.2.2.2.2, (0 : Int32))).bind (fun u37 =>
  Sum.elim (fun u37 =>
  some ((0 : Int32), u37.1, u37.2.1, u37.2.2.1, u37.2.2.2.1, u37.2.2.2.2.1, u37.2.2.2.2.2.1, u37.2.2.2.2.2.2.1, u37.2.2.2.2.2.2.2)) (fun u37 =>
  some ((1 : Int32), u37.1, u37.2.1, u37.2.2.1, u37.2.2.2.1, u37.2.2.2.2.1, u37.2.2.2.2.2.1, u37.2.2.2.2.2.2.1, u37.2.2.2.2.2.2.2)) u37))))
set_option maxHeartbeats 4000000 in
set_option maxRecDepth 100000 in
theorem wt_X0_explore {p : Program} {l : Launch} {e : Env} {s : State} {m : MethodId} {args : Array Value} {below : List Frame} {meth : Method} {c : Code} {A : Nat → Prop} {Q : State → Prop} {D : va_G} {cy : Nat → ClassId} (o : Nat) (d : Nat → Nat) (d_tests : Nat → Nat) (PT : va_W) (tq : Nat → Option TV) (tests_count_ : Int32) (tests_members_ : Nat → Option Nat) (letters_ : Int32) (states_ : Int32) (next_ : Nat → Int32) (depth_ : Nat → Int32) (low_ : Nat → Int64) (high_ : Nat → Int64) (parent_ : Nat → Int32) (lastLetter_ : Nat → Int32) (slots_ : Nat → Int32) (out : Int32 × Int32 × (Nat → Int32) × (Nat → Int32) × (Nat → Int64) × (Nat → Int64) × (Nat → Int32) × (Nat → Int32) × (Nat → Int32)) (hT : TP cy PT tq) (X : Cx p m c cX0_explore 5 s args wsX0_explore RX0 A D cy (RO_X0_explore cy o d d_tests PT tests_count_ tests_members_)) (h : f_X0_explore tq tests_count_ tests_members_ letters_ states_ next_ depth_ low_ high_ parent_ lastLetter_ slots_ = some out) (K : ∀ (H : Heap) (locs : List Loc) (ls : Array Slot) (pc : Nat), decode cX0_explore pc = .ok (.ireturn, 1) → (out.1 = 0 ∨ out.1 = 1) → St A D s (RW_X0_explore cy o d d_tests PT letters_ out.2.1 out.2.2.1 out.2.2.2.1 out.2.2.2.2.1 out.2.2.2.2.2.1 out.2.2.2.2.2.2.1 out.2.2.2.2.2.2.2.1 out.2.2.2.2.2.2.2.2) H locs → W p l e rm_X0_explore s m args below meth c H locs 0 0 Q (F0 m pc ls [.int out.1])) : ∀ (H : Heap) (locs : List Loc) (ls : Array Slot), St A D s (RW_X0_explore cy o d d_tests PT letters_ states_ next_ depth_ low_ high_ parent_ lastLetter_ slots_) H locs → lv_has ls 5 [(0, .ref o)] → W p l e rm_X0_explore s m args below meth c H locs 0 0 Q (F0 m 0 ls []) := by
  intro H locs ls Z hl
  have hx := X.1.1
  have hb := X.1.2.1
  unfold f_X0_explore at h
  refine lv_aload_n hx hb dX0_explore_0 rfl (lv_at hl 0 rfl) ?_
  refine x_get X Z 0 10 (v := .ref (d 10)) rfl rfl lk_X0_explore_X0_slots dX0_explore_1 ?_
  refine lv_iconst (v := (-1 : Int32)) hx hb dX0_explore_4 (by decide) ?_
  obtain ⟨u30, hc31, h⟩ := ob_some h
  refine x_runSv (RW' := (RW_X0_explore cy o d d_tests PT letters_ states_ next_ depth_ low_ high_ parent_ lastLetter_ u30)) (wr := [(o, ob 0 (oX0 d letters_ states_)), ((d 3), aI cy 6000 next_), ((d 5), aI cy 2000 depth_), ((d 6), aJ cy 2000 low_), ((d 7), aJ cy 2000 high_), ((d 8), aI cy 2000 parent_), ((d 9), aI cy 2000 lastLetter_)]) (isC := [7]) (isR := [0, 1, 2, 3, 4, 5, 6]) (isF := [0, 1, 2, 3, 4, 5, 6, 7]) (rest := []) (As := [.ref (d 10), .int (-1 : Int32)]) (n := 2) X Z (c_J7_fill_53178 l D cy (d 10) 4096 slots_ (-1 : Int32) u30 hc31) gX0_explore_J7_fill_53178 rfl (by decide +kernel) ⟨Nat.le_of_ble_eq_true rfl, Nat.le_of_ble_eq_true rfl⟩ ⟨rfl, rfl⟩ ⟨Nat.le_of_ble_eq_true rfl, Nat.le_of_ble_eq_true rfl⟩ ⟨rfl, rfl, roN, rfl, rfl, by decide⟩ ⟨rfl, rfl⟩ rfl hl.1 rfl (Nat.le_of_ble_eq_true rfl) dX0_explore_5 (fun H locs Z => ?_)
  refine lv_aload_n hx hb dX0_explore_8 rfl (lv_at hl 0 rfl) ?_
  refine x_get X Z 0 5 (v := .ref (d 5)) rfl rfl lk_X0_explore_X0_depth dX0_explore_9 ?_
  refine lv_iconst (v := (0 : Int32)) hx hb dX0_explore_12 (by decide) ?_
  refine lv_iconst (v := (0 : Int32)) hx hb dX0_explore_13 (by decide) ?_
  obtain ⟨hin32, depth_33, hv34, h⟩ := st_b h
  refine x_iast X Z 2 (RW_X0_explore cy o d d_tests PT letters_ states_ next_ depth_33 low_ high_ parent_ lastLetter_ u30) rfl hin32 hv34 rfl dX0_explore_14 (fun H locs Z => ?_)
  refine lv_aload_n hx hb dX0_explore_15 rfl (lv_at hl 0 rfl) ?_
  refine lv_lconst (v := (0 : Int64)) hx hb dX0_explore_16 (by decide) ?_
  refine lv_lconst (v := (0 : Int64)) hx hb dX0_explore_17 (by decide) ?_
  obtain ⟨u35, hc36, h⟩ := ob_some h
  refine x_runVi (RW' := (RW_X0_explore cy o d d_tests PT letters_ u35.2.1 next_ depth_33 u35.2.2.1 u35.2.2.2.1 parent_ lastLetter_ u35.2.2.2.2)) (wr := [((d 3), aI cy 6000 next_), ((d 5), aI cy 2000 depth_33), ((d 8), aI cy 2000 parent_), ((d 9), aI cy 2000 lastLetter_)]) (isC := [0, 3, 4, 7]) (isR := [1, 2, 5, 6]) (isF := [4, 0, 1, 5, 6, 2, 3, 7]) (rest := []) (As := [.long (0 : Int64), .long (0 : Int64)]) (n := 2) X Z (c_X0_reach l D cy o d letters_ states_ low_ high_ u30 (0 : Int64) (0 : Int64) u35 hc36) gX0_explore_X0_reach rfl (by decide +kernel) ⟨Nat.le_of_ble_eq_true rfl, Nat.le_of_ble_eq_true rfl⟩ ⟨rfl, rfl⟩ ⟨Nat.le_of_ble_eq_true rfl, Nat.le_of_ble_eq_true rfl⟩ (x_rv X Z 0 rfl rfl) ⟨rfl, rfl, roN, rfl, rfl, by decide⟩ ⟨rfl, rfl⟩ rfl hl.1 rfl (Nat.le_of_ble_eq_true rfl) dX0_explore_18 (fun H locs Z => ?_)
  refine lv_pop hx hb dX0_explore_21 rfl ?_
  refine lv_iconst (v := (0 : Int32)) hx hb dX0_explore_22 (by decide) ?_
  refine lv_istore_n (lv' := [(1, .int (0 : Int32)), (0, .ref o)]) hx hb dX0_explore_23 rfl hl (by decide) rfl (fun ls hl => ?_)
  obtain ⟨u37, hL38, h⟩ := ob_some h
  rcases u37 with u37 | u37
  · replace h := se_l h
    refine wl_X0_explore_24 o d d_tests PT tq tests_count_ tests_members_ letters_ FU (u35.2.1, next_, depth_33, u35.2.2.1, u35.2.2.2.1, parent_, lastLetter_, u35.2.2.2.2, (0 : Int32)) (.inl u37) hT X hL38 (sk_li (fun H locs ls Z hl => ?_)) H locs ls Z (lv_sub hl [1, 0] rfl)
    refine lv_iconst (v := (0 : Int32)) hx hb dX0_explore_95 (by decide) ?_
    obtain rfl := Option.some.inj h
    exact K H locs ls _ dX0_explore_96 (Or.inl rfl) Z
  · replace h := se_r h
    refine wl_X0_explore_24 o d d_tests PT tq tests_count_ tests_members_ letters_ FU (u35.2.1, next_, depth_33, u35.2.2.1, u35.2.2.2.1, parent_, lastLetter_, u35.2.2.2.2, (0 : Int32)) (.inr u37) hT X hL38 (sk_ri (fun H locs ls Z hl => ?_)) H locs ls Z (lv_sub hl [1, 0] rfl)
    refine lv_iconst (v := (1 : Int32)) hx hb dX0_explore_158 (by decide) ?_
    obtain rfl := Option.some.inj h
    exact K H locs ls _ dX0_explore_159 (Or.inr rfl) Z
theorem c_X0_explore (l : Launch) (D : va_G) (cy : Nat → ClassId) (o : Nat) (d : Nat → Nat) (d_tests : Nat → Nat) (PT : va_W) (tq : Nat → Option TV) (tests_count_ : Int32) (tests_members_ : Nat → Option Nat) (letters_ : Int32) (states_ : Int32) (next_ : Nat → Int32) (depth_ : Nat → Int32) (low_ : Nat → Int64) (high_ : Nat → Int64) (parent_ : Nat → Int32) (lastLetter_ : Nat → Int32) (slots_ : Nat → Int32) (out : Int32 × Int32 × (Nat → Int32) × (Nat → Int32) × (Nat → Int64) × (Nat → Int64) × (Nat → Int32) × (Nat → Int32) × (Nat → Int32)) (hT : TP cy PT tq) (h : f_X0_explore tq tests_count_ tests_members_ letters_ states_ next_ depth_ low_ high_ parent_ lastLetter_ slots_ = some out) : CtI l yX0_explore wsX0_explore rm_X0_explore D cy [.ref o] (RW_X0_explore cy o d d_tests PT letters_ states_ next_ depth_ low_ high_ parent_ lastLetter_ slots_) (RO_X0_explore cy o d d_tests PT tests_count_ tests_members_) (RW_X0_explore cy o d d_tests PT letters_ out.2.1 out.2.2.1 out.2.2.2.1 out.2.2.2.2.1 out.2.2.2.2.2.1 out.2.2.2.2.2.2.1 out.2.2.2.2.2.2.2.1 out.2.2.2.2.2.2.2.2) out.1 :=
  mk_z (by decide) rfl (Nat.le_of_ble_eq_true rfl) (fun p e s m args below meth c A Q X K H locs ls Z hl => wt_X0_explore o d d_tests PT tq tests_count_ tests_members_ letters_ states_ next_ depth_ low_ high_ parent_ lastLetter_ slots_ out hT X h K H locs ls Z hl)
/-! SubwordCounter$Automaton markValues ()V -/
abbrev rm_X0_markValues : Room := { frames := 2, cells := 0, slots := 0, locals := 48 }
def RW_X0_markValues (cy : Nat → ClassId) (o : Nat) (d : Nat → Nat) (d_tests : Nat → Nat) (PT : va_W) (marks_ : Nat → Int32) : va_W := [((d 4), aI cy 2000 marks_)]
def RO_X0_markValues (cy : Nat → ClassId) (o : Nat) (d : Nat → Nat) (d_tests : Nat → Nat) (PT : va_W) (letters_ : Int32) (states_ : Int32) (tests_count_ : Int32) (low_ : Nat → Int64) (high_ : Nat → Int64) (tests_members_ : Nat → Option Nat) : va_W := [(o, ob 0 (oX0 d letters_ states_)), ((d 0), ob 1 (oX1 d_tests tests_count_)), ((d 6), aJ cy 2000 low_), ((d 7), aJ cy 2000 high_), ((d_tests 0), aR cy 4 8 tests_members_)] ++ PT
theorem in_X0_markValues_X0 : ∀ w ∈ u_ws RX0 TX0 13, w ∈ wsX0_markValues := fun w h => (List.mem_cons_of_mem _ (List.mem_append_left _ (List.mem_append_left _ (List.mem_append_right _ h))))
theorem lk_X0_markValues_X0_states : Lk wsX0_markValues RX0 22 0 2 := ⟨RX0, TX0, 13, rfl, by decide, in_X0_markValues_X0, mem_at 1 rfl⟩
theorem lk_X0_markValues_X0_marks : Lk wsX0_markValues RX0 29 0 4 := ⟨RX0, TX0, 13, rfl, by decide, in_X0_markValues_X0, mem_at 2 rfl⟩
theorem lk_X0_markValues_X0_tests : Lk wsX0_markValues RX0 12 0 0 := ⟨RX0, TX0, 13, rfl, by decide, in_X0_markValues_X0, mem_at 3 rfl⟩
theorem lk_X0_markValues_X0_low : Lk wsX0_markValues RX0 35 0 6 := ⟨RX0, TX0, 13, rfl, by decide, in_X0_markValues_X0, mem_at 4 rfl⟩
theorem lk_X0_markValues_X0_high : Lk wsX0_markValues RX0 39 0 7 := ⟨RX0, TX0, 13, rfl, by decide, in_X0_markValues_X0, mem_at 5 rfl⟩
def b_X0_markValues_2 (tq : Nat → Option TV) (states_ : Int32) (low_ : Nat → Int64) (high_ : Nat → Int64) (tests_members_ : Nat → Option Nat) (marks_ : Nat → Int32) (x1 : Int32) : Option (((Nat → Int32) × Int32) ⊕ ((Nat → Int32))) :=
  if states_ ≤ x1 then
  (some (.inr marks_))
  else
  (ldA low_ 2000 x1 (fun v2 =>
  ldA high_ 2000 x1 (fun v5 =>
  (f_X1_valueAt (0 : Int32) v2 v5 tq tests_members_).bind (fun u7 =>
  stA marks_ 2000 x1 u7 (fun marks_10 =>
  some (.inl (marks_10, (x1 + (1 : Int32)))))))))
set_option maxHeartbeats 4000000 in
set_option maxRecDepth 100000 in
theorem wb_X0_markValues_2 {p : Program} {l : Launch} {e : Env} {s : State} {m : MethodId} {args : Array Value} {below : List Frame} {meth : Method} {c : Code} {A : Nat → Prop} {Q : State → Prop} {D : va_G} {cy : Nat → ClassId} (o : Nat) (d : Nat → Nat) (d_tests : Nat → Nat) (PT : va_W) (tq : Nat → Option TV) (letters_ : Int32) (states_ : Int32) (tests_count_ : Int32) (low_ : Nat → Int64) (high_ : Nat → Int64) (tests_members_ : Nat → Option Nat)  (marks_ : Nat → Int32) (x1 : Int32) (o1 : ((Nat → Int32) × Int32) ⊕ ((Nat → Int32))) (hT : TP cy PT tq) (X : Cx p m c cX0_markValues 2 s args wsX0_markValues RX0 A D cy (RO_X0_markValues cy o d d_tests PT letters_ states_ tests_count_ low_ high_ tests_members_)) (h : b_X0_markValues_2 tq states_ low_ high_ tests_members_ marks_ x1 = some o1) (K : Sum.elim (fun v : (Nat → Int32) × Int32 => ∀ (H : Heap) (locs : List Loc) (ls : Array Slot), St A D s (RW_X0_markValues cy o d d_tests PT v.1) H locs → lv_has ls 2 [(0, .ref o), (1, .int v.2)] → W p l e rm_X0_markValues s m args below meth c H locs 0 0 Q (F0 m 2 ls [])) (fun v : (Nat → Int32) => ∀ (H : Heap) (locs : List Loc) (ls : Array Slot), St A D s (RW_X0_markValues cy o d d_tests PT v) H locs → lv_has ls 2 [] → W p l e rm_X0_markValues s m args below meth c H locs 0 0 Q (F0 m 42 ls [])) o1) : ∀ (H : Heap) (locs : List Loc) (ls : Array Slot), St A D s (RW_X0_markValues cy o d d_tests PT marks_) H locs → lv_has ls 2 [(0, .ref o), (1, .int x1)] → W p l e rm_X0_markValues s m args below meth c H locs 0 0 Q (F0 m 2 ls []) := by
  intro H locs ls Z hl
  have hx := X.1.1
  have hb := X.1.2.1
  unfold b_X0_markValues_2 at h
  refine lv_iload_n hx hb dX0_markValues_2 rfl (lv_at hl 1 rfl) ?_
  refine lv_aload_n hx hb dX0_markValues_3 rfl (lv_at hl 0 rfl) ?_
  refine x_getO X Z 0 2 (v := .int states_) rfl rfl lk_X0_markValues_X0_states dX0_markValues_4 ?_
  refine lv_icmp_ge (tgt := 42) hx hb dX0_markValues_7 (by decide) (fun cnd => ?_) (fun cnd => ?_)
  · replace h := ifp h cnd
    obtain rfl := Option.some.inj h
    exact (sk_r K) H locs ls Z (lv_sub hl [] rfl)
  · replace h := ifn h cnd
    refine lv_aload_n hx hb dX0_markValues_10 rfl (lv_at hl 0 rfl) ?_
    refine x_getO X Z 0 4 (v := .ref (d 4)) rfl rfl lk_X0_markValues_X0_marks dX0_markValues_11 ?_
    refine lv_iload_n hx hb dX0_markValues_14 rfl (lv_at hl 1 rfl) ?_
    refine lv_aload_n hx hb dX0_markValues_15 rfl (lv_at hl 0 rfl) ?_
    refine x_getO X Z 0 0 (v := .ref (d 0)) rfl rfl lk_X0_markValues_X0_tests dX0_markValues_16 ?_
    refine lv_iconst (v := (0 : Int32)) hx hb dX0_markValues_19 (by decide) ?_
    refine lv_aload_n hx hb dX0_markValues_20 rfl (lv_at hl 0 rfl) ?_
    refine x_getO X Z 0 6 (v := .ref (d 6)) rfl rfl lk_X0_markValues_X0_low dX0_markValues_21 ?_
    refine lv_iload_n hx hb dX0_markValues_24 rfl (lv_at hl 1 rfl) ?_
    obtain ⟨hin1, v2, hv3, h⟩ := ld_b h
    refine x_laldO X Z 2 rfl hin1 hv3 dX0_markValues_25 ?_
    refine lv_aload_n hx hb dX0_markValues_26 rfl (lv_at hl 0 rfl) ?_
    refine x_getO X Z 0 7 (v := .ref (d 7)) rfl rfl lk_X0_markValues_X0_high dX0_markValues_27 ?_
    refine lv_iload_n hx hb dX0_markValues_30 rfl (lv_at hl 1 rfl) ?_
    obtain ⟨hin4, v5, hv6, h⟩ := ld_b h
    refine x_laldO X Z 3 rfl hin4 hv6 dX0_markValues_31 ?_
    obtain ⟨u7, hc8, h⟩ := ob_some h
    refine x_runVi (RW' := (RW_X0_markValues cy o d d_tests PT marks_)) (wr := [((d 4), aI cy 2000 marks_)]) (isC := []) (isR := [0]) (isF := [0]) (rest := [.int x1, .ref (d 4)]) (As := [.int (0 : Int32), .long v2, .long v5]) (n := 3) X Z (c_X1_valueAt l D cy (d 0) d_tests PT tq tests_count_ tests_members_ (0 : Int32) v2 v5 u7 hT hc8) gX0_markValues_X1_valueAt rfl (by decide +kernel) ⟨Nat.le_of_ble_eq_true rfl, Nat.le_of_ble_eq_true rfl⟩ ⟨rfl, rfl⟩ ⟨Nat.le_of_ble_eq_true rfl, Nat.le_of_ble_eq_true rfl⟩ (x_rvO X Z 1 rfl rfl) ⟨rfl, rfl, (roC (Or.inr (mem_at 1 rfl)) (roC (Or.inr (mem_at 4 rfl)) (fun q hq => Or.inr (List.mem_append_right _ hq)))), rfl, rfl, by decide⟩ ⟨rfl, rfl⟩ rfl hl.1 rfl (Nat.le_of_ble_eq_true rfl) dX0_markValues_32 (fun H locs Z => ?_)
    obtain ⟨hin9, marks_10, hv11, h⟩ := st_b h
    refine x_iast X Z 0 (RW_X0_markValues cy o d d_tests PT marks_10) rfl hin9 hv11 rfl dX0_markValues_35 (fun H locs Z => ?_)
    refine lv_iinc (v := (x1 + (1 : Int32))) (lv' := [(1, .int (x1 + (1 : Int32))), (0, .ref o)]) hx hb dX0_markValues_36 hl (k := 1) rfl rfl (by decide) rfl (fun ls hl => ?_)
    refine lv_goto (tgt := 2) hx hb dX0_markValues_39 (by decide) ?_
    obtain rfl := Option.some.inj h
    exact sk_l K H locs ls Z (lv_sub hl [1, 0] rfl)
set_option maxHeartbeats 4000000 in
set_option maxRecDepth 100000 in
theorem wl_X0_markValues_2 {p : Program} {l : Launch} {e : Env} {s : State} {m : MethodId} {args : Array Value} {below : List Frame} {meth : Method} {c : Code} {A : Nat → Prop} {Q : State → Prop} {D : va_G} {cy : Nat → ClassId} (o : Nat) (d : Nat → Nat) (d_tests : Nat → Nat) (PT : va_W) (tq : Nat → Option TV) (letters_ : Int32) (states_ : Int32) (tests_count_ : Int32) (low_ : Nat → Int64) (high_ : Nat → Int64) (tests_members_ : Nat → Option Nat)  (n : Nat) (v : (Nat → Int32) × Int32) (x : (Nat → Int32)) (hT : TP cy PT tq) (X : Cx p m c cX0_markValues 2 s args wsX0_markValues RX0 A D cy (RO_X0_markValues cy o d d_tests PT letters_ states_ tests_count_ low_ high_ tests_members_)) (h : loopN (fun v => b_X0_markValues_2 tq states_ low_ high_ tests_members_ v.1 v.2) n v = some x) (K : ∀ (H : Heap) (locs : List Loc) (ls : Array Slot), St A D s (RW_X0_markValues cy o d d_tests PT x) H locs → lv_has ls 2 [] → W p l e rm_X0_markValues s m args below meth c H locs 0 0 Q (F0 m 42 ls [])) : ∀ (H : Heap) (locs : List Loc) (ls : Array Slot), St A D s (RW_X0_markValues cy o d d_tests PT v.1) H locs → lv_has ls 2 [(0, .ref o), (1, .int v.2)] → W p l e rm_X0_markValues s m args below meth c H locs 0 0 Q (F0 m 2 ls []) :=
  loop_gen (B := (fun v => b_X0_markValues_2 tq states_ low_ high_ tests_members_ v.1 v.2)) (Head := fun v : (Nat → Int32) × Int32 => ∀ (H : Heap) (locs : List Loc) (ls : Array Slot), St A D s (RW_X0_markValues cy o d d_tests PT v.1) H locs → lv_has ls 2 [(0, .ref o), (1, .int v.2)] → W p l e rm_X0_markValues s m args below meth c H locs 0 0 Q (F0 m 2 ls [])) (Exit := fun v : (Nat → Int32) => ∀ (H : Heap) (locs : List Loc) (ls : Array Slot), St A D s (RW_X0_markValues cy o d d_tests PT v) H locs → lv_has ls 2 [] → W p l e rm_X0_markValues s m args below meth c H locs 0 0 Q (F0 m 42 ls [])) (fun v o9 hb1 K1 => wb_X0_markValues_2 o d d_tests PT tq letters_ states_ tests_count_ low_ high_ tests_members_ v.1 v.2 o9 hT X hb1 K1) n v x h K
def f_X0_markValues (tq : Nat → Option TV) (states_ : Int32) (low_ : Nat → Int64) (high_ : Nat → Int64) (tests_members_ : Nat → Option Nat) (marks_ : Nat → Int32) : Option ((Nat → Int32)) :=
  (loopN (fun v => b_X0_markValues_2 tq states_ low_ high_ tests_members_ v.1 v.2) FU (marks_, (0 : Int32))).bind (fun u12 =>
  some u12)
set_option maxHeartbeats 4000000 in
set_option maxRecDepth 100000 in
theorem wt_X0_markValues {p : Program} {l : Launch} {e : Env} {s : State} {m : MethodId} {args : Array Value} {below : List Frame} {meth : Method} {c : Code} {A : Nat → Prop} {Q : State → Prop} {D : va_G} {cy : Nat → ClassId} (o : Nat) (d : Nat → Nat) (d_tests : Nat → Nat) (PT : va_W) (tq : Nat → Option TV) (letters_ : Int32) (states_ : Int32) (tests_count_ : Int32) (low_ : Nat → Int64) (high_ : Nat → Int64) (tests_members_ : Nat → Option Nat) (marks_ : Nat → Int32) (out : (Nat → Int32)) (hT : TP cy PT tq) (X : Cx p m c cX0_markValues 2 s args wsX0_markValues RX0 A D cy (RO_X0_markValues cy o d d_tests PT letters_ states_ tests_count_ low_ high_ tests_members_)) (h : f_X0_markValues tq states_ low_ high_ tests_members_ marks_ = some out) (K : ∀ (H : Heap) (locs : List Loc) (ls : Array Slot) (pc : Nat), decode cX0_markValues pc = .ok (.return_, 1) → St A D s (RW_X0_markValues cy o d d_tests PT out) H locs → W p l e rm_X0_markValues s m args below meth c H locs 0 0 Q (F0 m pc ls [])) : ∀ (H : Heap) (locs : List Loc) (ls : Array Slot), St A D s (RW_X0_markValues cy o d d_tests PT marks_) H locs → lv_has ls 2 [(0, .ref o)] → W p l e rm_X0_markValues s m args below meth c H locs 0 0 Q (F0 m 0 ls []) := by
  intro H locs ls Z hl
  have hx := X.1.1
  have hb := X.1.2.1
  unfold f_X0_markValues at h
  refine lv_iconst (v := (0 : Int32)) hx hb dX0_markValues_0 (by decide) ?_
  refine lv_istore_n (lv' := [(1, .int (0 : Int32)), (0, .ref o)]) hx hb dX0_markValues_1 rfl hl (by decide) rfl (fun ls hl => ?_)
  obtain ⟨u12, hL13, h⟩ := ob_some h
  refine wl_X0_markValues_2 o d d_tests PT tq letters_ states_ tests_count_ low_ high_ tests_members_ FU (marks_, (0 : Int32)) u12 hT X hL13 (fun H locs ls Z hl => ?_) H locs ls Z (lv_sub hl [1, 0] rfl)
  obtain rfl := Option.some.inj h
  exact K H locs ls _ dX0_markValues_42 Z
theorem c_X0_markValues (l : Launch) (D : va_G) (cy : Nat → ClassId) (o : Nat) (d : Nat → Nat) (d_tests : Nat → Nat) (PT : va_W) (tq : Nat → Option TV) (letters_ : Int32) (states_ : Int32) (tests_count_ : Int32) (low_ : Nat → Int64) (high_ : Nat → Int64) (tests_members_ : Nat → Option Nat) (marks_ : Nat → Int32) (out : (Nat → Int32)) (hT : TP cy PT tq) (h : f_X0_markValues tq states_ low_ high_ tests_members_ marks_ = some out) : CtV l yX0_markValues wsX0_markValues rm_X0_markValues D cy [.ref o] (RW_X0_markValues cy o d d_tests PT marks_) (RO_X0_markValues cy o d d_tests PT letters_ states_ tests_count_ low_ high_ tests_members_) (RW_X0_markValues cy o d d_tests PT out) :=
  mk_v (by decide) rfl (Nat.le_of_ble_eq_true rfl) (fun p e s m args below meth c A Q X K H locs ls Z hl => wt_X0_markValues o d d_tests PT tq letters_ states_ tests_count_ low_ high_ tests_members_ marks_ out hT X h K H locs ls Z hl)
/-! SubwordCounter$Automaton restart (I)V -/
abbrev rm_X0_restart : Room := { frames := 0, cells := 0, slots := 0, locals := 0 }
def RW_X0_restart (cy : Nat → ClassId) (o : Nat) (d : Nat → Nat) (d_tests : Nat → Nat) (letters_ : Int32) (states_ : Int32) (tests_count_ : Int32) : va_W := [(o, ob 0 (oX0 d letters_ states_)), ((d 0), ob 1 (oX1 d_tests tests_count_))]
def RO_X0_restart (cy : Nat → ClassId) (o : Nat) (d : Nat → Nat) (d_tests : Nat → Nat)  : va_W := []
theorem in_X0_restart_X0 : ∀ w ∈ u_ws RX0 TX0 13, w ∈ wsX0_restart := fun w h => (List.mem_cons_of_mem _ (List.mem_append_left _ (List.mem_append_right _ h)))
theorem lp_X0_restart_X0_letters : Lp wsX0_restart RX0 18 0 1 .int := ⟨RX0, TX0, 13, tyX0, rfl, by decide, in_X0_restart_X0, mem_at 1 rfl, tyX0_ok, nmX0, rfl, by decide +kernel⟩
theorem lk_X0_restart_X0_tests : Lk wsX0_restart RX0 12 0 0 := ⟨RX0, TX0, 13, rfl, by decide, in_X0_restart_X0, mem_at 2 rfl⟩
theorem in_X0_restart_X1 : ∀ w ∈ u_ws RX1 TX1 2, w ∈ wsX0_restart := fun w h => (List.mem_cons_of_mem _ (List.mem_append_right _ h))
theorem lp_X0_restart_X1_count : Lp wsX0_restart RX0 57 1 1 .int := ⟨RX1, TX1, 2, tyX1, rfl, by decide, in_X0_restart_X1, mem_at 3 rfl, tyX1_ok, nmX1, rfl, by decide +kernel⟩
theorem lp_X0_restart_X0_states : Lp wsX0_restart RX0 22 0 2 .int := ⟨RX0, TX0, 13, tyX0, rfl, by decide, in_X0_restart_X0, mem_at 4 rfl, tyX0_ok, nmX0, rfl, by decide +kernel⟩
def f_X0_restart (x1 : Int32) (letters_ : Int32) (states_ : Int32) (tests_count_ : Int32) : Option (Int32 × Int32 × Int32) :=
  some (x1, (0 : Int32), (0 : Int32))
set_option maxHeartbeats 4000000 in
set_option maxRecDepth 100000 in
theorem wt_X0_restart {p : Program} {l : Launch} {e : Env} {s : State} {m : MethodId} {args : Array Value} {below : List Frame} {meth : Method} {c : Code} {A : Nat → Prop} {Q : State → Prop} {D : va_G} {cy : Nat → ClassId} (o : Nat) (d : Nat → Nat) (d_tests : Nat → Nat)  (letters_ : Int32) (states_ : Int32) (tests_count_ : Int32) (x1 : Int32) (out : Int32 × Int32 × Int32) (X : Cx p m c cX0_restart 2 s args wsX0_restart RX0 A D cy (RO_X0_restart cy o d d_tests)) (h : f_X0_restart x1 letters_ states_ tests_count_ = some out) (K : ∀ (H : Heap) (locs : List Loc) (ls : Array Slot) (pc : Nat), decode cX0_restart pc = .ok (.return_, 1) → St A D s (RW_X0_restart cy o d d_tests out.1 out.2.1 out.2.2) H locs → W p l e rm_X0_restart s m args below meth c H locs 0 0 Q (F0 m pc ls [])) : ∀ (H : Heap) (locs : List Loc) (ls : Array Slot), St A D s (RW_X0_restart cy o d d_tests letters_ states_ tests_count_) H locs → lv_has ls 2 [(0, .ref o), (1, .int x1)] → W p l e rm_X0_restart s m args below meth c H locs 0 0 Q (F0 m 0 ls []) := by
  intro H locs ls Z hl
  have hx := X.1.1
  have hb := X.1.2.1
  unfold f_X0_restart at h
  refine lv_aload_n hx hb dX0_restart_0 rfl (lv_at hl 0 rfl) ?_
  refine lv_iload_n hx hb dX0_restart_1 rfl (lv_at hl 1 rfl) ?_
  refine x_put X Z 0 1 (RW_X0_restart cy o d d_tests x1 states_ tests_count_) rfl lp_X0_restart_X0_letters (Nat.le_of_ble_eq_true rfl) rfl dX0_restart_2 (fun H locs Z => ?_)
  refine lv_aload_n hx hb dX0_restart_5 rfl (lv_at hl 0 rfl) ?_
  refine x_get X Z 0 0 (v := .ref (d 0)) rfl rfl lk_X0_restart_X0_tests dX0_restart_6 ?_
  refine lv_iconst (v := (0 : Int32)) hx hb dX0_restart_9 (by decide) ?_
  refine x_put X Z 1 1 (RW_X0_restart cy o d d_tests x1 states_ (0 : Int32)) rfl lp_X0_restart_X1_count (Nat.le_of_ble_eq_true rfl) rfl dX0_restart_10 (fun H locs Z => ?_)
  refine lv_aload_n hx hb dX0_restart_13 rfl (lv_at hl 0 rfl) ?_
  refine lv_iconst (v := (0 : Int32)) hx hb dX0_restart_14 (by decide) ?_
  refine x_put X Z 0 2 (RW_X0_restart cy o d d_tests x1 (0 : Int32) (0 : Int32)) rfl lp_X0_restart_X0_states (Nat.le_of_ble_eq_true rfl) rfl dX0_restart_15 (fun H locs Z => ?_)
  obtain rfl := Option.some.inj h
  exact K H locs ls _ dX0_restart_18 Z
theorem c_X0_restart (l : Launch) (D : va_G) (cy : Nat → ClassId) (o : Nat) (d : Nat → Nat) (d_tests : Nat → Nat)  (letters_ : Int32) (states_ : Int32) (tests_count_ : Int32) (x1 : Int32) (out : Int32 × Int32 × Int32) (h : f_X0_restart x1 letters_ states_ tests_count_ = some out) : CtV l yX0_restart wsX0_restart rm_X0_restart D cy [.ref o, .int x1] (RW_X0_restart cy o d d_tests letters_ states_ tests_count_) (RO_X0_restart cy o d d_tests) (RW_X0_restart cy o d d_tests out.1 out.2.1 out.2.2) :=
  mk_v (by decide) rfl (Nat.le_of_ble_eq_true rfl) (fun p e s m args below meth c A Q X K H locs ls Z hl => wt_X0_restart o d d_tests letters_ states_ tests_count_ x1 out X h K H locs ls Z hl)
/-! SubwordCounter$Bundle add (LSubwordCounter$Test;)V -/
abbrev rm_X1_add : Room := { frames := 0, cells := 0, slots := 0, locals := 0 }
def RW_X1_add (cy : Nat → ClassId) (o : Nat) (q_p1 : Nat) (d : Nat → Nat) (d_p1 : Nat → Nat) (count_ : Int32) (members_ : Nat → Option Nat) : va_W := [(o, ob 1 (oX1 d count_)), ((d 0), aR cy 4 8 members_)]
def RO_X1_add (cy : Nat → ClassId) (o : Nat) (q_p1 : Nat) (d : Nat → Nat) (d_p1 : Nat → Nat) (p1_kind_ : Int32) (p1_limit_ : Int32) (p1_range_ : Int32) (p1_size_ : Int32) : va_W := [(q_p1, ob 7 (oX8 d_p1 p1_kind_ p1_limit_ p1_range_ p1_size_))]
theorem in_X1_add_X1 : ∀ w ∈ u_ws RX1 TX1 2, w ∈ wsX1_add := fun w h => (List.mem_cons_of_mem _ (List.mem_append_right _ h))
theorem lk_X1_add_X1_count : Lk wsX1_add RX1 17 1 1 := ⟨RX1, TX1, 2, rfl, by decide, in_X1_add_X1, mem_at 1 rfl⟩
theorem lk_X1_add_X1_members : Lk wsX1_add RX1 13 1 0 := ⟨RX1, TX1, 2, rfl, by decide, in_X1_add_X1, mem_at 2 rfl⟩
theorem lp_X1_add_X1_count : Lp wsX1_add RX1 17 1 1 .int := ⟨RX1, TX1, 2, tyX1, rfl, by decide, in_X1_add_X1, mem_at 1 rfl, tyX1_ok, nmX1, rfl, by decide +kernel⟩
def f_X1_add (q_p1 : Nat) (count_ : Int32) (members_ : Nat → Option Nat) : Option (Int32 × (Nat → Option Nat)) :=
  if (8 : Int32) ≤ count_ then
  (some (count_, members_))
  else
  (stA members_ 8 count_ (some q_p1) (fun members_2 =>
  some ((count_ + (1 : Int32)), members_2)))
set_option maxHeartbeats 4000000 in
set_option maxRecDepth 100000 in
theorem wt_X1_add {p : Program} {l : Launch} {e : Env} {s : State} {m : MethodId} {args : Array Value} {below : List Frame} {meth : Method} {c : Code} {A : Nat → Prop} {Q : State → Prop} {D : va_G} {cy : Nat → ClassId} (o : Nat) (q_p1 : Nat) (d : Nat → Nat) (d_p1 : Nat → Nat) (p1_kind_ : Int32) (p1_limit_ : Int32) (p1_range_ : Int32) (p1_size_ : Int32) (count_ : Int32) (members_ : Nat → Option Nat) (out : Int32 × (Nat → Option Nat)) (X : Cx p m c cX1_add 2 s args wsX1_add RX1 A D cy (RO_X1_add cy o q_p1 d d_p1 p1_kind_ p1_limit_ p1_range_ p1_size_)) (h : f_X1_add q_p1 count_ members_ = some out) (K : ∀ (H : Heap) (locs : List Loc) (ls : Array Slot) (pc : Nat), decode cX1_add pc = .ok (.return_, 1) → St A D s (RW_X1_add cy o q_p1 d d_p1 out.1 out.2) H locs → W p l e rm_X1_add s m args below meth c H locs 0 0 Q (F0 m pc ls [])) : ∀ (H : Heap) (locs : List Loc) (ls : Array Slot), St A D s (RW_X1_add cy o q_p1 d d_p1 count_ members_) H locs → lv_has ls 2 [(0, .ref o), (1, .ref q_p1)] → W p l e rm_X1_add s m args below meth c H locs 0 0 Q (F0 m 0 ls []) := by
  intro H locs ls Z hl
  have hx := X.1.1
  have hb := X.1.2.1
  unfold f_X1_add at h
  refine lv_aload_n hx hb dX1_add_0 rfl (lv_at hl 0 rfl) ?_
  refine x_get X Z 0 1 (v := .int count_) rfl rfl lk_X1_add_X1_count dX1_add_1 ?_
  refine lv_bipush (v := (8 : Int32)) hx hb dX1_add_4 (by decide) ?_
  refine lv_icmp_ge (tgt := 29) hx hb dX1_add_6 (by decide) (fun cnd => ?_) (fun cnd => ?_)
  · replace h := ifp h cnd
    obtain rfl := Option.some.inj h
    exact K H locs ls _ dX1_add_29 Z
  · replace h := ifn h cnd
    refine lv_aload_n hx hb dX1_add_9 rfl (lv_at hl 0 rfl) ?_
    refine x_get X Z 0 0 (v := .ref (d 0)) rfl rfl lk_X1_add_X1_members dX1_add_10 ?_
    refine lv_aload_n hx hb dX1_add_13 rfl (lv_at hl 0 rfl) ?_
    refine x_get X Z 0 1 (v := .int count_) rfl rfl lk_X1_add_X1_count dX1_add_14 ?_
    refine lv_aload_n hx hb dX1_add_17 rfl (lv_at hl 1 rfl) ?_
    obtain ⟨hin1, members_2, hv3, h⟩ := st_b h
    refine x_rast X Z 1 4 (RW_X1_add cy o q_p1 d d_p1 count_ members_2) rfl rfl (x_anyO X Z (mem_at 0 rfl) rfl) hin1 hv3 rfl dX1_add_18 (fun H locs Z => ?_)
    refine lv_aload_n hx hb dX1_add_19 rfl (lv_at hl 0 rfl) ?_
    refine lv_dup hx hb dX1_add_20 rfl ?_
    refine x_get X Z 0 1 (v := .int count_) rfl rfl lk_X1_add_X1_count dX1_add_21 ?_
    refine lv_iconst (v := (1 : Int32)) hx hb dX1_add_24 (by decide) ?_
    refine lv_iadd hx hb dX1_add_25 ?_
    refine x_put X Z 0 1 (RW_X1_add cy o q_p1 d d_p1 (count_ + (1 : Int32)) members_2) rfl lp_X1_add_X1_count (Nat.le_of_ble_eq_true rfl) rfl dX1_add_26 (fun H locs Z => ?_)
    obtain rfl := Option.some.inj h
    exact K H locs ls _ dX1_add_29 Z
theorem c_X1_add (l : Launch) (D : va_G) (cy : Nat → ClassId) (o : Nat) (q_p1 : Nat) (d : Nat → Nat) (d_p1 : Nat → Nat) (p1_kind_ : Int32) (p1_limit_ : Int32) (p1_range_ : Int32) (p1_size_ : Int32) (count_ : Int32) (members_ : Nat → Option Nat) (out : Int32 × (Nat → Option Nat)) (h : f_X1_add q_p1 count_ members_ = some out) : CtV l yX1_add wsX1_add rm_X1_add D cy [.ref o, .ref q_p1] (RW_X1_add cy o q_p1 d d_p1 count_ members_) (RO_X1_add cy o q_p1 d d_p1 p1_kind_ p1_limit_ p1_range_ p1_size_) (RW_X1_add cy o q_p1 d d_p1 out.1 out.2) :=
  mk_v (by decide) rfl (Nat.le_of_ble_eq_true rfl) (fun p e s m args below meth c A Q X K H locs ls Z hl => wt_X1_add o q_p1 d d_p1 p1_kind_ p1_limit_ p1_range_ p1_size_ count_ members_ out X h K H locs ls Z hl)
/-! SubwordCounter exploreTest (I)Z -/
abbrev rm_X11_exploreTest : Room := { frames := 5, cells := 0, slots := 0, locals := 122 }
def RW_X11_exploreTest (cy : Nat → ClassId) (o : Nat) (d : Nat → Nat) (d_now : Nat → Nat) (d_automaton : Nat → Nat) (d_now_tests : Nat → Nat) (d_automaton_tests : Nat → Nat) (mono : Value) (PT : va_W) (automaton_letters_ : Int32) (automaton_states_ : Int32) (automaton_tests_count_ : Int32) (automaton_next_ : Nat → Int32) (automaton_marks_ : Nat → Int32) (automaton_depth_ : Nat → Int32) (automaton_low_ : Nat → Int64) (automaton_high_ : Nat → Int64) (automaton_parent_ : Nat → Int32) (automaton_lastLetter_ : Nat → Int32) (automaton_slots_ : Nat → Int32) (automaton_tests_members_ : Nat → Option Nat) : va_W := [((d 8), ob 0 (oX0 d_automaton automaton_letters_ automaton_states_)), ((d_automaton 0), ob 1 (oX1 d_automaton_tests automaton_tests_count_)), ((d_automaton 3), aI cy 6000 automaton_next_), ((d_automaton 4), aI cy 2000 automaton_marks_), ((d_automaton 5), aI cy 2000 automaton_depth_), ((d_automaton 6), aJ cy 2000 automaton_low_), ((d_automaton 7), aJ cy 2000 automaton_high_), ((d_automaton 8), aI cy 2000 automaton_parent_), ((d_automaton 9), aI cy 2000 automaton_lastLetter_), ((d_automaton 10), aI cy 4096 automaton_slots_), ((d_automaton_tests 0), aR cy 4 8 automaton_tests_members_)]
def RO_X11_exploreTest (cy : Nat → ClassId) (o : Nat) (d : Nat → Nat) (d_now : Nat → Nat) (d_automaton : Nat → Nat) (d_now_tests : Nat → Nat) (d_automaton_tests : Nat → Nat) (mono : Value) (PT : va_W) (snapshotTaken_ : Int32) (inputLength_ : Int32) (now_letters_ : Int32) (now_tests_count_ : Int32) (now_tests_members_ : Nat → Option Nat) : va_W := [(o, ob 10 (oX11 d mono snapshotTaken_ inputLength_)), ((d 0), ob 5 (oX5 d_now now_letters_)), ((d_now 2), ob 1 (oX1 d_now_tests now_tests_count_)), ((d_now_tests 0), aR cy 4 8 now_tests_members_)] ++ PT
theorem in_X11_exploreTest_X11 : ∀ w ∈ u_ws RX11 TX11 12, w ∈ wsX11_exploreTest := fun w h => (List.mem_cons_of_mem _ (List.mem_append_left _ (List.mem_append_left _ (List.mem_append_left _ (List.mem_append_left _ (List.mem_append_right _ h))))))
theorem lk_X11_exploreTest_X11_automaton : Lk wsX11_exploreTest RX11 54 10 8 := ⟨RX11, TX11, 12, rfl, by decide, in_X11_exploreTest_X11, mem_at 1 rfl⟩
theorem lk_X11_exploreTest_X11_now : Lk wsX11_exploreTest RX11 10 10 0 := ⟨RX11, TX11, 12, rfl, by decide, in_X11_exploreTest_X11, mem_at 2 rfl⟩
theorem in_X11_exploreTest_X5 : ∀ w ∈ u_ws RX5 TX5 4, w ∈ wsX11_exploreTest := fun w h => (List.mem_cons_of_mem _ (List.mem_append_left _ (List.mem_append_left _ (List.mem_append_left _ (List.mem_append_right _ h)))))
theorem lk_X11_exploreTest_X5_letters : Lk wsX11_exploreTest RX11 74 5 0 := ⟨RX5, TX5, 4, rfl, by decide, in_X11_exploreTest_X5, mem_at 3 rfl⟩
theorem in_X11_exploreTest_X0 : ∀ w ∈ u_ws RX0 TX0 13, w ∈ wsX11_exploreTest := fun w h => (List.mem_cons_of_mem _ (List.mem_append_left _ (List.mem_append_left _ (List.mem_append_right _ h))))
theorem lk_X11_exploreTest_X0_tests : Lk wsX11_exploreTest RX11 320 0 0 := ⟨RX0, TX0, 13, rfl, by decide, in_X11_exploreTest_X0, mem_at 4 rfl⟩
theorem lk_X11_exploreTest_X5_tests : Lk wsX11_exploreTest RX11 127 5 2 := ⟨RX5, TX5, 4, rfl, by decide, in_X11_exploreTest_X5, mem_at 5 rfl⟩
theorem in_X11_exploreTest_X1 : ∀ w ∈ u_ws RX1 TX1 2, w ∈ wsX11_exploreTest := fun w h => (List.mem_cons_of_mem _ (List.mem_append_left _ (List.mem_append_right _ h)))
theorem lk_X11_exploreTest_X1_members : Lk wsX11_exploreTest RX11 156 1 0 := ⟨RX1, TX1, 2, rfl, by decide, in_X11_exploreTest_X1, mem_at 6 rfl⟩
def f_X11_exploreTest (x1 : Int32) (tq : Nat → Option TV) (now_letters_ : Int32) (now_tests_members_ : Nat → Option Nat) (automaton_letters_ : Int32) (automaton_states_ : Int32) (automaton_tests_count_ : Int32) (automaton_next_ : Nat → Int32) (automaton_marks_ : Nat → Int32) (automaton_depth_ : Nat → Int32) (automaton_low_ : Nat → Int64) (automaton_high_ : Nat → Int64) (automaton_parent_ : Nat → Int32) (automaton_lastLetter_ : Nat → Int32) (automaton_slots_ : Nat → Int32) (automaton_tests_members_ : Nat → Option Nat) : Option (Int32 × Int32 × Int32 × Int32 × (Nat → Int32) × (Nat → Int32) × (Nat → Int32) × (Nat → Int64) × (Nat → Int64) × (Nat → Int32) × (Nat → Int32) × (Nat → Int32) × (Nat → Option Nat)) :=
  (f_X0_restart now_letters_ automaton_letters_ automaton_states_ automaton_tests_count_).bind (fun u1 =>
  ldA now_tests_members_ 8 x1 (fun r4 =>
  tsA tq r4 (fun a6 tv7 =>
  (f_X1_add a6 u1.2.2 automaton_tests_members_).bind (fun u10 =>
  (f_X0_explore tq u10.1 u10.2 u1.1 u1.2.1 automaton_next_ automaton_depth_ automaton_low_ automaton_high_ automaton_parent_ automaton_lastLetter_ automaton_slots_).bind (fun u12 =>
  if u12.1 = 0 then
  (some ((0 : Int32), u1.1, u12.2.1, u10.1, u12.2.2.1, automaton_marks_, u12.2.2.2.1, u12.2.2.2.2.1, u12.2.2.2.2.2.1, u12.2.2.2.2.2.2.1, u12.2.2.2.2.2.2.2.1, u12.2.2.2.2.2.2.2.2, u10.2))
  else
  ((f_X0_markValues tq u12.2.1 u12.2.2.2.2.1 u12.2.2.2.2.2.1 u10.2 automaton_marks_).bind (fun u14 =>
  some ((1 : Int32), u1.1, u12.2.1, u10.1, u12.2.2.1, u14, u12.2.2.2.1, u12.2.2.2.2.1, u12.2.2.2.2.2.1, u12.2.2.2.2.2.2.1, u12.2.2.2.2.2.2.2.1, u12.2.2.2.2.2.2.2.2, u10.2))))))))
set_option maxHeartbeats 4000000 in
set_option maxRecDepth 100000 in
theorem wt_X11_exploreTest {p : Program} {l : Launch} {e : Env} {s : State} {m : MethodId} {args : Array Value} {below : List Frame} {meth : Method} {c : Code} {A : Nat → Prop} {Q : State → Prop} {D : va_G} {cy : Nat → ClassId} (o : Nat) (d : Nat → Nat) (d_now : Nat → Nat) (d_automaton : Nat → Nat) (d_now_tests : Nat → Nat) (d_automaton_tests : Nat → Nat) (mono : Value) (PT : va_W) (tq : Nat → Option TV) (snapshotTaken_ : Int32) (inputLength_ : Int32) (now_letters_ : Int32) (now_tests_count_ : Int32) (now_tests_members_ : Nat → Option Nat) (automaton_letters_ : Int32) (automaton_states_ : Int32) (automaton_tests_count_ : Int32) (automaton_next_ : Nat → Int32) (automaton_marks_ : Nat → Int32) (automaton_depth_ : Nat → Int32) (automaton_low_ : Nat → Int64) (automaton_high_ : Nat → Int64) (automaton_parent_ : Nat → Int32) (automaton_lastLetter_ : Nat → Int32) (automaton_slots_ : Nat → Int32) (automaton_tests_members_ : Nat → Option Nat) (x1 : Int32) (out : Int32 × Int32 × Int32 × Int32 × (Nat → Int32) × (Nat → Int32) × (Nat → Int32) × (Nat → Int64) × (Nat → Int64) × (Nat → Int32) × (Nat → Int32) × (Nat → Int32) × (Nat → Option Nat)) (hT : TP cy PT tq) (X : Cx p m c cX11_exploreTest 2 s args wsX11_exploreTest RX11 A D cy (RO_X11_exploreTest cy o d d_now d_automaton d_now_tests d_automaton_tests mono PT snapshotTaken_ inputLength_ now_letters_ now_tests_count_ now_tests_members_)) (h : f_X11_exploreTest x1 tq now_letters_ now_tests_members_ automaton_letters_ automaton_states_ automaton_tests_count_ automaton_next_ automaton_marks_ automaton_depth_ automaton_low_ automaton_high_ automaton_parent_ automaton_lastLetter_ automaton_slots_ automaton_tests_members_ = some out) (K : ∀ (H : Heap) (locs : List Loc) (ls : Array Slot) (pc : Nat), decode cX11_exploreTest pc = .ok (.ireturn, 1) → (out.1 = 0 ∨ out.1 = 1) → St A D s (RW_X11_exploreTest cy o d d_now d_automaton d_now_tests d_automaton_tests mono PT out.2.1 out.2.2.1 out.2.2.2.1 out.2.2.2.2.1 out.2.2.2.2.2.1 out.2.2.2.2.2.2.1 out.2.2.2.2.2.2.2.1 out.2.2.2.2.2.2.2.2.1 out.2.2.2.2.2.2.2.2.2.1 out.2.2.2.2.2.2.2.2.2.2.1 out.2.2.2.2.2.2.2.2.2.2.2.1 out.2.2.2.2.2.2.2.2.2.2.2.2) H locs → W p l e rm_X11_exploreTest s m args below meth c H locs 0 0 Q (F0 m pc ls [.int out.1])) : ∀ (H : Heap) (locs : List Loc) (ls : Array Slot), St A D s (RW_X11_exploreTest cy o d d_now d_automaton d_now_tests d_automaton_tests mono PT automaton_letters_ automaton_states_ automaton_tests_count_ automaton_next_ automaton_marks_ automaton_depth_ automaton_low_ automaton_high_ automaton_parent_ automaton_lastLetter_ automaton_slots_ automaton_tests_members_) H locs → lv_has ls 2 [(0, .ref o), (1, .int x1)] → W p l e rm_X11_exploreTest s m args below meth c H locs 0 0 Q (F0 m 0 ls []) := by
  intro H locs ls Z hl
  have hx := X.1.1
  have hb := X.1.2.1
  unfold f_X11_exploreTest at h
  refine lv_aload_n hx hb dX11_exploreTest_0 rfl (lv_at hl 0 rfl) ?_
  refine x_getO X Z 0 8 (v := .ref (d 8)) rfl rfl lk_X11_exploreTest_X11_automaton dX11_exploreTest_1 ?_
  refine lv_aload_n hx hb dX11_exploreTest_4 rfl (lv_at hl 0 rfl) ?_
  refine x_getO X Z 0 0 (v := .ref (d 0)) rfl rfl lk_X11_exploreTest_X11_now dX11_exploreTest_5 ?_
  refine x_getO X Z 1 0 (v := .int now_letters_) rfl rfl lk_X11_exploreTest_X5_letters dX11_exploreTest_8 ?_
  obtain ⟨u1, hc2, h⟩ := ob_some h
  refine x_runVv (RW' := (RW_X11_exploreTest cy o d d_now d_automaton d_now_tests d_automaton_tests mono PT u1.1 u1.2.1 u1.2.2 automaton_next_ automaton_marks_ automaton_depth_ automaton_low_ automaton_high_ automaton_parent_ automaton_lastLetter_ automaton_slots_ automaton_tests_members_)) (wr := [((d_automaton 3), aI cy 6000 automaton_next_), ((d_automaton 4), aI cy 2000 automaton_marks_), ((d_automaton 5), aI cy 2000 automaton_depth_), ((d_automaton 6), aJ cy 2000 automaton_low_), ((d_automaton 7), aJ cy 2000 automaton_high_), ((d_automaton 8), aI cy 2000 automaton_parent_), ((d_automaton 9), aI cy 2000 automaton_lastLetter_), ((d_automaton 10), aI cy 4096 automaton_slots_), ((d_automaton_tests 0), aR cy 4 8 automaton_tests_members_)]) (isC := [0, 1]) (isR := [2, 3, 4, 5, 6, 7, 8, 9, 10]) (isF := [9, 10, 0, 1, 2, 3, 4, 5, 6, 7, 8]) (rest := []) (As := [.int now_letters_]) (n := 1) X Z (c_X0_restart l D cy (d 8) d_automaton d_automaton_tests automaton_letters_ automaton_states_ automaton_tests_count_ now_letters_ u1 hc2) gX11_exploreTest_X0_restart rfl (by decide +kernel) ⟨Nat.le_of_ble_eq_true rfl, Nat.le_of_ble_eq_true rfl⟩ ⟨rfl, rfl⟩ ⟨Nat.le_of_ble_eq_true rfl, Nat.le_of_ble_eq_true rfl⟩ (x_rv X Z 0 rfl rfl) ⟨rfl, rfl, roN, rfl, rfl, by decide⟩ ⟨rfl, rfl⟩ rfl hl.1 rfl (Nat.le_of_ble_eq_true rfl) dX11_exploreTest_11 (fun H locs Z => ?_)
  refine lv_aload_n hx hb dX11_exploreTest_14 rfl (lv_at hl 0 rfl) ?_
  refine x_getO X Z 0 8 (v := .ref (d 8)) rfl rfl lk_X11_exploreTest_X11_automaton dX11_exploreTest_15 ?_
  refine x_get X Z 0 0 (v := .ref (d_automaton 0)) rfl rfl lk_X11_exploreTest_X0_tests dX11_exploreTest_18 ?_
  refine lv_aload_n hx hb dX11_exploreTest_21 rfl (lv_at hl 0 rfl) ?_
  refine x_getO X Z 0 0 (v := .ref (d 0)) rfl rfl lk_X11_exploreTest_X11_now dX11_exploreTest_22 ?_
  refine x_getO X Z 1 2 (v := .ref (d_now 2)) rfl rfl lk_X11_exploreTest_X5_tests dX11_exploreTest_25 ?_
  refine x_getO X Z 2 0 (v := .ref (d_now_tests 0)) rfl rfl lk_X11_exploreTest_X1_members dX11_exploreTest_28 ?_
  refine lv_iload_n hx hb dX11_exploreTest_31 rfl (lv_at hl 1 rfl) ?_
  obtain ⟨hin3, r4, hv5, h⟩ := ld_b h
  obtain ⟨a6, tv7, hr8, ht9, h⟩ := ts_b h
  refine x_raldO X Z 3 4 rfl rfl hin3 hv5 hr8 dX11_exploreTest_32 ?_
  obtain ⟨u10, hc11, h⟩ := ob_some h
  refine x_runVv (RW' := (RW_X11_exploreTest cy o d d_now d_automaton d_now_tests d_automaton_tests mono PT u1.1 u1.2.1 u10.1 automaton_next_ automaton_marks_ automaton_depth_ automaton_low_ automaton_high_ automaton_parent_ automaton_lastLetter_ automaton_slots_ u10.2)) (wr := [((d 8), ob 0 (oX0 d_automaton u1.1 u1.2.1)), ((d_automaton 3), aI cy 6000 automaton_next_), ((d_automaton 4), aI cy 2000 automaton_marks_), ((d_automaton 5), aI cy 2000 automaton_depth_), ((d_automaton 6), aJ cy 2000 automaton_low_), ((d_automaton 7), aJ cy 2000 automaton_high_), ((d_automaton 8), aI cy 2000 automaton_parent_), ((d_automaton 9), aI cy 2000 automaton_lastLetter_), ((d_automaton 10), aI cy 4096 automaton_slots_)]) (isC := [1, 10]) (isR := [0, 2, 3, 4, 5, 6, 7, 8, 9]) (isF := [0, 9, 1, 2, 3, 4, 5, 6, 7, 8, 10]) (rest := []) (As := [.ref a6]) (n := 1) X Z (c_X1_add l D cy (d_automaton 0) a6 d_automaton_tests (fun _ => tv7.2.2.2.2.1) tv7.1 tv7.2.1 tv7.2.2.1 tv7.2.2.2.1 u1.2.2 automaton_tests_members_ u10 hc11) gX11_exploreTest_X1_add rfl (by decide +kernel) ⟨Nat.le_of_ble_eq_true rfl, Nat.le_of_ble_eq_true rfl⟩ ⟨rfl, rfl⟩ ⟨Nat.le_of_ble_eq_true rfl, Nat.le_of_ble_eq_true rfl⟩ (x_rv X Z 1 rfl rfl) ⟨rfl, rfl, (roC (Or.inr (List.mem_append_right _ (hT a6 tv7 ht9).1)) roN), rfl, rfl, by decide⟩ ⟨rfl, rfl⟩ rfl hl.1 rfl (Nat.le_of_ble_eq_true rfl) dX11_exploreTest_33 (fun H locs Z => ?_)
  refine lv_aload_n hx hb dX11_exploreTest_36 rfl (lv_at hl 0 rfl) ?_
  refine x_getO X Z 0 8 (v := .ref (d 8)) rfl rfl lk_X11_exploreTest_X11_automaton dX11_exploreTest_37 ?_
  obtain ⟨u12, hc13, h⟩ := ob_some h
  refine x_runVi (RW' := (RW_X11_exploreTest cy o d d_now d_automaton d_now_tests d_automaton_tests mono PT u1.1 u12.2.1 u10.1 u12.2.2.1 automaton_marks_ u12.2.2.2.1 u12.2.2.2.2.1 u12.2.2.2.2.2.1 u12.2.2.2.2.2.2.1 u12.2.2.2.2.2.2.2.1 u12.2.2.2.2.2.2.2.2 u10.2)) (wr := [((d_automaton 0), ob 1 (oX1 d_automaton_tests u10.1)), ((d_automaton 4), aI cy 2000 automaton_marks_), ((d_automaton_tests 0), aR cy 4 8 u10.2)]) (isC := [0, 2, 4, 5, 6, 7, 8, 9]) (isR := [1, 3, 10]) (isF := [3, 0, 4, 1, 5, 6, 7, 8, 9, 10, 2]) (rest := []) (As := []) (n := 0) X Z (c_X0_explore l D cy (d 8) d_automaton d_automaton_tests PT tq u10.1 u10.2 u1.1 u1.2.1 automaton_next_ automaton_depth_ automaton_low_ automaton_high_ automaton_parent_ automaton_lastLetter_ automaton_slots_ u12 hT hc13) gX11_exploreTest_X0_explore rfl (by decide +kernel) ⟨Nat.le_of_ble_eq_true rfl, Nat.le_of_ble_eq_true rfl⟩ ⟨rfl, rfl⟩ ⟨Nat.le_of_ble_eq_true rfl, Nat.le_of_ble_eq_true rfl⟩ (x_rv X Z 0 rfl rfl) ⟨rfl, rfl, (roC (Or.inl (mem_at 0 rfl)) (roC (Or.inl (mem_at 2 rfl)) (fun q hq => Or.inr (List.mem_append_right _ hq)))), rfl, rfl, by decide⟩ ⟨rfl, rfl⟩ rfl hl.1 rfl (Nat.le_of_ble_eq_true rfl) dX11_exploreTest_40 (fun H locs Z => ?_)
  refine lv_if_ne (tgt := 48) hx hb dX11_exploreTest_43 (by decide) (fun cnd => ?_) (fun cnd => ?_)
  · replace h := ifn h cnd
    refine lv_aload_n hx hb dX11_exploreTest_48 rfl (lv_at hl 0 rfl) ?_
    refine x_getO X Z 0 8 (v := .ref (d 8)) rfl rfl lk_X11_exploreTest_X11_automaton dX11_exploreTest_49 ?_
    obtain ⟨u14, hc15, h⟩ := ob_some h
    refine x_runVv (RW' := (RW_X11_exploreTest cy o d d_now d_automaton d_now_tests d_automaton_tests mono PT u1.1 u12.2.1 u10.1 u12.2.2.1 u14 u12.2.2.2.1 u12.2.2.2.2.1 u12.2.2.2.2.2.1 u12.2.2.2.2.2.2.1 u12.2.2.2.2.2.2.2.1 u12.2.2.2.2.2.2.2.2 u10.2)) (wr := [((d 8), ob 0 (oX0 d_automaton u1.1 u12.2.1)), ((d_automaton 0), ob 1 (oX1 d_automaton_tests u10.1)), ((d_automaton 3), aI cy 6000 u12.2.2.1), ((d_automaton 5), aI cy 2000 u12.2.2.2.1), ((d_automaton 6), aJ cy 2000 u12.2.2.2.2.1), ((d_automaton 7), aJ cy 2000 u12.2.2.2.2.2.1), ((d_automaton 8), aI cy 2000 u12.2.2.2.2.2.2.1), ((d_automaton 9), aI cy 2000 u12.2.2.2.2.2.2.2.1), ((d_automaton 10), aI cy 4096 u12.2.2.2.2.2.2.2.2), ((d_automaton_tests 0), aR cy 4 8 u10.2)]) (isC := [3]) (isR := [0, 1, 2, 4, 5, 6, 7, 8, 9, 10]) (isF := [0, 1, 2, 10, 3, 4, 5, 6, 7, 8, 9]) (rest := []) (As := []) (n := 0) X Z (c_X0_markValues l D cy (d 8) d_automaton d_automaton_tests PT tq u1.1 u12.2.1 u10.1 u12.2.2.2.2.1 u12.2.2.2.2.2.1 u10.2 automaton_marks_ u14 hT hc15) gX11_exploreTest_X0_markValues rfl (by decide +kernel) ⟨Nat.le_of_ble_eq_true rfl, Nat.le_of_ble_eq_true rfl⟩ ⟨rfl, rfl⟩ ⟨Nat.le_of_ble_eq_true rfl, Nat.le_of_ble_eq_true rfl⟩ (x_rv X Z 0 rfl rfl) ⟨rfl, rfl, (roC (Or.inl (mem_at 0 rfl)) (roC (Or.inl (mem_at 1 rfl)) (roC (Or.inl (mem_at 4 rfl)) (roC (Or.inl (mem_at 5 rfl)) (roC (Or.inl (mem_at 9 rfl)) (fun q hq => Or.inr (List.mem_append_right _ hq))))))), rfl, rfl, by decide⟩ ⟨rfl, rfl⟩ rfl hl.1 rfl (Nat.le_of_ble_eq_true rfl) dX11_exploreTest_52 (fun H locs Z => ?_)
    refine lv_iconst (v := (1 : Int32)) hx hb dX11_exploreTest_55 (by decide) ?_
    obtain rfl := Option.some.inj h
    exact K H locs ls _ dX11_exploreTest_56 (Or.inr rfl) Z
  · replace h := ifp h cnd
    refine lv_iconst (v := (0 : Int32)) hx hb dX11_exploreTest_46 (by decide) ?_
    obtain rfl := Option.some.inj h
    exact K H locs ls _ dX11_exploreTest_47 (Or.inl rfl) Z
theorem c_X11_exploreTest (l : Launch) (D : va_G) (cy : Nat → ClassId) (o : Nat) (d : Nat → Nat) (d_now : Nat → Nat) (d_automaton : Nat → Nat) (d_now_tests : Nat → Nat) (d_automaton_tests : Nat → Nat) (mono : Value) (PT : va_W) (tq : Nat → Option TV) (snapshotTaken_ : Int32) (inputLength_ : Int32) (now_letters_ : Int32) (now_tests_count_ : Int32) (now_tests_members_ : Nat → Option Nat) (automaton_letters_ : Int32) (automaton_states_ : Int32) (automaton_tests_count_ : Int32) (automaton_next_ : Nat → Int32) (automaton_marks_ : Nat → Int32) (automaton_depth_ : Nat → Int32) (automaton_low_ : Nat → Int64) (automaton_high_ : Nat → Int64) (automaton_parent_ : Nat → Int32) (automaton_lastLetter_ : Nat → Int32) (automaton_slots_ : Nat → Int32) (automaton_tests_members_ : Nat → Option Nat) (x1 : Int32) (out : Int32 × Int32 × Int32 × Int32 × (Nat → Int32) × (Nat → Int32) × (Nat → Int32) × (Nat → Int64) × (Nat → Int64) × (Nat → Int32) × (Nat → Int32) × (Nat → Int32) × (Nat → Option Nat)) (hT : TP cy PT tq) (h : f_X11_exploreTest x1 tq now_letters_ now_tests_members_ automaton_letters_ automaton_states_ automaton_tests_count_ automaton_next_ automaton_marks_ automaton_depth_ automaton_low_ automaton_high_ automaton_parent_ automaton_lastLetter_ automaton_slots_ automaton_tests_members_ = some out) : CtI l yX11_exploreTest wsX11_exploreTest rm_X11_exploreTest D cy [.ref o, .int x1] (RW_X11_exploreTest cy o d d_now d_automaton d_now_tests d_automaton_tests mono PT automaton_letters_ automaton_states_ automaton_tests_count_ automaton_next_ automaton_marks_ automaton_depth_ automaton_low_ automaton_high_ automaton_parent_ automaton_lastLetter_ automaton_slots_ automaton_tests_members_) (RO_X11_exploreTest cy o d d_now d_automaton d_now_tests d_automaton_tests mono PT snapshotTaken_ inputLength_ now_letters_ now_tests_count_ now_tests_members_) (RW_X11_exploreTest cy o d d_now d_automaton d_now_tests d_automaton_tests mono PT out.2.1 out.2.2.1 out.2.2.2.1 out.2.2.2.2.1 out.2.2.2.2.2.1 out.2.2.2.2.2.2.1 out.2.2.2.2.2.2.2.1 out.2.2.2.2.2.2.2.2.1 out.2.2.2.2.2.2.2.2.2.1 out.2.2.2.2.2.2.2.2.2.2.1 out.2.2.2.2.2.2.2.2.2.2.2.1 out.2.2.2.2.2.2.2.2.2.2.2.2) out.1 :=
  mk_z (by decide) rfl (Nat.le_of_ble_eq_true rfl) (fun p e s m args below meth c A Q X K H locs ls Z hl => wt_X11_exploreTest o d d_now d_automaton d_now_tests d_automaton_tests mono PT tq snapshotTaken_ inputLength_ now_letters_ now_tests_count_ now_tests_members_ automaton_letters_ automaton_states_ automaton_tests_count_ automaton_next_ automaton_marks_ automaton_depth_ automaton_low_ automaton_high_ automaton_parent_ automaton_lastLetter_ automaton_slots_ automaton_tests_members_ x1 out hT X h K H locs ls Z hl)
/-! SubwordCounter states (I)I -/
abbrev rm_X11_states : Room := { frames := 6, cells := 0, slots := 0, locals := 143 }
def RW_X11_states (cy : Nat → ClassId) (o : Nat) (d : Nat → Nat) (d_now : Nat → Nat) (d_automaton : Nat → Nat) (d_now_tests : Nat → Nat) (d_automaton_tests : Nat → Nat) (mono : Value) (PT : va_W) (automaton_letters_ : Int32) (automaton_states_ : Int32) (automaton_tests_count_ : Int32) (automaton_next_ : Nat → Int32) (automaton_marks_ : Nat → Int32) (automaton_depth_ : Nat → Int32) (automaton_low_ : Nat → Int64) (automaton_high_ : Nat → Int64) (automaton_parent_ : Nat → Int32) (automaton_lastLetter_ : Nat → Int32) (automaton_slots_ : Nat → Int32) (automaton_tests_members_ : Nat → Option Nat) : va_W := [((d 8), ob 0 (oX0 d_automaton automaton_letters_ automaton_states_)), ((d_automaton 0), ob 1 (oX1 d_automaton_tests automaton_tests_count_)), ((d_automaton 3), aI cy 6000 automaton_next_), ((d_automaton 4), aI cy 2000 automaton_marks_), ((d_automaton 5), aI cy 2000 automaton_depth_), ((d_automaton 6), aJ cy 2000 automaton_low_), ((d_automaton 7), aJ cy 2000 automaton_high_), ((d_automaton 8), aI cy 2000 automaton_parent_), ((d_automaton 9), aI cy 2000 automaton_lastLetter_), ((d_automaton 10), aI cy 4096 automaton_slots_), ((d_automaton_tests 0), aR cy 4 8 automaton_tests_members_)]
def RO_X11_states (cy : Nat → ClassId) (o : Nat) (d : Nat → Nat) (d_now : Nat → Nat) (d_automaton : Nat → Nat) (d_now_tests : Nat → Nat) (d_automaton_tests : Nat → Nat) (mono : Value) (PT : va_W) (snapshotTaken_ : Int32) (inputLength_ : Int32) (now_letters_ : Int32) (now_tests_count_ : Int32) (now_tests_members_ : Nat → Option Nat) : va_W := [(o, ob 10 (oX11 d mono snapshotTaken_ inputLength_)), ((d 0), ob 5 (oX5 d_now now_letters_)), ((d_now 2), ob 1 (oX1 d_now_tests now_tests_count_)), ((d_now_tests 0), aR cy 4 8 now_tests_members_)] ++ PT
theorem in_X11_states_X11 : ∀ w ∈ u_ws RX11 TX11 12, w ∈ wsX11_states := fun w h => (List.mem_cons_of_mem _ (List.mem_append_left _ (List.mem_append_left _ (List.mem_append_left _ (List.mem_append_left _ (List.mem_append_right _ h))))))
theorem lk_X11_states_X11_automaton : Lk wsX11_states RX11 54 10 8 := ⟨RX11, TX11, 12, rfl, by decide, in_X11_states_X11, mem_at 1 rfl⟩
theorem in_X11_states_X0 : ∀ w ∈ u_ws RX0 TX0 13, w ∈ wsX11_states := fun w h => (List.mem_cons_of_mem _ (List.mem_append_left _ (List.mem_append_left _ (List.mem_append_left _ (List.mem_append_right _ h)))))
theorem lk_X11_states_X0_states : Lk wsX11_states RX11 207 0 2 := ⟨RX0, TX0, 13, rfl, by decide, in_X11_states_X0, mem_at 2 rfl⟩
def f_X11_states (x1 : Int32) (tq : Nat → Option TV) (now_letters_ : Int32) (now_tests_count_ : Int32) (now_tests_members_ : Nat → Option Nat) (automaton_letters_ : Int32) (automaton_states_ : Int32) (automaton_tests_count_ : Int32) (automaton_next_ : Nat → Int32) (automaton_marks_ : Nat → Int32) (automaton_depth_ : Nat → Int32) (automaton_low_ : Nat → Int64) (automaton_high_ : Nat → Int64) (automaton_parent_ : Nat → Int32) (automaton_lastLetter_ : Nat → Int32) (automaton_slots_ : Nat → Int32) (automaton_tests_members_ : Nat → Option Nat) : Option (Int32 × Int32 × Int32 × Int32 × (Nat → Int32) × (Nat → Int32) × (Nat → Int32) × (Nat → Int64) × (Nat → Int64) × (Nat → Int32) × (Nat → Int32) × (Nat → Int32) × (Nat → Option Nat)) :=
  (f_X11_isTest x1 now_tests_count_).bind (fun u1 =>
  if u1 = 0 then
  (some ((-1 : Int32), automaton_letters_, automaton_states_, automaton_tests_count_, automaton_next_, automaton_marks_, automaton_depth_, automaton_low_, automaton_high_, automaton_parent_, automaton_lastLetter_, automaton_slots_, automaton_tests_members_))
  else
  ((f_X11_exploreTest x1 tq now_letters_ now_tests_members_ automaton_letters_ automaton_states_ automaton_tests_count_ automaton_next_ automaton_marks_ automaton_depth_ automaton_low_ automaton_high_ automaton_parent_ automaton_lastLetter_ automaton_slots_ automaton_tests_members_).bind (fun u3 =>
  if u3.1 = 0 then
  (some ((-4 : Int32), u3.2.1, u3.2.2.1, u3.2.2.2.1, u3.2.2.2.2.1, u3.2.2.2.2.2.1, u3.2.2.2.2.2.2.1, u3.2.2.2.2.2.2.2.1, u3.2.2.2.2.2.2.2.2.1, u3.2.2.2.2.2.2.2.2.2.1, u3.2.2.2.2.2.2.2.2.2.2.1, u3.2.2.2.2.2.2.2.2.2.2.2.1, u3.2.2.2.2.2.2.2.2.2.2.2.2))
  else
  (some (u3.2.2.1, u3.2.1, u3.2.2.1, u3.2.2.2.1, u3.2.2.2.2.1, u3.2.2.2.2.2.1, u3.2.2.2.2.2.2.1, u3.2.2.2.2.2.2.2.1, u3.2.2.2.2.2.2.2.2.1, u3.2.2.2.2.2.2.2.2.2.1, u3.2.2.2.2.2.2.2.2.2.2.1, u3.2.2.2.2.2.2.2.2.2.2.2.1, u3.2.2.2.2.2.2.2.2.2.2.2.2)))))
set_option maxHeartbeats 4000000 in
set_option maxRecDepth 100000 in
theorem wt_X11_states {p : Program} {l : Launch} {e : Env} {s : State} {m : MethodId} {args : Array Value} {below : List Frame} {meth : Method} {c : Code} {A : Nat → Prop} {Q : State → Prop} {D : va_G} {cy : Nat → ClassId} (o : Nat) (d : Nat → Nat) (d_now : Nat → Nat) (d_automaton : Nat → Nat) (d_now_tests : Nat → Nat) (d_automaton_tests : Nat → Nat) (mono : Value) (PT : va_W) (tq : Nat → Option TV) (snapshotTaken_ : Int32) (inputLength_ : Int32) (now_letters_ : Int32) (now_tests_count_ : Int32) (now_tests_members_ : Nat → Option Nat) (automaton_letters_ : Int32) (automaton_states_ : Int32) (automaton_tests_count_ : Int32) (automaton_next_ : Nat → Int32) (automaton_marks_ : Nat → Int32) (automaton_depth_ : Nat → Int32) (automaton_low_ : Nat → Int64) (automaton_high_ : Nat → Int64) (automaton_parent_ : Nat → Int32) (automaton_lastLetter_ : Nat → Int32) (automaton_slots_ : Nat → Int32) (automaton_tests_members_ : Nat → Option Nat) (x1 : Int32) (out : Int32 × Int32 × Int32 × Int32 × (Nat → Int32) × (Nat → Int32) × (Nat → Int32) × (Nat → Int64) × (Nat → Int64) × (Nat → Int32) × (Nat → Int32) × (Nat → Int32) × (Nat → Option Nat)) (hT : TP cy PT tq) (X : Cx p m c cX11_states 2 s args wsX11_states RX11 A D cy (RO_X11_states cy o d d_now d_automaton d_now_tests d_automaton_tests mono PT snapshotTaken_ inputLength_ now_letters_ now_tests_count_ now_tests_members_)) (h : f_X11_states x1 tq now_letters_ now_tests_count_ now_tests_members_ automaton_letters_ automaton_states_ automaton_tests_count_ automaton_next_ automaton_marks_ automaton_depth_ automaton_low_ automaton_high_ automaton_parent_ automaton_lastLetter_ automaton_slots_ automaton_tests_members_ = some out) (K : ∀ (H : Heap) (locs : List Loc) (ls : Array Slot) (pc : Nat), decode cX11_states pc = .ok (.ireturn, 1) → St A D s (RW_X11_states cy o d d_now d_automaton d_now_tests d_automaton_tests mono PT out.2.1 out.2.2.1 out.2.2.2.1 out.2.2.2.2.1 out.2.2.2.2.2.1 out.2.2.2.2.2.2.1 out.2.2.2.2.2.2.2.1 out.2.2.2.2.2.2.2.2.1 out.2.2.2.2.2.2.2.2.2.1 out.2.2.2.2.2.2.2.2.2.2.1 out.2.2.2.2.2.2.2.2.2.2.2.1 out.2.2.2.2.2.2.2.2.2.2.2.2) H locs → W p l e rm_X11_states s m args below meth c H locs 0 0 Q (F0 m pc ls [.int out.1])) : ∀ (H : Heap) (locs : List Loc) (ls : Array Slot), St A D s (RW_X11_states cy o d d_now d_automaton d_now_tests d_automaton_tests mono PT automaton_letters_ automaton_states_ automaton_tests_count_ automaton_next_ automaton_marks_ automaton_depth_ automaton_low_ automaton_high_ automaton_parent_ automaton_lastLetter_ automaton_slots_ automaton_tests_members_) H locs → lv_has ls 2 [(0, .ref o), (1, .int x1)] → W p l e rm_X11_states s m args below meth c H locs 0 0 Q (F0 m 0 ls []) := by
  intro H locs ls Z hl
  have hx := X.1.1
  have hb := X.1.2.1
  unfold f_X11_states at h
  refine lv_aload_n hx hb dX11_states_0 rfl (lv_at hl 0 rfl) ?_
  refine lv_iload_n hx hb dX11_states_1 rfl (lv_at hl 1 rfl) ?_
  obtain ⟨u1, hc2, h⟩ := ob_some h
  refine x_runVi (RW' := (RW_X11_states cy o d d_now d_automaton d_now_tests d_automaton_tests mono PT automaton_letters_ automaton_states_ automaton_tests_count_ automaton_next_ automaton_marks_ automaton_depth_ automaton_low_ automaton_high_ automaton_parent_ automaton_lastLetter_ automaton_slots_ automaton_tests_members_)) (wr := [((d 8), ob 0 (oX0 d_automaton automaton_letters_ automaton_states_)), ((d_automaton 0), ob 1 (oX1 d_automaton_tests automaton_tests_count_)), ((d_automaton 3), aI cy 6000 automaton_next_), ((d_automaton 4), aI cy 2000 automaton_marks_), ((d_automaton 5), aI cy 2000 automaton_depth_), ((d_automaton 6), aJ cy 2000 automaton_low_), ((d_automaton 7), aJ cy 2000 automaton_high_), ((d_automaton 8), aI cy 2000 automaton_parent_), ((d_automaton 9), aI cy 2000 automaton_lastLetter_), ((d_automaton 10), aI cy 4096 automaton_slots_), ((d_automaton_tests 0), aR cy 4 8 automaton_tests_members_)]) (isC := []) (isR := [0, 1, 2, 3, 4, 5, 6, 7, 8, 9, 10]) (isF := [0, 1, 2, 3, 4, 5, 6, 7, 8, 9, 10]) (rest := []) (As := [.int x1]) (n := 1) X Z (c_X11_isTest l D cy o d d_now d_now_tests mono snapshotTaken_ inputLength_ now_letters_ now_tests_count_ x1 u1 hc2) gX11_states_X11_isTest rfl (by decide +kernel) ⟨Nat.le_of_ble_eq_true rfl, Nat.le_of_ble_eq_true rfl⟩ ⟨rfl, rfl⟩ ⟨Nat.le_of_ble_eq_true rfl, Nat.le_of_ble_eq_true rfl⟩ (x_rvO X Z 0 rfl rfl) ⟨rfl, rfl, (roC (Or.inr (mem_at 0 rfl)) (roC (Or.inr (mem_at 1 rfl)) (roC (Or.inr (mem_at 2 rfl)) roN))), rfl, rfl, by decide⟩ ⟨rfl, rfl⟩ rfl hl.1 rfl (Nat.le_of_ble_eq_true rfl) dX11_states_2 (fun H locs Z => ?_)
  refine lv_if_ne (tgt := 10) hx hb dX11_states_5 (by decide) (fun cnd => ?_) (fun cnd => ?_)
  · replace h := ifn h cnd
    refine lv_aload_n hx hb dX11_states_10 rfl (lv_at hl 0 rfl) ?_
    refine lv_iload_n hx hb dX11_states_11 rfl (lv_at hl 1 rfl) ?_
    obtain ⟨u3, hc4, h⟩ := ob_some h
    refine x_runVi (RW' := (RW_X11_states cy o d d_now d_automaton d_now_tests d_automaton_tests mono PT u3.2.1 u3.2.2.1 u3.2.2.2.1 u3.2.2.2.2.1 u3.2.2.2.2.2.1 u3.2.2.2.2.2.2.1 u3.2.2.2.2.2.2.2.1 u3.2.2.2.2.2.2.2.2.1 u3.2.2.2.2.2.2.2.2.2.1 u3.2.2.2.2.2.2.2.2.2.2.1 u3.2.2.2.2.2.2.2.2.2.2.2.1 u3.2.2.2.2.2.2.2.2.2.2.2.2)) (wr := []) (isC := [0, 1, 2, 3, 4, 5, 6, 7, 8, 9, 10]) (isR := []) (isF := [0, 1, 2, 3, 4, 5, 6, 7, 8, 9, 10]) (rest := []) (As := [.int x1]) (n := 1) X Z (c_X11_exploreTest l D cy o d d_now d_automaton d_now_tests d_automaton_tests mono PT tq snapshotTaken_ inputLength_ now_letters_ now_tests_count_ now_tests_members_ automaton_letters_ automaton_states_ automaton_tests_count_ automaton_next_ automaton_marks_ automaton_depth_ automaton_low_ automaton_high_ automaton_parent_ automaton_lastLetter_ automaton_slots_ automaton_tests_members_ x1 u3 hT hc4) gX11_states_X11_exploreTest rfl (by decide +kernel) ⟨Nat.le_of_ble_eq_true rfl, Nat.le_of_ble_eq_true rfl⟩ ⟨rfl, rfl⟩ ⟨Nat.le_of_ble_eq_true rfl, Nat.le_of_ble_eq_true rfl⟩ (x_rvO X Z 0 rfl rfl) ⟨rfl, rfl, (roC (Or.inr (mem_at 0 rfl)) (roC (Or.inr (mem_at 1 rfl)) (roC (Or.inr (mem_at 2 rfl)) (roC (Or.inr (mem_at 3 rfl)) (fun q hq => Or.inr (List.mem_append_right _ hq)))))), rfl, rfl, by decide⟩ ⟨rfl, rfl⟩ rfl hl.1 rfl (Nat.le_of_ble_eq_true rfl) dX11_states_12 (fun H locs Z => ?_)
    refine lv_if_eq (tgt := 28) hx hb dX11_states_15 (by decide) (fun cnd => ?_) (fun cnd => ?_)
    · replace h := ifp h cnd
      refine lv_bipush (v := (-4 : Int32)) hx hb dX11_states_28 (by decide) ?_
      obtain rfl := Option.some.inj h
      exact K H locs ls _ dX11_states_30 Z
    · replace h := ifn h cnd
      refine lv_aload_n hx hb dX11_states_18 rfl (lv_at hl 0 rfl) ?_
      refine x_getO X Z 0 8 (v := .ref (d 8)) rfl rfl lk_X11_states_X11_automaton dX11_states_19 ?_
      refine x_get X Z 0 2 (v := .int u3.2.2.1) rfl rfl lk_X11_states_X0_states dX11_states_22 ?_
      refine lv_goto (tgt := 30) hx hb dX11_states_25 (by decide) ?_
      obtain rfl := Option.some.inj h
      exact K H locs ls _ dX11_states_30 Z
  · replace h := ifp h cnd
    refine lv_iconst (v := (-1 : Int32)) hx hb dX11_states_8 (by decide) ?_
    obtain rfl := Option.some.inj h
    exact K H locs ls _ dX11_states_9 Z
theorem c_X11_states (l : Launch) (D : va_G) (cy : Nat → ClassId) (o : Nat) (d : Nat → Nat) (d_now : Nat → Nat) (d_automaton : Nat → Nat) (d_now_tests : Nat → Nat) (d_automaton_tests : Nat → Nat) (mono : Value) (PT : va_W) (tq : Nat → Option TV) (snapshotTaken_ : Int32) (inputLength_ : Int32) (now_letters_ : Int32) (now_tests_count_ : Int32) (now_tests_members_ : Nat → Option Nat) (automaton_letters_ : Int32) (automaton_states_ : Int32) (automaton_tests_count_ : Int32) (automaton_next_ : Nat → Int32) (automaton_marks_ : Nat → Int32) (automaton_depth_ : Nat → Int32) (automaton_low_ : Nat → Int64) (automaton_high_ : Nat → Int64) (automaton_parent_ : Nat → Int32) (automaton_lastLetter_ : Nat → Int32) (automaton_slots_ : Nat → Int32) (automaton_tests_members_ : Nat → Option Nat) (x1 : Int32) (out : Int32 × Int32 × Int32 × Int32 × (Nat → Int32) × (Nat → Int32) × (Nat → Int32) × (Nat → Int64) × (Nat → Int64) × (Nat → Int32) × (Nat → Int32) × (Nat → Int32) × (Nat → Option Nat)) (hT : TP cy PT tq) (h : f_X11_states x1 tq now_letters_ now_tests_count_ now_tests_members_ automaton_letters_ automaton_states_ automaton_tests_count_ automaton_next_ automaton_marks_ automaton_depth_ automaton_low_ automaton_high_ automaton_parent_ automaton_lastLetter_ automaton_slots_ automaton_tests_members_ = some out) : CtI l yX11_states wsX11_states rm_X11_states D cy [.ref o, .int x1] (RW_X11_states cy o d d_now d_automaton d_now_tests d_automaton_tests mono PT automaton_letters_ automaton_states_ automaton_tests_count_ automaton_next_ automaton_marks_ automaton_depth_ automaton_low_ automaton_high_ automaton_parent_ automaton_lastLetter_ automaton_slots_ automaton_tests_members_) (RO_X11_states cy o d d_now d_automaton d_now_tests d_automaton_tests mono PT snapshotTaken_ inputLength_ now_letters_ now_tests_count_ now_tests_members_) (RW_X11_states cy o d d_now d_automaton d_now_tests d_automaton_tests mono PT out.2.1 out.2.2.1 out.2.2.2.1 out.2.2.2.2.1 out.2.2.2.2.2.1 out.2.2.2.2.2.2.1 out.2.2.2.2.2.2.2.1 out.2.2.2.2.2.2.2.2.1 out.2.2.2.2.2.2.2.2.2.1 out.2.2.2.2.2.2.2.2.2.2.1 out.2.2.2.2.2.2.2.2.2.2.2.1 out.2.2.2.2.2.2.2.2.2.2.2.2) out.1 :=
  mk_i (ty := .int) (by decide) rfl rfl (Nat.le_of_ble_eq_true rfl) (fun p e s m args below meth c A Q X K H locs ls Z hl => wt_X11_states o d d_now d_automaton d_now_tests d_automaton_tests mono PT tq snapshotTaken_ inputLength_ now_letters_ now_tests_count_ now_tests_members_ automaton_letters_ automaton_states_ automaton_tests_count_ automaton_next_ automaton_marks_ automaton_depth_ automaton_low_ automaton_high_ automaton_parent_ automaton_lastLetter_ automaton_slots_ automaton_tests_members_ x1 out hT X h K H locs ls Z hl)
/-! SubwordCounter$Partition gatherSources (LSubwordCounter$Automaton;)V -/
abbrev rm_X4_gatherSources : Room := { frames := 0, cells := 0, slots := 0, locals := 0 }
def RW_X4_gatherSources (cy : Nat → ClassId) (o : Nat) (q_p1 : Nat) (d : Nat → Nat) (d_p1 : Nat → Nat) (sourceStart_ : Nat → Int32) (sources_ : Nat → Int32) : va_W := [((d 11), aI cy 6003 sourceStart_), ((d 12), aI cy 6000 sources_)]
def RO_X4_gatherSources (cy : Nat → ClassId) (o : Nat) (q_p1 : Nat) (d : Nat → Nat) (d_p1 : Nat → Nat) (blocks_ : Int32) (touchedCount_ : Int32) (p1_letters_ : Int32) (p1_states_ : Int32) (p1_next_ : Nat → Int32) : va_W := [(o, ob 4 (oX4 d blocks_ touchedCount_)), (q_p1, ob 0 (oX0 d_p1 p1_letters_ p1_states_)), ((d_p1 3), aI cy 6000 p1_next_)]
theorem in_X4_gatherSources_X0 : ∀ w ∈ u_ws RX0 TX0 13, w ∈ wsX4_gatherSources := fun w h => (List.mem_cons_of_mem _ (List.mem_append_left _ (List.mem_append_right _ h)))
theorem lk_X4_gatherSources_X0_states : Lk wsX4_gatherSources RX4 77 0 2 := ⟨RX0, TX0, 13, rfl, by decide, in_X4_gatherSources_X0, mem_at 2 rfl⟩
theorem lk_X4_gatherSources_X0_next : Lk wsX4_gatherSources RX4 86 0 3 := ⟨RX0, TX0, 13, rfl, by decide, in_X4_gatherSources_X0, mem_at 4 rfl⟩
theorem in_X4_gatherSources_X4 : ∀ w ∈ u_ws RX4 TX4 13, w ∈ wsX4_gatherSources := fun w h => (List.mem_cons_of_mem _ (List.mem_append_right _ h))
theorem lk_X4_gatherSources_X4_sourceStart : Lk wsX4_gatherSources RX4 48 4 11 := ⟨RX4, TX4, 13, rfl, by decide, in_X4_gatherSources_X4, mem_at 3 rfl⟩
theorem lk_X4_gatherSources_X4_sources : Lk wsX4_gatherSources RX4 51 4 12 := ⟨RX4, TX4, 13, rfl, by decide, in_X4_gatherSources_X4, mem_at 5 rfl⟩
theorem lk_X4_gatherSources_X0_letters : Lk wsX4_gatherSources RX4 67 0 1 := ⟨RX0, TX0, 13, rfl, by decide, in_X4_gatherSources_X0, mem_at 1 rfl⟩
def b_X4_gatherSources_147 (p1_states_ : Int32) (p1_next_ : Nat → Int32) (x3 : Int32) (x4 : Int32) (sourceStart_ : Nat → Int32) (sources_ : Nat → Int32) (x5 : Int32) : Option (((Nat → Int32) × (Nat → Int32) × Int32) ⊕ ((Nat → Int32) × (Nat → Int32))) :=
  if p1_states_ ≤ x5 then
  (some (.inr (sourceStart_, sources_)))
  else
  (ldA p1_next_ 6000 ((x5 * (3 : Int32)) + x3) (fun v2 =>
  ldA sourceStart_ 6003 (x4 + v2) (fun v5 =>
  stA sourceStart_ 6003 (x4 + v2) (v5 - (1 : Int32)) (fun sourceStart_8 =>
  ldA sourceStart_8 6003 (x4 + v2) (fun v11 =>
  stA sources_ 6000 v11 x5 (fun sources_14 =>
  some (.inl (sourceStart_8, sources_14, (x5 + (1 : Int32))))))))))
set_option maxHeartbeats 4000000 in
set_option maxRecDepth 100000 in
theorem wb_X4_gatherSources_147 {p : Program} {l : Launch} {e : Env} {s : State} {m : MethodId} {args : Array Value} {below : List Frame} {meth : Method} {c : Code} {A : Nat → Prop} {Q : State → Prop} {D : va_G} {cy : Nat → ClassId} (o : Nat) (q_p1 : Nat) (d : Nat → Nat) (d_p1 : Nat → Nat) (blocks_ : Int32) (touchedCount_ : Int32) (p1_letters_ : Int32) (p1_states_ : Int32) (p1_next_ : Nat → Int32)  (x2 : Int32) (x3 : Int32) (x4 : Int32) (sourceStart_ : Nat → Int32) (sources_ : Nat → Int32) (x5 : Int32) (o1 : ((Nat → Int32) × (Nat → Int32) × Int32) ⊕ ((Nat → Int32) × (Nat → Int32))) (X : Cx p m c cX4_gatherSources 7 s args wsX4_gatherSources RX4 A D cy (RO_X4_gatherSources cy o q_p1 d d_p1 blocks_ touchedCount_ p1_letters_ p1_states_ p1_next_)) (h : b_X4_gatherSources_147 p1_states_ p1_next_ x3 x4 sourceStart_ sources_ x5 = some o1) (K : Sum.elim (fun v : (Nat → Int32) × (Nat → Int32) × Int32 => ∀ (H : Heap) (locs : List Loc) (ls : Array Slot), St A D s (RW_X4_gatherSources cy o q_p1 d d_p1 v.1 v.2.1) H locs → lv_has ls 7 [(0, .ref o), (1, .ref q_p1), (2, .int x2), (3, .int x3), (4, .int x4), (5, .int v.2.2)] → W p l e rm_X4_gatherSources s m args below meth c H locs 0 0 Q (F0 m 147 ls [])) (fun v : (Nat → Int32) × (Nat → Int32) => ∀ (H : Heap) (locs : List Loc) (ls : Array Slot), St A D s (RW_X4_gatherSources cy o q_p1 d d_p1 v.1 v.2) H locs → lv_has ls 7 [(0, .ref o), (1, .ref q_p1), (2, .int x2), (3, .int x3)] → W p l e rm_X4_gatherSources s m args below meth c H locs 0 0 Q (F0 m 206 ls [])) o1) : ∀ (H : Heap) (locs : List Loc) (ls : Array Slot), St A D s (RW_X4_gatherSources cy o q_p1 d d_p1 sourceStart_ sources_) H locs → lv_has ls 7 [(0, .ref o), (1, .ref q_p1), (2, .int x2), (3, .int x3), (4, .int x4), (5, .int x5)] → W p l e rm_X4_gatherSources s m args below meth c H locs 0 0 Q (F0 m 147 ls []) := by
  intro H locs ls Z hl
  have hx := X.1.1
  have hb := X.1.2.1
  unfold b_X4_gatherSources_147 at h
  refine lv_iload hx hb dX4_gatherSources_147 (lv_at hl 5 rfl) ?_
  refine lv_aload_n hx hb dX4_gatherSources_149 rfl (lv_at hl 1 rfl) ?_
  refine x_getO X Z 1 2 (v := .int p1_states_) rfl rfl lk_X4_gatherSources_X0_states dX4_gatherSources_150 ?_
  refine lv_icmp_ge (tgt := 206) hx hb dX4_gatherSources_153 (by decide) (fun cnd => ?_) (fun cnd => ?_)
  · replace h := ifp h cnd
    obtain rfl := Option.some.inj h
    exact (sk_r K) H locs ls Z (lv_sub hl [0, 1, 2, 3] rfl)
  · replace h := ifn h cnd
    refine lv_aload_n hx hb dX4_gatherSources_156 rfl (lv_at hl 1 rfl) ?_
    refine x_getO X Z 1 3 (v := .ref (d_p1 3)) rfl rfl lk_X4_gatherSources_X0_next dX4_gatherSources_157 ?_
    refine lv_iload hx hb dX4_gatherSources_160 (lv_at hl 5 rfl) ?_
    refine lv_iconst (v := (3 : Int32)) hx hb dX4_gatherSources_162 (by decide) ?_
    refine lv_imul hx hb dX4_gatherSources_163 ?_
    refine lv_iload_n hx hb dX4_gatherSources_164 rfl (lv_at hl 3 rfl) ?_
    refine lv_iadd hx hb dX4_gatherSources_165 ?_
    obtain ⟨hin1, v2, hv3, h⟩ := ld_b h
    refine x_ialdO X Z 2 rfl hin1 hv3 dX4_gatherSources_166 ?_
    refine lv_istore (lv' := [(6, .int v2), (0, .ref o), (1, .ref q_p1), (2, .int x2), (3, .int x3), (4, .int x4), (5, .int x5)]) hx hb dX4_gatherSources_167 hl (by decide) rfl (fun ls hl => ?_)
    refine lv_aload_n hx hb dX4_gatherSources_169 rfl (lv_at hl 1 rfl) ?_
    refine x_getO X Z 0 11 (v := .ref (d 11)) rfl rfl lk_X4_gatherSources_X4_sourceStart dX4_gatherSources_170 ?_
    refine lv_iload hx hb dX4_gatherSources_173 (lv_at hl 5 rfl) ?_
    refine lv_iload hx hb dX4_gatherSources_175 (lv_at hl 0 rfl) ?_
    refine lv_iadd hx hb dX4_gatherSources_177 ?_
    refine lv_dup2_11 hx hb dX4_gatherSources_178 rfl rfl ?_
    obtain ⟨hin4, v5, hv6, h⟩ := ld_b h
    refine x_iald X Z 0 rfl hin4 hv6 dX4_gatherSources_179 ?_
    refine lv_iconst (v := (1 : Int32)) hx hb dX4_gatherSources_180 (by decide) ?_
    refine lv_isub hx hb dX4_gatherSources_181 ?_
    obtain ⟨hin7, sourceStart_8, hv9, h⟩ := st_b h
    refine x_iast X Z 0 (RW_X4_gatherSources cy o q_p1 d d_p1 sourceStart_8 sources_) rfl hin7 hv9 rfl dX4_gatherSources_182 (fun H locs Z => ?_)
    refine lv_aload_n hx hb dX4_gatherSources_183 rfl (lv_at hl 1 rfl) ?_
    refine x_getO X Z 0 12 (v := .ref (d 12)) rfl rfl lk_X4_gatherSources_X4_sources dX4_gatherSources_184 ?_
    refine lv_aload_n hx hb dX4_gatherSources_187 rfl (lv_at hl 1 rfl) ?_
    refine x_getO X Z 0 11 (v := .ref (d 11)) rfl rfl lk_X4_gatherSources_X4_sourceStart dX4_gatherSources_188 ?_
    refine lv_iload hx hb dX4_gatherSources_191 (lv_at hl 5 rfl) ?_
    refine lv_iload hx hb dX4_gatherSources_193 (lv_at hl 0 rfl) ?_
    refine lv_iadd hx hb dX4_gatherSources_195 ?_
    obtain ⟨hin10, v11, hv12, h⟩ := ld_b h
    refine x_iald X Z 0 rfl hin10 hv12 dX4_gatherSources_196 ?_
    refine lv_iload hx hb dX4_gatherSources_197 (lv_at hl 6 rfl) ?_
    obtain ⟨hin13, sources_14, hv15, h⟩ := st_b h
    refine x_iast X Z 1 (RW_X4_gatherSources cy o q_p1 d d_p1 sourceStart_8 sources_14) rfl hin13 hv15 rfl dX4_gatherSources_199 (fun H locs Z => ?_)
    refine lv_iinc (v := (x5 + (1 : Int32))) (lv' := [(5, .int (x5 + (1 : Int32))), (6, .int v2), (0, .ref o), (1, .ref q_p1), (2, .int x2), (3, .int x3), (4, .int x4)]) hx hb dX4_gatherSources_200 hl (k := 6) rfl rfl (by decide) rfl (fun ls hl => ?_)
    refine lv_goto (tgt := 147) hx hb dX4_gatherSources_203 (by decide) ?_
    obtain rfl := Option.some.inj h
    exact sk_l K H locs ls Z (lv_sub hl [2, 3, 4, 5, 6, 0] rfl)
set_option maxHeartbeats 4000000 in
set_option maxRecDepth 100000 in
theorem wl_X4_gatherSources_147 {p : Program} {l : Launch} {e : Env} {s : State} {m : MethodId} {args : Array Value} {below : List Frame} {meth : Method} {c : Code} {A : Nat → Prop} {Q : State → Prop} {D : va_G} {cy : Nat → ClassId} (o : Nat) (q_p1 : Nat) (d : Nat → Nat) (d_p1 : Nat → Nat) (blocks_ : Int32) (touchedCount_ : Int32) (p1_letters_ : Int32) (p1_states_ : Int32) (p1_next_ : Nat → Int32)  (x2 : Int32) (x3 : Int32) (x4 : Int32) (n : Nat) (v : (Nat → Int32) × (Nat → Int32) × Int32) (x : (Nat → Int32) × (Nat → Int32)) (X : Cx p m c cX4_gatherSources 7 s args wsX4_gatherSources RX4 A D cy (RO_X4_gatherSources cy o q_p1 d d_p1 blocks_ touchedCount_ p1_letters_ p1_states_ p1_next_)) (h : loopN (fun v => b_X4_gatherSources_147 p1_states_ p1_next_ x3 x4 v.1 v.2.1 v.2.2) n v = some x) (K : ∀ (H : Heap) (locs : List Loc) (ls : Array Slot), St A D s (RW_X4_gatherSources cy o q_p1 d d_p1 x.1 x.2) H locs → lv_has ls 7 [(0, .ref o), (1, .ref q_p1), (2, .int x2), (3, .int x3)] → W p l e rm_X4_gatherSources s m args below meth c H locs 0 0 Q (F0 m 206 ls [])) : ∀ (H : Heap) (locs : List Loc) (ls : Array Slot), St A D s (RW_X4_gatherSources cy o q_p1 d d_p1 v.1 v.2.1) H locs → lv_has ls 7 [(0, .ref o), (1, .ref q_p1), (2, .int x2), (3, .int x3), (4, .int x4), (5, .int v.2.2)] → W p l e rm_X4_gatherSources s m args below meth c H locs 0 0 Q (F0 m 147 ls []) :=
  loop_gen (B := (fun v => b_X4_gatherSources_147 p1_states_ p1_next_ x3 x4 v.1 v.2.1 v.2.2)) (Head := fun v : (Nat → Int32) × (Nat → Int32) × Int32 => ∀ (H : Heap) (locs : List Loc) (ls : Array Slot), St A D s (RW_X4_gatherSources cy o q_p1 d d_p1 v.1 v.2.1) H locs → lv_has ls 7 [(0, .ref o), (1, .ref q_p1), (2, .int x2), (3, .int x3), (4, .int x4), (5, .int v.2.2)] → W p l e rm_X4_gatherSources s m args below meth c H locs 0 0 Q (F0 m 147 ls [])) (Exit := fun v : (Nat → Int32) × (Nat → Int32) => ∀ (H : Heap) (locs : List Loc) (ls : Array Slot), St A D s (RW_X4_gatherSources cy o q_p1 d d_p1 v.1 v.2) H locs → lv_has ls 7 [(0, .ref o), (1, .ref q_p1), (2, .int x2), (3, .int x3)] → W p l e rm_X4_gatherSources s m args below meth c H locs 0 0 Q (F0 m 206 ls [])) (fun v o9 hb1 K1 => wb_X4_gatherSources_147 o q_p1 d d_p1 blocks_ touchedCount_ p1_letters_ p1_states_ p1_next_ x2 x3 x4 v.1 v.2.1 v.2.2 o9 X hb1 K1) n v x h K
def b_X4_gatherSources_92 (p1_states_ : Int32) (x4 : Int32) (sourceStart_ : Nat → Int32) (x2 : Int32) (x5 : Int32) : Option (((Nat → Int32) × Int32 × Int32) ⊕ ((Nat → Int32) × Int32)) :=
  if p1_states_ ≤ x5 then
  (some (.inr (sourceStart_, x2)))
  else
  (ldA sourceStart_ 6003 (x4 + x5) (fun v17 =>
  stA sourceStart_ 6003 (x4 + x5) (x2 + v17) (fun sourceStart_20 =>
  some (.inl (sourceStart_20, (x2 + v17), (x5 + (1 : Int32)))))))
set_option maxHeartbeats 4000000 in
set_option maxRecDepth 100000 in
theorem wb_X4_gatherSources_92 {p : Program} {l : Launch} {e : Env} {s : State} {m : MethodId} {args : Array Value} {below : List Frame} {meth : Method} {c : Code} {A : Nat → Prop} {Q : State → Prop} {D : va_G} {cy : Nat → ClassId} (o : Nat) (q_p1 : Nat) (d : Nat → Nat) (d_p1 : Nat → Nat) (blocks_ : Int32) (touchedCount_ : Int32) (p1_letters_ : Int32) (p1_states_ : Int32) (p1_next_ : Nat → Int32) (sources_ : Nat → Int32) (x3 : Int32) (x4 : Int32) (sourceStart_ : Nat → Int32) (x2 : Int32) (x5 : Int32) (o1 : ((Nat → Int32) × Int32 × Int32) ⊕ ((Nat → Int32) × Int32)) (X : Cx p m c cX4_gatherSources 7 s args wsX4_gatherSources RX4 A D cy (RO_X4_gatherSources cy o q_p1 d d_p1 blocks_ touchedCount_ p1_letters_ p1_states_ p1_next_)) (h : b_X4_gatherSources_92 p1_states_ x4 sourceStart_ x2 x5 = some o1) (K : Sum.elim (fun v : (Nat → Int32) × Int32 × Int32 => ∀ (H : Heap) (locs : List Loc) (ls : Array Slot), St A D s (RW_X4_gatherSources cy o q_p1 d d_p1 v.1 sources_) H locs → lv_has ls 7 [(0, .ref o), (1, .ref q_p1), (2, .int v.2.1), (3, .int x3), (4, .int x4), (5, .int v.2.2)] → W p l e rm_X4_gatherSources s m args below meth c H locs 0 0 Q (F0 m 92 ls [])) (fun v : (Nat → Int32) × Int32 => ∀ (H : Heap) (locs : List Loc) (ls : Array Slot), St A D s (RW_X4_gatherSources cy o q_p1 d d_p1 v.1 sources_) H locs → lv_has ls 7 [(0, .ref o), (1, .ref q_p1), (2, .int v.2), (3, .int x3), (4, .int x4)] → W p l e rm_X4_gatherSources s m args below meth c H locs 0 0 Q (F0 m 131 ls [])) o1) : ∀ (H : Heap) (locs : List Loc) (ls : Array Slot), St A D s (RW_X4_gatherSources cy o q_p1 d d_p1 sourceStart_ sources_) H locs → lv_has ls 7 [(0, .ref o), (1, .ref q_p1), (2, .int x2), (3, .int x3), (4, .int x4), (5, .int x5)] → W p l e rm_X4_gatherSources s m args below meth c H locs 0 0 Q (F0 m 92 ls []) := by
  intro H locs ls Z hl
  have hx := X.1.1
  have hb := X.1.2.1
  unfold b_X4_gatherSources_92 at h
  refine lv_iload hx hb dX4_gatherSources_92 (lv_at hl 5 rfl) ?_
  refine lv_aload_n hx hb dX4_gatherSources_94 rfl (lv_at hl 1 rfl) ?_
  refine x_getO X Z 1 2 (v := .int p1_states_) rfl rfl lk_X4_gatherSources_X0_states dX4_gatherSources_95 ?_
  refine lv_icmp_ge (tgt := 131) hx hb dX4_gatherSources_98 (by decide) (fun cnd => ?_) (fun cnd => ?_)
  · replace h := ifp h cnd
    obtain rfl := Option.some.inj h
    exact (sk_r K) H locs ls Z (lv_sub hl [0, 1, 2, 3, 4] rfl)
  · replace h := ifn h cnd
    refine lv_iload_n hx hb dX4_gatherSources_101 rfl (lv_at hl 2 rfl) ?_
    refine lv_aload_n hx hb dX4_gatherSources_102 rfl (lv_at hl 0 rfl) ?_
    refine x_getO X Z 0 11 (v := .ref (d 11)) rfl rfl lk_X4_gatherSources_X4_sourceStart dX4_gatherSources_103 ?_
    refine lv_iload hx hb dX4_gatherSources_106 (lv_at hl 4 rfl) ?_
    refine lv_iload hx hb dX4_gatherSources_108 (lv_at hl 5 rfl) ?_
    refine lv_iadd hx hb dX4_gatherSources_110 ?_
    obtain ⟨hin16, v17, hv18, h⟩ := ld_b h
    refine x_iald X Z 0 rfl hin16 hv18 dX4_gatherSources_111 ?_
    refine lv_iadd hx hb dX4_gatherSources_112 ?_
    refine lv_istore_n (lv' := [(2, .int (x2 + v17)), (0, .ref o), (1, .ref q_p1), (3, .int x3), (4, .int x4), (5, .int x5)]) hx hb dX4_gatherSources_113 rfl hl (by decide) rfl (fun ls hl => ?_)
    refine lv_aload_n hx hb dX4_gatherSources_114 rfl (lv_at hl 1 rfl) ?_
    refine x_getO X Z 0 11 (v := .ref (d 11)) rfl rfl lk_X4_gatherSources_X4_sourceStart dX4_gatherSources_115 ?_
    refine lv_iload hx hb dX4_gatherSources_118 (lv_at hl 4 rfl) ?_
    refine lv_iload hx hb dX4_gatherSources_120 (lv_at hl 5 rfl) ?_
    refine lv_iadd hx hb dX4_gatherSources_122 ?_
    refine lv_iload_n hx hb dX4_gatherSources_123 rfl (lv_at hl 0 rfl) ?_
    obtain ⟨hin19, sourceStart_20, hv21, h⟩ := st_b h
    refine x_iast X Z 0 (RW_X4_gatherSources cy o q_p1 d d_p1 sourceStart_20 sources_) rfl hin19 hv21 rfl dX4_gatherSources_124 (fun H locs Z => ?_)
    refine lv_iinc (v := (x5 + (1 : Int32))) (lv' := [(5, .int (x5 + (1 : Int32))), (2, .int (x2 + v17)), (0, .ref o), (1, .ref q_p1), (3, .int x3), (4, .int x4)]) hx hb dX4_gatherSources_125 hl (k := 5) rfl rfl (by decide) rfl (fun ls hl => ?_)
    refine lv_goto (tgt := 92) hx hb dX4_gatherSources_128 (by decide) ?_
    obtain rfl := Option.some.inj h
    exact sk_l K H locs ls Z (lv_sub hl [2, 3, 1, 4, 5, 0] rfl)
set_option maxHeartbeats 4000000 in
set_option maxRecDepth 100000 in
theorem wl_X4_gatherSources_92 {p : Program} {l : Launch} {e : Env} {s : State} {m : MethodId} {args : Array Value} {below : List Frame} {meth : Method} {c : Code} {A : Nat → Prop} {Q : State → Prop} {D : va_G} {cy : Nat → ClassId} (o : Nat) (q_p1 : Nat) (d : Nat → Nat) (d_p1 : Nat → Nat) (blocks_ : Int32) (touchedCount_ : Int32) (p1_letters_ : Int32) (p1_states_ : Int32) (p1_next_ : Nat → Int32) (sources_ : Nat → Int32) (x3 : Int32) (x4 : Int32) (n : Nat) (v : (Nat → Int32) × Int32 × Int32) (x : (Nat → Int32) × Int32) (X : Cx p m c cX4_gatherSources 7 s args wsX4_gatherSources RX4 A D cy (RO_X4_gatherSources cy o q_p1 d d_p1 blocks_ touchedCount_ p1_letters_ p1_states_ p1_next_)) (h : loopN (fun v => b_X4_gatherSources_92 p1_states_ x4 v.1 v.2.1 v.2.2) n v = some x) (K : ∀ (H : Heap) (locs : List Loc) (ls : Array Slot), St A D s (RW_X4_gatherSources cy o q_p1 d d_p1 x.1 sources_) H locs → lv_has ls 7 [(0, .ref o), (1, .ref q_p1), (2, .int x.2), (3, .int x3), (4, .int x4)] → W p l e rm_X4_gatherSources s m args below meth c H locs 0 0 Q (F0 m 131 ls [])) : ∀ (H : Heap) (locs : List Loc) (ls : Array Slot), St A D s (RW_X4_gatherSources cy o q_p1 d d_p1 v.1 sources_) H locs → lv_has ls 7 [(0, .ref o), (1, .ref q_p1), (2, .int v.2.1), (3, .int x3), (4, .int x4), (5, .int v.2.2)] → W p l e rm_X4_gatherSources s m args below meth c H locs 0 0 Q (F0 m 92 ls []) :=
  loop_gen (B := (fun v => b_X4_gatherSources_92 p1_states_ x4 v.1 v.2.1 v.2.2)) (Head := fun v : (Nat → Int32) × Int32 × Int32 => ∀ (H : Heap) (locs : List Loc) (ls : Array Slot), St A D s (RW_X4_gatherSources cy o q_p1 d d_p1 v.1 sources_) H locs → lv_has ls 7 [(0, .ref o), (1, .ref q_p1), (2, .int v.2.1), (3, .int x3), (4, .int x4), (5, .int v.2.2)] → W p l e rm_X4_gatherSources s m args below meth c H locs 0 0 Q (F0 m 92 ls [])) (Exit := fun v : (Nat → Int32) × Int32 => ∀ (H : Heap) (locs : List Loc) (ls : Array Slot), St A D s (RW_X4_gatherSources cy o q_p1 d d_p1 v.1 sources_) H locs → lv_has ls 7 [(0, .ref o), (1, .ref q_p1), (2, .int v.2), (3, .int x3), (4, .int x4)] → W p l e rm_X4_gatherSources s m args below meth c H locs 0 0 Q (F0 m 131 ls [])) (fun v o9 hb1 K1 => wb_X4_gatherSources_92 o q_p1 d d_p1 blocks_ touchedCount_ p1_letters_ p1_states_ p1_next_ sources_ x3 x4 v.1 v.2.1 v.2.2 o9 X hb1 K1) n v x h K
def b_X4_gatherSources_51 (p1_states_ : Int32) (p1_next_ : Nat → Int32) (x3 : Int32) (x4 : Int32) (sourceStart_ : Nat → Int32) (x5 : Int32) : Option (((Nat → Int32) × Int32) ⊕ ((Nat → Int32))) :=
  if p1_states_ ≤ x5 then
  (some (.inr sourceStart_))
  else
  (ldA p1_next_ 6000 ((x5 * (3 : Int32)) + x3) (fun v23 =>
  ldA sourceStart_ 6003 (x4 + v23) (fun v26 =>
  stA sourceStart_ 6003 (x4 + v23) (v26 + (1 : Int32)) (fun sourceStart_29 =>
  some (.inl (sourceStart_29, (x5 + (1 : Int32))))))))
set_option maxHeartbeats 4000000 in
set_option maxRecDepth 100000 in
theorem wb_X4_gatherSources_51 {p : Program} {l : Launch} {e : Env} {s : State} {m : MethodId} {args : Array Value} {below : List Frame} {meth : Method} {c : Code} {A : Nat → Prop} {Q : State → Prop} {D : va_G} {cy : Nat → ClassId} (o : Nat) (q_p1 : Nat) (d : Nat → Nat) (d_p1 : Nat → Nat) (blocks_ : Int32) (touchedCount_ : Int32) (p1_letters_ : Int32) (p1_states_ : Int32) (p1_next_ : Nat → Int32) (sources_ : Nat → Int32) (x2 : Int32) (x3 : Int32) (x4 : Int32) (sourceStart_ : Nat → Int32) (x5 : Int32) (o1 : ((Nat → Int32) × Int32) ⊕ ((Nat → Int32))) (X : Cx p m c cX4_gatherSources 7 s args wsX4_gatherSources RX4 A D cy (RO_X4_gatherSources cy o q_p1 d d_p1 blocks_ touchedCount_ p1_letters_ p1_states_ p1_next_)) (h : b_X4_gatherSources_51 p1_states_ p1_next_ x3 x4 sourceStart_ x5 = some o1) (K : Sum.elim (fun v : (Nat → Int32) × Int32 => ∀ (H : Heap) (locs : List Loc) (ls : Array Slot), St A D s (RW_X4_gatherSources cy o q_p1 d d_p1 v.1 sources_) H locs → lv_has ls 7 [(0, .ref o), (1, .ref q_p1), (2, .int x2), (3, .int x3), (4, .int x4), (5, .int v.2)] → W p l e rm_X4_gatherSources s m args below meth c H locs 0 0 Q (F0 m 51 ls [])) (fun v : (Nat → Int32) => ∀ (H : Heap) (locs : List Loc) (ls : Array Slot), St A D s (RW_X4_gatherSources cy o q_p1 d d_p1 v sources_) H locs → lv_has ls 7 [(0, .ref o), (1, .ref q_p1), (2, .int x2), (3, .int x3), (4, .int x4)] → W p l e rm_X4_gatherSources s m args below meth c H locs 0 0 Q (F0 m 89 ls [])) o1) : ∀ (H : Heap) (locs : List Loc) (ls : Array Slot), St A D s (RW_X4_gatherSources cy o q_p1 d d_p1 sourceStart_ sources_) H locs → lv_has ls 7 [(0, .ref o), (1, .ref q_p1), (2, .int x2), (3, .int x3), (4, .int x4), (5, .int x5)] → W p l e rm_X4_gatherSources s m args below meth c H locs 0 0 Q (F0 m 51 ls []) := by
  intro H locs ls Z hl
  have hx := X.1.1
  have hb := X.1.2.1
  unfold b_X4_gatherSources_51 at h
  refine lv_iload hx hb dX4_gatherSources_51 (lv_at hl 5 rfl) ?_
  refine lv_aload_n hx hb dX4_gatherSources_53 rfl (lv_at hl 1 rfl) ?_
  refine x_getO X Z 1 2 (v := .int p1_states_) rfl rfl lk_X4_gatherSources_X0_states dX4_gatherSources_54 ?_
  refine lv_icmp_ge (tgt := 89) hx hb dX4_gatherSources_57 (by decide) (fun cnd => ?_) (fun cnd => ?_)
  · replace h := ifp h cnd
    obtain rfl := Option.some.inj h
    exact (sk_r K) H locs ls Z (lv_sub hl [0, 1, 2, 3, 4] rfl)
  · replace h := ifn h cnd
    refine lv_aload_n hx hb dX4_gatherSources_60 rfl (lv_at hl 0 rfl) ?_
    refine x_getO X Z 0 11 (v := .ref (d 11)) rfl rfl lk_X4_gatherSources_X4_sourceStart dX4_gatherSources_61 ?_
    refine lv_iload hx hb dX4_gatherSources_64 (lv_at hl 4 rfl) ?_
    refine lv_aload_n hx hb dX4_gatherSources_66 rfl (lv_at hl 1 rfl) ?_
    refine x_getO X Z 1 3 (v := .ref (d_p1 3)) rfl rfl lk_X4_gatherSources_X0_next dX4_gatherSources_67 ?_
    refine lv_iload hx hb dX4_gatherSources_70 (lv_at hl 5 rfl) ?_
    refine lv_iconst (v := (3 : Int32)) hx hb dX4_gatherSources_72 (by decide) ?_
    refine lv_imul hx hb dX4_gatherSources_73 ?_
    refine lv_iload_n hx hb dX4_gatherSources_74 rfl (lv_at hl 3 rfl) ?_
    refine lv_iadd hx hb dX4_gatherSources_75 ?_
    obtain ⟨hin22, v23, hv24, h⟩ := ld_b h
    refine x_ialdO X Z 2 rfl hin22 hv24 dX4_gatherSources_76 ?_
    refine lv_iadd hx hb dX4_gatherSources_77 ?_
    refine lv_dup2_11 hx hb dX4_gatherSources_78 rfl rfl ?_
    obtain ⟨hin25, v26, hv27, h⟩ := ld_b h
    refine x_iald X Z 0 rfl hin25 hv27 dX4_gatherSources_79 ?_
    refine lv_iconst (v := (1 : Int32)) hx hb dX4_gatherSources_80 (by decide) ?_
    refine lv_iadd hx hb dX4_gatherSources_81 ?_
    obtain ⟨hin28, sourceStart_29, hv30, h⟩ := st_b h
    refine x_iast X Z 0 (RW_X4_gatherSources cy o q_p1 d d_p1 sourceStart_29 sources_) rfl hin28 hv30 rfl dX4_gatherSources_82 (fun H locs Z => ?_)
    refine lv_iinc (v := (x5 + (1 : Int32))) (lv' := [(5, .int (x5 + (1 : Int32))), (0, .ref o), (1, .ref q_p1), (2, .int x2), (3, .int x3), (4, .int x4)]) hx hb dX4_gatherSources_83 hl (k := 5) rfl rfl (by decide) rfl (fun ls hl => ?_)
    refine lv_goto (tgt := 51) hx hb dX4_gatherSources_86 (by decide) ?_
    obtain rfl := Option.some.inj h
    exact sk_l K H locs ls Z (lv_sub hl [1, 2, 3, 4, 5, 0] rfl)
set_option maxHeartbeats 4000000 in
set_option maxRecDepth 100000 in
theorem wl_X4_gatherSources_51 {p : Program} {l : Launch} {e : Env} {s : State} {m : MethodId} {args : Array Value} {below : List Frame} {meth : Method} {c : Code} {A : Nat → Prop} {Q : State → Prop} {D : va_G} {cy : Nat → ClassId} (o : Nat) (q_p1 : Nat) (d : Nat → Nat) (d_p1 : Nat → Nat) (blocks_ : Int32) (touchedCount_ : Int32) (p1_letters_ : Int32) (p1_states_ : Int32) (p1_next_ : Nat → Int32) (sources_ : Nat → Int32) (x2 : Int32) (x3 : Int32) (x4 : Int32) (n : Nat) (v : (Nat → Int32) × Int32) (x : (Nat → Int32)) (X : Cx p m c cX4_gatherSources 7 s args wsX4_gatherSources RX4 A D cy (RO_X4_gatherSources cy o q_p1 d d_p1 blocks_ touchedCount_ p1_letters_ p1_states_ p1_next_)) (h : loopN (fun v => b_X4_gatherSources_51 p1_states_ p1_next_ x3 x4 v.1 v.2) n v = some x) (K : ∀ (H : Heap) (locs : List Loc) (ls : Array Slot), St A D s (RW_X4_gatherSources cy o q_p1 d d_p1 x sources_) H locs → lv_has ls 7 [(0, .ref o), (1, .ref q_p1), (2, .int x2), (3, .int x3), (4, .int x4)] → W p l e rm_X4_gatherSources s m args below meth c H locs 0 0 Q (F0 m 89 ls [])) : ∀ (H : Heap) (locs : List Loc) (ls : Array Slot), St A D s (RW_X4_gatherSources cy o q_p1 d d_p1 v.1 sources_) H locs → lv_has ls 7 [(0, .ref o), (1, .ref q_p1), (2, .int x2), (3, .int x3), (4, .int x4), (5, .int v.2)] → W p l e rm_X4_gatherSources s m args below meth c H locs 0 0 Q (F0 m 51 ls []) :=
  loop_gen (B := (fun v => b_X4_gatherSources_51 p1_states_ p1_next_ x3 x4 v.1 v.2)) (Head := fun v : (Nat → Int32) × Int32 => ∀ (H : Heap) (locs : List Loc) (ls : Array Slot), St A D s (RW_X4_gatherSources cy o q_p1 d d_p1 v.1 sources_) H locs → lv_has ls 7 [(0, .ref o), (1, .ref q_p1), (2, .int x2), (3, .int x3), (4, .int x4), (5, .int v.2)] → W p l e rm_X4_gatherSources s m args below meth c H locs 0 0 Q (F0 m 51 ls [])) (Exit := fun v : (Nat → Int32) => ∀ (H : Heap) (locs : List Loc) (ls : Array Slot), St A D s (RW_X4_gatherSources cy o q_p1 d d_p1 v sources_) H locs → lv_has ls 7 [(0, .ref o), (1, .ref q_p1), (2, .int x2), (3, .int x3), (4, .int x4)] → W p l e rm_X4_gatherSources s m args below meth c H locs 0 0 Q (F0 m 89 ls [])) (fun v o9 hb1 K1 => wb_X4_gatherSources_51 o q_p1 d d_p1 blocks_ touchedCount_ p1_letters_ p1_states_ p1_next_ sources_ x2 x3 x4 v.1 v.2 o9 X hb1 K1) n v x h K
def b_X4_gatherSources_22 (p1_states_ : Int32) (x4 : Int32) (sourceStart_ : Nat → Int32) (x5 : Int32) : Option (((Nat → Int32) × Int32) ⊕ ((Nat → Int32))) :=
  if p1_states_ ≤ x5 then
  (some (.inr sourceStart_))
  else
  (stA sourceStart_ 6003 (x4 + x5) (0 : Int32) (fun sourceStart_32 =>
  some (.inl (sourceStart_32, (x5 + (1 : Int32))))))
set_option maxHeartbeats 4000000 in
set_option maxRecDepth 100000 in
theorem wb_X4_gatherSources_22 {p : Program} {l : Launch} {e : Env} {s : State} {m : MethodId} {args : Array Value} {below : List Frame} {meth : Method} {c : Code} {A : Nat → Prop} {Q : State → Prop} {D : va_G} {cy : Nat → ClassId} (o : Nat) (q_p1 : Nat) (d : Nat → Nat) (d_p1 : Nat → Nat) (blocks_ : Int32) (touchedCount_ : Int32) (p1_letters_ : Int32) (p1_states_ : Int32) (p1_next_ : Nat → Int32) (sources_ : Nat → Int32) (x2 : Int32) (x3 : Int32) (x4 : Int32) (sourceStart_ : Nat → Int32) (x5 : Int32) (o1 : ((Nat → Int32) × Int32) ⊕ ((Nat → Int32))) (X : Cx p m c cX4_gatherSources 7 s args wsX4_gatherSources RX4 A D cy (RO_X4_gatherSources cy o q_p1 d d_p1 blocks_ touchedCount_ p1_letters_ p1_states_ p1_next_)) (h : b_X4_gatherSources_22 p1_states_ x4 sourceStart_ x5 = some o1) (K : Sum.elim (fun v : (Nat → Int32) × Int32 => ∀ (H : Heap) (locs : List Loc) (ls : Array Slot), St A D s (RW_X4_gatherSources cy o q_p1 d d_p1 v.1 sources_) H locs → lv_has ls 7 [(0, .ref o), (1, .ref q_p1), (2, .int x2), (3, .int x3), (4, .int x4), (5, .int v.2)] → W p l e rm_X4_gatherSources s m args below meth c H locs 0 0 Q (F0 m 22 ls [])) (fun v : (Nat → Int32) => ∀ (H : Heap) (locs : List Loc) (ls : Array Slot), St A D s (RW_X4_gatherSources cy o q_p1 d d_p1 v sources_) H locs → lv_has ls 7 [(0, .ref o), (1, .ref q_p1), (2, .int x2), (3, .int x3), (4, .int x4)] → W p l e rm_X4_gatherSources s m args below meth c H locs 0 0 Q (F0 m 48 ls [])) o1) : ∀ (H : Heap) (locs : List Loc) (ls : Array Slot), St A D s (RW_X4_gatherSources cy o q_p1 d d_p1 sourceStart_ sources_) H locs → lv_has ls 7 [(0, .ref o), (1, .ref q_p1), (2, .int x2), (3, .int x3), (4, .int x4), (5, .int x5)] → W p l e rm_X4_gatherSources s m args below meth c H locs 0 0 Q (F0 m 22 ls []) := by
  intro H locs ls Z hl
  have hx := X.1.1
  have hb := X.1.2.1
  unfold b_X4_gatherSources_22 at h
  refine lv_iload hx hb dX4_gatherSources_22 (lv_at hl 5 rfl) ?_
  refine lv_aload_n hx hb dX4_gatherSources_24 rfl (lv_at hl 1 rfl) ?_
  refine x_getO X Z 1 2 (v := .int p1_states_) rfl rfl lk_X4_gatherSources_X0_states dX4_gatherSources_25 ?_
  refine lv_icmp_ge (tgt := 48) hx hb dX4_gatherSources_28 (by decide) (fun cnd => ?_) (fun cnd => ?_)
  · replace h := ifp h cnd
    obtain rfl := Option.some.inj h
    exact (sk_r K) H locs ls Z (lv_sub hl [0, 1, 2, 3, 4] rfl)
  · replace h := ifn h cnd
    refine lv_aload_n hx hb dX4_gatherSources_31 rfl (lv_at hl 0 rfl) ?_
    refine x_getO X Z 0 11 (v := .ref (d 11)) rfl rfl lk_X4_gatherSources_X4_sourceStart dX4_gatherSources_32 ?_
    refine lv_iload hx hb dX4_gatherSources_35 (lv_at hl 4 rfl) ?_
    refine lv_iload hx hb dX4_gatherSources_37 (lv_at hl 5 rfl) ?_
    refine lv_iadd hx hb dX4_gatherSources_39 ?_
    refine lv_iconst (v := (0 : Int32)) hx hb dX4_gatherSources_40 (by decide) ?_
    obtain ⟨hin31, sourceStart_32, hv33, h⟩ := st_b h
    refine x_iast X Z 0 (RW_X4_gatherSources cy o q_p1 d d_p1 sourceStart_32 sources_) rfl hin31 hv33 rfl dX4_gatherSources_41 (fun H locs Z => ?_)
    refine lv_iinc (v := (x5 + (1 : Int32))) (lv' := [(5, .int (x5 + (1 : Int32))), (0, .ref o), (1, .ref q_p1), (2, .int x2), (3, .int x3), (4, .int x4)]) hx hb dX4_gatherSources_42 hl (k := 5) rfl rfl (by decide) rfl (fun ls hl => ?_)
    refine lv_goto (tgt := 22) hx hb dX4_gatherSources_45 (by decide) ?_
    obtain rfl := Option.some.inj h
    exact sk_l K H locs ls Z (lv_sub hl [1, 2, 3, 4, 5, 0] rfl)
set_option maxHeartbeats 4000000 in
set_option maxRecDepth 100000 in
theorem wl_X4_gatherSources_22 {p : Program} {l : Launch} {e : Env} {s : State} {m : MethodId} {args : Array Value} {below : List Frame} {meth : Method} {c : Code} {A : Nat → Prop} {Q : State → Prop} {D : va_G} {cy : Nat → ClassId} (o : Nat) (q_p1 : Nat) (d : Nat → Nat) (d_p1 : Nat → Nat) (blocks_ : Int32) (touchedCount_ : Int32) (p1_letters_ : Int32) (p1_states_ : Int32) (p1_next_ : Nat → Int32) (sources_ : Nat → Int32) (x2 : Int32) (x3 : Int32) (x4 : Int32) (n : Nat) (v : (Nat → Int32) × Int32) (x : (Nat → Int32)) (X : Cx p m c cX4_gatherSources 7 s args wsX4_gatherSources RX4 A D cy (RO_X4_gatherSources cy o q_p1 d d_p1 blocks_ touchedCount_ p1_letters_ p1_states_ p1_next_)) (h : loopN (fun v => b_X4_gatherSources_22 p1_states_ x4 v.1 v.2) n v = some x) (K : ∀ (H : Heap) (locs : List Loc) (ls : Array Slot), St A D s (RW_X4_gatherSources cy o q_p1 d d_p1 x sources_) H locs → lv_has ls 7 [(0, .ref o), (1, .ref q_p1), (2, .int x2), (3, .int x3), (4, .int x4)] → W p l e rm_X4_gatherSources s m args below meth c H locs 0 0 Q (F0 m 48 ls [])) : ∀ (H : Heap) (locs : List Loc) (ls : Array Slot), St A D s (RW_X4_gatherSources cy o q_p1 d d_p1 v.1 sources_) H locs → lv_has ls 7 [(0, .ref o), (1, .ref q_p1), (2, .int x2), (3, .int x3), (4, .int x4), (5, .int v.2)] → W p l e rm_X4_gatherSources s m args below meth c H locs 0 0 Q (F0 m 22 ls []) :=
  loop_gen (B := (fun v => b_X4_gatherSources_22 p1_states_ x4 v.1 v.2)) (Head := fun v : (Nat → Int32) × Int32 => ∀ (H : Heap) (locs : List Loc) (ls : Array Slot), St A D s (RW_X4_gatherSources cy o q_p1 d d_p1 v.1 sources_) H locs → lv_has ls 7 [(0, .ref o), (1, .ref q_p1), (2, .int x2), (3, .int x3), (4, .int x4), (5, .int v.2)] → W p l e rm_X4_gatherSources s m args below meth c H locs 0 0 Q (F0 m 22 ls [])) (Exit := fun v : (Nat → Int32) => ∀ (H : Heap) (locs : List Loc) (ls : Array Slot), St A D s (RW_X4_gatherSources cy o q_p1 d d_p1 v sources_) H locs → lv_has ls 7 [(0, .ref o), (1, .ref q_p1), (2, .int x2), (3, .int x3), (4, .int x4)] → W p l e rm_X4_gatherSources s m args below meth c H locs 0 0 Q (F0 m 48 ls [])) (fun v o9 hb1 K1 => wb_X4_gatherSources_22 o q_p1 d d_p1 blocks_ touchedCount_ p1_letters_ p1_states_ p1_next_ sources_ x2 x3 x4 v.1 v.2 o9 X hb1 K1) n v x h K
def b_X4_gatherSources_4 (p1_letters_ : Int32) (p1_states_ : Int32) (p1_next_ : Nat → Int32) (sourceStart_ : Nat → Int32) (sources_ : Nat → Int32) (x2 : Int32) (x3 : Int32) : Option (((Nat → Int32) × (Nat → Int32) × Int32 × Int32) ⊕ ((Nat → Int32) × (Nat → Int32))) :=
  if p1_letters_ ≤ x3 then
  (some (.inr (sourceStart_, sources_)))
  else
  ((loopN (fun v => b_X4_gatherSources_22 p1_states_ (x3 * (2001 : Int32)) v.1 v.2) FU (sourceStart_, (0 : Int32))).bind (fun u34 =>
  (loopN (fun v => b_X4_gatherSources_51 p1_states_ p1_next_ x3 (x3 * (2001 : Int32)) v.1 v.2) FU (u34, (0 : Int32))).bind (fun u36 =>
  (loopN (fun v => b_X4_gatherSources_92 p1_states_ (x3 * (2001 : Int32)) v.1 v.2.1 v.2.2) FU (u36, x2, (0 : Int32))).bind (fun u38 =>
  stA u38.1 6003 ((x3 * (2001 : Int32)) + p1_states_) u38.2 (fun sourceStart_41 =>
  (loopN (fun v => b_X4_gatherSources_147 p1_states_ p1_next_ x3 (x3 * (2001 : Int32)) v.1 v.2.1 v.2.2) FU (sourceStart_41, sources_, (0 : Int32))).bind (fun u43 =>
  some (.inl (u43.1, u43.2, u38.2, (x3 + (1 : Int32))))))))))
set_option maxHeartbeats 4000000 in
set_option maxRecDepth 100000 in
theorem wb_X4_gatherSources_4 {p : Program} {l : Launch} {e : Env} {s : State} {m : MethodId} {args : Array Value} {below : List Frame} {meth : Method} {c : Code} {A : Nat → Prop} {Q : State → Prop} {D : va_G} {cy : Nat → ClassId} (o : Nat) (q_p1 : Nat) (d : Nat → Nat) (d_p1 : Nat → Nat) (blocks_ : Int32) (touchedCount_ : Int32) (p1_letters_ : Int32) (p1_states_ : Int32) (p1_next_ : Nat → Int32)  (sourceStart_ : Nat → Int32) (sources_ : Nat → Int32) (x2 : Int32) (x3 : Int32) (o1 : ((Nat → Int32) × (Nat → Int32) × Int32 × Int32) ⊕ ((Nat → Int32) × (Nat → Int32))) (X : Cx p m c cX4_gatherSources 7 s args wsX4_gatherSources RX4 A D cy (RO_X4_gatherSources cy o q_p1 d d_p1 blocks_ touchedCount_ p1_letters_ p1_states_ p1_next_)) (h : b_X4_gatherSources_4 p1_letters_ p1_states_ p1_next_ sourceStart_ sources_ x2 x3 = some o1) (K : Sum.elim (fun v : (Nat → Int32) × (Nat → Int32) × Int32 × Int32 => ∀ (H : Heap) (locs : List Loc) (ls : Array Slot), St A D s (RW_X4_gatherSources cy o q_p1 d d_p1 v.1 v.2.1) H locs → lv_has ls 7 [(0, .ref o), (1, .ref q_p1), (2, .int v.2.2.1), (3, .int v.2.2.2)] → W p l e rm_X4_gatherSources s m args below meth c H locs 0 0 Q (F0 m 4 ls [])) (fun v : (Nat → Int32) × (Nat → Int32) => ∀ (H : Heap) (locs : List Loc) (ls : Array Slot), St A D s (RW_X4_gatherSources cy o q_p1 d d_p1 v.1 v.2) H locs → lv_has ls 7 [] → W p l e rm_X4_gatherSources s m args below meth c H locs 0 0 Q (F0 m 212 ls [])) o1) : ∀ (H : Heap) (locs : List Loc) (ls : Array Slot), St A D s (RW_X4_gatherSources cy o q_p1 d d_p1 sourceStart_ sources_) H locs → lv_has ls 7 [(0, .ref o), (1, .ref q_p1), (2, .int x2), (3, .int x3)] → W p l e rm_X4_gatherSources s m args below meth c H locs 0 0 Q (F0 m 4 ls []) := by
  intro H locs ls Z hl
  have hx := X.1.1
  have hb := X.1.2.1
  unfold b_X4_gatherSources_4 at h
  refine lv_iload_n hx hb dX4_gatherSources_4 rfl (lv_at hl 3 rfl) ?_
  refine lv_aload_n hx hb dX4_gatherSources_5 rfl (lv_at hl 1 rfl) ?_
  refine x_getO X Z 1 1 (v := .int p1_letters_) rfl rfl lk_X4_gatherSources_X0_letters dX4_gatherSources_6 ?_
  refine lv_icmp_ge (tgt := 212) hx hb dX4_gatherSources_9 (by decide) (fun cnd => ?_) (fun cnd => ?_)
  · replace h := ifp h cnd
    obtain rfl := Option.some.inj h
    exact (sk_r K) H locs ls Z (lv_sub hl [] rfl)
  · replace h := ifn h cnd
    refine lv_iload_n hx hb dX4_gatherSources_12 rfl (lv_at hl 3 rfl) ?_
    refine lv_sipush (v := (2001 : Int32)) hx hb dX4_gatherSources_13 (by decide) ?_
    refine lv_imul hx hb dX4_gatherSources_16 ?_
    refine lv_istore (lv' := [(4, .int (x3 * (2001 : Int32))), (0, .ref o), (1, .ref q_p1), (2, .int x2), (3, .int x3)]) hx hb dX4_gatherSources_17 hl (by decide) rfl (fun ls hl => ?_)
    refine lv_iconst (v := (0 : Int32)) hx hb dX4_gatherSources_19 (by decide) ?_
    refine lv_istore (lv' := [(5, .int (0 : Int32)), (4, .int (x3 * (2001 : Int32))), (0, .ref o), (1, .ref q_p1), (2, .int x2), (3, .int x3)]) hx hb dX4_gatherSources_20 hl (by decide) rfl (fun ls hl => ?_)
    obtain ⟨u34, hL35, h⟩ := ob_some h
    refine wl_X4_gatherSources_22 o q_p1 d d_p1 blocks_ touchedCount_ p1_letters_ p1_states_ p1_next_ sources_ x2 x3 (x3 * (2001 : Int32)) FU (sourceStart_, (0 : Int32)) u34 X hL35 (fun H locs ls Z hl => ?_) H locs ls Z (lv_sub hl [2, 3, 4, 5, 1, 0] rfl)
    refine lv_iconst (v := (0 : Int32)) hx hb dX4_gatherSources_48 (by decide) ?_
    refine lv_istore (lv' := [(5, .int (0 : Int32)), (0, .ref o), (1, .ref q_p1), (2, .int x2), (3, .int x3), (4, .int (x3 * (2001 : Int32)))]) hx hb dX4_gatherSources_49 hl (by decide) rfl (fun ls hl => ?_)
    obtain ⟨u36, hL37, h⟩ := ob_some h
    refine wl_X4_gatherSources_51 o q_p1 d d_p1 blocks_ touchedCount_ p1_letters_ p1_states_ p1_next_ sources_ x2 x3 (x3 * (2001 : Int32)) FU (u34, (0 : Int32)) u36 X hL37 (fun H locs ls Z hl => ?_) H locs ls Z (lv_sub hl [1, 2, 3, 4, 5, 0] rfl)
    refine lv_iconst (v := (0 : Int32)) hx hb dX4_gatherSources_89 (by decide) ?_
    refine lv_istore (lv' := [(5, .int (0 : Int32)), (0, .ref o), (1, .ref q_p1), (2, .int x2), (3, .int x3), (4, .int (x3 * (2001 : Int32)))]) hx hb dX4_gatherSources_90 hl (by decide) rfl (fun ls hl => ?_)
    obtain ⟨u38, hL39, h⟩ := ob_some h
    refine wl_X4_gatherSources_92 o q_p1 d d_p1 blocks_ touchedCount_ p1_letters_ p1_states_ p1_next_ sources_ x3 (x3 * (2001 : Int32)) FU (u36, x2, (0 : Int32)) u38 X hL39 (fun H locs ls Z hl => ?_) H locs ls Z (lv_sub hl [1, 2, 3, 4, 5, 0] rfl)
    refine lv_aload_n hx hb dX4_gatherSources_131 rfl (lv_at hl 0 rfl) ?_
    refine x_getO X Z 0 11 (v := .ref (d 11)) rfl rfl lk_X4_gatherSources_X4_sourceStart dX4_gatherSources_132 ?_
    refine lv_iload hx hb dX4_gatherSources_135 (lv_at hl 4 rfl) ?_
    refine lv_aload_n hx hb dX4_gatherSources_137 rfl (lv_at hl 1 rfl) ?_
    refine x_getO X Z 1 2 (v := .int p1_states_) rfl rfl lk_X4_gatherSources_X0_states dX4_gatherSources_138 ?_
    refine lv_iadd hx hb dX4_gatherSources_141 ?_
    refine lv_iload_n hx hb dX4_gatherSources_142 rfl (lv_at hl 2 rfl) ?_
    obtain ⟨hin40, sourceStart_41, hv42, h⟩ := st_b h
    refine x_iast X Z 0 (RW_X4_gatherSources cy o q_p1 d d_p1 sourceStart_41 sources_) rfl hin40 hv42 rfl dX4_gatherSources_143 (fun H locs Z => ?_)
    refine lv_iconst (v := (0 : Int32)) hx hb dX4_gatherSources_144 (by decide) ?_
    refine lv_istore (lv' := [(5, .int (0 : Int32)), (0, .ref o), (1, .ref q_p1), (2, .int u38.2), (3, .int x3), (4, .int (x3 * (2001 : Int32)))]) hx hb dX4_gatherSources_145 hl (by decide) rfl (fun ls hl => ?_)
    obtain ⟨u43, hL44, h⟩ := ob_some h
    refine wl_X4_gatherSources_147 o q_p1 d d_p1 blocks_ touchedCount_ p1_letters_ p1_states_ p1_next_ u38.2 x3 (x3 * (2001 : Int32)) FU (sourceStart_41, sources_, (0 : Int32)) u43 X hL44 (fun H locs ls Z hl => ?_) H locs ls Z (lv_sub hl [1, 2, 3, 4, 5, 0] rfl)
    refine lv_iinc (v := (x3 + (1 : Int32))) (lv' := [(3, .int (x3 + (1 : Int32))), (0, .ref o), (1, .ref q_p1), (2, .int u38.2)]) hx hb dX4_gatherSources_206 hl (k := 3) rfl rfl (by decide) rfl (fun ls hl => ?_)
    refine lv_goto (tgt := 4) hx hb dX4_gatherSources_209 (by decide) ?_
    obtain rfl := Option.some.inj h
    exact sk_l K H locs ls Z (lv_sub hl [1, 2, 3, 0] rfl)
set_option maxHeartbeats 4000000 in
set_option maxRecDepth 100000 in
theorem wl_X4_gatherSources_4 {p : Program} {l : Launch} {e : Env} {s : State} {m : MethodId} {args : Array Value} {below : List Frame} {meth : Method} {c : Code} {A : Nat → Prop} {Q : State → Prop} {D : va_G} {cy : Nat → ClassId} (o : Nat) (q_p1 : Nat) (d : Nat → Nat) (d_p1 : Nat → Nat) (blocks_ : Int32) (touchedCount_ : Int32) (p1_letters_ : Int32) (p1_states_ : Int32) (p1_next_ : Nat → Int32)  (n : Nat) (v : (Nat → Int32) × (Nat → Int32) × Int32 × Int32) (x : (Nat → Int32) × (Nat → Int32)) (X : Cx p m c cX4_gatherSources 7 s args wsX4_gatherSources RX4 A D cy (RO_X4_gatherSources cy o q_p1 d d_p1 blocks_ touchedCount_ p1_letters_ p1_states_ p1_next_)) (h : loopN (fun v => b_X4_gatherSources_4 p1_letters_ p1_states_ p1_next_ v.1 v.2.1 v.2.2.1 v.2.2.2) n v = some x) (K : ∀ (H : Heap) (locs : List Loc) (ls : Array Slot), St A D s (RW_X4_gatherSources cy o q_p1 d d_p1 x.1 x.2) H locs → lv_has ls 7 [] → W p l e rm_X4_gatherSources s m args below meth c H locs 0 0 Q (F0 m 212 ls [])) : ∀ (H : Heap) (locs : List Loc) (ls : Array Slot), St A D s (RW_X4_gatherSources cy o q_p1 d d_p1 v.1 v.2.1) H locs → lv_has ls 7 [(0, .ref o), (1, .ref q_p1), (2, .int v.2.2.1), (3, .int v.2.2.2)] → W p l e rm_X4_gatherSources s m args below meth c H locs 0 0 Q (F0 m 4 ls []) :=
  loop_gen (B := (fun v => b_X4_gatherSources_4 p1_letters_ p1_states_ p1_next_ v.1 v.2.1 v.2.2.1 v.2.2.2)) (Head := fun v : (Nat → Int32) × (Nat → Int32) × Int32 × Int32 => ∀ (H : Heap) (locs : List Loc) (ls : Array Slot), St A D s (RW_X4_gatherSources cy o q_p1 d d_p1 v.1 v.2.1) H locs → lv_has ls 7 [(0, .ref o), (1, .ref q_p1), (2, .int v.2.2.1), (3, .int v.2.2.2)] → W p l e rm_X4_gatherSources s m args below meth c H locs 0 0 Q (F0 m 4 ls [])) (Exit := fun v : (Nat → Int32) × (Nat → Int32) => ∀ (H : Heap) (locs : List Loc) (ls : Array Slot), St A D s (RW_X4_gatherSources cy o q_p1 d d_p1 v.1 v.2) H locs → lv_has ls 7 [] → W p l e rm_X4_gatherSources s m args below meth c H locs 0 0 Q (F0 m 212 ls [])) (fun v o9 hb1 K1 => wb_X4_gatherSources_4 o q_p1 d d_p1 blocks_ touchedCount_ p1_letters_ p1_states_ p1_next_ v.1 v.2.1 v.2.2.1 v.2.2.2 o9 X hb1 K1) n v x h K
def f_X4_gatherSources (p1_letters_ : Int32) (p1_states_ : Int32) (p1_next_ : Nat → Int32) (sourceStart_ : Nat → Int32) (sources_ : Nat → Int32) : Option ((Nat → Int32) × (Nat → Int32)) :=
  (loopN (fun v => b_X4_gatherSources_4 p1_letters_ p1_states_ p1_next_ v.1 v.2.1 v.2.2.1 v.2.2.2) FU (sourceStart_, sources_, (0 : Int32), (0 : Int32))).bind (fun u45 =>
  some (u45.1, u45.2))
set_option maxHeartbeats 4000000 in
set_option maxRecDepth 100000 in
theorem wt_X4_gatherSources {p : Program} {l : Launch} {e : Env} {s : State} {m : MethodId} {args : Array Value} {below : List Frame} {meth : Method} {c : Code} {A : Nat → Prop} {Q : State → Prop} {D : va_G} {cy : Nat → ClassId} (o : Nat) (q_p1 : Nat) (d : Nat → Nat) (d_p1 : Nat → Nat) (blocks_ : Int32) (touchedCount_ : Int32) (p1_letters_ : Int32) (p1_states_ : Int32) (p1_next_ : Nat → Int32) (sourceStart_ : Nat → Int32) (sources_ : Nat → Int32) (out : (Nat → Int32) × (Nat → Int32)) (X : Cx p m c cX4_gatherSources 7 s args wsX4_gatherSources RX4 A D cy (RO_X4_gatherSources cy o q_p1 d d_p1 blocks_ touchedCount_ p1_letters_ p1_states_ p1_next_)) (h : f_X4_gatherSources p1_letters_ p1_states_ p1_next_ sourceStart_ sources_ = some out) (K : ∀ (H : Heap) (locs : List Loc) (ls : Array Slot) (pc : Nat), decode cX4_gatherSources pc = .ok (.return_, 1) → St A D s (RW_X4_gatherSources cy o q_p1 d d_p1 out.1 out.2) H locs → W p l e rm_X4_gatherSources s m args below meth c H locs 0 0 Q (F0 m pc ls [])) : ∀ (H : Heap) (locs : List Loc) (ls : Array Slot), St A D s (RW_X4_gatherSources cy o q_p1 d d_p1 sourceStart_ sources_) H locs → lv_has ls 7 [(0, .ref o), (1, .ref q_p1)] → W p l e rm_X4_gatherSources s m args below meth c H locs 0 0 Q (F0 m 0 ls []) := by
  intro H locs ls Z hl
  have hx := X.1.1
  have hb := X.1.2.1
  unfold f_X4_gatherSources at h
  refine lv_iconst (v := (0 : Int32)) hx hb dX4_gatherSources_0 (by decide) ?_
  refine lv_istore_n (lv' := [(2, .int (0 : Int32)), (0, .ref o), (1, .ref q_p1)]) hx hb dX4_gatherSources_1 rfl hl (by decide) rfl (fun ls hl => ?_)
  refine lv_iconst (v := (0 : Int32)) hx hb dX4_gatherSources_2 (by decide) ?_
  refine lv_istore_n (lv' := [(3, .int (0 : Int32)), (2, .int (0 : Int32)), (0, .ref o), (1, .ref q_p1)]) hx hb dX4_gatherSources_3 rfl hl (by decide) rfl (fun ls hl => ?_)
  obtain ⟨u45, hL46, h⟩ := ob_some h
  refine wl_X4_gatherSources_4 o q_p1 d d_p1 blocks_ touchedCount_ p1_letters_ p1_states_ p1_next_ FU (sourceStart_, sources_, (0 : Int32), (0 : Int32)) u45 X hL46 (fun H locs ls Z hl => ?_) H locs ls Z (lv_sub hl [2, 3, 1, 0] rfl)
  obtain rfl := Option.some.inj h
  exact K H locs ls _ dX4_gatherSources_212 Z
theorem c_X4_gatherSources (l : Launch) (D : va_G) (cy : Nat → ClassId) (o : Nat) (q_p1 : Nat) (d : Nat → Nat) (d_p1 : Nat → Nat) (blocks_ : Int32) (touchedCount_ : Int32) (p1_letters_ : Int32) (p1_states_ : Int32) (p1_next_ : Nat → Int32) (sourceStart_ : Nat → Int32) (sources_ : Nat → Int32) (out : (Nat → Int32) × (Nat → Int32)) (h : f_X4_gatherSources p1_letters_ p1_states_ p1_next_ sourceStart_ sources_ = some out) : CtV l yX4_gatherSources wsX4_gatherSources rm_X4_gatherSources D cy [.ref o, .ref q_p1] (RW_X4_gatherSources cy o q_p1 d d_p1 sourceStart_ sources_) (RO_X4_gatherSources cy o q_p1 d d_p1 blocks_ touchedCount_ p1_letters_ p1_states_ p1_next_) (RW_X4_gatherSources cy o q_p1 d d_p1 out.1 out.2) :=
  mk_v (by decide) rfl (Nat.le_of_ble_eq_true rfl) (fun p e s m args below meth c A Q X K H locs ls Z hl => wt_X4_gatherSources o q_p1 d d_p1 blocks_ touchedCount_ p1_letters_ p1_states_ p1_next_ sourceStart_ sources_ out X h K H locs ls Z hl)
/-! SubwordCounter$Partition openBlock (II)V -/
abbrev rm_X4_openBlock : Room := { frames := 0, cells := 0, slots := 0, locals := 0 }
def RW_X4_openBlock (cy : Nat → ClassId) (o : Nat) (d : Nat → Nat) (blocks_ : Int32) (touchedCount_ : Int32) (first_ : Nat → Int32) (size_ : Nat → Int32) (marked_ : Nat → Int32) : va_W := [(o, ob 4 (oX4 d blocks_ touchedCount_)), ((d 4), aI cy 2000 first_), ((d 5), aI cy 2000 size_), ((d 6), aI cy 2000 marked_)]
def RO_X4_openBlock (cy : Nat → ClassId) (o : Nat) (d : Nat → Nat)  : va_W := []
theorem in_X4_openBlock_X4 : ∀ w ∈ u_ws RX4 TX4 13, w ∈ wsX4_openBlock := fun w h => (List.mem_cons_of_mem _ (List.mem_append_right _ h))
theorem lk_X4_openBlock_X4_first : Lk wsX4_openBlock RX4 27 4 4 := ⟨RX4, TX4, 13, rfl, by decide, in_X4_openBlock_X4, mem_at 1 rfl⟩
theorem lk_X4_openBlock_X4_blocks : Lk wsX4_openBlock RX4 9 4 0 := ⟨RX4, TX4, 13, rfl, by decide, in_X4_openBlock_X4, mem_at 2 rfl⟩
theorem lk_X4_openBlock_X4_size : Lk wsX4_openBlock RX4 30 4 5 := ⟨RX4, TX4, 13, rfl, by decide, in_X4_openBlock_X4, mem_at 3 rfl⟩
theorem lk_X4_openBlock_X4_marked : Lk wsX4_openBlock RX4 33 4 6 := ⟨RX4, TX4, 13, rfl, by decide, in_X4_openBlock_X4, mem_at 4 rfl⟩
theorem lp_X4_openBlock_X4_blocks : Lp wsX4_openBlock RX4 9 4 0 .int := ⟨RX4, TX4, 13, tyX4, rfl, by decide, in_X4_openBlock_X4, mem_at 2 rfl, tyX4_ok, nmX4, rfl, by decide +kernel⟩
def f_X4_openBlock (x1 : Int32) (x2 : Int32) (blocks_ : Int32) (first_ : Nat → Int32) (size_ : Nat → Int32) (marked_ : Nat → Int32) : Option (Int32 × (Nat → Int32) × (Nat → Int32) × (Nat → Int32)) :=
  stA first_ 2000 blocks_ x1 (fun first_2 =>
  stA size_ 2000 blocks_ x2 (fun size_5 =>
  stA marked_ 2000 blocks_ (0 : Int32) (fun marked_8 =>
  some ((blocks_ + (1 : Int32)), first_2, size_5, marked_8))))
set_option maxHeartbeats 4000000 in
set_option maxRecDepth 100000 in
theorem wt_X4_openBlock {p : Program} {l : Launch} {e : Env} {s : State} {m : MethodId} {args : Array Value} {below : List Frame} {meth : Method} {c : Code} {A : Nat → Prop} {Q : State → Prop} {D : va_G} {cy : Nat → ClassId} (o : Nat) (d : Nat → Nat)  (blocks_ : Int32) (touchedCount_ : Int32) (first_ : Nat → Int32) (size_ : Nat → Int32) (marked_ : Nat → Int32) (x1 : Int32) (x2 : Int32) (out : Int32 × (Nat → Int32) × (Nat → Int32) × (Nat → Int32)) (X : Cx p m c cX4_openBlock 3 s args wsX4_openBlock RX4 A D cy (RO_X4_openBlock cy o d)) (h : f_X4_openBlock x1 x2 blocks_ first_ size_ marked_ = some out) (K : ∀ (H : Heap) (locs : List Loc) (ls : Array Slot) (pc : Nat), decode cX4_openBlock pc = .ok (.return_, 1) → St A D s (RW_X4_openBlock cy o d out.1 touchedCount_ out.2.1 out.2.2.1 out.2.2.2) H locs → W p l e rm_X4_openBlock s m args below meth c H locs 0 0 Q (F0 m pc ls [])) : ∀ (H : Heap) (locs : List Loc) (ls : Array Slot), St A D s (RW_X4_openBlock cy o d blocks_ touchedCount_ first_ size_ marked_) H locs → lv_has ls 3 [(0, .ref o), (1, .int x1), (2, .int x2)] → W p l e rm_X4_openBlock s m args below meth c H locs 0 0 Q (F0 m 0 ls []) := by
  intro H locs ls Z hl
  have hx := X.1.1
  have hb := X.1.2.1
  unfold f_X4_openBlock at h
  refine lv_aload_n hx hb dX4_openBlock_0 rfl (lv_at hl 0 rfl) ?_
  refine x_get X Z 0 4 (v := .ref (d 4)) rfl rfl lk_X4_openBlock_X4_first dX4_openBlock_1 ?_
  refine lv_aload_n hx hb dX4_openBlock_4 rfl (lv_at hl 0 rfl) ?_
  refine x_get X Z 0 0 (v := .int blocks_) rfl rfl lk_X4_openBlock_X4_blocks dX4_openBlock_5 ?_
  refine lv_iload_n hx hb dX4_openBlock_8 rfl (lv_at hl 1 rfl) ?_
  obtain ⟨hin1, first_2, hv3, h⟩ := st_b h
  refine x_iast X Z 1 (RW_X4_openBlock cy o d blocks_ touchedCount_ first_2 size_ marked_) rfl hin1 hv3 rfl dX4_openBlock_9 (fun H locs Z => ?_)
  refine lv_aload_n hx hb dX4_openBlock_10 rfl (lv_at hl 0 rfl) ?_
  refine x_get X Z 0 5 (v := .ref (d 5)) rfl rfl lk_X4_openBlock_X4_size dX4_openBlock_11 ?_
  refine lv_aload_n hx hb dX4_openBlock_14 rfl (lv_at hl 0 rfl) ?_
  refine x_get X Z 0 0 (v := .int blocks_) rfl rfl lk_X4_openBlock_X4_blocks dX4_openBlock_15 ?_
  refine lv_iload_n hx hb dX4_openBlock_18 rfl (lv_at hl 2 rfl) ?_
  obtain ⟨hin4, size_5, hv6, h⟩ := st_b h
  refine x_iast X Z 2 (RW_X4_openBlock cy o d blocks_ touchedCount_ first_2 size_5 marked_) rfl hin4 hv6 rfl dX4_openBlock_19 (fun H locs Z => ?_)
  refine lv_aload_n hx hb dX4_openBlock_20 rfl (lv_at hl 0 rfl) ?_
  refine x_get X Z 0 6 (v := .ref (d 6)) rfl rfl lk_X4_openBlock_X4_marked dX4_openBlock_21 ?_
  refine lv_aload_n hx hb dX4_openBlock_24 rfl (lv_at hl 0 rfl) ?_
  refine x_get X Z 0 0 (v := .int blocks_) rfl rfl lk_X4_openBlock_X4_blocks dX4_openBlock_25 ?_
  refine lv_iconst (v := (0 : Int32)) hx hb dX4_openBlock_28 (by decide) ?_
  obtain ⟨hin7, marked_8, hv9, h⟩ := st_b h
  refine x_iast X Z 3 (RW_X4_openBlock cy o d blocks_ touchedCount_ first_2 size_5 marked_8) rfl hin7 hv9 rfl dX4_openBlock_29 (fun H locs Z => ?_)
  refine lv_aload_n hx hb dX4_openBlock_30 rfl (lv_at hl 0 rfl) ?_
  refine lv_dup hx hb dX4_openBlock_31 rfl ?_
  refine x_get X Z 0 0 (v := .int blocks_) rfl rfl lk_X4_openBlock_X4_blocks dX4_openBlock_32 ?_
  refine lv_iconst (v := (1 : Int32)) hx hb dX4_openBlock_35 (by decide) ?_
  refine lv_iadd hx hb dX4_openBlock_36 ?_
  refine x_put X Z 0 0 (RW_X4_openBlock cy o d (blocks_ + (1 : Int32)) touchedCount_ first_2 size_5 marked_8) rfl lp_X4_openBlock_X4_blocks (Nat.le_of_ble_eq_true rfl) rfl dX4_openBlock_37 (fun H locs Z => ?_)
  obtain rfl := Option.some.inj h
  exact K H locs ls _ dX4_openBlock_40 Z
theorem c_X4_openBlock (l : Launch) (D : va_G) (cy : Nat → ClassId) (o : Nat) (d : Nat → Nat)  (blocks_ : Int32) (touchedCount_ : Int32) (first_ : Nat → Int32) (size_ : Nat → Int32) (marked_ : Nat → Int32) (x1 : Int32) (x2 : Int32) (out : Int32 × (Nat → Int32) × (Nat → Int32) × (Nat → Int32)) (h : f_X4_openBlock x1 x2 blocks_ first_ size_ marked_ = some out) : CtV l yX4_openBlock wsX4_openBlock rm_X4_openBlock D cy [.ref o, .int x1, .int x2] (RW_X4_openBlock cy o d blocks_ touchedCount_ first_ size_ marked_) (RO_X4_openBlock cy o d) (RW_X4_openBlock cy o d out.1 touchedCount_ out.2.1 out.2.2.1 out.2.2.2) :=
  mk_v (by decide) rfl (Nat.le_of_ble_eq_true rfl) (fun p e s m args below meth c A Q X K H locs ls Z hl => wt_X4_openBlock o d blocks_ touchedCount_ first_ size_ marked_ x1 x2 out X h K H locs ls Z hl)
/-! SubwordCounter$Partition groupByMark (LSubwordCounter$Automaton;)V -/
abbrev rm_X4_groupByMark : Room := { frames := 1, cells := 0, slots := 0, locals := 22 }
def RW_X4_groupByMark (cy : Nat → ClassId) (o : Nat) (q_p1 : Nat) (d : Nat → Nat) (d_p1 : Nat → Nat) (blocks_ : Int32) (touchedCount_ : Int32) (members_ : Nat → Int32) (place_ : Nat → Int32) (blockOf_ : Nat → Int32) (first_ : Nat → Int32) (size_ : Nat → Int32) (marked_ : Nat → Int32) : va_W := [(o, ob 4 (oX4 d blocks_ touchedCount_)), ((d 1), aI cy 2000 members_), ((d 2), aI cy 2000 place_), ((d 3), aI cy 2000 blockOf_), ((d 4), aI cy 2000 first_), ((d 5), aI cy 2000 size_), ((d 6), aI cy 2000 marked_)]
def RO_X4_groupByMark (cy : Nat → ClassId) (o : Nat) (q_p1 : Nat) (d : Nat → Nat) (d_p1 : Nat → Nat) (p1_letters_ : Int32) (p1_states_ : Int32) (p1_marks_ : Nat → Int32) : va_W := [(q_p1, ob 0 (oX0 d_p1 p1_letters_ p1_states_)), ((d_p1 4), aI cy 2000 p1_marks_)]
theorem in_X4_groupByMark_X0 : ∀ w ∈ u_ws RX0 TX0 13, w ∈ wsX4_groupByMark := fun w h => (List.mem_cons_of_mem _ (List.mem_append_right _ h))
theorem lk_X4_groupByMark_X0_states : Lk wsX4_groupByMark RX4 77 0 2 := ⟨RX0, TX0, 13, rfl, by decide, in_X4_groupByMark_X0, mem_at 2 rfl⟩
theorem lk_X4_groupByMark_X0_marks : Lk wsX4_groupByMark RX4 80 0 4 := ⟨RX0, TX0, 13, rfl, by decide, in_X4_groupByMark_X0, mem_at 3 rfl⟩
theorem in_X4_groupByMark_X4 : ∀ w ∈ u_ws RX4 TX4 13, w ∈ wsX4_groupByMark := fun w h => (List.mem_cons_of_mem _ (List.mem_append_left _ (List.mem_append_right _ h)))
theorem lk_X4_groupByMark_X4_members : Lk wsX4_groupByMark RX4 17 4 1 := ⟨RX4, TX4, 13, rfl, by decide, in_X4_groupByMark_X4, mem_at 4 rfl⟩
theorem lk_X4_groupByMark_X4_place : Lk wsX4_groupByMark RX4 21 4 2 := ⟨RX4, TX4, 13, rfl, by decide, in_X4_groupByMark_X4, mem_at 5 rfl⟩
theorem lk_X4_groupByMark_X4_blockOf : Lk wsX4_groupByMark RX4 24 4 3 := ⟨RX4, TX4, 13, rfl, by decide, in_X4_groupByMark_X4, mem_at 6 rfl⟩
theorem lk_X4_groupByMark_X4_blocks : Lk wsX4_groupByMark RX4 9 4 0 := ⟨RX4, TX4, 13, rfl, by decide, in_X4_groupByMark_X4, mem_at 1 rfl⟩
theorem lp_X4_groupByMark_X4_blocks : Lp wsX4_groupByMark RX4 9 4 0 .int := ⟨RX4, TX4, 13, tyX4, rfl, by decide, in_X4_groupByMark_X4, mem_at 1 rfl, tyX4_ok, nmX4, rfl, by decide +kernel⟩
def b_X4_groupByMark_21 (p1_states_ : Int32) (p1_marks_ : Nat → Int32) (blocks_ : Int32) (x3 : Int32) (members_ : Nat → Int32) (place_ : Nat → Int32) (blockOf_ : Nat → Int32) (x2 : Int32) (x5 : Int32) : Option (((Nat → Int32) × (Nat → Int32) × (Nat → Int32) × Int32 × Int32) ⊕ ((Nat → Int32) × (Nat → Int32) × (Nat → Int32) × Int32)) :=
  if p1_states_ ≤ x5 then
  (some (.inr (members_, place_, blockOf_, x2)))
  else
  (ldA p1_marks_ 2000 x5 (fun v2 =>
  if v2 = x3 then
  (stA members_ 2000 x2 x5 (fun members_5 =>
  stA place_ 2000 x5 x2 (fun place_8 =>
  stA blockOf_ 2000 x5 blocks_ (fun blockOf_11 =>
  some (.inl (members_5, place_8, blockOf_11, (x2 + (1 : Int32)), (x5 + (1 : Int32))))))))
  else
  (some (.inl (members_, place_, blockOf_, x2, (x5 + (1 : Int32)))))))
set_option maxHeartbeats 4000000 in
set_option maxRecDepth 100000 in
theorem wb_X4_groupByMark_21 {p : Program} {l : Launch} {e : Env} {s : State} {m : MethodId} {args : Array Value} {below : List Frame} {meth : Method} {c : Code} {A : Nat → Prop} {Q : State → Prop} {D : va_G} {cy : Nat → ClassId} (o : Nat) (q_p1 : Nat) (d : Nat → Nat) (d_p1 : Nat → Nat) (p1_letters_ : Int32) (p1_states_ : Int32) (p1_marks_ : Nat → Int32) (blocks_ : Int32) (touchedCount_ : Int32) (first_ : Nat → Int32) (size_ : Nat → Int32) (marked_ : Nat → Int32) (x3 : Int32) (x4 : Int32) (members_ : Nat → Int32) (place_ : Nat → Int32) (blockOf_ : Nat → Int32) (x2 : Int32) (x5 : Int32) (o1 : ((Nat → Int32) × (Nat → Int32) × (Nat → Int32) × Int32 × Int32) ⊕ ((Nat → Int32) × (Nat → Int32) × (Nat → Int32) × Int32)) (X : Cx p m c cX4_groupByMark 6 s args wsX4_groupByMark RX4 A D cy (RO_X4_groupByMark cy o q_p1 d d_p1 p1_letters_ p1_states_ p1_marks_)) (h : b_X4_groupByMark_21 p1_states_ p1_marks_ blocks_ x3 members_ place_ blockOf_ x2 x5 = some o1) (K : Sum.elim (fun v : (Nat → Int32) × (Nat → Int32) × (Nat → Int32) × Int32 × Int32 => ∀ (H : Heap) (locs : List Loc) (ls : Array Slot), St A D s (RW_X4_groupByMark cy o q_p1 d d_p1 blocks_ touchedCount_ v.1 v.2.1 v.2.2.1 first_ size_ marked_) H locs → lv_has ls 6 [(0, .ref o), (1, .ref q_p1), (2, .int v.2.2.2.1), (3, .int x3), (4, .int x4), (5, .int v.2.2.2.2)] → W p l e rm_X4_groupByMark s m args below meth c H locs 0 0 Q (F0 m 21 ls [])) (fun v : (Nat → Int32) × (Nat → Int32) × (Nat → Int32) × Int32 => ∀ (H : Heap) (locs : List Loc) (ls : Array Slot), St A D s (RW_X4_groupByMark cy o q_p1 d d_p1 blocks_ touchedCount_ v.1 v.2.1 v.2.2.1 first_ size_ marked_) H locs → lv_has ls 6 [(0, .ref o), (1, .ref q_p1), (2, .int v.2.2.2), (3, .int x3), (4, .int x4)] → W p l e rm_X4_groupByMark s m args below meth c H locs 0 0 Q (F0 m 77 ls [])) o1) : ∀ (H : Heap) (locs : List Loc) (ls : Array Slot), St A D s (RW_X4_groupByMark cy o q_p1 d d_p1 blocks_ touchedCount_ members_ place_ blockOf_ first_ size_ marked_) H locs → lv_has ls 6 [(0, .ref o), (1, .ref q_p1), (2, .int x2), (3, .int x3), (4, .int x4), (5, .int x5)] → W p l e rm_X4_groupByMark s m args below meth c H locs 0 0 Q (F0 m 21 ls []) := by
  intro H locs ls Z hl
  have hx := X.1.1
  have hb := X.1.2.1
  unfold b_X4_groupByMark_21 at h
  refine lv_iload hx hb dX4_groupByMark_21 (lv_at hl 5 rfl) ?_
  refine lv_aload_n hx hb dX4_groupByMark_23 rfl (lv_at hl 1 rfl) ?_
  refine x_getO X Z 0 2 (v := .int p1_states_) rfl rfl lk_X4_groupByMark_X0_states dX4_groupByMark_24 ?_
  refine lv_icmp_ge (tgt := 77) hx hb dX4_groupByMark_27 (by decide) (fun cnd => ?_) (fun cnd => ?_)
  · replace h := ifp h cnd
    obtain rfl := Option.some.inj h
    exact (sk_r K) H locs ls Z (lv_sub hl [0, 1, 2, 3, 4] rfl)
  · replace h := ifn h cnd
    refine lv_aload_n hx hb dX4_groupByMark_30 rfl (lv_at hl 1 rfl) ?_
    refine x_getO X Z 0 4 (v := .ref (d_p1 4)) rfl rfl lk_X4_groupByMark_X0_marks dX4_groupByMark_31 ?_
    refine lv_iload hx hb dX4_groupByMark_34 (lv_at hl 5 rfl) ?_
    obtain ⟨hin1, v2, hv3, h⟩ := ld_b h
    refine x_ialdO X Z 1 rfl hin1 hv3 dX4_groupByMark_36 ?_
    refine lv_iload_n hx hb dX4_groupByMark_37 rfl (lv_at hl 3 rfl) ?_
    refine lv_icmp_ne (tgt := 71) hx hb dX4_groupByMark_38 (by decide) (fun cnd => ?_) (fun cnd => ?_)
    · replace h := ifn h cnd
      refine lv_iinc (v := (x5 + (1 : Int32))) (lv' := [(5, .int (x5 + (1 : Int32))), (0, .ref o), (1, .ref q_p1), (2, .int x2), (3, .int x3), (4, .int x4)]) hx hb dX4_groupByMark_71 hl (k := 5) rfl rfl (by decide) rfl (fun ls hl => ?_)
      refine lv_goto (tgt := 21) hx hb dX4_groupByMark_74 (by decide) ?_
      obtain rfl := Option.some.inj h
      exact sk_l K H locs ls Z (lv_sub hl [1, 2, 3, 4, 5, 0] rfl)
    · replace h := ifp h cnd
      refine lv_aload_n hx hb dX4_groupByMark_41 rfl (lv_at hl 0 rfl) ?_
      refine x_get X Z 0 1 (v := .ref (d 1)) rfl rfl lk_X4_groupByMark_X4_members dX4_groupByMark_42 ?_
      refine lv_iload_n hx hb dX4_groupByMark_45 rfl (lv_at hl 2 rfl) ?_
      refine lv_iload hx hb dX4_groupByMark_46 (lv_at hl 5 rfl) ?_
      obtain ⟨hin4, members_5, hv6, h⟩ := st_b h
      refine x_iast X Z 1 (RW_X4_groupByMark cy o q_p1 d d_p1 blocks_ touchedCount_ members_5 place_ blockOf_ first_ size_ marked_) rfl hin4 hv6 rfl dX4_groupByMark_48 (fun H locs Z => ?_)
      refine lv_aload_n hx hb dX4_groupByMark_49 rfl (lv_at hl 0 rfl) ?_
      refine x_get X Z 0 2 (v := .ref (d 2)) rfl rfl lk_X4_groupByMark_X4_place dX4_groupByMark_50 ?_
      refine lv_iload hx hb dX4_groupByMark_53 (lv_at hl 5 rfl) ?_
      refine lv_iload_n hx hb dX4_groupByMark_55 rfl (lv_at hl 2 rfl) ?_
      obtain ⟨hin7, place_8, hv9, h⟩ := st_b h
      refine x_iast X Z 2 (RW_X4_groupByMark cy o q_p1 d d_p1 blocks_ touchedCount_ members_5 place_8 blockOf_ first_ size_ marked_) rfl hin7 hv9 rfl dX4_groupByMark_56 (fun H locs Z => ?_)
      refine lv_aload_n hx hb dX4_groupByMark_57 rfl (lv_at hl 0 rfl) ?_
      refine x_get X Z 0 3 (v := .ref (d 3)) rfl rfl lk_X4_groupByMark_X4_blockOf dX4_groupByMark_58 ?_
      refine lv_iload hx hb dX4_groupByMark_61 (lv_at hl 5 rfl) ?_
      refine lv_aload_n hx hb dX4_groupByMark_63 rfl (lv_at hl 0 rfl) ?_
      refine x_get X Z 0 0 (v := .int blocks_) rfl rfl lk_X4_groupByMark_X4_blocks dX4_groupByMark_64 ?_
      obtain ⟨hin10, blockOf_11, hv12, h⟩ := st_b h
      refine x_iast X Z 3 (RW_X4_groupByMark cy o q_p1 d d_p1 blocks_ touchedCount_ members_5 place_8 blockOf_11 first_ size_ marked_) rfl hin10 hv12 rfl dX4_groupByMark_67 (fun H locs Z => ?_)
      refine lv_iinc (v := (x2 + (1 : Int32))) (lv' := [(2, .int (x2 + (1 : Int32))), (0, .ref o), (1, .ref q_p1), (3, .int x3), (4, .int x4), (5, .int x5)]) hx hb dX4_groupByMark_68 hl (k := 2) rfl rfl (by decide) rfl (fun ls hl => ?_)
      refine lv_iinc (v := (x5 + (1 : Int32))) (lv' := [(5, .int (x5 + (1 : Int32))), (2, .int (x2 + (1 : Int32))), (0, .ref o), (1, .ref q_p1), (3, .int x3), (4, .int x4)]) hx hb dX4_groupByMark_71 hl (k := 5) rfl rfl (by decide) rfl (fun ls hl => ?_)
      refine lv_goto (tgt := 21) hx hb dX4_groupByMark_74 (by decide) ?_
      obtain rfl := Option.some.inj h
      exact sk_l K H locs ls Z (lv_sub hl [2, 3, 1, 4, 5, 0] rfl)
set_option maxHeartbeats 4000000 in
set_option maxRecDepth 100000 in
theorem wl_X4_groupByMark_21 {p : Program} {l : Launch} {e : Env} {s : State} {m : MethodId} {args : Array Value} {below : List Frame} {meth : Method} {c : Code} {A : Nat → Prop} {Q : State → Prop} {D : va_G} {cy : Nat → ClassId} (o : Nat) (q_p1 : Nat) (d : Nat → Nat) (d_p1 : Nat → Nat) (p1_letters_ : Int32) (p1_states_ : Int32) (p1_marks_ : Nat → Int32) (blocks_ : Int32) (touchedCount_ : Int32) (first_ : Nat → Int32) (size_ : Nat → Int32) (marked_ : Nat → Int32) (x3 : Int32) (x4 : Int32) (n : Nat) (v : (Nat → Int32) × (Nat → Int32) × (Nat → Int32) × Int32 × Int32) (x : (Nat → Int32) × (Nat → Int32) × (Nat → Int32) × Int32) (X : Cx p m c cX4_groupByMark 6 s args wsX4_groupByMark RX4 A D cy (RO_X4_groupByMark cy o q_p1 d d_p1 p1_letters_ p1_states_ p1_marks_)) (h : loopN (fun v => b_X4_groupByMark_21 p1_states_ p1_marks_ blocks_ x3 v.1 v.2.1 v.2.2.1 v.2.2.2.1 v.2.2.2.2) n v = some x) (K : ∀ (H : Heap) (locs : List Loc) (ls : Array Slot), St A D s (RW_X4_groupByMark cy o q_p1 d d_p1 blocks_ touchedCount_ x.1 x.2.1 x.2.2.1 first_ size_ marked_) H locs → lv_has ls 6 [(0, .ref o), (1, .ref q_p1), (2, .int x.2.2.2), (3, .int x3), (4, .int x4)] → W p l e rm_X4_groupByMark s m args below meth c H locs 0 0 Q (F0 m 77 ls [])) : ∀ (H : Heap) (locs : List Loc) (ls : Array Slot), St A D s (RW_X4_groupByMark cy o q_p1 d d_p1 blocks_ touchedCount_ v.1 v.2.1 v.2.2.1 first_ size_ marked_) H locs → lv_has ls 6 [(0, .ref o), (1, .ref q_p1), (2, .int v.2.2.2.1), (3, .int x3), (4, .int x4), (5, .int v.2.2.2.2)] → W p l e rm_X4_groupByMark s m args below meth c H locs 0 0 Q (F0 m 21 ls []) :=
  loop_gen (B := (fun v => b_X4_groupByMark_21 p1_states_ p1_marks_ blocks_ x3 v.1 v.2.1 v.2.2.1 v.2.2.2.1 v.2.2.2.2)) (Head := fun v : (Nat → Int32) × (Nat → Int32) × (Nat → Int32) × Int32 × Int32 => ∀ (H : Heap) (locs : List Loc) (ls : Array Slot), St A D s (RW_X4_groupByMark cy o q_p1 d d_p1 blocks_ touchedCount_ v.1 v.2.1 v.2.2.1 first_ size_ marked_) H locs → lv_has ls 6 [(0, .ref o), (1, .ref q_p1), (2, .int v.2.2.2.1), (3, .int x3), (4, .int x4), (5, .int v.2.2.2.2)] → W p l e rm_X4_groupByMark s m args below meth c H locs 0 0 Q (F0 m 21 ls [])) (Exit := fun v : (Nat → Int32) × (Nat → Int32) × (Nat → Int32) × Int32 => ∀ (H : Heap) (locs : List Loc) (ls : Array Slot), St A D s (RW_X4_groupByMark cy o q_p1 d d_p1 blocks_ touchedCount_ v.1 v.2.1 v.2.2.1 first_ size_ marked_) H locs → lv_has ls 6 [(0, .ref o), (1, .ref q_p1), (2, .int v.2.2.2), (3, .int x3), (4, .int x4)] → W p l e rm_X4_groupByMark s m args below meth c H locs 0 0 Q (F0 m 77 ls [])) (fun v o9 hb1 K1 => wb_X4_groupByMark_21 o q_p1 d d_p1 p1_letters_ p1_states_ p1_marks_ blocks_ touchedCount_ first_ size_ marked_ x3 x4 v.1 v.2.1 v.2.2.1 v.2.2.2.1 v.2.2.2.2 o9 X hb1 K1) n v x h K
def b_X4_groupByMark_9 (p1_states_ : Int32) (p1_marks_ : Nat → Int32) (blocks_ : Int32) (members_ : Nat → Int32) (place_ : Nat → Int32) (blockOf_ : Nat → Int32) (first_ : Nat → Int32) (size_ : Nat → Int32) (marked_ : Nat → Int32) (x2 : Int32) (x3 : Int32) : Option ((Int32 × (Nat → Int32) × (Nat → Int32) × (Nat → Int32) × (Nat → Int32) × (Nat → Int32) × (Nat → Int32) × Int32 × Int32) ⊕ (Int32 × (Nat → Int32) × (Nat → Int32) × (Nat → Int32) × (Nat → Int32) × (Nat → Int32) × (Nat → Int32))) :=
  if (10 : Int32) ≤ x3 then
  (some (.inr (blocks_, members_, place_, blockOf_, first_, size_, marked_)))
  else
  ((loopN (fun v => b_X4_groupByMark_21 p1_states_ p1_marks_ blocks_ x3 v.1 v.2.1 v.2.2.1 v.2.2.2.1 v.2.2.2.2) FU (members_, place_, blockOf_, x2, (0 : Int32))).bind (fun u13 =>
  if u13.2.2.2 ≤ x2 then
  (some (.inl (blocks_, u13.1, u13.2.1, u13.2.2.1, first_, size_, marked_, u13.2.2.2, (x3 + (1 : Int32)))))
  else
  ((f_X4_openBlock x2 (u13.2.2.2 - x2) blocks_ first_ size_ marked_).bind (fun u15 =>
  some (.inl (u15.1, u13.1, u13.2.1, u13.2.2.1, u15.2.1, u15.2.2.1, u15.2.2.2, u13.2.2.2, (x3 + (1 : Int32))))))))
set_option maxHeartbeats 4000000 in
set_option maxRecDepth 100000 in
theorem wb_X4_groupByMark_9 {p : Program} {l : Launch} {e : Env} {s : State} {m : MethodId} {args : Array Value} {below : List Frame} {meth : Method} {c : Code} {A : Nat → Prop} {Q : State → Prop} {D : va_G} {cy : Nat → ClassId} (o : Nat) (q_p1 : Nat) (d : Nat → Nat) (d_p1 : Nat → Nat) (p1_letters_ : Int32) (p1_states_ : Int32) (p1_marks_ : Nat → Int32) (touchedCount_ : Int32) (blocks_ : Int32) (members_ : Nat → Int32) (place_ : Nat → Int32) (blockOf_ : Nat → Int32) (first_ : Nat → Int32) (size_ : Nat → Int32) (marked_ : Nat → Int32) (x2 : Int32) (x3 : Int32) (o1 : (Int32 × (Nat → Int32) × (Nat → Int32) × (Nat → Int32) × (Nat → Int32) × (Nat → Int32) × (Nat → Int32) × Int32 × Int32) ⊕ (Int32 × (Nat → Int32) × (Nat → Int32) × (Nat → Int32) × (Nat → Int32) × (Nat → Int32) × (Nat → Int32))) (X : Cx p m c cX4_groupByMark 6 s args wsX4_groupByMark RX4 A D cy (RO_X4_groupByMark cy o q_p1 d d_p1 p1_letters_ p1_states_ p1_marks_)) (h : b_X4_groupByMark_9 p1_states_ p1_marks_ blocks_ members_ place_ blockOf_ first_ size_ marked_ x2 x3 = some o1) (K : Sum.elim (fun v : Int32 × (Nat → Int32) × (Nat → Int32) × (Nat → Int32) × (Nat → Int32) × (Nat → Int32) × (Nat → Int32) × Int32 × Int32 => ∀ (H : Heap) (locs : List Loc) (ls : Array Slot), St A D s (RW_X4_groupByMark cy o q_p1 d d_p1 v.1 touchedCount_ v.2.1 v.2.2.1 v.2.2.2.1 v.2.2.2.2.1 v.2.2.2.2.2.1 v.2.2.2.2.2.2.1) H locs → lv_has ls 6 [(0, .ref o), (1, .ref q_p1), (2, .int v.2.2.2.2.2.2.2.1), (3, .int v.2.2.2.2.2.2.2.2)] → W p l e rm_X4_groupByMark s m args below meth c H locs 0 0 Q (F0 m 9 ls [])) (fun v : Int32 × (Nat → Int32) × (Nat → Int32) × (Nat → Int32) × (Nat → Int32) × (Nat → Int32) × (Nat → Int32) => ∀ (H : Heap) (locs : List Loc) (ls : Array Slot), St A D s (RW_X4_groupByMark cy o q_p1 d d_p1 v.1 touchedCount_ v.2.1 v.2.2.1 v.2.2.2.1 v.2.2.2.2.1 v.2.2.2.2.2.1 v.2.2.2.2.2.2) H locs → lv_has ls 6 [] → W p l e rm_X4_groupByMark s m args below meth c H locs 0 0 Q (F0 m 99 ls [])) o1) : ∀ (H : Heap) (locs : List Loc) (ls : Array Slot), St A D s (RW_X4_groupByMark cy o q_p1 d d_p1 blocks_ touchedCount_ members_ place_ blockOf_ first_ size_ marked_) H locs → lv_has ls 6 [(0, .ref o), (1, .ref q_p1), (2, .int x2), (3, .int x3)] → W p l e rm_X4_groupByMark s m args below meth c H locs 0 0 Q (F0 m 9 ls []) := by
  intro H locs ls Z hl
  have hx := X.1.1
  have hb := X.1.2.1
  unfold b_X4_groupByMark_9 at h
  refine lv_iload_n hx hb dX4_groupByMark_9 rfl (lv_at hl 3 rfl) ?_
  refine lv_bipush (v := (10 : Int32)) hx hb dX4_groupByMark_10 (by decide) ?_
  refine lv_icmp_ge (tgt := 99) hx hb dX4_groupByMark_12 (by decide) (fun cnd => ?_) (fun cnd => ?_)
  · replace h := ifp h cnd
    obtain rfl := Option.some.inj h
    exact (sk_r K) H locs ls Z (lv_sub hl [] rfl)
  · replace h := ifn h cnd
    refine lv_iload_n hx hb dX4_groupByMark_15 rfl (lv_at hl 2 rfl) ?_
    refine lv_istore (lv' := [(4, .int x2), (0, .ref o), (1, .ref q_p1), (2, .int x2), (3, .int x3)]) hx hb dX4_groupByMark_16 hl (by decide) rfl (fun ls hl => ?_)
    refine lv_iconst (v := (0 : Int32)) hx hb dX4_groupByMark_18 (by decide) ?_
    refine lv_istore (lv' := [(5, .int (0 : Int32)), (4, .int x2), (0, .ref o), (1, .ref q_p1), (2, .int x2), (3, .int x3)]) hx hb dX4_groupByMark_19 hl (by decide) rfl (fun ls hl => ?_)
    obtain ⟨u13, hL14, h⟩ := ob_some h
    refine wl_X4_groupByMark_21 o q_p1 d d_p1 p1_letters_ p1_states_ p1_marks_ blocks_ touchedCount_ first_ size_ marked_ x3 x2 FU (members_, place_, blockOf_, x2, (0 : Int32)) u13 X hL14 (fun H locs ls Z hl => ?_) H locs ls Z (lv_sub hl [2, 3, 4, 5, 1, 0] rfl)
    refine lv_iload_n hx hb dX4_groupByMark_77 rfl (lv_at hl 2 rfl) ?_
    refine lv_iload hx hb dX4_groupByMark_78 (lv_at hl 4 rfl) ?_
    refine lv_icmp_le (tgt := 93) hx hb dX4_groupByMark_80 (by decide) (fun cnd => ?_) (fun cnd => ?_)
    · replace h := ifp h cnd
      refine lv_iinc (v := (x3 + (1 : Int32))) (lv' := [(3, .int (x3 + (1 : Int32))), (0, .ref o), (1, .ref q_p1), (2, .int u13.2.2.2), (4, .int x2)]) hx hb dX4_groupByMark_93 hl (k := 3) rfl rfl (by decide) rfl (fun ls hl => ?_)
      refine lv_goto (tgt := 9) hx hb dX4_groupByMark_96 (by decide) ?_
      obtain rfl := Option.some.inj h
      exact sk_l K H locs ls Z (lv_sub hl [1, 2, 3, 0] rfl)
    · replace h := ifn h cnd
      refine lv_aload_n hx hb dX4_groupByMark_83 rfl (lv_at hl 0 rfl) ?_
      refine lv_iload hx hb dX4_groupByMark_84 (lv_at hl 4 rfl) ?_
      refine lv_iload_n hx hb dX4_groupByMark_86 rfl (lv_at hl 2 rfl) ?_
      refine lv_iload hx hb dX4_groupByMark_87 (lv_at hl 4 rfl) ?_
      refine lv_isub hx hb dX4_groupByMark_89 ?_
      obtain ⟨u15, hc16, h⟩ := ob_some h
      refine x_runVv (RW' := (RW_X4_groupByMark cy o q_p1 d d_p1 u15.1 touchedCount_ u13.1 u13.2.1 u13.2.2.1 u15.2.1 u15.2.2.1 u15.2.2.2)) (wr := [((d 1), aI cy 2000 u13.1), ((d 2), aI cy 2000 u13.2.1), ((d 3), aI cy 2000 u13.2.2.1)]) (isC := [0, 4, 5, 6]) (isR := [1, 2, 3]) (isF := [3, 0, 1, 2, 4, 5, 6]) (rest := []) (As := [.int x2, .int (u13.2.2.2 - x2)]) (n := 2) X Z (c_X4_openBlock l D cy o d blocks_ touchedCount_ first_ size_ marked_ x2 (u13.2.2.2 - x2) u15 hc16) gX4_groupByMark_X4_openBlock rfl (by decide +kernel) ⟨Nat.le_of_ble_eq_true rfl, Nat.le_of_ble_eq_true rfl⟩ ⟨rfl, rfl⟩ ⟨Nat.le_of_ble_eq_true rfl, Nat.le_of_ble_eq_true rfl⟩ (x_rv X Z 0 rfl rfl) ⟨rfl, rfl, roN, rfl, rfl, by decide⟩ ⟨rfl, rfl⟩ rfl hl.1 rfl (Nat.le_of_ble_eq_true rfl) dX4_groupByMark_90 (fun H locs Z => ?_)
      refine lv_iinc (v := (x3 + (1 : Int32))) (lv' := [(3, .int (x3 + (1 : Int32))), (0, .ref o), (1, .ref q_p1), (2, .int u13.2.2.2), (4, .int x2)]) hx hb dX4_groupByMark_93 hl (k := 3) rfl rfl (by decide) rfl (fun ls hl => ?_)
      refine lv_goto (tgt := 9) hx hb dX4_groupByMark_96 (by decide) ?_
      obtain rfl := Option.some.inj h
      exact sk_l K H locs ls Z (lv_sub hl [1, 2, 3, 0] rfl)
set_option maxHeartbeats 4000000 in
set_option maxRecDepth 100000 in
theorem wl_X4_groupByMark_9 {p : Program} {l : Launch} {e : Env} {s : State} {m : MethodId} {args : Array Value} {below : List Frame} {meth : Method} {c : Code} {A : Nat → Prop} {Q : State → Prop} {D : va_G} {cy : Nat → ClassId} (o : Nat) (q_p1 : Nat) (d : Nat → Nat) (d_p1 : Nat → Nat) (p1_letters_ : Int32) (p1_states_ : Int32) (p1_marks_ : Nat → Int32) (touchedCount_ : Int32) (n : Nat) (v : Int32 × (Nat → Int32) × (Nat → Int32) × (Nat → Int32) × (Nat → Int32) × (Nat → Int32) × (Nat → Int32) × Int32 × Int32) (x : Int32 × (Nat → Int32) × (Nat → Int32) × (Nat → Int32) × (Nat → Int32) × (Nat → Int32) × (Nat → Int32)) (X : Cx p m c cX4_groupByMark 6 s args wsX4_groupByMark RX4 A D cy (RO_X4_groupByMark cy o q_p1 d d_p1 p1_letters_ p1_states_ p1_marks_)) (h : loopN (fun v => b_X4_groupByMark_9 p1_states_ p1_marks_ v.1 v.2.1 v.2.2.1 v.2.2.2.1 v.2.2.2.2.1 v.2.2.2.2.2.1 v.2.2.2.2.2.2.1 v.2.2.2.2.2.2.2.1 v.2.2.2.2.2.2.2.2) n v = some x) (K : ∀ (H : Heap) (locs : List Loc) (ls : Array Slot), St A D s (RW_X4_groupByMark cy o q_p1 d d_p1 x.1 touchedCount_ x.2.1 x.2.2.1 x.2.2.2.1 x.2.2.2.2.1 x.2.2.2.2.2.1 x.2.2.2.2.2.2) H locs → lv_has ls 6 [] → W p l e rm_X4_groupByMark s m args below meth c H locs 0 0 Q (F0 m 99 ls [])) : ∀ (H : Heap) (locs : List Loc) (ls : Array Slot), St A D s (RW_X4_groupByMark cy o q_p1 d d_p1 v.1 touchedCount_ v.2.1 v.2.2.1 v.2.2.2.1 v.2.2.2.2.1 v.2.2.2.2.2.1 v.2.2.2.2.2.2.1) H locs → lv_has ls 6 [(0, .ref o), (1, .ref q_p1), (2, .int v.2.2.2.2.2.2.2.1), (3, .int v.2.2.2.2.2.2.2.2)] → W p l e rm_X4_groupByMark s m args below meth c H locs 0 0 Q (F0 m 9 ls []) :=
  loop_gen (B := (fun v => b_X4_groupByMark_9 p1_states_ p1_marks_ v.1 v.2.1 v.2.2.1 v.2.2.2.1 v.2.2.2.2.1 v.2.2.2.2.2.1 v.2.2.2.2.2.2.1 v.2.2.2.2.2.2.2.1 v.2.2.2.2.2.2.2.2)) (Head := fun v : Int32 × (Nat → Int32) × (Nat → Int32) × (Nat → Int32) × (Nat → Int32) × (Nat → Int32) × (Nat → Int32) × Int32 × Int32 => ∀ (H : Heap) (locs : List Loc) (ls : Array Slot), St A D s (RW_X4_groupByMark cy o q_p1 d d_p1 v.1 touchedCount_ v.2.1 v.2.2.1 v.2.2.2.1 v.2.2.2.2.1 v.2.2.2.2.2.1 v.2.2.2.2.2.2.1) H locs → lv_has ls 6 [(0, .ref o), (1, .ref q_p1), (2, .int v.2.2.2.2.2.2.2.1), (3, .int v.2.2.2.2.2.2.2.2)] → W p l e rm_X4_groupByMark s m args below meth c H locs 0 0 Q (F0 m 9 ls [])) (Exit := fun v : Int32 × (Nat → Int32) × (Nat → Int32) × (Nat → Int32) × (Nat → Int32) × (Nat → Int32) × (Nat → Int32) => ∀ (H : Heap) (locs : List Loc) (ls : Array Slot), St A D s (RW_X4_groupByMark cy o q_p1 d d_p1 v.1 touchedCount_ v.2.1 v.2.2.1 v.2.2.2.1 v.2.2.2.2.1 v.2.2.2.2.2.1 v.2.2.2.2.2.2) H locs → lv_has ls 6 [] → W p l e rm_X4_groupByMark s m args below meth c H locs 0 0 Q (F0 m 99 ls [])) (fun v o9 hb1 K1 => wb_X4_groupByMark_9 o q_p1 d d_p1 p1_letters_ p1_states_ p1_marks_ touchedCount_ v.1 v.2.1 v.2.2.1 v.2.2.2.1 v.2.2.2.2.1 v.2.2.2.2.2.1 v.2.2.2.2.2.2.1 v.2.2.2.2.2.2.2.1 v.2.2.2.2.2.2.2.2 o9 X hb1 K1) n v x h K
def f_X4_groupByMark (p1_states_ : Int32) (p1_marks_ : Nat → Int32) (blocks_ : Int32) (members_ : Nat → Int32) (place_ : Nat → Int32) (blockOf_ : Nat → Int32) (first_ : Nat → Int32) (size_ : Nat → Int32) (marked_ : Nat → Int32) : Option (Int32 × (Nat → Int32) × (Nat → Int32) × (Nat → Int32) × (Nat → Int32) × (Nat → Int32) × (Nat → Int32)) :=
  (loopN (fun v => b_X4_groupByMark_9 p1_states_ p1_marks_ v.1 v.2.1 v.2.2.1 v.2.2.2.1 v.2.2.2.2.1 v.2.2.2.2.2.1 v.2.2.2.2.2.2.1 v.2.2.2.2.2.2.2.1 v.2.2.2.2.2.2.2.2) FU ((0 : Int32), members_, place_, blockOf_, first_, size_, marked_, (0 : Int32), (0 : Int32))).bind (fun u17 =>
  some (u17.1, u17.2.1, u17.2.2.1, u17.2.2.2.1, u17.2.2.2.2.1, u17.2.2.2.2.2.1, u17.2.2.2.2.2.2))
set_option maxHeartbeats 4000000 in
set_option maxRecDepth 100000 in
theorem wt_X4_groupByMark {p : Program} {l : Launch} {e : Env} {s : State} {m : MethodId} {args : Array Value} {below : List Frame} {meth : Method} {c : Code} {A : Nat → Prop} {Q : State → Prop} {D : va_G} {cy : Nat → ClassId} (o : Nat) (q_p1 : Nat) (d : Nat → Nat) (d_p1 : Nat → Nat) (p1_letters_ : Int32) (p1_states_ : Int32) (p1_marks_ : Nat → Int32) (blocks_ : Int32) (touchedCount_ : Int32) (members_ : Nat → Int32) (place_ : Nat → Int32) (blockOf_ : Nat → Int32) (first_ : Nat → Int32) (size_ : Nat → Int32) (marked_ : Nat → Int32) (out : Int32 × (Nat → Int32) × (Nat → Int32) × (Nat → Int32) × (Nat → Int32) × (Nat → Int32) × (Nat → Int32)) (X : Cx p m c cX4_groupByMark 6 s args wsX4_groupByMark RX4 A D cy (RO_X4_groupByMark cy o q_p1 d d_p1 p1_letters_ p1_states_ p1_marks_)) (h : f_X4_groupByMark p1_states_ p1_marks_ blocks_ members_ place_ blockOf_ first_ size_ marked_ = some out) (K : ∀ (H : Heap) (locs : List Loc) (ls : Array Slot) (pc : Nat), decode cX4_groupByMark pc = .ok (.return_, 1) → St A D s (RW_X4_groupByMark cy o q_p1 d d_p1 out.1 touchedCount_ out.2.1 out.2.2.1 out.2.2.2.1 out.2.2.2.2.1 out.2.2.2.2.2.1 out.2.2.2.2.2.2) H locs → W p l e rm_X4_groupByMark s m args below meth c H locs 0 0 Q (F0 m pc ls [])) : ∀ (H : Heap) (locs : List Loc) (ls : Array Slot), St A D s (RW_X4_groupByMark cy o q_p1 d d_p1 blocks_ touchedCount_ members_ place_ blockOf_ first_ size_ marked_) H locs → lv_has ls 6 [(0, .ref o), (1, .ref q_p1)] → W p l e rm_X4_groupByMark s m args below meth c H locs 0 0 Q (F0 m 0 ls []) := by
  intro H locs ls Z hl
  have hx := X.1.1
  have hb := X.1.2.1
  unfold f_X4_groupByMark at h
  refine lv_aload_n hx hb dX4_groupByMark_0 rfl (lv_at hl 0 rfl) ?_
  refine lv_iconst (v := (0 : Int32)) hx hb dX4_groupByMark_1 (by decide) ?_
  refine x_put X Z 0 0 (RW_X4_groupByMark cy o q_p1 d d_p1 (0 : Int32) touchedCount_ members_ place_ blockOf_ first_ size_ marked_) rfl lp_X4_groupByMark_X4_blocks (Nat.le_of_ble_eq_true rfl) rfl dX4_groupByMark_2 (fun H locs Z => ?_)
  refine lv_iconst (v := (0 : Int32)) hx hb dX4_groupByMark_5 (by decide) ?_
  refine lv_istore_n (lv' := [(2, .int (0 : Int32)), (0, .ref o), (1, .ref q_p1)]) hx hb dX4_groupByMark_6 rfl hl (by decide) rfl (fun ls hl => ?_)
  refine lv_iconst (v := (0 : Int32)) hx hb dX4_groupByMark_7 (by decide) ?_
  refine lv_istore_n (lv' := [(3, .int (0 : Int32)), (2, .int (0 : Int32)), (0, .ref o), (1, .ref q_p1)]) hx hb dX4_groupByMark_8 rfl hl (by decide) rfl (fun ls hl => ?_)
  obtain ⟨u17, hL18, h⟩ := ob_some h
  refine wl_X4_groupByMark_9 o q_p1 d d_p1 p1_letters_ p1_states_ p1_marks_ touchedCount_ FU ((0 : Int32), members_, place_, blockOf_, first_, size_, marked_, (0 : Int32), (0 : Int32)) u17 X hL18 (fun H locs ls Z hl => ?_) H locs ls Z (lv_sub hl [2, 3, 1, 0] rfl)
  obtain rfl := Option.some.inj h
  exact K H locs ls _ dX4_groupByMark_99 Z
theorem c_X4_groupByMark (l : Launch) (D : va_G) (cy : Nat → ClassId) (o : Nat) (q_p1 : Nat) (d : Nat → Nat) (d_p1 : Nat → Nat) (p1_letters_ : Int32) (p1_states_ : Int32) (p1_marks_ : Nat → Int32) (blocks_ : Int32) (touchedCount_ : Int32) (members_ : Nat → Int32) (place_ : Nat → Int32) (blockOf_ : Nat → Int32) (first_ : Nat → Int32) (size_ : Nat → Int32) (marked_ : Nat → Int32) (out : Int32 × (Nat → Int32) × (Nat → Int32) × (Nat → Int32) × (Nat → Int32) × (Nat → Int32) × (Nat → Int32)) (h : f_X4_groupByMark p1_states_ p1_marks_ blocks_ members_ place_ blockOf_ first_ size_ marked_ = some out) : CtV l yX4_groupByMark wsX4_groupByMark rm_X4_groupByMark D cy [.ref o, .ref q_p1] (RW_X4_groupByMark cy o q_p1 d d_p1 blocks_ touchedCount_ members_ place_ blockOf_ first_ size_ marked_) (RO_X4_groupByMark cy o q_p1 d d_p1 p1_letters_ p1_states_ p1_marks_) (RW_X4_groupByMark cy o q_p1 d d_p1 out.1 touchedCount_ out.2.1 out.2.2.1 out.2.2.2.1 out.2.2.2.2.1 out.2.2.2.2.2.1 out.2.2.2.2.2.2) :=
  mk_v (by decide) rfl (Nat.le_of_ble_eq_true rfl) (fun p e s m args below meth c A Q X K H locs ls Z hl => wt_X4_groupByMark o q_p1 d d_p1 p1_letters_ p1_states_ p1_marks_ blocks_ touchedCount_ members_ place_ blockOf_ first_ size_ marked_ out X h K H locs ls Z hl)
/-! SubwordCounter$Partition mark (I)V -/
abbrev rm_X4_mark : Room := { frames := 0, cells := 0, slots := 0, locals := 0 }
def RW_X4_mark (cy : Nat → ClassId) (o : Nat) (d : Nat → Nat) (blocks_ : Int32) (touchedCount_ : Int32) (members_ : Nat → Int32) (place_ : Nat → Int32) (marked_ : Nat → Int32) (touched_ : Nat → Int32) : va_W := [(o, ob 4 (oX4 d blocks_ touchedCount_)), ((d 1), aI cy 2000 members_), ((d 2), aI cy 2000 place_), ((d 6), aI cy 2000 marked_), ((d 7), aI cy 2000 touched_)]
def RO_X4_mark (cy : Nat → ClassId) (o : Nat) (d : Nat → Nat) (blockOf_ : Nat → Int32) (first_ : Nat → Int32) : va_W := [((d 3), aI cy 2000 blockOf_), ((d 4), aI cy 2000 first_)]
theorem in_X4_mark_X4 : ∀ w ∈ u_ws RX4 TX4 13, w ∈ wsX4_mark := fun w h => (List.mem_cons_of_mem _ (List.mem_append_right _ h))
theorem lk_X4_mark_X4_marked : Lk wsX4_mark RX4 33 4 6 := ⟨RX4, TX4, 13, rfl, by decide, in_X4_mark_X4, mem_at 3 rfl⟩
theorem lk_X4_mark_X4_blockOf : Lk wsX4_mark RX4 24 4 3 := ⟨RX4, TX4, 13, rfl, by decide, in_X4_mark_X4, mem_at 1 rfl⟩
theorem lk_X4_mark_X4_first : Lk wsX4_mark RX4 27 4 4 := ⟨RX4, TX4, 13, rfl, by decide, in_X4_mark_X4, mem_at 2 rfl⟩
theorem lk_X4_mark_X4_place : Lk wsX4_mark RX4 21 4 2 := ⟨RX4, TX4, 13, rfl, by decide, in_X4_mark_X4, mem_at 4 rfl⟩
theorem lk_X4_mark_X4_members : Lk wsX4_mark RX4 17 4 1 := ⟨RX4, TX4, 13, rfl, by decide, in_X4_mark_X4, mem_at 5 rfl⟩
theorem lk_X4_mark_X4_touched : Lk wsX4_mark RX4 36 4 7 := ⟨RX4, TX4, 13, rfl, by decide, in_X4_mark_X4, mem_at 6 rfl⟩
theorem lk_X4_mark_X4_touchedCount : Lk wsX4_mark RX4 39 4 8 := ⟨RX4, TX4, 13, rfl, by decide, in_X4_mark_X4, mem_at 7 rfl⟩
theorem lp_X4_mark_X4_touchedCount : Lp wsX4_mark RX4 39 4 8 .int := ⟨RX4, TX4, 13, tyX4, rfl, by decide, in_X4_mark_X4, mem_at 7 rfl, tyX4_ok, nmX4, rfl, by decide +kernel⟩
def j_X4_mark_105 (touchedCount_ : Int32) (members_ : Nat → Int32) (place_ : Nat → Int32) (marked_ : Nat → Int32) (touched_ : Nat → Int32) (x2 : Int32) : Option (Int32 × (Nat → Int32) × (Nat → Int32) × (Nat → Int32) × (Nat → Int32)) :=
  ldA marked_ 2000 x2 (fun v2 =>
  stA marked_ 2000 x2 (v2 + (1 : Int32)) (fun marked_5 =>
  some (touchedCount_, members_, place_, marked_5, touched_)))
set_option maxHeartbeats 4000000 in
set_option maxRecDepth 100000 in
theorem jw_X4_mark_105 {p : Program} {l : Launch} {e : Env} {s : State} {m : MethodId} {args : Array Value} {below : List Frame} {meth : Method} {c : Code} {A : Nat → Prop} {Q : State → Prop} {D : va_G} {cy : Nat → ClassId} (o : Nat) (d : Nat → Nat) (blockOf_ : Nat → Int32) (first_ : Nat → Int32) (blocks_ : Int32) (touchedCount_ : Int32) (members_ : Nat → Int32) (place_ : Nat → Int32) (marked_ : Nat → Int32) (touched_ : Nat → Int32) (x2 : Int32) (out : Int32 × (Nat → Int32) × (Nat → Int32) × (Nat → Int32) × (Nat → Int32)) (X : Cx p m c cX4_mark 6 s args wsX4_mark RX4 A D cy (RO_X4_mark cy o d blockOf_ first_)) (h : j_X4_mark_105 touchedCount_ members_ place_ marked_ touched_ x2 = some out) (K : ∀ (H : Heap) (locs : List Loc) (ls : Array Slot) (pc : Nat), decode cX4_mark pc = .ok (.return_, 1) → St A D s (RW_X4_mark cy o d blocks_ out.1 out.2.1 out.2.2.1 out.2.2.2.1 out.2.2.2.2) H locs → W p l e rm_X4_mark s m args below meth c H locs 0 0 Q (F0 m pc ls [])) : ∀ (H : Heap) (locs : List Loc) (ls : Array Slot), St A D s (RW_X4_mark cy o d blocks_ touchedCount_ members_ place_ marked_ touched_) H locs → lv_has ls 6 [(0, .ref o), (2, .int x2)] → W p l e rm_X4_mark s m args below meth c H locs 0 0 Q (F0 m 105 ls []) := by
  intro H locs ls Z hl
  have hx := X.1.1
  have hb := X.1.2.1
  unfold j_X4_mark_105 at h
  refine lv_aload_n hx hb dX4_mark_105 rfl (lv_at hl 0 rfl) ?_
  refine x_get X Z 0 6 (v := .ref (d 6)) rfl rfl lk_X4_mark_X4_marked dX4_mark_106 ?_
  refine lv_iload_n hx hb dX4_mark_109 rfl (lv_at hl 1 rfl) ?_
  refine lv_dup2_11 hx hb dX4_mark_110 rfl rfl ?_
  obtain ⟨hin1, v2, hv3, h⟩ := ld_b h
  refine x_iald X Z 3 rfl hin1 hv3 dX4_mark_111 ?_
  refine lv_iconst (v := (1 : Int32)) hx hb dX4_mark_112 (by decide) ?_
  refine lv_iadd hx hb dX4_mark_113 ?_
  obtain ⟨hin4, marked_5, hv6, h⟩ := st_b h
  refine x_iast X Z 3 (RW_X4_mark cy o d blocks_ touchedCount_ members_ place_ marked_5 touched_) rfl hin4 hv6 rfl dX4_mark_114 (fun H locs Z => ?_)
  obtain rfl := Option.some.inj h
  exact K H locs ls _ dX4_mark_115 Z
def f_X4_mark (x1 : Int32) (blockOf_ : Nat → Int32) (first_ : Nat → Int32) (touchedCount_ : Int32) (members_ : Nat → Int32) (place_ : Nat → Int32) (marked_ : Nat → Int32) (touched_ : Nat → Int32) : Option (Int32 × (Nat → Int32) × (Nat → Int32) × (Nat → Int32) × (Nat → Int32)) :=
  ldA blockOf_ 2000 x1 (fun v8 =>
  ldA first_ 2000 v8 (fun v11 =>
  ldA marked_ 2000 v8 (fun v14 =>
  ldA place_ 2000 x1 (fun v17 =>
  if (v11 + v14) ≤ v17 then
  (ldA members_ 2000 (v11 + v14) (fun v20 =>
  stA members_ 2000 (v11 + v14) x1 (fun members_23 =>
  stA place_ 2000 x1 (v11 + v14) (fun place_26 =>
  stA members_23 2000 v17 v20 (fun members_29 =>
  stA place_26 2000 v20 v17 (fun place_32 =>
  ldA marked_ 2000 v8 (fun v35 =>
  if v35 = 0 then
  (stA touched_ 2000 touchedCount_ v8 (fun touched_38 =>
  j_X4_mark_105 (touchedCount_ + (1 : Int32)) members_29 place_32 marked_ touched_38 v8))
  else
  (j_X4_mark_105 touchedCount_ members_29 place_32 marked_ touched_ v8))))))))
  else
  (some (touchedCount_, members_, place_, marked_, touched_))))))
set_option maxHeartbeats 4000000 in
set_option maxRecDepth 100000 in
theorem wt_X4_mark {p : Program} {l : Launch} {e : Env} {s : State} {m : MethodId} {args : Array Value} {below : List Frame} {meth : Method} {c : Code} {A : Nat → Prop} {Q : State → Prop} {D : va_G} {cy : Nat → ClassId} (o : Nat) (d : Nat → Nat) (blockOf_ : Nat → Int32) (first_ : Nat → Int32) (blocks_ : Int32) (touchedCount_ : Int32) (members_ : Nat → Int32) (place_ : Nat → Int32) (marked_ : Nat → Int32) (touched_ : Nat → Int32) (x1 : Int32) (out : Int32 × (Nat → Int32) × (Nat → Int32) × (Nat → Int32) × (Nat → Int32)) (X : Cx p m c cX4_mark 6 s args wsX4_mark RX4 A D cy (RO_X4_mark cy o d blockOf_ first_)) (h : f_X4_mark x1 blockOf_ first_ touchedCount_ members_ place_ marked_ touched_ = some out) (K : ∀ (H : Heap) (locs : List Loc) (ls : Array Slot) (pc : Nat), decode cX4_mark pc = .ok (.return_, 1) → St A D s (RW_X4_mark cy o d blocks_ out.1 out.2.1 out.2.2.1 out.2.2.2.1 out.2.2.2.2) H locs → W p l e rm_X4_mark s m args below meth c H locs 0 0 Q (F0 m pc ls [])) : ∀ (H : Heap) (locs : List Loc) (ls : Array Slot), St A D s (RW_X4_mark cy o d blocks_ touchedCount_ members_ place_ marked_ touched_) H locs → lv_has ls 6 [(0, .ref o), (1, .int x1)] → W p l e rm_X4_mark s m args below meth c H locs 0 0 Q (F0 m 0 ls []) := by
  intro H locs ls Z hl
  have hx := X.1.1
  have hb := X.1.2.1
  unfold f_X4_mark at h
  refine lv_aload_n hx hb dX4_mark_0 rfl (lv_at hl 0 rfl) ?_
  refine x_get X Z 0 3 (v := .ref (d 3)) rfl rfl lk_X4_mark_X4_blockOf dX4_mark_1 ?_
  refine lv_iload_n hx hb dX4_mark_4 rfl (lv_at hl 1 rfl) ?_
  obtain ⟨hin7, v8, hv9, h⟩ := ld_b h
  refine x_ialdO X Z 0 rfl hin7 hv9 dX4_mark_5 ?_
  refine lv_istore_n (lv' := [(2, .int v8), (0, .ref o), (1, .int x1)]) hx hb dX4_mark_6 rfl hl (by decide) rfl (fun ls hl => ?_)
  refine lv_aload_n hx hb dX4_mark_7 rfl (lv_at hl 1 rfl) ?_
  refine x_get X Z 0 4 (v := .ref (d 4)) rfl rfl lk_X4_mark_X4_first dX4_mark_8 ?_
  refine lv_iload_n hx hb dX4_mark_11 rfl (lv_at hl 0 rfl) ?_
  obtain ⟨hin10, v11, hv12, h⟩ := ld_b h
  refine x_ialdO X Z 1 rfl hin10 hv12 dX4_mark_12 ?_
  refine lv_aload_n hx hb dX4_mark_13 rfl (lv_at hl 1 rfl) ?_
  refine x_get X Z 0 6 (v := .ref (d 6)) rfl rfl lk_X4_mark_X4_marked dX4_mark_14 ?_
  refine lv_iload_n hx hb dX4_mark_17 rfl (lv_at hl 0 rfl) ?_
  obtain ⟨hin13, v14, hv15, h⟩ := ld_b h
  refine x_iald X Z 3 rfl hin13 hv15 dX4_mark_18 ?_
  refine lv_iadd hx hb dX4_mark_19 ?_
  refine lv_istore_n (lv' := [(3, .int (v11 + v14)), (2, .int v8), (0, .ref o), (1, .int x1)]) hx hb dX4_mark_20 rfl hl (by decide) rfl (fun ls hl => ?_)
  refine lv_aload_n hx hb dX4_mark_21 rfl (lv_at hl 2 rfl) ?_
  refine x_get X Z 0 2 (v := .ref (d 2)) rfl rfl lk_X4_mark_X4_place dX4_mark_22 ?_
  refine lv_iload_n hx hb dX4_mark_25 rfl (lv_at hl 3 rfl) ?_
  obtain ⟨hin16, v17, hv18, h⟩ := ld_b h
  refine x_iald X Z 2 rfl hin16 hv18 dX4_mark_26 ?_
  refine lv_istore (lv' := [(4, .int v17), (3, .int (v11 + v14)), (2, .int v8), (0, .ref o), (1, .int x1)]) hx hb dX4_mark_27 hl (by decide) rfl (fun ls hl => ?_)
  refine lv_iload hx hb dX4_mark_29 (lv_at hl 0 rfl) ?_
  refine lv_iload_n hx hb dX4_mark_31 rfl (lv_at hl 1 rfl) ?_
  refine lv_icmp_ge (tgt := 36) hx hb dX4_mark_32 (by decide) (fun cnd => ?_) (fun cnd => ?_)
  · replace h := ifp h cnd
    refine lv_aload_n hx hb dX4_mark_36 rfl (lv_at hl 3 rfl) ?_
    refine x_get X Z 0 1 (v := .ref (d 1)) rfl rfl lk_X4_mark_X4_members dX4_mark_37 ?_
    refine lv_iload_n hx hb dX4_mark_40 rfl (lv_at hl 1 rfl) ?_
    obtain ⟨hin19, v20, hv21, h⟩ := ld_b h
    refine x_iald X Z 1 rfl hin19 hv21 dX4_mark_41 ?_
    refine lv_istore (lv' := [(5, .int v20), (4, .int v17), (3, .int (v11 + v14)), (2, .int v8), (0, .ref o), (1, .int x1)]) hx hb dX4_mark_42 hl (by decide) rfl (fun ls hl => ?_)
    refine lv_aload_n hx hb dX4_mark_44 rfl (lv_at hl 4 rfl) ?_
    refine x_get X Z 0 1 (v := .ref (d 1)) rfl rfl lk_X4_mark_X4_members dX4_mark_45 ?_
    refine lv_iload_n hx hb dX4_mark_48 rfl (lv_at hl 2 rfl) ?_
    refine lv_iload_n hx hb dX4_mark_49 rfl (lv_at hl 5 rfl) ?_
    obtain ⟨hin22, members_23, hv24, h⟩ := st_b h
    refine x_iast X Z 1 (RW_X4_mark cy o d blocks_ touchedCount_ members_23 place_ marked_ touched_) rfl hin22 hv24 rfl dX4_mark_50 (fun H locs Z => ?_)
    refine lv_aload_n hx hb dX4_mark_51 rfl (lv_at hl 4 rfl) ?_
    refine x_get X Z 0 2 (v := .ref (d 2)) rfl rfl lk_X4_mark_X4_place dX4_mark_52 ?_
    refine lv_iload_n hx hb dX4_mark_55 rfl (lv_at hl 5 rfl) ?_
    refine lv_iload_n hx hb dX4_mark_56 rfl (lv_at hl 2 rfl) ?_
    obtain ⟨hin25, place_26, hv27, h⟩ := st_b h
    refine x_iast X Z 2 (RW_X4_mark cy o d blocks_ touchedCount_ members_23 place_26 marked_ touched_) rfl hin25 hv27 rfl dX4_mark_57 (fun H locs Z => ?_)
    refine lv_aload_n hx hb dX4_mark_58 rfl (lv_at hl 4 rfl) ?_
    refine x_get X Z 0 1 (v := .ref (d 1)) rfl rfl lk_X4_mark_X4_members dX4_mark_59 ?_
    refine lv_iload hx hb dX4_mark_62 (lv_at hl 1 rfl) ?_
    refine lv_iload hx hb dX4_mark_64 (lv_at hl 0 rfl) ?_
    obtain ⟨hin28, members_29, hv30, h⟩ := st_b h
    refine x_iast X Z 1 (RW_X4_mark cy o d blocks_ touchedCount_ members_29 place_26 marked_ touched_) rfl hin28 hv30 rfl dX4_mark_66 (fun H locs Z => ?_)
    refine lv_aload_n hx hb dX4_mark_67 rfl (lv_at hl 4 rfl) ?_
    refine x_get X Z 0 2 (v := .ref (d 2)) rfl rfl lk_X4_mark_X4_place dX4_mark_68 ?_
    refine lv_iload hx hb dX4_mark_71 (lv_at hl 0 rfl) ?_
    refine lv_iload hx hb dX4_mark_73 (lv_at hl 1 rfl) ?_
    obtain ⟨hin31, place_32, hv33, h⟩ := st_b h
    refine x_iast X Z 2 (RW_X4_mark cy o d blocks_ touchedCount_ members_29 place_32 marked_ touched_) rfl hin31 hv33 rfl dX4_mark_75 (fun H locs Z => ?_)
    refine lv_aload_n hx hb dX4_mark_76 rfl (lv_at hl 4 rfl) ?_
    refine x_get X Z 0 6 (v := .ref (d 6)) rfl rfl lk_X4_mark_X4_marked dX4_mark_77 ?_
    refine lv_iload_n hx hb dX4_mark_80 rfl (lv_at hl 3 rfl) ?_
    obtain ⟨hin34, v35, hv36, h⟩ := ld_b h
    refine x_iald X Z 3 rfl hin34 hv36 dX4_mark_81 ?_
    refine lv_if_ne (tgt := 105) hx hb dX4_mark_82 (by decide) (fun cnd => ?_) (fun cnd => ?_)
    · replace h := ifn h cnd
      exact jw_X4_mark_105 o d blockOf_ first_ blocks_ touchedCount_ members_29 place_32 marked_ touched_ v8 _ X h K H locs ls Z (lv_sub hl [4, 3] rfl)
    · replace h := ifp h cnd
      refine lv_aload_n hx hb dX4_mark_85 rfl (lv_at hl 4 rfl) ?_
      refine x_get X Z 0 7 (v := .ref (d 7)) rfl rfl lk_X4_mark_X4_touched dX4_mark_86 ?_
      refine lv_aload_n hx hb dX4_mark_89 rfl (lv_at hl 4 rfl) ?_
      refine x_get X Z 0 8 (v := .int touchedCount_) rfl rfl lk_X4_mark_X4_touchedCount dX4_mark_90 ?_
      refine lv_iload_n hx hb dX4_mark_93 rfl (lv_at hl 3 rfl) ?_
      obtain ⟨hin37, touched_38, hv39, h⟩ := st_b h
      refine x_iast X Z 4 (RW_X4_mark cy o d blocks_ touchedCount_ members_29 place_32 marked_ touched_38) rfl hin37 hv39 rfl dX4_mark_94 (fun H locs Z => ?_)
      refine lv_aload_n hx hb dX4_mark_95 rfl (lv_at hl 4 rfl) ?_
      refine lv_dup hx hb dX4_mark_96 rfl ?_
      refine x_get X Z 0 8 (v := .int touchedCount_) rfl rfl lk_X4_mark_X4_touchedCount dX4_mark_97 ?_
      refine lv_iconst (v := (1 : Int32)) hx hb dX4_mark_100 (by decide) ?_
      refine lv_iadd hx hb dX4_mark_101 ?_
      refine x_put X Z 0 8 (RW_X4_mark cy o d blocks_ (touchedCount_ + (1 : Int32)) members_29 place_32 marked_ touched_38) rfl lp_X4_mark_X4_touchedCount (Nat.le_of_ble_eq_true rfl) rfl dX4_mark_102 (fun H locs Z => ?_)
      exact jw_X4_mark_105 o d blockOf_ first_ blocks_ (touchedCount_ + (1 : Int32)) members_29 place_32 marked_ touched_38 v8 _ X h K H locs ls Z (lv_sub hl [4, 3] rfl)
  · replace h := ifn h cnd
    obtain rfl := Option.some.inj h
    exact K H locs ls _ dX4_mark_35 Z
theorem c_X4_mark (l : Launch) (D : va_G) (cy : Nat → ClassId) (o : Nat) (d : Nat → Nat) (blockOf_ : Nat → Int32) (first_ : Nat → Int32) (blocks_ : Int32) (touchedCount_ : Int32) (members_ : Nat → Int32) (place_ : Nat → Int32) (marked_ : Nat → Int32) (touched_ : Nat → Int32) (x1 : Int32) (out : Int32 × (Nat → Int32) × (Nat → Int32) × (Nat → Int32) × (Nat → Int32)) (h : f_X4_mark x1 blockOf_ first_ touchedCount_ members_ place_ marked_ touched_ = some out) : CtV l yX4_mark wsX4_mark rm_X4_mark D cy [.ref o, .int x1] (RW_X4_mark cy o d blocks_ touchedCount_ members_ place_ marked_ touched_) (RO_X4_mark cy o d blockOf_ first_) (RW_X4_mark cy o d blocks_ out.1 out.2.1 out.2.2.1 out.2.2.2.1 out.2.2.2.2) :=
  mk_v (by decide) rfl (Nat.le_of_ble_eq_true rfl) (fun p e s m args below meth c A Q X K H locs ls Z hl => wt_X4_mark o d blockOf_ first_ blocks_ touchedCount_ members_ place_ marked_ touched_ x1 out X h K H locs ls Z hl)
/-! SubwordCounter$Partition markSources (II)V -/
abbrev rm_X4_markSources : Room := { frames := 1, cells := 0, slots := 0, locals := 25 }
def RW_X4_markSources (cy : Nat → ClassId) (o : Nat) (d : Nat → Nat) (blocks_ : Int32) (touchedCount_ : Int32) (members_ : Nat → Int32) (place_ : Nat → Int32) (marked_ : Nat → Int32) (touched_ : Nat → Int32) : va_W := [(o, ob 4 (oX4 d blocks_ touchedCount_)), ((d 1), aI cy 2000 members_), ((d 2), aI cy 2000 place_), ((d 6), aI cy 2000 marked_), ((d 7), aI cy 2000 touched_)]
def RO_X4_markSources (cy : Nat → ClassId) (o : Nat) (d : Nat → Nat) (blockOf_ : Nat → Int32) (first_ : Nat → Int32) (sourceStart_ : Nat → Int32) (sources_ : Nat → Int32) : va_W := [((d 3), aI cy 2000 blockOf_), ((d 4), aI cy 2000 first_), ((d 11), aI cy 6003 sourceStart_), ((d 12), aI cy 6000 sources_)]
theorem in_X4_markSources_X4 : ∀ w ∈ u_ws RX4 TX4 13, w ∈ wsX4_markSources := fun w h => (List.mem_cons_of_mem _ (List.mem_append_right _ h))
theorem lk_X4_markSources_X4_sourceStart : Lk wsX4_markSources RX4 48 4 11 := ⟨RX4, TX4, 13, rfl, by decide, in_X4_markSources_X4, mem_at 1 rfl⟩
theorem lk_X4_markSources_X4_sources : Lk wsX4_markSources RX4 51 4 12 := ⟨RX4, TX4, 13, rfl, by decide, in_X4_markSources_X4, mem_at 2 rfl⟩
def b_X4_markSources_16 (blockOf_ : Nat → Int32) (first_ : Nat → Int32) (sourceStart_ : Nat → Int32) (sources_ : Nat → Int32) (x3 : Int32) (touchedCount_ : Int32) (members_ : Nat → Int32) (place_ : Nat → Int32) (marked_ : Nat → Int32) (touched_ : Nat → Int32) (x4 : Int32) : Option ((Int32 × (Nat → Int32) × (Nat → Int32) × (Nat → Int32) × (Nat → Int32) × Int32) ⊕ (Int32 × (Nat → Int32) × (Nat → Int32) × (Nat → Int32) × (Nat → Int32))) :=
  ldA sourceStart_ 6003 (x3 + (1 : Int32)) (fun v2 =>
  if v2 ≤ x4 then
  (some (.inr (touchedCount_, members_, place_, marked_, touched_)))
  else
  (ldA sources_ 6000 x4 (fun v5 =>
  (f_X4_mark v5 blockOf_ first_ touchedCount_ members_ place_ marked_ touched_).bind (fun u7 =>
  some (.inl (u7.1, u7.2.1, u7.2.2.1, u7.2.2.2.1, u7.2.2.2.2, (x4 + (1 : Int32))))))))
set_option maxHeartbeats 4000000 in
set_option maxRecDepth 100000 in
theorem wb_X4_markSources_16 {p : Program} {l : Launch} {e : Env} {s : State} {m : MethodId} {args : Array Value} {below : List Frame} {meth : Method} {c : Code} {A : Nat → Prop} {Q : State → Prop} {D : va_G} {cy : Nat → ClassId} (o : Nat) (d : Nat → Nat) (blockOf_ : Nat → Int32) (first_ : Nat → Int32) (sourceStart_ : Nat → Int32) (sources_ : Nat → Int32) (blocks_ : Int32) (x3 : Int32) (touchedCount_ : Int32) (members_ : Nat → Int32) (place_ : Nat → Int32) (marked_ : Nat → Int32) (touched_ : Nat → Int32) (x4 : Int32) (o1 : (Int32 × (Nat → Int32) × (Nat → Int32) × (Nat → Int32) × (Nat → Int32) × Int32) ⊕ (Int32 × (Nat → Int32) × (Nat → Int32) × (Nat → Int32) × (Nat → Int32))) (X : Cx p m c cX4_markSources 5 s args wsX4_markSources RX4 A D cy (RO_X4_markSources cy o d blockOf_ first_ sourceStart_ sources_)) (h : b_X4_markSources_16 blockOf_ first_ sourceStart_ sources_ x3 touchedCount_ members_ place_ marked_ touched_ x4 = some o1) (K : Sum.elim (fun v : Int32 × (Nat → Int32) × (Nat → Int32) × (Nat → Int32) × (Nat → Int32) × Int32 => ∀ (H : Heap) (locs : List Loc) (ls : Array Slot), St A D s (RW_X4_markSources cy o d blocks_ v.1 v.2.1 v.2.2.1 v.2.2.2.1 v.2.2.2.2.1) H locs → lv_has ls 5 [(0, .ref o), (3, .int x3), (4, .int v.2.2.2.2.2)] → W p l e rm_X4_markSources s m args below meth c H locs 0 0 Q (F0 m 16 ls [])) (fun v : Int32 × (Nat → Int32) × (Nat → Int32) × (Nat → Int32) × (Nat → Int32) => ∀ (H : Heap) (locs : List Loc) (ls : Array Slot), St A D s (RW_X4_markSources cy o d blocks_ v.1 v.2.1 v.2.2.1 v.2.2.2.1 v.2.2.2.2) H locs → lv_has ls 5 [] → W p l e rm_X4_markSources s m args below meth c H locs 0 0 Q (F0 m 46 ls [])) o1) : ∀ (H : Heap) (locs : List Loc) (ls : Array Slot), St A D s (RW_X4_markSources cy o d blocks_ touchedCount_ members_ place_ marked_ touched_) H locs → lv_has ls 5 [(0, .ref o), (3, .int x3), (4, .int x4)] → W p l e rm_X4_markSources s m args below meth c H locs 0 0 Q (F0 m 16 ls []) := by
  intro H locs ls Z hl
  have hx := X.1.1
  have hb := X.1.2.1
  unfold b_X4_markSources_16 at h
  refine lv_iload hx hb dX4_markSources_16 (lv_at hl 2 rfl) ?_
  refine lv_aload_n hx hb dX4_markSources_18 rfl (lv_at hl 0 rfl) ?_
  refine x_get X Z 0 11 (v := .ref (d 11)) rfl rfl lk_X4_markSources_X4_sourceStart dX4_markSources_19 ?_
  refine lv_iload_n hx hb dX4_markSources_22 rfl (lv_at hl 1 rfl) ?_
  refine lv_iconst (v := (1 : Int32)) hx hb dX4_markSources_23 (by decide) ?_
  refine lv_iadd hx hb dX4_markSources_24 ?_
  obtain ⟨hin1, v2, hv3, h⟩ := ld_b h
  refine x_ialdO X Z 2 rfl hin1 hv3 dX4_markSources_25 ?_
  refine lv_icmp_ge (tgt := 46) hx hb dX4_markSources_26 (by decide) (fun cnd => ?_) (fun cnd => ?_)
  · replace h := ifp h cnd
    obtain rfl := Option.some.inj h
    exact (sk_r K) H locs ls Z (lv_sub hl [] rfl)
  · replace h := ifn h cnd
    refine lv_aload_n hx hb dX4_markSources_29 rfl (lv_at hl 0 rfl) ?_
    refine lv_aload_n hx hb dX4_markSources_30 rfl (lv_at hl 0 rfl) ?_
    refine x_get X Z 0 12 (v := .ref (d 12)) rfl rfl lk_X4_markSources_X4_sources dX4_markSources_31 ?_
    refine lv_iload hx hb dX4_markSources_34 (lv_at hl 2 rfl) ?_
    obtain ⟨hin4, v5, hv6, h⟩ := ld_b h
    refine x_ialdO X Z 3 rfl hin4 hv6 dX4_markSources_36 ?_
    obtain ⟨u7, hc8, h⟩ := ob_some h
    refine x_runVv (RW' := (RW_X4_markSources cy o d blocks_ u7.1 u7.2.1 u7.2.2.1 u7.2.2.2.1 u7.2.2.2.2)) (wr := []) (isC := [0, 1, 2, 3, 4]) (isR := []) (isF := [0, 1, 2, 3, 4]) (rest := []) (As := [.int v5]) (n := 1) X Z (c_X4_mark l D cy o d blockOf_ first_ blocks_ touchedCount_ members_ place_ marked_ touched_ v5 u7 hc8) gX4_markSources_X4_mark rfl (by decide +kernel) ⟨Nat.le_of_ble_eq_true rfl, Nat.le_of_ble_eq_true rfl⟩ ⟨rfl, rfl⟩ ⟨Nat.le_of_ble_eq_true rfl, Nat.le_of_ble_eq_true rfl⟩ (x_rv X Z 0 rfl rfl) ⟨rfl, rfl, (roC (Or.inr (mem_at 0 rfl)) (roC (Or.inr (mem_at 1 rfl)) roN)), rfl, rfl, by decide⟩ ⟨rfl, rfl⟩ rfl hl.1 rfl (Nat.le_of_ble_eq_true rfl) dX4_markSources_37 (fun H locs Z => ?_)
    refine lv_iinc (v := (x4 + (1 : Int32))) (lv' := [(4, .int (x4 + (1 : Int32))), (0, .ref o), (3, .int x3)]) hx hb dX4_markSources_40 hl (k := 2) rfl rfl (by decide) rfl (fun ls hl => ?_)
    refine lv_goto (tgt := 16) hx hb dX4_markSources_43 (by decide) ?_
    obtain rfl := Option.some.inj h
    exact sk_l K H locs ls Z (lv_sub hl [1, 2, 0] rfl)
set_option maxHeartbeats 4000000 in
set_option maxRecDepth 100000 in
theorem wl_X4_markSources_16 {p : Program} {l : Launch} {e : Env} {s : State} {m : MethodId} {args : Array Value} {below : List Frame} {meth : Method} {c : Code} {A : Nat → Prop} {Q : State → Prop} {D : va_G} {cy : Nat → ClassId} (o : Nat) (d : Nat → Nat) (blockOf_ : Nat → Int32) (first_ : Nat → Int32) (sourceStart_ : Nat → Int32) (sources_ : Nat → Int32) (blocks_ : Int32) (x3 : Int32) (n : Nat) (v : Int32 × (Nat → Int32) × (Nat → Int32) × (Nat → Int32) × (Nat → Int32) × Int32) (x : Int32 × (Nat → Int32) × (Nat → Int32) × (Nat → Int32) × (Nat → Int32)) (X : Cx p m c cX4_markSources 5 s args wsX4_markSources RX4 A D cy (RO_X4_markSources cy o d blockOf_ first_ sourceStart_ sources_)) (h : loopN (fun v => b_X4_markSources_16 blockOf_ first_ sourceStart_ sources_ x3 v.1 v.2.1 v.2.2.1 v.2.2.2.1 v.2.2.2.2.1 v.2.2.2.2.2) n v = some x) (K : ∀ (H : Heap) (locs : List Loc) (ls : Array Slot), St A D s (RW_X4_markSources cy o d blocks_ x.1 x.2.1 x.2.2.1 x.2.2.2.1 x.2.2.2.2) H locs → lv_has ls 5 [] → W p l e rm_X4_markSources s m args below meth c H locs 0 0 Q (F0 m 46 ls [])) : ∀ (H : Heap) (locs : List Loc) (ls : Array Slot), St A D s (RW_X4_markSources cy o d blocks_ v.1 v.2.1 v.2.2.1 v.2.2.2.1 v.2.2.2.2.1) H locs → lv_has ls 5 [(0, .ref o), (3, .int x3), (4, .int v.2.2.2.2.2)] → W p l e rm_X4_markSources s m args below meth c H locs 0 0 Q (F0 m 16 ls []) :=
  loop_gen (B := (fun v => b_X4_markSources_16 blockOf_ first_ sourceStart_ sources_ x3 v.1 v.2.1 v.2.2.1 v.2.2.2.1 v.2.2.2.2.1 v.2.2.2.2.2)) (Head := fun v : Int32 × (Nat → Int32) × (Nat → Int32) × (Nat → Int32) × (Nat → Int32) × Int32 => ∀ (H : Heap) (locs : List Loc) (ls : Array Slot), St A D s (RW_X4_markSources cy o d blocks_ v.1 v.2.1 v.2.2.1 v.2.2.2.1 v.2.2.2.2.1) H locs → lv_has ls 5 [(0, .ref o), (3, .int x3), (4, .int v.2.2.2.2.2)] → W p l e rm_X4_markSources s m args below meth c H locs 0 0 Q (F0 m 16 ls [])) (Exit := fun v : Int32 × (Nat → Int32) × (Nat → Int32) × (Nat → Int32) × (Nat → Int32) => ∀ (H : Heap) (locs : List Loc) (ls : Array Slot), St A D s (RW_X4_markSources cy o d blocks_ v.1 v.2.1 v.2.2.1 v.2.2.2.1 v.2.2.2.2) H locs → lv_has ls 5 [] → W p l e rm_X4_markSources s m args below meth c H locs 0 0 Q (F0 m 46 ls [])) (fun v o9 hb1 K1 => wb_X4_markSources_16 o d blockOf_ first_ sourceStart_ sources_ blocks_ x3 v.1 v.2.1 v.2.2.1 v.2.2.2.1 v.2.2.2.2.1 v.2.2.2.2.2 o9 X hb1 K1) n v x h K
def f_X4_markSources (x1 : Int32) (x2 : Int32) (blockOf_ : Nat → Int32) (first_ : Nat → Int32) (sourceStart_ : Nat → Int32) (sources_ : Nat → Int32) (touchedCount_ : Int32) (members_ : Nat → Int32) (place_ : Nat → Int32) (marked_ : Nat → Int32) (touched_ : Nat → Int32) : Option (Int32 × (Nat → Int32) × (Nat → Int32) × (Nat → Int32) × (Nat → Int32)) :=
  ldA sourceStart_ 6003 ((x1 * (2001 : Int32)) + x2) (fun v10 =>
  (loopN (fun v => b_X4_markSources_16 blockOf_ first_ sourceStart_ sources_ ((x1 * (2001 : Int32)) + x2) v.1 v.2.1 v.2.2.1 v.2.2.2.1 v.2.2.2.2.1 v.2.2.2.2.2) FU (touchedCount_, members_, place_, marked_, touched_, v10)).bind (fun u12 =>
  some (u12.1, u12.2.1, u12.2.2.1, u12.2.2.2.1, u12.2.2.2.2)))
set_option maxHeartbeats 4000000 in
set_option maxRecDepth 100000 in
theorem wt_X4_markSources {p : Program} {l : Launch} {e : Env} {s : State} {m : MethodId} {args : Array Value} {below : List Frame} {meth : Method} {c : Code} {A : Nat → Prop} {Q : State → Prop} {D : va_G} {cy : Nat → ClassId} (o : Nat) (d : Nat → Nat) (blockOf_ : Nat → Int32) (first_ : Nat → Int32) (sourceStart_ : Nat → Int32) (sources_ : Nat → Int32) (blocks_ : Int32) (touchedCount_ : Int32) (members_ : Nat → Int32) (place_ : Nat → Int32) (marked_ : Nat → Int32) (touched_ : Nat → Int32) (x1 : Int32) (x2 : Int32) (out : Int32 × (Nat → Int32) × (Nat → Int32) × (Nat → Int32) × (Nat → Int32)) (X : Cx p m c cX4_markSources 5 s args wsX4_markSources RX4 A D cy (RO_X4_markSources cy o d blockOf_ first_ sourceStart_ sources_)) (h : f_X4_markSources x1 x2 blockOf_ first_ sourceStart_ sources_ touchedCount_ members_ place_ marked_ touched_ = some out) (K : ∀ (H : Heap) (locs : List Loc) (ls : Array Slot) (pc : Nat), decode cX4_markSources pc = .ok (.return_, 1) → St A D s (RW_X4_markSources cy o d blocks_ out.1 out.2.1 out.2.2.1 out.2.2.2.1 out.2.2.2.2) H locs → W p l e rm_X4_markSources s m args below meth c H locs 0 0 Q (F0 m pc ls [])) : ∀ (H : Heap) (locs : List Loc) (ls : Array Slot), St A D s (RW_X4_markSources cy o d blocks_ touchedCount_ members_ place_ marked_ touched_) H locs → lv_has ls 5 [(0, .ref o), (1, .int x1), (2, .int x2)] → W p l e rm_X4_markSources s m args below meth c H locs 0 0 Q (F0 m 0 ls []) := by
  intro H locs ls Z hl
  have hx := X.1.1
  have hb := X.1.2.1
  unfold f_X4_markSources at h
  refine lv_iload_n hx hb dX4_markSources_0 rfl (lv_at hl 1 rfl) ?_
  refine lv_sipush (v := (2001 : Int32)) hx hb dX4_markSources_1 (by decide) ?_
  refine lv_imul hx hb dX4_markSources_4 ?_
  refine lv_iload_n hx hb dX4_markSources_5 rfl (lv_at hl 2 rfl) ?_
  refine lv_iadd hx hb dX4_markSources_6 ?_
  refine lv_istore_n (lv' := [(3, .int ((x1 * (2001 : Int32)) + x2)), (0, .ref o), (1, .int x1), (2, .int x2)]) hx hb dX4_markSources_7 rfl hl (by decide) rfl (fun ls hl => ?_)
  refine lv_aload_n hx hb dX4_markSources_8 rfl (lv_at hl 1 rfl) ?_
  refine x_get X Z 0 11 (v := .ref (d 11)) rfl rfl lk_X4_markSources_X4_sourceStart dX4_markSources_9 ?_
  refine lv_iload_n hx hb dX4_markSources_12 rfl (lv_at hl 0 rfl) ?_
  obtain ⟨hin9, v10, hv11, h⟩ := ld_b h
  refine x_ialdO X Z 2 rfl hin9 hv11 dX4_markSources_13 ?_
  refine lv_istore (lv' := [(4, .int v10), (3, .int ((x1 * (2001 : Int32)) + x2)), (0, .ref o), (1, .int x1), (2, .int x2)]) hx hb dX4_markSources_14 hl (by decide) rfl (fun ls hl => ?_)
  obtain ⟨u12, hL13, h⟩ := ob_some h
  refine wl_X4_markSources_16 o d blockOf_ first_ sourceStart_ sources_ blocks_ ((x1 * (2001 : Int32)) + x2) FU (touchedCount_, members_, place_, marked_, touched_, v10) u12 X hL13 (fun H locs ls Z hl => ?_) H locs ls Z (lv_sub hl [2, 1, 0] rfl)
  obtain rfl := Option.some.inj h
  exact K H locs ls _ dX4_markSources_46 Z
theorem c_X4_markSources (l : Launch) (D : va_G) (cy : Nat → ClassId) (o : Nat) (d : Nat → Nat) (blockOf_ : Nat → Int32) (first_ : Nat → Int32) (sourceStart_ : Nat → Int32) (sources_ : Nat → Int32) (blocks_ : Int32) (touchedCount_ : Int32) (members_ : Nat → Int32) (place_ : Nat → Int32) (marked_ : Nat → Int32) (touched_ : Nat → Int32) (x1 : Int32) (x2 : Int32) (out : Int32 × (Nat → Int32) × (Nat → Int32) × (Nat → Int32) × (Nat → Int32)) (h : f_X4_markSources x1 x2 blockOf_ first_ sourceStart_ sources_ touchedCount_ members_ place_ marked_ touched_ = some out) : CtV l yX4_markSources wsX4_markSources rm_X4_markSources D cy [.ref o, .int x1, .int x2] (RW_X4_markSources cy o d blocks_ touchedCount_ members_ place_ marked_ touched_) (RO_X4_markSources cy o d blockOf_ first_ sourceStart_ sources_) (RW_X4_markSources cy o d blocks_ out.1 out.2.1 out.2.2.1 out.2.2.2.1 out.2.2.2.2) :=
  mk_v (by decide) rfl (Nat.le_of_ble_eq_true rfl) (fun p e s m args below meth c A Q X K H locs ls Z hl => wt_X4_markSources o d blockOf_ first_ sourceStart_ sources_ blocks_ touchedCount_ members_ place_ marked_ touched_ x1 x2 out X h K H locs ls Z hl)
/-! SubwordCounter$Partition split (I)V -/
abbrev rm_X4_split : Room := { frames := 1, cells := 0, slots := 0, locals := 22 }
def RW_X4_split (cy : Nat → ClassId) (o : Nat) (d : Nat → Nat) (blocks_ : Int32) (touchedCount_ : Int32) (blockOf_ : Nat → Int32) (first_ : Nat → Int32) (size_ : Nat → Int32) (marked_ : Nat → Int32) : va_W := [(o, ob 4 (oX4 d blocks_ touchedCount_)), ((d 3), aI cy 2000 blockOf_), ((d 4), aI cy 2000 first_), ((d 5), aI cy 2000 size_), ((d 6), aI cy 2000 marked_)]
def RO_X4_split (cy : Nat → ClassId) (o : Nat) (d : Nat → Nat) (members_ : Nat → Int32) : va_W := [((d 1), aI cy 2000 members_)]
theorem in_X4_split_X4 : ∀ w ∈ u_ws RX4 TX4 13, w ∈ wsX4_split := fun w h => (List.mem_cons_of_mem _ (List.mem_append_right _ h))
theorem lk_X4_split_X4_first : Lk wsX4_split RX4 27 4 4 := ⟨RX4, TX4, 13, rfl, by decide, in_X4_split_X4, mem_at 4 rfl⟩
theorem lk_X4_split_X4_size : Lk wsX4_split RX4 30 4 5 := ⟨RX4, TX4, 13, rfl, by decide, in_X4_split_X4, mem_at 2 rfl⟩
theorem lk_X4_split_X4_blockOf : Lk wsX4_split RX4 24 4 3 := ⟨RX4, TX4, 13, rfl, by decide, in_X4_split_X4, mem_at 5 rfl⟩
theorem lk_X4_split_X4_members : Lk wsX4_split RX4 17 4 1 := ⟨RX4, TX4, 13, rfl, by decide, in_X4_split_X4, mem_at 6 rfl⟩
theorem lk_X4_split_X4_marked : Lk wsX4_split RX4 33 4 6 := ⟨RX4, TX4, 13, rfl, by decide, in_X4_split_X4, mem_at 1 rfl⟩
theorem lk_X4_split_X4_blocks : Lk wsX4_split RX4 9 4 0 := ⟨RX4, TX4, 13, rfl, by decide, in_X4_split_X4, mem_at 3 rfl⟩
def b_X4_split_99 (members_ : Nat → Int32) (first_ : Nat → Int32) (size_ : Nat → Int32) (x4 : Int32) (blockOf_ : Nat → Int32) (x5 : Int32) : Option (((Nat → Int32) × Int32) ⊕ ((Nat → Int32))) :=
  ldA first_ 2000 x4 (fun v2 =>
  ldA size_ 2000 x4 (fun v5 =>
  if (v2 + v5) ≤ x5 then
  (some (.inr blockOf_))
  else
  (ldA members_ 2000 x5 (fun v8 =>
  stA blockOf_ 2000 v8 x4 (fun blockOf_11 =>
  some (.inl (blockOf_11, (x5 + (1 : Int32)))))))))
set_option maxHeartbeats 4000000 in
set_option maxRecDepth 100000 in
theorem wb_X4_split_99 {p : Program} {l : Launch} {e : Env} {s : State} {m : MethodId} {args : Array Value} {below : List Frame} {meth : Method} {c : Code} {A : Nat → Prop} {Q : State → Prop} {D : va_G} {cy : Nat → ClassId} (o : Nat) (d : Nat → Nat) (members_ : Nat → Int32) (blocks_ : Int32) (touchedCount_ : Int32) (first_ : Nat → Int32) (size_ : Nat → Int32) (marked_ : Nat → Int32) (x4 : Int32) (blockOf_ : Nat → Int32) (x5 : Int32) (o1 : ((Nat → Int32) × Int32) ⊕ ((Nat → Int32))) (X : Cx p m c cX4_split 6 s args wsX4_split RX4 A D cy (RO_X4_split cy o d members_)) (h : b_X4_split_99 members_ first_ size_ x4 blockOf_ x5 = some o1) (K : Sum.elim (fun v : (Nat → Int32) × Int32 => ∀ (H : Heap) (locs : List Loc) (ls : Array Slot), St A D s (RW_X4_split cy o d blocks_ touchedCount_ v.1 first_ size_ marked_) H locs → lv_has ls 6 [(0, .ref o), (4, .int x4), (5, .int v.2)] → W p l e rm_X4_split s m args below meth c H locs 0 0 Q (F0 m 99 ls [])) (fun v : (Nat → Int32) => ∀ (H : Heap) (locs : List Loc) (ls : Array Slot), St A D s (RW_X4_split cy o d blocks_ touchedCount_ v first_ size_ marked_) H locs → lv_has ls 6 [] → W p l e rm_X4_split s m args below meth c H locs 0 0 Q (F0 m 139 ls [])) o1) : ∀ (H : Heap) (locs : List Loc) (ls : Array Slot), St A D s (RW_X4_split cy o d blocks_ touchedCount_ blockOf_ first_ size_ marked_) H locs → lv_has ls 6 [(0, .ref o), (4, .int x4), (5, .int x5)] → W p l e rm_X4_split s m args below meth c H locs 0 0 Q (F0 m 99 ls []) := by
  intro H locs ls Z hl
  have hx := X.1.1
  have hb := X.1.2.1
  unfold b_X4_split_99 at h
  refine lv_iload hx hb dX4_split_99 (lv_at hl 2 rfl) ?_
  refine lv_aload_n hx hb dX4_split_101 rfl (lv_at hl 0 rfl) ?_
  refine x_get X Z 0 4 (v := .ref (d 4)) rfl rfl lk_X4_split_X4_first dX4_split_102 ?_
  refine lv_iload hx hb dX4_split_105 (lv_at hl 1 rfl) ?_
  obtain ⟨hin1, v2, hv3, h⟩ := ld_b h
  refine x_iald X Z 2 rfl hin1 hv3 dX4_split_107 ?_
  refine lv_aload_n hx hb dX4_split_108 rfl (lv_at hl 0 rfl) ?_
  refine x_get X Z 0 5 (v := .ref (d 5)) rfl rfl lk_X4_split_X4_size dX4_split_109 ?_
  refine lv_iload hx hb dX4_split_112 (lv_at hl 1 rfl) ?_
  obtain ⟨hin4, v5, hv6, h⟩ := ld_b h
  refine x_iald X Z 3 rfl hin4 hv6 dX4_split_114 ?_
  refine lv_iadd hx hb dX4_split_115 ?_
  refine lv_icmp_ge (tgt := 139) hx hb dX4_split_116 (by decide) (fun cnd => ?_) (fun cnd => ?_)
  · replace h := ifp h cnd
    obtain rfl := Option.some.inj h
    exact (sk_r K) H locs ls Z (lv_sub hl [] rfl)
  · replace h := ifn h cnd
    refine lv_aload_n hx hb dX4_split_119 rfl (lv_at hl 0 rfl) ?_
    refine x_get X Z 0 3 (v := .ref (d 3)) rfl rfl lk_X4_split_X4_blockOf dX4_split_120 ?_
    refine lv_aload_n hx hb dX4_split_123 rfl (lv_at hl 0 rfl) ?_
    refine x_get X Z 0 1 (v := .ref (d 1)) rfl rfl lk_X4_split_X4_members dX4_split_124 ?_
    refine lv_iload hx hb dX4_split_127 (lv_at hl 2 rfl) ?_
    obtain ⟨hin7, v8, hv9, h⟩ := ld_b h
    refine x_ialdO X Z 0 rfl hin7 hv9 dX4_split_129 ?_
    refine lv_iload hx hb dX4_split_130 (lv_at hl 1 rfl) ?_
    obtain ⟨hin10, blockOf_11, hv12, h⟩ := st_b h
    refine x_iast X Z 1 (RW_X4_split cy o d blocks_ touchedCount_ blockOf_11 first_ size_ marked_) rfl hin10 hv12 rfl dX4_split_132 (fun H locs Z => ?_)
    refine lv_iinc (v := (x5 + (1 : Int32))) (lv' := [(5, .int (x5 + (1 : Int32))), (0, .ref o), (4, .int x4)]) hx hb dX4_split_133 hl (k := 2) rfl rfl (by decide) rfl (fun ls hl => ?_)
    refine lv_goto (tgt := 99) hx hb dX4_split_136 (by decide) ?_
    obtain rfl := Option.some.inj h
    exact sk_l K H locs ls Z (lv_sub hl [1, 2, 0] rfl)
set_option maxHeartbeats 4000000 in
set_option maxRecDepth 100000 in
theorem wl_X4_split_99 {p : Program} {l : Launch} {e : Env} {s : State} {m : MethodId} {args : Array Value} {below : List Frame} {meth : Method} {c : Code} {A : Nat → Prop} {Q : State → Prop} {D : va_G} {cy : Nat → ClassId} (o : Nat) (d : Nat → Nat) (members_ : Nat → Int32) (blocks_ : Int32) (touchedCount_ : Int32) (first_ : Nat → Int32) (size_ : Nat → Int32) (marked_ : Nat → Int32) (x4 : Int32) (n : Nat) (v : (Nat → Int32) × Int32) (x : (Nat → Int32)) (X : Cx p m c cX4_split 6 s args wsX4_split RX4 A D cy (RO_X4_split cy o d members_)) (h : loopN (fun v => b_X4_split_99 members_ first_ size_ x4 v.1 v.2) n v = some x) (K : ∀ (H : Heap) (locs : List Loc) (ls : Array Slot), St A D s (RW_X4_split cy o d blocks_ touchedCount_ x first_ size_ marked_) H locs → lv_has ls 6 [] → W p l e rm_X4_split s m args below meth c H locs 0 0 Q (F0 m 139 ls [])) : ∀ (H : Heap) (locs : List Loc) (ls : Array Slot), St A D s (RW_X4_split cy o d blocks_ touchedCount_ v.1 first_ size_ marked_) H locs → lv_has ls 6 [(0, .ref o), (4, .int x4), (5, .int v.2)] → W p l e rm_X4_split s m args below meth c H locs 0 0 Q (F0 m 99 ls []) :=
  loop_gen (B := (fun v => b_X4_split_99 members_ first_ size_ x4 v.1 v.2)) (Head := fun v : (Nat → Int32) × Int32 => ∀ (H : Heap) (locs : List Loc) (ls : Array Slot), St A D s (RW_X4_split cy o d blocks_ touchedCount_ v.1 first_ size_ marked_) H locs → lv_has ls 6 [(0, .ref o), (4, .int x4), (5, .int v.2)] → W p l e rm_X4_split s m args below meth c H locs 0 0 Q (F0 m 99 ls [])) (Exit := fun v : (Nat → Int32) => ∀ (H : Heap) (locs : List Loc) (ls : Array Slot), St A D s (RW_X4_split cy o d blocks_ touchedCount_ v first_ size_ marked_) H locs → lv_has ls 6 [] → W p l e rm_X4_split s m args below meth c H locs 0 0 Q (F0 m 139 ls [])) (fun v o9 hb1 K1 => wb_X4_split_99 o d members_ blocks_ touchedCount_ first_ size_ marked_ x4 v.1 v.2 o9 X hb1 K1) n v x h K
def j_X4_split_90 (members_ : Nat → Int32) (blocks_ : Int32) (blockOf_ : Nat → Int32) (first_ : Nat → Int32) (size_ : Nat → Int32) (marked_ : Nat → Int32) (x4 : Int32) : Option (Int32 × (Nat → Int32) × (Nat → Int32) × (Nat → Int32) × (Nat → Int32)) :=
  ldA first_ 2000 x4 (fun v14 =>
  (loopN (fun v => b_X4_split_99 members_ first_ size_ x4 v.1 v.2) FU (blockOf_, v14)).bind (fun u16 =>
  some (blocks_, u16, first_, size_, marked_)))
set_option maxHeartbeats 4000000 in
set_option maxRecDepth 100000 in
theorem jw_X4_split_90 {p : Program} {l : Launch} {e : Env} {s : State} {m : MethodId} {args : Array Value} {below : List Frame} {meth : Method} {c : Code} {A : Nat → Prop} {Q : State → Prop} {D : va_G} {cy : Nat → ClassId} (o : Nat) (d : Nat → Nat) (members_ : Nat → Int32) (blocks_ : Int32) (touchedCount_ : Int32) (blockOf_ : Nat → Int32) (first_ : Nat → Int32) (size_ : Nat → Int32) (marked_ : Nat → Int32) (x4 : Int32) (out : Int32 × (Nat → Int32) × (Nat → Int32) × (Nat → Int32) × (Nat → Int32)) (X : Cx p m c cX4_split 6 s args wsX4_split RX4 A D cy (RO_X4_split cy o d members_)) (h : j_X4_split_90 members_ blocks_ blockOf_ first_ size_ marked_ x4 = some out) (K : ∀ (H : Heap) (locs : List Loc) (ls : Array Slot) (pc : Nat), decode cX4_split pc = .ok (.return_, 1) → St A D s (RW_X4_split cy o d out.1 touchedCount_ out.2.1 out.2.2.1 out.2.2.2.1 out.2.2.2.2) H locs → W p l e rm_X4_split s m args below meth c H locs 0 0 Q (F0 m pc ls [])) : ∀ (H : Heap) (locs : List Loc) (ls : Array Slot), St A D s (RW_X4_split cy o d blocks_ touchedCount_ blockOf_ first_ size_ marked_) H locs → lv_has ls 6 [(0, .ref o), (4, .int x4)] → W p l e rm_X4_split s m args below meth c H locs 0 0 Q (F0 m 90 ls []) := by
  intro H locs ls Z hl
  have hx := X.1.1
  have hb := X.1.2.1
  unfold j_X4_split_90 at h
  refine lv_aload_n hx hb dX4_split_90 rfl (lv_at hl 0 rfl) ?_
  refine x_get X Z 0 4 (v := .ref (d 4)) rfl rfl lk_X4_split_X4_first dX4_split_91 ?_
  refine lv_iload hx hb dX4_split_94 (lv_at hl 1 rfl) ?_
  obtain ⟨hin13, v14, hv15, h⟩ := ld_b h
  refine x_iald X Z 2 rfl hin13 hv15 dX4_split_96 ?_
  refine lv_istore (lv' := [(5, .int v14), (0, .ref o), (4, .int x4)]) hx hb dX4_split_97 hl (by decide) rfl (fun ls hl => ?_)
  obtain ⟨u16, hL17, h⟩ := ob_some h
  refine wl_X4_split_99 o d members_ blocks_ touchedCount_ first_ size_ marked_ x4 FU (blockOf_, v14) u16 X hL17 (fun H locs ls Z hl => ?_) H locs ls Z (lv_sub hl [1, 2, 0] rfl)
  obtain rfl := Option.some.inj h
  exact K H locs ls _ dX4_split_139 Z
def f_X4_split (x1 : Int32) (members_ : Nat → Int32) (blocks_ : Int32) (blockOf_ : Nat → Int32) (first_ : Nat → Int32) (size_ : Nat → Int32) (marked_ : Nat → Int32) : Option (Int32 × (Nat → Int32) × (Nat → Int32) × (Nat → Int32) × (Nat → Int32)) :=
  ldA marked_ 2000 x1 (fun v19 =>
  ldA size_ 2000 x1 (fun v22 =>
  stA marked_ 2000 x1 (0 : Int32) (fun marked_25 =>
  if (v22 - v19) = 0 then
  (some (blocks_, blockOf_, first_, size_, marked_25))
  else
  (if (v22 - v19) < v19 then
  (ldA first_ 2000 x1 (fun v28 =>
  (f_X4_openBlock (v28 + v19) (v22 - v19) blocks_ first_ size_ marked_25).bind (fun u30 =>
  stA u30.2.2.1 2000 x1 v19 (fun size_33 =>
  j_X4_split_90 members_ u30.1 blockOf_ u30.2.1 size_33 u30.2.2.2 blocks_))))
  else
  (ldA first_ 2000 x1 (fun v36 =>
  (f_X4_openBlock v36 v19 blocks_ first_ size_ marked_25).bind (fun u38 =>
  ldA u38.2.1 2000 x1 (fun v41 =>
  stA u38.2.1 2000 x1 (v41 + v19) (fun first_44 =>
  stA u38.2.2.1 2000 x1 (v22 - v19) (fun size_47 =>
  j_X4_split_90 members_ u38.1 blockOf_ first_44 size_47 u38.2.2.2 blocks_))))))))))
set_option maxHeartbeats 4000000 in
set_option maxRecDepth 100000 in
theorem wt_X4_split {p : Program} {l : Launch} {e : Env} {s : State} {m : MethodId} {args : Array Value} {below : List Frame} {meth : Method} {c : Code} {A : Nat → Prop} {Q : State → Prop} {D : va_G} {cy : Nat → ClassId} (o : Nat) (d : Nat → Nat) (members_ : Nat → Int32) (blocks_ : Int32) (touchedCount_ : Int32) (blockOf_ : Nat → Int32) (first_ : Nat → Int32) (size_ : Nat → Int32) (marked_ : Nat → Int32) (x1 : Int32) (out : Int32 × (Nat → Int32) × (Nat → Int32) × (Nat → Int32) × (Nat → Int32)) (X : Cx p m c cX4_split 6 s args wsX4_split RX4 A D cy (RO_X4_split cy o d members_)) (h : f_X4_split x1 members_ blocks_ blockOf_ first_ size_ marked_ = some out) (K : ∀ (H : Heap) (locs : List Loc) (ls : Array Slot) (pc : Nat), decode cX4_split pc = .ok (.return_, 1) → St A D s (RW_X4_split cy o d out.1 touchedCount_ out.2.1 out.2.2.1 out.2.2.2.1 out.2.2.2.2) H locs → W p l e rm_X4_split s m args below meth c H locs 0 0 Q (F0 m pc ls [])) : ∀ (H : Heap) (locs : List Loc) (ls : Array Slot), St A D s (RW_X4_split cy o d blocks_ touchedCount_ blockOf_ first_ size_ marked_) H locs → lv_has ls 6 [(0, .ref o), (1, .int x1)] → W p l e rm_X4_split s m args below meth c H locs 0 0 Q (F0 m 0 ls []) := by
  intro H locs ls Z hl
  have hx := X.1.1
  have hb := X.1.2.1
  unfold f_X4_split at h
  refine lv_aload_n hx hb dX4_split_0 rfl (lv_at hl 0 rfl) ?_
  refine x_get X Z 0 6 (v := .ref (d 6)) rfl rfl lk_X4_split_X4_marked dX4_split_1 ?_
  refine lv_iload_n hx hb dX4_split_4 rfl (lv_at hl 1 rfl) ?_
  obtain ⟨hin18, v19, hv20, h⟩ := ld_b h
  refine x_iald X Z 4 rfl hin18 hv20 dX4_split_5 ?_
  refine lv_istore_n (lv' := [(2, .int v19), (0, .ref o), (1, .int x1)]) hx hb dX4_split_6 rfl hl (by decide) rfl (fun ls hl => ?_)
  refine lv_aload_n hx hb dX4_split_7 rfl (lv_at hl 1 rfl) ?_
  refine x_get X Z 0 5 (v := .ref (d 5)) rfl rfl lk_X4_split_X4_size dX4_split_8 ?_
  refine lv_iload_n hx hb dX4_split_11 rfl (lv_at hl 2 rfl) ?_
  obtain ⟨hin21, v22, hv23, h⟩ := ld_b h
  refine x_iald X Z 3 rfl hin21 hv23 dX4_split_12 ?_
  refine lv_iload_n hx hb dX4_split_13 rfl (lv_at hl 0 rfl) ?_
  refine lv_isub hx hb dX4_split_14 ?_
  refine lv_istore_n (lv' := [(3, .int (v22 - v19)), (2, .int v19), (0, .ref o), (1, .int x1)]) hx hb dX4_split_15 rfl hl (by decide) rfl (fun ls hl => ?_)
  refine lv_aload_n hx hb dX4_split_16 rfl (lv_at hl 2 rfl) ?_
  refine x_get X Z 0 6 (v := .ref (d 6)) rfl rfl lk_X4_split_X4_marked dX4_split_17 ?_
  refine lv_iload_n hx hb dX4_split_20 rfl (lv_at hl 3 rfl) ?_
  refine lv_iconst (v := (0 : Int32)) hx hb dX4_split_21 (by decide) ?_
  obtain ⟨hin24, marked_25, hv26, h⟩ := st_b h
  refine x_iast X Z 4 (RW_X4_split cy o d blocks_ touchedCount_ blockOf_ first_ size_ marked_25) rfl hin24 hv26 rfl dX4_split_22 (fun H locs Z => ?_)
  refine lv_iload_n hx hb dX4_split_23 rfl (lv_at hl 0 rfl) ?_
  refine lv_if_ne (tgt := 28) hx hb dX4_split_24 (by decide) (fun cnd => ?_) (fun cnd => ?_)
  · replace h := ifn h cnd
    refine lv_aload_n hx hb dX4_split_28 rfl (lv_at hl 2 rfl) ?_
    refine x_get X Z 0 0 (v := .int blocks_) rfl rfl lk_X4_split_X4_blocks dX4_split_29 ?_
    refine lv_istore (lv' := [(4, .int blocks_), (3, .int (v22 - v19)), (2, .int v19), (0, .ref o), (1, .int x1)]) hx hb dX4_split_32 hl (by decide) rfl (fun ls hl => ?_)
    refine lv_iload_n hx hb dX4_split_34 rfl (lv_at hl 2 rfl) ?_
    refine lv_iload_n hx hb dX4_split_35 rfl (lv_at hl 1 rfl) ?_
    refine lv_icmp_gt (tgt := 70) hx hb dX4_split_36 (by decide) (fun cnd => ?_) (fun cnd => ?_)
    · replace h := ifp h cnd
      refine lv_aload_n hx hb dX4_split_70 rfl (lv_at hl 3 rfl) ?_
      refine lv_aload_n hx hb dX4_split_71 rfl (lv_at hl 3 rfl) ?_
      refine x_get X Z 0 4 (v := .ref (d 4)) rfl rfl lk_X4_split_X4_first dX4_split_72 ?_
      refine lv_iload_n hx hb dX4_split_75 rfl (lv_at hl 4 rfl) ?_
      obtain ⟨hin27, v28, hv29, h⟩ := ld_b h
      refine x_iald X Z 2 rfl hin27 hv29 dX4_split_76 ?_
      refine lv_iload_n hx hb dX4_split_77 rfl (lv_at hl 2 rfl) ?_
      refine lv_iadd hx hb dX4_split_78 ?_
      refine lv_iload_n hx hb dX4_split_79 rfl (lv_at hl 1 rfl) ?_
      obtain ⟨u30, hc31, h⟩ := ob_some h
      refine x_runVv (RW' := (RW_X4_split cy o d u30.1 touchedCount_ blockOf_ u30.2.1 u30.2.2.1 u30.2.2.2)) (wr := [((d 3), aI cy 2000 blockOf_)]) (isC := [0, 2, 3, 4]) (isR := [1]) (isF := [1, 0, 2, 3, 4]) (rest := []) (As := [.int (v28 + v19), .int (v22 - v19)]) (n := 2) X Z (c_X4_openBlock l D cy o d blocks_ touchedCount_ first_ size_ marked_25 (v28 + v19) (v22 - v19) u30 hc31) gX4_split_X4_openBlock rfl (by decide +kernel) ⟨Nat.le_of_ble_eq_true rfl, Nat.le_of_ble_eq_true rfl⟩ ⟨rfl, rfl⟩ ⟨Nat.le_of_ble_eq_true rfl, Nat.le_of_ble_eq_true rfl⟩ (x_rv X Z 0 rfl rfl) ⟨rfl, rfl, roN, rfl, rfl, by decide⟩ ⟨rfl, rfl⟩ rfl hl.1 rfl (Nat.le_of_ble_eq_true rfl) dX4_split_80 (fun H locs Z => ?_)
      refine lv_aload_n hx hb dX4_split_83 rfl (lv_at hl 3 rfl) ?_
      refine x_get X Z 0 5 (v := .ref (d 5)) rfl rfl lk_X4_split_X4_size dX4_split_84 ?_
      refine lv_iload_n hx hb dX4_split_87 rfl (lv_at hl 4 rfl) ?_
      refine lv_iload_n hx hb dX4_split_88 rfl (lv_at hl 2 rfl) ?_
      obtain ⟨hin32, size_33, hv34, h⟩ := st_b h
      refine x_iast X Z 3 (RW_X4_split cy o d u30.1 touchedCount_ blockOf_ u30.2.1 size_33 u30.2.2.2) rfl hin32 hv34 rfl dX4_split_89 (fun H locs Z => ?_)
      exact jw_X4_split_90 o d members_ u30.1 touchedCount_ blockOf_ u30.2.1 size_33 u30.2.2.2 blocks_ _ X h K H locs ls Z (lv_sub hl [3, 0] rfl)
    · replace h := ifn h cnd
      refine lv_aload_n hx hb dX4_split_39 rfl (lv_at hl 3 rfl) ?_
      refine lv_aload_n hx hb dX4_split_40 rfl (lv_at hl 3 rfl) ?_
      refine x_get X Z 0 4 (v := .ref (d 4)) rfl rfl lk_X4_split_X4_first dX4_split_41 ?_
      refine lv_iload_n hx hb dX4_split_44 rfl (lv_at hl 4 rfl) ?_
      obtain ⟨hin35, v36, hv37, h⟩ := ld_b h
      refine x_iald X Z 2 rfl hin35 hv37 dX4_split_45 ?_
      refine lv_iload_n hx hb dX4_split_46 rfl (lv_at hl 2 rfl) ?_
      obtain ⟨u38, hc39, h⟩ := ob_some h
      refine x_runVv (RW' := (RW_X4_split cy o d u38.1 touchedCount_ blockOf_ u38.2.1 u38.2.2.1 u38.2.2.2)) (wr := [((d 3), aI cy 2000 blockOf_)]) (isC := [0, 2, 3, 4]) (isR := [1]) (isF := [1, 0, 2, 3, 4]) (rest := []) (As := [.int v36, .int v19]) (n := 2) X Z (c_X4_openBlock l D cy o d blocks_ touchedCount_ first_ size_ marked_25 v36 v19 u38 hc39) gX4_split_X4_openBlock rfl (by decide +kernel) ⟨Nat.le_of_ble_eq_true rfl, Nat.le_of_ble_eq_true rfl⟩ ⟨rfl, rfl⟩ ⟨Nat.le_of_ble_eq_true rfl, Nat.le_of_ble_eq_true rfl⟩ (x_rv X Z 0 rfl rfl) ⟨rfl, rfl, roN, rfl, rfl, by decide⟩ ⟨rfl, rfl⟩ rfl hl.1 rfl (Nat.le_of_ble_eq_true rfl) dX4_split_47 (fun H locs Z => ?_)
      refine lv_aload_n hx hb dX4_split_50 rfl (lv_at hl 3 rfl) ?_
      refine x_get X Z 0 4 (v := .ref (d 4)) rfl rfl lk_X4_split_X4_first dX4_split_51 ?_
      refine lv_iload_n hx hb dX4_split_54 rfl (lv_at hl 4 rfl) ?_
      refine lv_dup2_11 hx hb dX4_split_55 rfl rfl ?_
      obtain ⟨hin40, v41, hv42, h⟩ := ld_b h
      refine x_iald X Z 2 rfl hin40 hv42 dX4_split_56 ?_
      refine lv_iload_n hx hb dX4_split_57 rfl (lv_at hl 2 rfl) ?_
      refine lv_iadd hx hb dX4_split_58 ?_
      obtain ⟨hin43, first_44, hv45, h⟩ := st_b h
      refine x_iast X Z 2 (RW_X4_split cy o d u38.1 touchedCount_ blockOf_ first_44 u38.2.2.1 u38.2.2.2) rfl hin43 hv45 rfl dX4_split_59 (fun H locs Z => ?_)
      refine lv_aload_n hx hb dX4_split_60 rfl (lv_at hl 3 rfl) ?_
      refine x_get X Z 0 5 (v := .ref (d 5)) rfl rfl lk_X4_split_X4_size dX4_split_61 ?_
      refine lv_iload_n hx hb dX4_split_64 rfl (lv_at hl 4 rfl) ?_
      refine lv_iload_n hx hb dX4_split_65 rfl (lv_at hl 1 rfl) ?_
      obtain ⟨hin46, size_47, hv48, h⟩ := st_b h
      refine x_iast X Z 3 (RW_X4_split cy o d u38.1 touchedCount_ blockOf_ first_44 size_47 u38.2.2.2) rfl hin46 hv48 rfl dX4_split_66 (fun H locs Z => ?_)
      refine lv_goto (tgt := 90) hx hb dX4_split_67 (by decide) ?_
      exact jw_X4_split_90 o d members_ u38.1 touchedCount_ blockOf_ first_44 size_47 u38.2.2.2 blocks_ _ X h K H locs ls Z (lv_sub hl [3, 0] rfl)
  · replace h := ifp h cnd
    obtain rfl := Option.some.inj h
    exact K H locs ls _ dX4_split_27 Z
theorem c_X4_split (l : Launch) (D : va_G) (cy : Nat → ClassId) (o : Nat) (d : Nat → Nat) (members_ : Nat → Int32) (blocks_ : Int32) (touchedCount_ : Int32) (blockOf_ : Nat → Int32) (first_ : Nat → Int32) (size_ : Nat → Int32) (marked_ : Nat → Int32) (x1 : Int32) (out : Int32 × (Nat → Int32) × (Nat → Int32) × (Nat → Int32) × (Nat → Int32)) (h : f_X4_split x1 members_ blocks_ blockOf_ first_ size_ marked_ = some out) : CtV l yX4_split wsX4_split rm_X4_split D cy [.ref o, .int x1] (RW_X4_split cy o d blocks_ touchedCount_ blockOf_ first_ size_ marked_) (RO_X4_split cy o d members_) (RW_X4_split cy o d out.1 touchedCount_ out.2.1 out.2.2.1 out.2.2.2.1 out.2.2.2.2) :=
  mk_v (by decide) rfl (Nat.le_of_ble_eq_true rfl) (fun p e s m args below meth c A Q X K H locs ls Z hl => wt_X4_split o d members_ blocks_ touchedCount_ blockOf_ first_ size_ marked_ x1 out X h K H locs ls Z hl)
/-! SubwordCounter$Partition splitTouched ()V -/
abbrev rm_X4_splitTouched : Room := { frames := 2, cells := 0, slots := 0, locals := 47 }
def RW_X4_splitTouched (cy : Nat → ClassId) (o : Nat) (d : Nat → Nat) (blocks_ : Int32) (touchedCount_ : Int32) (blockOf_ : Nat → Int32) (first_ : Nat → Int32) (size_ : Nat → Int32) (marked_ : Nat → Int32) : va_W := [(o, ob 4 (oX4 d blocks_ touchedCount_)), ((d 3), aI cy 2000 blockOf_), ((d 4), aI cy 2000 first_), ((d 5), aI cy 2000 size_), ((d 6), aI cy 2000 marked_)]
def RO_X4_splitTouched (cy : Nat → ClassId) (o : Nat) (d : Nat → Nat) (members_ : Nat → Int32) (touched_ : Nat → Int32) : va_W := [((d 1), aI cy 2000 members_), ((d 7), aI cy 2000 touched_)]
theorem in_X4_splitTouched_X4 : ∀ w ∈ u_ws RX4 TX4 13, w ∈ wsX4_splitTouched := fun w h => (List.mem_cons_of_mem _ (List.mem_append_right _ h))
theorem lk_X4_splitTouched_X4_touchedCount : Lk wsX4_splitTouched RX4 39 4 8 := ⟨RX4, TX4, 13, rfl, by decide, in_X4_splitTouched_X4, mem_at 1 rfl⟩
theorem lk_X4_splitTouched_X4_touched : Lk wsX4_splitTouched RX4 36 4 7 := ⟨RX4, TX4, 13, rfl, by decide, in_X4_splitTouched_X4, mem_at 2 rfl⟩
theorem lp_X4_splitTouched_X4_touchedCount : Lp wsX4_splitTouched RX4 39 4 8 .int := ⟨RX4, TX4, 13, tyX4, rfl, by decide, in_X4_splitTouched_X4, mem_at 1 rfl, tyX4_ok, nmX4, rfl, by decide +kernel⟩
def b_X4_splitTouched_2 (members_ : Nat → Int32) (touched_ : Nat → Int32) (touchedCount_ : Int32) (blocks_ : Int32) (blockOf_ : Nat → Int32) (first_ : Nat → Int32) (size_ : Nat → Int32) (marked_ : Nat → Int32) (x1 : Int32) : Option ((Int32 × (Nat → Int32) × (Nat → Int32) × (Nat → Int32) × (Nat → Int32) × Int32) ⊕ (Int32 × (Nat → Int32) × (Nat → Int32) × (Nat → Int32) × (Nat → Int32))) :=
  if touchedCount_ ≤ x1 then
  (some (.inr (blocks_, blockOf_, first_, size_, marked_)))
  else
  (ldA touched_ 2000 x1 (fun v2 =>
  (f_X4_split v2 members_ blocks_ blockOf_ first_ size_ marked_).bind (fun u4 =>
  some (.inl (u4.1, u4.2.1, u4.2.2.1, u4.2.2.2.1, u4.2.2.2.2, (x1 + (1 : Int32)))))))
set_option maxHeartbeats 4000000 in
set_option maxRecDepth 100000 in
theorem wb_X4_splitTouched_2 {p : Program} {l : Launch} {e : Env} {s : State} {m : MethodId} {args : Array Value} {below : List Frame} {meth : Method} {c : Code} {A : Nat → Prop} {Q : State → Prop} {D : va_G} {cy : Nat → ClassId} (o : Nat) (d : Nat → Nat) (members_ : Nat → Int32) (touched_ : Nat → Int32) (touchedCount_ : Int32) (blocks_ : Int32) (blockOf_ : Nat → Int32) (first_ : Nat → Int32) (size_ : Nat → Int32) (marked_ : Nat → Int32) (x1 : Int32) (o1 : (Int32 × (Nat → Int32) × (Nat → Int32) × (Nat → Int32) × (Nat → Int32) × Int32) ⊕ (Int32 × (Nat → Int32) × (Nat → Int32) × (Nat → Int32) × (Nat → Int32))) (X : Cx p m c cX4_splitTouched 2 s args wsX4_splitTouched RX4 A D cy (RO_X4_splitTouched cy o d members_ touched_)) (h : b_X4_splitTouched_2 members_ touched_ touchedCount_ blocks_ blockOf_ first_ size_ marked_ x1 = some o1) (K : Sum.elim (fun v : Int32 × (Nat → Int32) × (Nat → Int32) × (Nat → Int32) × (Nat → Int32) × Int32 => ∀ (H : Heap) (locs : List Loc) (ls : Array Slot), St A D s (RW_X4_splitTouched cy o d v.1 touchedCount_ v.2.1 v.2.2.1 v.2.2.2.1 v.2.2.2.2.1) H locs → lv_has ls 2 [(0, .ref o), (1, .int v.2.2.2.2.2)] → W p l e rm_X4_splitTouched s m args below meth c H locs 0 0 Q (F0 m 2 ls [])) (fun v : Int32 × (Nat → Int32) × (Nat → Int32) × (Nat → Int32) × (Nat → Int32) => ∀ (H : Heap) (locs : List Loc) (ls : Array Slot), St A D s (RW_X4_splitTouched cy o d v.1 touchedCount_ v.2.1 v.2.2.1 v.2.2.2.1 v.2.2.2.2) H locs → lv_has ls 2 [(0, .ref o)] → W p l e rm_X4_splitTouched s m args below meth c H locs 0 0 Q (F0 m 26 ls [])) o1) : ∀ (H : Heap) (locs : List Loc) (ls : Array Slot), St A D s (RW_X4_splitTouched cy o d blocks_ touchedCount_ blockOf_ first_ size_ marked_) H locs → lv_has ls 2 [(0, .ref o), (1, .int x1)] → W p l e rm_X4_splitTouched s m args below meth c H locs 0 0 Q (F0 m 2 ls []) := by
  intro H locs ls Z hl
  have hx := X.1.1
  have hb := X.1.2.1
  unfold b_X4_splitTouched_2 at h
  refine lv_iload_n hx hb dX4_splitTouched_2 rfl (lv_at hl 1 rfl) ?_
  refine lv_aload_n hx hb dX4_splitTouched_3 rfl (lv_at hl 0 rfl) ?_
  refine x_get X Z 0 8 (v := .int touchedCount_) rfl rfl lk_X4_splitTouched_X4_touchedCount dX4_splitTouched_4 ?_
  refine lv_icmp_ge (tgt := 26) hx hb dX4_splitTouched_7 (by decide) (fun cnd => ?_) (fun cnd => ?_)
  · replace h := ifp h cnd
    obtain rfl := Option.some.inj h
    exact (sk_r K) H locs ls Z (lv_sub hl [0] rfl)
  · replace h := ifn h cnd
    refine lv_aload_n hx hb dX4_splitTouched_10 rfl (lv_at hl 0 rfl) ?_
    refine lv_aload_n hx hb dX4_splitTouched_11 rfl (lv_at hl 0 rfl) ?_
    refine x_get X Z 0 7 (v := .ref (d 7)) rfl rfl lk_X4_splitTouched_X4_touched dX4_splitTouched_12 ?_
    refine lv_iload_n hx hb dX4_splitTouched_15 rfl (lv_at hl 1 rfl) ?_
    obtain ⟨hin1, v2, hv3, h⟩ := ld_b h
    refine x_ialdO X Z 1 rfl hin1 hv3 dX4_splitTouched_16 ?_
    obtain ⟨u4, hc5, h⟩ := ob_some h
    refine x_runVv (RW' := (RW_X4_splitTouched cy o d u4.1 touchedCount_ u4.2.1 u4.2.2.1 u4.2.2.2.1 u4.2.2.2.2)) (wr := []) (isC := [0, 1, 2, 3, 4]) (isR := []) (isF := [0, 1, 2, 3, 4]) (rest := []) (As := [.int v2]) (n := 1) X Z (c_X4_split l D cy o d members_ blocks_ touchedCount_ blockOf_ first_ size_ marked_ v2 u4 hc5) gX4_splitTouched_X4_split rfl (by decide +kernel) ⟨Nat.le_of_ble_eq_true rfl, Nat.le_of_ble_eq_true rfl⟩ ⟨rfl, rfl⟩ ⟨Nat.le_of_ble_eq_true rfl, Nat.le_of_ble_eq_true rfl⟩ (x_rv X Z 0 rfl rfl) ⟨rfl, rfl, (roC (Or.inr (mem_at 0 rfl)) roN), rfl, rfl, by decide⟩ ⟨rfl, rfl⟩ rfl hl.1 rfl (Nat.le_of_ble_eq_true rfl) dX4_splitTouched_17 (fun H locs Z => ?_)
    refine lv_iinc (v := (x1 + (1 : Int32))) (lv' := [(1, .int (x1 + (1 : Int32))), (0, .ref o)]) hx hb dX4_splitTouched_20 hl (k := 1) rfl rfl (by decide) rfl (fun ls hl => ?_)
    refine lv_goto (tgt := 2) hx hb dX4_splitTouched_23 (by decide) ?_
    obtain rfl := Option.some.inj h
    exact sk_l K H locs ls Z (lv_sub hl [1, 0] rfl)
set_option maxHeartbeats 4000000 in
set_option maxRecDepth 100000 in
theorem wl_X4_splitTouched_2 {p : Program} {l : Launch} {e : Env} {s : State} {m : MethodId} {args : Array Value} {below : List Frame} {meth : Method} {c : Code} {A : Nat → Prop} {Q : State → Prop} {D : va_G} {cy : Nat → ClassId} (o : Nat) (d : Nat → Nat) (members_ : Nat → Int32) (touched_ : Nat → Int32) (touchedCount_ : Int32) (n : Nat) (v : Int32 × (Nat → Int32) × (Nat → Int32) × (Nat → Int32) × (Nat → Int32) × Int32) (x : Int32 × (Nat → Int32) × (Nat → Int32) × (Nat → Int32) × (Nat → Int32)) (X : Cx p m c cX4_splitTouched 2 s args wsX4_splitTouched RX4 A D cy (RO_X4_splitTouched cy o d members_ touched_)) (h : loopN (fun v => b_X4_splitTouched_2 members_ touched_ touchedCount_ v.1 v.2.1 v.2.2.1 v.2.2.2.1 v.2.2.2.2.1 v.2.2.2.2.2) n v = some x) (K : ∀ (H : Heap) (locs : List Loc) (ls : Array Slot), St A D s (RW_X4_splitTouched cy o d x.1 touchedCount_ x.2.1 x.2.2.1 x.2.2.2.1 x.2.2.2.2) H locs → lv_has ls 2 [(0, .ref o)] → W p l e rm_X4_splitTouched s m args below meth c H locs 0 0 Q (F0 m 26 ls [])) : ∀ (H : Heap) (locs : List Loc) (ls : Array Slot), St A D s (RW_X4_splitTouched cy o d v.1 touchedCount_ v.2.1 v.2.2.1 v.2.2.2.1 v.2.2.2.2.1) H locs → lv_has ls 2 [(0, .ref o), (1, .int v.2.2.2.2.2)] → W p l e rm_X4_splitTouched s m args below meth c H locs 0 0 Q (F0 m 2 ls []) :=
  loop_gen (B := (fun v => b_X4_splitTouched_2 members_ touched_ touchedCount_ v.1 v.2.1 v.2.2.1 v.2.2.2.1 v.2.2.2.2.1 v.2.2.2.2.2)) (Head := fun v : Int32 × (Nat → Int32) × (Nat → Int32) × (Nat → Int32) × (Nat → Int32) × Int32 => ∀ (H : Heap) (locs : List Loc) (ls : Array Slot), St A D s (RW_X4_splitTouched cy o d v.1 touchedCount_ v.2.1 v.2.2.1 v.2.2.2.1 v.2.2.2.2.1) H locs → lv_has ls 2 [(0, .ref o), (1, .int v.2.2.2.2.2)] → W p l e rm_X4_splitTouched s m args below meth c H locs 0 0 Q (F0 m 2 ls [])) (Exit := fun v : Int32 × (Nat → Int32) × (Nat → Int32) × (Nat → Int32) × (Nat → Int32) => ∀ (H : Heap) (locs : List Loc) (ls : Array Slot), St A D s (RW_X4_splitTouched cy o d v.1 touchedCount_ v.2.1 v.2.2.1 v.2.2.2.1 v.2.2.2.2) H locs → lv_has ls 2 [(0, .ref o)] → W p l e rm_X4_splitTouched s m args below meth c H locs 0 0 Q (F0 m 26 ls [])) (fun v o9 hb1 K1 => wb_X4_splitTouched_2 o d members_ touched_ touchedCount_ v.1 v.2.1 v.2.2.1 v.2.2.2.1 v.2.2.2.2.1 v.2.2.2.2.2 o9 X hb1 K1) n v x h K
def f_X4_splitTouched (members_ : Nat → Int32) (touched_ : Nat → Int32) (blocks_ : Int32) (touchedCount_ : Int32) (blockOf_ : Nat → Int32) (first_ : Nat → Int32) (size_ : Nat → Int32) (marked_ : Nat → Int32) : Option (Int32 × Int32 × (Nat → Int32) × (Nat → Int32) × (Nat → Int32) × (Nat → Int32)) :=
  (loopN (fun v => b_X4_splitTouched_2 members_ touched_ touchedCount_ v.1 v.2.1 v.2.2.1 v.2.2.2.1 v.2.2.2.2.1 v.2.2.2.2.2) FU (blocks_, blockOf_, first_, size_, marked_, (0 : Int32))).bind (fun u6 =>
  some (u6.1, (0 : Int32), u6.2.1, u6.2.2.1, u6.2.2.2.1, u6.2.2.2.2))
set_option maxHeartbeats 4000000 in
set_option maxRecDepth 100000 in
theorem wt_X4_splitTouched {p : Program} {l : Launch} {e : Env} {s : State} {m : MethodId} {args : Array Value} {below : List Frame} {meth : Method} {c : Code} {A : Nat → Prop} {Q : State → Prop} {D : va_G} {cy : Nat → ClassId} (o : Nat) (d : Nat → Nat) (members_ : Nat → Int32) (touched_ : Nat → Int32) (blocks_ : Int32) (touchedCount_ : Int32) (blockOf_ : Nat → Int32) (first_ : Nat → Int32) (size_ : Nat → Int32) (marked_ : Nat → Int32) (out : Int32 × Int32 × (Nat → Int32) × (Nat → Int32) × (Nat → Int32) × (Nat → Int32)) (X : Cx p m c cX4_splitTouched 2 s args wsX4_splitTouched RX4 A D cy (RO_X4_splitTouched cy o d members_ touched_)) (h : f_X4_splitTouched members_ touched_ blocks_ touchedCount_ blockOf_ first_ size_ marked_ = some out) (K : ∀ (H : Heap) (locs : List Loc) (ls : Array Slot) (pc : Nat), decode cX4_splitTouched pc = .ok (.return_, 1) → St A D s (RW_X4_splitTouched cy o d out.1 out.2.1 out.2.2.1 out.2.2.2.1 out.2.2.2.2.1 out.2.2.2.2.2) H locs → W p l e rm_X4_splitTouched s m args below meth c H locs 0 0 Q (F0 m pc ls [])) : ∀ (H : Heap) (locs : List Loc) (ls : Array Slot), St A D s (RW_X4_splitTouched cy o d blocks_ touchedCount_ blockOf_ first_ size_ marked_) H locs → lv_has ls 2 [(0, .ref o)] → W p l e rm_X4_splitTouched s m args below meth c H locs 0 0 Q (F0 m 0 ls []) := by
  intro H locs ls Z hl
  have hx := X.1.1
  have hb := X.1.2.1
  unfold f_X4_splitTouched at h
  refine lv_iconst (v := (0 : Int32)) hx hb dX4_splitTouched_0 (by decide) ?_
  refine lv_istore_n (lv' := [(1, .int (0 : Int32)), (0, .ref o)]) hx hb dX4_splitTouched_1 rfl hl (by decide) rfl (fun ls hl => ?_)
  obtain ⟨u6, hL7, h⟩ := ob_some h
  refine wl_X4_splitTouched_2 o d members_ touched_ touchedCount_ FU (blocks_, blockOf_, first_, size_, marked_, (0 : Int32)) u6 X hL7 (fun H locs ls Z hl => ?_) H locs ls Z (lv_sub hl [1, 0] rfl)
  refine lv_aload_n hx hb dX4_splitTouched_26 rfl (lv_at hl 0 rfl) ?_
  refine lv_iconst (v := (0 : Int32)) hx hb dX4_splitTouched_27 (by decide) ?_
  refine x_put X Z 0 8 (RW_X4_splitTouched cy o d u6.1 (0 : Int32) u6.2.1 u6.2.2.1 u6.2.2.2.1 u6.2.2.2.2) rfl lp_X4_splitTouched_X4_touchedCount (Nat.le_of_ble_eq_true rfl) rfl dX4_splitTouched_28 (fun H locs Z => ?_)
  obtain rfl := Option.some.inj h
  exact K H locs ls _ dX4_splitTouched_31 Z
theorem c_X4_splitTouched (l : Launch) (D : va_G) (cy : Nat → ClassId) (o : Nat) (d : Nat → Nat) (members_ : Nat → Int32) (touched_ : Nat → Int32) (blocks_ : Int32) (touchedCount_ : Int32) (blockOf_ : Nat → Int32) (first_ : Nat → Int32) (size_ : Nat → Int32) (marked_ : Nat → Int32) (out : Int32 × Int32 × (Nat → Int32) × (Nat → Int32) × (Nat → Int32) × (Nat → Int32)) (h : f_X4_splitTouched members_ touched_ blocks_ touchedCount_ blockOf_ first_ size_ marked_ = some out) : CtV l yX4_splitTouched wsX4_splitTouched rm_X4_splitTouched D cy [.ref o] (RW_X4_splitTouched cy o d blocks_ touchedCount_ blockOf_ first_ size_ marked_) (RO_X4_splitTouched cy o d members_ touched_) (RW_X4_splitTouched cy o d out.1 out.2.1 out.2.2.1 out.2.2.2.1 out.2.2.2.2.1 out.2.2.2.2.2) :=
  mk_v (by decide) rfl (Nat.le_of_ble_eq_true rfl) (fun p e s m args below meth c A Q X K H locs ls Z hl => wt_X4_splitTouched o d members_ touched_ blocks_ touchedCount_ blockOf_ first_ size_ marked_ out X h K H locs ls Z hl)
/-! SubwordCounter$Partition refine (LSubwordCounter$Automaton;)V -/
abbrev rm_X4_refine : Room := { frames := 3, cells := 0, slots := 0, locals := 68 }
def RW_X4_refine (cy : Nat → ClassId) (o : Nat) (q_p1 : Nat) (d : Nat → Nat) (d_p1 : Nat → Nat) (blocks_ : Int32) (touchedCount_ : Int32) (members_ : Nat → Int32) (place_ : Nat → Int32) (blockOf_ : Nat → Int32) (first_ : Nat → Int32) (size_ : Nat → Int32) (marked_ : Nat → Int32) (touched_ : Nat → Int32) (splitter_ : Nat → Int32) (sourceStart_ : Nat → Int32) (sources_ : Nat → Int32) : va_W := [(o, ob 4 (oX4 d blocks_ touchedCount_)), ((d 1), aI cy 2000 members_), ((d 2), aI cy 2000 place_), ((d 3), aI cy 2000 blockOf_), ((d 4), aI cy 2000 first_), ((d 5), aI cy 2000 size_), ((d 6), aI cy 2000 marked_), ((d 7), aI cy 2000 touched_), ((d 9), aI cy 2000 splitter_), ((d 11), aI cy 6003 sourceStart_), ((d 12), aI cy 6000 sources_)]
def RO_X4_refine (cy : Nat → ClassId) (o : Nat) (q_p1 : Nat) (d : Nat → Nat) (d_p1 : Nat → Nat) (p1_letters_ : Int32) (p1_states_ : Int32) (p1_next_ : Nat → Int32) (p1_marks_ : Nat → Int32) : va_W := [(q_p1, ob 0 (oX0 d_p1 p1_letters_ p1_states_)), ((d_p1 3), aI cy 6000 p1_next_), ((d_p1 4), aI cy 2000 p1_marks_)]
theorem in_X4_refine_X4 : ∀ w ∈ u_ws RX4 TX4 13, w ∈ wsX4_refine := fun w h => (List.mem_cons_of_mem _ (List.mem_append_left _ (List.mem_append_right _ h)))
theorem lk_X4_refine_X4_splitter : Lk wsX4_refine RX4 42 4 9 := ⟨RX4, TX4, 13, rfl, by decide, in_X4_refine_X4, mem_at 5 rfl⟩
theorem in_X4_refine_X0 : ∀ w ∈ u_ws RX0 TX0 13, w ∈ wsX4_refine := fun w h => (List.mem_cons_of_mem _ (List.mem_append_right _ h))
theorem lk_X4_refine_X0_letters : Lk wsX4_refine RX4 67 0 1 := ⟨RX0, TX0, 13, rfl, by decide, in_X4_refine_X0, mem_at 10 rfl⟩
theorem lk_X4_refine_X4_blocks : Lk wsX4_refine RX4 9 4 0 := ⟨RX4, TX4, 13, rfl, by decide, in_X4_refine_X4, mem_at 1 rfl⟩
theorem lk_X4_refine_X4_size : Lk wsX4_refine RX4 30 4 5 := ⟨RX4, TX4, 13, rfl, by decide, in_X4_refine_X4, mem_at 2 rfl⟩
theorem lk_X4_refine_X4_members : Lk wsX4_refine RX4 17 4 1 := ⟨RX4, TX4, 13, rfl, by decide, in_X4_refine_X4, mem_at 3 rfl⟩
theorem lk_X4_refine_X4_first : Lk wsX4_refine RX4 27 4 4 := ⟨RX4, TX4, 13, rfl, by decide, in_X4_refine_X4, mem_at 4 rfl⟩
theorem lc_X4_refine_61 : Lc wsX4_refine RX4 61 := ⟨mem_at 6 rfl, mem_at 7 rfl, mem_at 8 rfl, mem_at 9 rfl⟩
def b_X4_refine_68 (blockOf_ : Nat → Int32) (first_ : Nat → Int32) (splitter_ : Nat → Int32) (sourceStart_ : Nat → Int32) (sources_ : Nat → Int32) (x3 : Int32) (x4 : Int32) (touchedCount_ : Int32) (members_ : Nat → Int32) (place_ : Nat → Int32) (marked_ : Nat → Int32) (touched_ : Nat → Int32) (x5 : Int32) : Option ((Int32 × (Nat → Int32) × (Nat → Int32) × (Nat → Int32) × (Nat → Int32) × Int32) ⊕ (Int32 × (Nat → Int32) × (Nat → Int32) × (Nat → Int32) × (Nat → Int32))) :=
  if x3 ≤ x5 then
  (some (.inr (touchedCount_, members_, place_, marked_, touched_)))
  else
  (ldA splitter_ 2000 x5 (fun v2 =>
  (f_X4_markSources x4 v2 blockOf_ first_ sourceStart_ sources_ touchedCount_ members_ place_ marked_ touched_).bind (fun u4 =>
  some (.inl (u4.1, u4.2.1, u4.2.2.1, u4.2.2.2.1, u4.2.2.2.2, (x5 + (1 : Int32)))))))
set_option maxHeartbeats 4000000 in
set_option maxRecDepth 100000 in
theorem wb_X4_refine_68 {p : Program} {l : Launch} {e : Env} {s : State} {m : MethodId} {args : Array Value} {below : List Frame} {meth : Method} {c : Code} {A : Nat → Prop} {Q : State → Prop} {D : va_G} {cy : Nat → ClassId} (o : Nat) (q_p1 : Nat) (d : Nat → Nat) (d_p1 : Nat → Nat) (p1_letters_ : Int32) (p1_states_ : Int32) (p1_next_ : Nat → Int32) (p1_marks_ : Nat → Int32) (blocks_ : Int32) (blockOf_ : Nat → Int32) (first_ : Nat → Int32) (size_ : Nat → Int32) (splitter_ : Nat → Int32) (sourceStart_ : Nat → Int32) (sources_ : Nat → Int32) (x2 : Int32) (x3 : Int32) (x4 : Int32) (touchedCount_ : Int32) (members_ : Nat → Int32) (place_ : Nat → Int32) (marked_ : Nat → Int32) (touched_ : Nat → Int32) (x5 : Int32) (o1 : (Int32 × (Nat → Int32) × (Nat → Int32) × (Nat → Int32) × (Nat → Int32) × Int32) ⊕ (Int32 × (Nat → Int32) × (Nat → Int32) × (Nat → Int32) × (Nat → Int32))) (X : Cx p m c cX4_refine 6 s args wsX4_refine RX4 A D cy (RO_X4_refine cy o q_p1 d d_p1 p1_letters_ p1_states_ p1_next_ p1_marks_)) (h : b_X4_refine_68 blockOf_ first_ splitter_ sourceStart_ sources_ x3 x4 touchedCount_ members_ place_ marked_ touched_ x5 = some o1) (K : Sum.elim (fun v : Int32 × (Nat → Int32) × (Nat → Int32) × (Nat → Int32) × (Nat → Int32) × Int32 => ∀ (H : Heap) (locs : List Loc) (ls : Array Slot), St A D s (RW_X4_refine cy o q_p1 d d_p1 blocks_ v.1 v.2.1 v.2.2.1 blockOf_ first_ size_ v.2.2.2.1 v.2.2.2.2.1 splitter_ sourceStart_ sources_) H locs → lv_has ls 6 [(0, .ref o), (1, .ref q_p1), (2, .int x2), (3, .int x3), (4, .int x4), (5, .int v.2.2.2.2.2)] → W p l e rm_X4_refine s m args below meth c H locs 0 0 Q (F0 m 68 ls [])) (fun v : Int32 × (Nat → Int32) × (Nat → Int32) × (Nat → Int32) × (Nat → Int32) => ∀ (H : Heap) (locs : List Loc) (ls : Array Slot), St A D s (RW_X4_refine cy o q_p1 d d_p1 blocks_ v.1 v.2.1 v.2.2.1 blockOf_ first_ size_ v.2.2.2.1 v.2.2.2.2 splitter_ sourceStart_ sources_) H locs → lv_has ls 6 [(0, .ref o), (1, .ref q_p1), (2, .int x2), (3, .int x3), (4, .int x4)] → W p l e rm_X4_refine s m args below meth c H locs 0 0 Q (F0 m 93 ls [])) o1) : ∀ (H : Heap) (locs : List Loc) (ls : Array Slot), St A D s (RW_X4_refine cy o q_p1 d d_p1 blocks_ touchedCount_ members_ place_ blockOf_ first_ size_ marked_ touched_ splitter_ sourceStart_ sources_) H locs → lv_has ls 6 [(0, .ref o), (1, .ref q_p1), (2, .int x2), (3, .int x3), (4, .int x4), (5, .int x5)] → W p l e rm_X4_refine s m args below meth c H locs 0 0 Q (F0 m 68 ls []) := by
  intro H locs ls Z hl
  have hx := X.1.1
  have hb := X.1.2.1
  unfold b_X4_refine_68 at h
  refine lv_iload hx hb dX4_refine_68 (lv_at hl 5 rfl) ?_
  refine lv_iload_n hx hb dX4_refine_70 rfl (lv_at hl 3 rfl) ?_
  refine lv_icmp_ge (tgt := 93) hx hb dX4_refine_71 (by decide) (fun cnd => ?_) (fun cnd => ?_)
  · replace h := ifp h cnd
    obtain rfl := Option.some.inj h
    exact (sk_r K) H locs ls Z (lv_sub hl [0, 1, 2, 3, 4] rfl)
  · replace h := ifn h cnd
    refine lv_aload_n hx hb dX4_refine_74 rfl (lv_at hl 0 rfl) ?_
    refine lv_iload hx hb dX4_refine_75 (lv_at hl 4 rfl) ?_
    refine lv_aload_n hx hb dX4_refine_77 rfl (lv_at hl 0 rfl) ?_
    refine x_get X Z 0 9 (v := .ref (d 9)) rfl rfl lk_X4_refine_X4_splitter dX4_refine_78 ?_
    refine lv_iload hx hb dX4_refine_81 (lv_at hl 5 rfl) ?_
    obtain ⟨hin1, v2, hv3, h⟩ := ld_b h
    refine x_iald X Z 8 rfl hin1 hv3 dX4_refine_83 ?_
    obtain ⟨u4, hc5, h⟩ := ob_some h
    refine x_runVv (RW' := (RW_X4_refine cy o q_p1 d d_p1 blocks_ u4.1 u4.2.1 u4.2.2.1 blockOf_ first_ size_ u4.2.2.2.1 u4.2.2.2.2 splitter_ sourceStart_ sources_)) (wr := [((d 3), aI cy 2000 blockOf_), ((d 4), aI cy 2000 first_), ((d 5), aI cy 2000 size_), ((d 9), aI cy 2000 splitter_), ((d 11), aI cy 6003 sourceStart_), ((d 12), aI cy 6000 sources_)]) (isC := [0, 1, 2, 6, 7]) (isR := [3, 4, 5, 8, 9, 10]) (isF := [6, 7, 8, 0, 1, 2, 9, 10, 3, 4, 5]) (rest := []) (As := [.int x4, .int v2]) (n := 2) X Z (c_X4_markSources l D cy o d blockOf_ first_ sourceStart_ sources_ blocks_ touchedCount_ members_ place_ marked_ touched_ x4 v2 u4 hc5) gX4_refine_X4_markSources rfl (by decide +kernel) ⟨Nat.le_of_ble_eq_true rfl, Nat.le_of_ble_eq_true rfl⟩ ⟨rfl, rfl⟩ ⟨Nat.le_of_ble_eq_true rfl, Nat.le_of_ble_eq_true rfl⟩ (x_rv X Z 0 rfl rfl) ⟨rfl, rfl, (roC (Or.inl (mem_at 0 rfl)) (roC (Or.inl (mem_at 1 rfl)) (roC (Or.inl (mem_at 4 rfl)) (roC (Or.inl (mem_at 5 rfl)) roN)))), rfl, rfl, by decide⟩ ⟨rfl, rfl⟩ rfl hl.1 rfl (Nat.le_of_ble_eq_true rfl) dX4_refine_84 (fun H locs Z => ?_)
    refine lv_iinc (v := (x5 + (1 : Int32))) (lv' := [(5, .int (x5 + (1 : Int32))), (0, .ref o), (1, .ref q_p1), (2, .int x2), (3, .int x3), (4, .int x4)]) hx hb dX4_refine_87 hl (k := 5) rfl rfl (by decide) rfl (fun ls hl => ?_)
    refine lv_goto (tgt := 68) hx hb dX4_refine_90 (by decide) ?_
    obtain rfl := Option.some.inj h
    exact sk_l K H locs ls Z (lv_sub hl [1, 2, 3, 4, 5, 0] rfl)
set_option maxHeartbeats 4000000 in
set_option maxRecDepth 100000 in
theorem wl_X4_refine_68 {p : Program} {l : Launch} {e : Env} {s : State} {m : MethodId} {args : Array Value} {below : List Frame} {meth : Method} {c : Code} {A : Nat → Prop} {Q : State → Prop} {D : va_G} {cy : Nat → ClassId} (o : Nat) (q_p1 : Nat) (d : Nat → Nat) (d_p1 : Nat → Nat) (p1_letters_ : Int32) (p1_states_ : Int32) (p1_next_ : Nat → Int32) (p1_marks_ : Nat → Int32) (blocks_ : Int32) (blockOf_ : Nat → Int32) (first_ : Nat → Int32) (size_ : Nat → Int32) (splitter_ : Nat → Int32) (sourceStart_ : Nat → Int32) (sources_ : Nat → Int32) (x2 : Int32) (x3 : Int32) (x4 : Int32) (n : Nat) (v : Int32 × (Nat → Int32) × (Nat → Int32) × (Nat → Int32) × (Nat → Int32) × Int32) (x : Int32 × (Nat → Int32) × (Nat → Int32) × (Nat → Int32) × (Nat → Int32)) (X : Cx p m c cX4_refine 6 s args wsX4_refine RX4 A D cy (RO_X4_refine cy o q_p1 d d_p1 p1_letters_ p1_states_ p1_next_ p1_marks_)) (h : loopN (fun v => b_X4_refine_68 blockOf_ first_ splitter_ sourceStart_ sources_ x3 x4 v.1 v.2.1 v.2.2.1 v.2.2.2.1 v.2.2.2.2.1 v.2.2.2.2.2) n v = some x) (K : ∀ (H : Heap) (locs : List Loc) (ls : Array Slot), St A D s (RW_X4_refine cy o q_p1 d d_p1 blocks_ x.1 x.2.1 x.2.2.1 blockOf_ first_ size_ x.2.2.2.1 x.2.2.2.2 splitter_ sourceStart_ sources_) H locs → lv_has ls 6 [(0, .ref o), (1, .ref q_p1), (2, .int x2), (3, .int x3), (4, .int x4)] → W p l e rm_X4_refine s m args below meth c H locs 0 0 Q (F0 m 93 ls [])) : ∀ (H : Heap) (locs : List Loc) (ls : Array Slot), St A D s (RW_X4_refine cy o q_p1 d d_p1 blocks_ v.1 v.2.1 v.2.2.1 blockOf_ first_ size_ v.2.2.2.1 v.2.2.2.2.1 splitter_ sourceStart_ sources_) H locs → lv_has ls 6 [(0, .ref o), (1, .ref q_p1), (2, .int x2), (3, .int x3), (4, .int x4), (5, .int v.2.2.2.2.2)] → W p l e rm_X4_refine s m args below meth c H locs 0 0 Q (F0 m 68 ls []) :=
  loop_gen (B := (fun v => b_X4_refine_68 blockOf_ first_ splitter_ sourceStart_ sources_ x3 x4 v.1 v.2.1 v.2.2.1 v.2.2.2.1 v.2.2.2.2.1 v.2.2.2.2.2)) (Head := fun v : Int32 × (Nat → Int32) × (Nat → Int32) × (Nat → Int32) × (Nat → Int32) × Int32 => ∀ (H : Heap) (locs : List Loc) (ls : Array Slot), St A D s (RW_X4_refine cy o q_p1 d d_p1 blocks_ v.1 v.2.1 v.2.2.1 blockOf_ first_ size_ v.2.2.2.1 v.2.2.2.2.1 splitter_ sourceStart_ sources_) H locs → lv_has ls 6 [(0, .ref o), (1, .ref q_p1), (2, .int x2), (3, .int x3), (4, .int x4), (5, .int v.2.2.2.2.2)] → W p l e rm_X4_refine s m args below meth c H locs 0 0 Q (F0 m 68 ls [])) (Exit := fun v : Int32 × (Nat → Int32) × (Nat → Int32) × (Nat → Int32) × (Nat → Int32) => ∀ (H : Heap) (locs : List Loc) (ls : Array Slot), St A D s (RW_X4_refine cy o q_p1 d d_p1 blocks_ v.1 v.2.1 v.2.2.1 blockOf_ first_ size_ v.2.2.2.1 v.2.2.2.2 splitter_ sourceStart_ sources_) H locs → lv_has ls 6 [(0, .ref o), (1, .ref q_p1), (2, .int x2), (3, .int x3), (4, .int x4)] → W p l e rm_X4_refine s m args below meth c H locs 0 0 Q (F0 m 93 ls [])) (fun v o9 hb1 K1 => wb_X4_refine_68 o q_p1 d d_p1 p1_letters_ p1_states_ p1_next_ p1_marks_ blocks_ blockOf_ first_ size_ splitter_ sourceStart_ sources_ x2 x3 x4 v.1 v.2.1 v.2.2.1 v.2.2.2.1 v.2.2.2.2.1 v.2.2.2.2.2 o9 X hb1 K1) n v x h K
def b_X4_refine_56 (p1_letters_ : Int32) (splitter_ : Nat → Int32) (sourceStart_ : Nat → Int32) (sources_ : Nat → Int32) (x3 : Int32) (blocks_ : Int32) (touchedCount_ : Int32) (members_ : Nat → Int32) (place_ : Nat → Int32) (blockOf_ : Nat → Int32) (first_ : Nat → Int32) (size_ : Nat → Int32) (marked_ : Nat → Int32) (touched_ : Nat → Int32) (x4 : Int32) : Option ((Int32 × Int32 × (Nat → Int32) × (Nat → Int32) × (Nat → Int32) × (Nat → Int32) × (Nat → Int32) × (Nat → Int32) × (Nat → Int32) × Int32) ⊕ (Int32 × Int32 × (Nat → Int32) × (Nat → Int32) × (Nat → Int32) × (Nat → Int32) × (Nat → Int32) × (Nat → Int32) × (Nat → Int32))) :=
  if p1_letters_ ≤ x4 then
  (some (.inr (blocks_, touchedCount_, members_, place_, blockOf_, first_, size_, marked_, touched_)))
  else
  ((loopN (fun v => b_X4_refine_68 blockOf_ first_ splitter_ sourceStart_ sources_ x3 x4 v.1 v.2.1 v.2.2.1 v.2.2.2.1 v.2.2.2.2.1 v.2.2.2.2.2) FU (touchedCount_, members_, place_, marked_, touched_, (0 : Int32))).bind (fun u6 =>
  (f_X4_splitTouched u6.2.1 u6.2.2.2.2 blocks_ u6.1 blockOf_ first_ size_ u6.2.2.2.1).bind (fun u8 =>
  some (.inl (u8.1, u8.2.1, u6.2.1, u6.2.2.1, u8.2.2.1, u8.2.2.2.1, u8.2.2.2.2.1, u8.2.2.2.2.2, u6.2.2.2.2, (x4 + (1 : Int32)))))))
set_option maxHeartbeats 4000000 in
set_option maxRecDepth 100000 in
theorem wb_X4_refine_56 {p : Program} {l : Launch} {e : Env} {s : State} {m : MethodId} {args : Array Value} {below : List Frame} {meth : Method} {c : Code} {A : Nat → Prop} {Q : State → Prop} {D : va_G} {cy : Nat → ClassId} (o : Nat) (q_p1 : Nat) (d : Nat → Nat) (d_p1 : Nat → Nat) (p1_letters_ : Int32) (p1_states_ : Int32) (p1_next_ : Nat → Int32) (p1_marks_ : Nat → Int32) (splitter_ : Nat → Int32) (sourceStart_ : Nat → Int32) (sources_ : Nat → Int32) (x2 : Int32) (x3 : Int32) (blocks_ : Int32) (touchedCount_ : Int32) (members_ : Nat → Int32) (place_ : Nat → Int32) (blockOf_ : Nat → Int32) (first_ : Nat → Int32) (size_ : Nat → Int32) (marked_ : Nat → Int32) (touched_ : Nat → Int32) (x4 : Int32) (o1 : (Int32 × Int32 × (Nat → Int32) × (Nat → Int32) × (Nat → Int32) × (Nat → Int32) × (Nat → Int32) × (Nat → Int32) × (Nat → Int32) × Int32) ⊕ (Int32 × Int32 × (Nat → Int32) × (Nat → Int32) × (Nat → Int32) × (Nat → Int32) × (Nat → Int32) × (Nat → Int32) × (Nat → Int32))) (X : Cx p m c cX4_refine 6 s args wsX4_refine RX4 A D cy (RO_X4_refine cy o q_p1 d d_p1 p1_letters_ p1_states_ p1_next_ p1_marks_)) (h : b_X4_refine_56 p1_letters_ splitter_ sourceStart_ sources_ x3 blocks_ touchedCount_ members_ place_ blockOf_ first_ size_ marked_ touched_ x4 = some o1) (K : Sum.elim (fun v : Int32 × Int32 × (Nat → Int32) × (Nat → Int32) × (Nat → Int32) × (Nat → Int32) × (Nat → Int32) × (Nat → Int32) × (Nat → Int32) × Int32 => ∀ (H : Heap) (locs : List Loc) (ls : Array Slot), St A D s (RW_X4_refine cy o q_p1 d d_p1 v.1 v.2.1 v.2.2.1 v.2.2.2.1 v.2.2.2.2.1 v.2.2.2.2.2.1 v.2.2.2.2.2.2.1 v.2.2.2.2.2.2.2.1 v.2.2.2.2.2.2.2.2.1 splitter_ sourceStart_ sources_) H locs → lv_has ls 6 [(0, .ref o), (1, .ref q_p1), (2, .int x2), (3, .int x3), (4, .int v.2.2.2.2.2.2.2.2.2)] → W p l e rm_X4_refine s m args below meth c H locs 0 0 Q (F0 m 56 ls [])) (fun v : Int32 × Int32 × (Nat → Int32) × (Nat → Int32) × (Nat → Int32) × (Nat → Int32) × (Nat → Int32) × (Nat → Int32) × (Nat → Int32) => ∀ (H : Heap) (locs : List Loc) (ls : Array Slot), St A D s (RW_X4_refine cy o q_p1 d d_p1 v.1 v.2.1 v.2.2.1 v.2.2.2.1 v.2.2.2.2.1 v.2.2.2.2.2.1 v.2.2.2.2.2.2.1 v.2.2.2.2.2.2.2.1 v.2.2.2.2.2.2.2.2 splitter_ sourceStart_ sources_) H locs → lv_has ls 6 [(0, .ref o), (1, .ref q_p1), (2, .int x2)] → W p l e rm_X4_refine s m args below meth c H locs 0 0 Q (F0 m 103 ls [])) o1) : ∀ (H : Heap) (locs : List Loc) (ls : Array Slot), St A D s (RW_X4_refine cy o q_p1 d d_p1 blocks_ touchedCount_ members_ place_ blockOf_ first_ size_ marked_ touched_ splitter_ sourceStart_ sources_) H locs → lv_has ls 6 [(0, .ref o), (1, .ref q_p1), (2, .int x2), (3, .int x3), (4, .int x4)] → W p l e rm_X4_refine s m args below meth c H locs 0 0 Q (F0 m 56 ls []) := by
  intro H locs ls Z hl
  have hx := X.1.1
  have hb := X.1.2.1
  unfold b_X4_refine_56 at h
  refine lv_iload hx hb dX4_refine_56 (lv_at hl 4 rfl) ?_
  refine lv_aload_n hx hb dX4_refine_58 rfl (lv_at hl 1 rfl) ?_
  refine x_getO X Z 0 1 (v := .int p1_letters_) rfl rfl lk_X4_refine_X0_letters dX4_refine_59 ?_
  refine lv_icmp_ge (tgt := 103) hx hb dX4_refine_62 (by decide) (fun cnd => ?_) (fun cnd => ?_)
  · replace h := ifp h cnd
    obtain rfl := Option.some.inj h
    exact (sk_r K) H locs ls Z (lv_sub hl [0, 1, 2] rfl)
  · replace h := ifn h cnd
    refine lv_iconst (v := (0 : Int32)) hx hb dX4_refine_65 (by decide) ?_
    refine lv_istore (lv' := [(5, .int (0 : Int32)), (0, .ref o), (1, .ref q_p1), (2, .int x2), (3, .int x3), (4, .int x4)]) hx hb dX4_refine_66 hl (by decide) rfl (fun ls hl => ?_)
    obtain ⟨u6, hL7, h⟩ := ob_some h
    refine wl_X4_refine_68 o q_p1 d d_p1 p1_letters_ p1_states_ p1_next_ p1_marks_ blocks_ blockOf_ first_ size_ splitter_ sourceStart_ sources_ x2 x3 x4 FU (touchedCount_, members_, place_, marked_, touched_, (0 : Int32)) u6 X hL7 (fun H locs ls Z hl => ?_) H locs ls Z (lv_sub hl [1, 2, 3, 4, 5, 0] rfl)
    refine lv_aload_n hx hb dX4_refine_93 rfl (lv_at hl 0 rfl) ?_
    obtain ⟨u8, hc9, h⟩ := ob_some h
    refine x_runVv (RW' := (RW_X4_refine cy o q_p1 d d_p1 u8.1 u8.2.1 u6.2.1 u6.2.2.1 u8.2.2.1 u8.2.2.2.1 u8.2.2.2.2.1 u8.2.2.2.2.2 u6.2.2.2.2 splitter_ sourceStart_ sources_)) (wr := [((d 1), aI cy 2000 u6.2.1), ((d 2), aI cy 2000 u6.2.2.1), ((d 7), aI cy 2000 u6.2.2.2.2), ((d 9), aI cy 2000 splitter_), ((d 11), aI cy 6003 sourceStart_), ((d 12), aI cy 6000 sources_)]) (isC := [0, 3, 4, 5, 6]) (isR := [1, 2, 7, 8, 9, 10]) (isF := [6, 0, 1, 7, 8, 9, 10, 2, 3, 4, 5]) (rest := []) (As := []) (n := 0) X Z (c_X4_splitTouched l D cy o d u6.2.1 u6.2.2.2.2 blocks_ u6.1 blockOf_ first_ size_ u6.2.2.2.1 u8 hc9) gX4_refine_X4_splitTouched rfl (by decide +kernel) ⟨Nat.le_of_ble_eq_true rfl, Nat.le_of_ble_eq_true rfl⟩ ⟨rfl, rfl⟩ ⟨Nat.le_of_ble_eq_true rfl, Nat.le_of_ble_eq_true rfl⟩ (x_rv X Z 0 rfl rfl) ⟨rfl, rfl, (roC (Or.inl (mem_at 0 rfl)) (roC (Or.inl (mem_at 2 rfl)) roN)), rfl, rfl, by decide⟩ ⟨rfl, rfl⟩ rfl hl.1 rfl (Nat.le_of_ble_eq_true rfl) dX4_refine_94 (fun H locs Z => ?_)
    refine lv_iinc (v := (x4 + (1 : Int32))) (lv' := [(4, .int (x4 + (1 : Int32))), (0, .ref o), (1, .ref q_p1), (2, .int x2), (3, .int x3)]) hx hb dX4_refine_97 hl (k := 4) rfl rfl (by decide) rfl (fun ls hl => ?_)
    refine lv_goto (tgt := 56) hx hb dX4_refine_100 (by decide) ?_
    obtain rfl := Option.some.inj h
    exact sk_l K H locs ls Z (lv_sub hl [1, 2, 3, 4, 0] rfl)
set_option maxHeartbeats 4000000 in
set_option maxRecDepth 100000 in
theorem wl_X4_refine_56 {p : Program} {l : Launch} {e : Env} {s : State} {m : MethodId} {args : Array Value} {below : List Frame} {meth : Method} {c : Code} {A : Nat → Prop} {Q : State → Prop} {D : va_G} {cy : Nat → ClassId} (o : Nat) (q_p1 : Nat) (d : Nat → Nat) (d_p1 : Nat → Nat) (p1_letters_ : Int32) (p1_states_ : Int32) (p1_next_ : Nat → Int32) (p1_marks_ : Nat → Int32) (splitter_ : Nat → Int32) (sourceStart_ : Nat → Int32) (sources_ : Nat → Int32) (x2 : Int32) (x3 : Int32) (n : Nat) (v : Int32 × Int32 × (Nat → Int32) × (Nat → Int32) × (Nat → Int32) × (Nat → Int32) × (Nat → Int32) × (Nat → Int32) × (Nat → Int32) × Int32) (x : Int32 × Int32 × (Nat → Int32) × (Nat → Int32) × (Nat → Int32) × (Nat → Int32) × (Nat → Int32) × (Nat → Int32) × (Nat → Int32)) (X : Cx p m c cX4_refine 6 s args wsX4_refine RX4 A D cy (RO_X4_refine cy o q_p1 d d_p1 p1_letters_ p1_states_ p1_next_ p1_marks_)) (h : loopN (fun v => b_X4_refine_56 p1_letters_ splitter_ sourceStart_ sources_ x3 v.1 v.2.1 v.2.2.1 v.2.2.2.1 v.2.2.2.2.1 v.2.2.2.2.2.1 v.2.2.2.2.2.2.1 v.2.2.2.2.2.2.2.1 v.2.2.2.2.2.2.2.2.1 v.2.2.2.2.2.2.2.2.2) n v = some x) (K : ∀ (H : Heap) (locs : List Loc) (ls : Array Slot), St A D s (RW_X4_refine cy o q_p1 d d_p1 x.1 x.2.1 x.2.2.1 x.2.2.2.1 x.2.2.2.2.1 x.2.2.2.2.2.1 x.2.2.2.2.2.2.1 x.2.2.2.2.2.2.2.1 x.2.2.2.2.2.2.2.2 splitter_ sourceStart_ sources_) H locs → lv_has ls 6 [(0, .ref o), (1, .ref q_p1), (2, .int x2)] → W p l e rm_X4_refine s m args below meth c H locs 0 0 Q (F0 m 103 ls [])) : ∀ (H : Heap) (locs : List Loc) (ls : Array Slot), St A D s (RW_X4_refine cy o q_p1 d d_p1 v.1 v.2.1 v.2.2.1 v.2.2.2.1 v.2.2.2.2.1 v.2.2.2.2.2.1 v.2.2.2.2.2.2.1 v.2.2.2.2.2.2.2.1 v.2.2.2.2.2.2.2.2.1 splitter_ sourceStart_ sources_) H locs → lv_has ls 6 [(0, .ref o), (1, .ref q_p1), (2, .int x2), (3, .int x3), (4, .int v.2.2.2.2.2.2.2.2.2)] → W p l e rm_X4_refine s m args below meth c H locs 0 0 Q (F0 m 56 ls []) :=
  loop_gen (B := (fun v => b_X4_refine_56 p1_letters_ splitter_ sourceStart_ sources_ x3 v.1 v.2.1 v.2.2.1 v.2.2.2.1 v.2.2.2.2.1 v.2.2.2.2.2.1 v.2.2.2.2.2.2.1 v.2.2.2.2.2.2.2.1 v.2.2.2.2.2.2.2.2.1 v.2.2.2.2.2.2.2.2.2)) (Head := fun v : Int32 × Int32 × (Nat → Int32) × (Nat → Int32) × (Nat → Int32) × (Nat → Int32) × (Nat → Int32) × (Nat → Int32) × (Nat → Int32) × Int32 => ∀ (H : Heap) (locs : List Loc) (ls : Array Slot), St A D s (RW_X4_refine cy o q_p1 d d_p1 v.1 v.2.1 v.2.2.1 v.2.2.2.1 v.2.2.2.2.1 v.2.2.2.2.2.1 v.2.2.2.2.2.2.1 v.2.2.2.2.2.2.2.1 v.2.2.2.2.2.2.2.2.1 splitter_ sourceStart_ sources_) H locs → lv_has ls 6 [(0, .ref o), (1, .ref q_p1), (2, .int x2), (3, .int x3), (4, .int v.2.2.2.2.2.2.2.2.2)] → W p l e rm_X4_refine s m args below meth c H locs 0 0 Q (F0 m 56 ls [])) (Exit := fun v : Int32 × Int32 × (Nat → Int32) × (Nat → Int32) × (Nat → Int32) × (Nat → Int32) × (Nat → Int32) × (Nat → Int32) × (Nat → Int32) => ∀ (H : Heap) (locs : List Loc) (ls : Array Slot), St A D s (RW_X4_refine cy o q_p1 d d_p1 v.1 v.2.1 v.2.2.1 v.2.2.2.1 v.2.2.2.2.1 v.2.2.2.2.2.1 v.2.2.2.2.2.2.1 v.2.2.2.2.2.2.2.1 v.2.2.2.2.2.2.2.2 splitter_ sourceStart_ sources_) H locs → lv_has ls 6 [(0, .ref o), (1, .ref q_p1), (2, .int x2)] → W p l e rm_X4_refine s m args below meth c H locs 0 0 Q (F0 m 103 ls [])) (fun v o9 hb1 K1 => wb_X4_refine_56 o q_p1 d d_p1 p1_letters_ p1_states_ p1_next_ p1_marks_ splitter_ sourceStart_ sources_ x2 x3 v.1 v.2.1 v.2.2.1 v.2.2.2.1 v.2.2.2.2.1 v.2.2.2.2.2.1 v.2.2.2.2.2.2.1 v.2.2.2.2.2.2.2.1 v.2.2.2.2.2.2.2.2.1 v.2.2.2.2.2.2.2.2.2 o9 X hb1 K1) n v x h K
def b_X4_refine_12 (p1_letters_ : Int32) (sourceStart_ : Nat → Int32) (sources_ : Nat → Int32) (blocks_ : Int32) (touchedCount_ : Int32) (members_ : Nat → Int32) (place_ : Nat → Int32) (blockOf_ : Nat → Int32) (first_ : Nat → Int32) (size_ : Nat → Int32) (marked_ : Nat → Int32) (touched_ : Nat → Int32) (splitter_ : Nat → Int32) (x2 : Int32) : Option ((Int32 × Int32 × (Nat → Int32) × (Nat → Int32) × (Nat → Int32) × (Nat → Int32) × (Nat → Int32) × (Nat → Int32) × (Nat → Int32) × (Nat → Int32) × Int32) ⊕ (Int32 × Int32 × (Nat → Int32) × (Nat → Int32) × (Nat → Int32) × (Nat → Int32) × (Nat → Int32) × (Nat → Int32) × (Nat → Int32) × (Nat → Int32))) :=
  if (2000 : Int32) ≤ x2 then
  (some (.inr (blocks_, touchedCount_, members_, place_, blockOf_, first_, size_, marked_, touched_, splitter_)))
  else
  (if blocks_ ≤ x2 then
  (some (.inr (blocks_, touchedCount_, members_, place_, blockOf_, first_, size_, marked_, touched_, splitter_)))
  else
  (ldA size_ 2000 x2 (fun v11 =>
  ldA first_ 2000 x2 (fun v14 =>
  cpA members_ splitter_ 2000 2000 v14 (0 : Int32) v11 (fun splitter_16 =>
  (loopN (fun v => b_X4_refine_56 p1_letters_ splitter_16 sourceStart_ sources_ v11 v.1 v.2.1 v.2.2.1 v.2.2.2.1 v.2.2.2.2.1 v.2.2.2.2.2.1 v.2.2.2.2.2.2.1 v.2.2.2.2.2.2.2.1 v.2.2.2.2.2.2.2.2.1 v.2.2.2.2.2.2.2.2.2) FU (blocks_, touchedCount_, members_, place_, blockOf_, first_, size_, marked_, touched_, (0 : Int32))).bind (fun u19 =>
  some (.inl (u19.1, u19.2.1, u19.2.2.1, u19.2.2.2.1, u19.2.2.2.2.1, u19.2.2.2.2.2.1, u19.2.2.2.2.2.2.1, u19.2.2.2.2.2.2.2.1, u19.2.2.2.2.2.2.2.2, splitter_16, (x2 + (1 : Int32))))))))))
set_option maxHeartbeats 4000000 in
set_option maxRecDepth 100000 in
theorem wb_X4_refine_12 {p : Program} {l : Launch} {e : Env} {s : State} {m : MethodId} {args : Array Value} {below : List Frame} {meth : Method} {c : Code} {A : Nat → Prop} {Q : State → Prop} {D : va_G} {cy : Nat → ClassId} (o : Nat) (q_p1 : Nat) (d : Nat → Nat) (d_p1 : Nat → Nat) (p1_letters_ : Int32) (p1_states_ : Int32) (p1_next_ : Nat → Int32) (p1_marks_ : Nat → Int32) (sourceStart_ : Nat → Int32) (sources_ : Nat → Int32) (blocks_ : Int32) (touchedCount_ : Int32) (members_ : Nat → Int32) (place_ : Nat → Int32) (blockOf_ : Nat → Int32) (first_ : Nat → Int32) (size_ : Nat → Int32) (marked_ : Nat → Int32) (touched_ : Nat → Int32) (splitter_ : Nat → Int32) (x2 : Int32) (o1 : (Int32 × Int32 × (Nat → Int32) × (Nat → Int32) × (Nat → Int32) × (Nat → Int32) × (Nat → Int32) × (Nat → Int32) × (Nat → Int32) × (Nat → Int32) × Int32) ⊕ (Int32 × Int32 × (Nat → Int32) × (Nat → Int32) × (Nat → Int32) × (Nat → Int32) × (Nat → Int32) × (Nat → Int32) × (Nat → Int32) × (Nat → Int32))) (X : Cx p m c cX4_refine 6 s args wsX4_refine RX4 A D cy (RO_X4_refine cy o q_p1 d d_p1 p1_letters_ p1_states_ p1_next_ p1_marks_)) (h : b_X4_refine_12 p1_letters_ sourceStart_ sources_ blocks_ touchedCount_ members_ place_ blockOf_ first_ size_ marked_ touched_ splitter_ x2 = some o1) (K : Sum.elim (fun v : Int32 × Int32 × (Nat → Int32) × (Nat → Int32) × (Nat → Int32) × (Nat → Int32) × (Nat → Int32) × (Nat → Int32) × (Nat → Int32) × (Nat → Int32) × Int32 => ∀ (H : Heap) (locs : List Loc) (ls : Array Slot), St A D s (RW_X4_refine cy o q_p1 d d_p1 v.1 v.2.1 v.2.2.1 v.2.2.2.1 v.2.2.2.2.1 v.2.2.2.2.2.1 v.2.2.2.2.2.2.1 v.2.2.2.2.2.2.2.1 v.2.2.2.2.2.2.2.2.1 v.2.2.2.2.2.2.2.2.2.1 sourceStart_ sources_) H locs → lv_has ls 6 [(0, .ref o), (1, .ref q_p1), (2, .int v.2.2.2.2.2.2.2.2.2.2)] → W p l e rm_X4_refine s m args below meth c H locs 0 0 Q (F0 m 12 ls [])) (fun v : Int32 × Int32 × (Nat → Int32) × (Nat → Int32) × (Nat → Int32) × (Nat → Int32) × (Nat → Int32) × (Nat → Int32) × (Nat → Int32) × (Nat → Int32) => ∀ (H : Heap) (locs : List Loc) (ls : Array Slot), St A D s (RW_X4_refine cy o q_p1 d d_p1 v.1 v.2.1 v.2.2.1 v.2.2.2.1 v.2.2.2.2.1 v.2.2.2.2.2.1 v.2.2.2.2.2.2.1 v.2.2.2.2.2.2.2.1 v.2.2.2.2.2.2.2.2.1 v.2.2.2.2.2.2.2.2.2 sourceStart_ sources_) H locs → lv_has ls 6 [] → W p l e rm_X4_refine s m args below meth c H locs 0 0 Q (F0 m 109 ls [])) o1) : ∀ (H : Heap) (locs : List Loc) (ls : Array Slot), St A D s (RW_X4_refine cy o q_p1 d d_p1 blocks_ touchedCount_ members_ place_ blockOf_ first_ size_ marked_ touched_ splitter_ sourceStart_ sources_) H locs → lv_has ls 6 [(0, .ref o), (1, .ref q_p1), (2, .int x2)] → W p l e rm_X4_refine s m args below meth c H locs 0 0 Q (F0 m 12 ls []) := by
  intro H locs ls Z hl
  have hx := X.1.1
  have hb := X.1.2.1
  unfold b_X4_refine_12 at h
  refine lv_iload_n hx hb dX4_refine_12 rfl (lv_at hl 2 rfl) ?_
  refine lv_sipush (v := (2000 : Int32)) hx hb dX4_refine_13 (by decide) ?_
  refine lv_icmp_ge (tgt := 109) hx hb dX4_refine_16 (by decide) (fun cnd => ?_) (fun cnd => ?_)
  · replace h := ifp h cnd
    obtain rfl := Option.some.inj h
    exact (sk_r K) H locs ls Z (lv_sub hl [] rfl)
  · replace h := ifn h cnd
    refine lv_iload_n hx hb dX4_refine_19 rfl (lv_at hl 2 rfl) ?_
    refine lv_aload_n hx hb dX4_refine_20 rfl (lv_at hl 0 rfl) ?_
    refine x_get X Z 0 0 (v := .int blocks_) rfl rfl lk_X4_refine_X4_blocks dX4_refine_21 ?_
    refine lv_icmp_ge (tgt := 109) hx hb dX4_refine_24 (by decide) (fun cnd => ?_) (fun cnd => ?_)
    · replace h := ifp h cnd
      obtain rfl := Option.some.inj h
      exact (sk_r K) H locs ls Z (lv_sub hl [] rfl)
    · replace h := ifn h cnd
      refine lv_aload_n hx hb dX4_refine_27 rfl (lv_at hl 0 rfl) ?_
      refine x_get X Z 0 5 (v := .ref (d 5)) rfl rfl lk_X4_refine_X4_size dX4_refine_28 ?_
      refine lv_iload_n hx hb dX4_refine_31 rfl (lv_at hl 2 rfl) ?_
      obtain ⟨hin10, v11, hv12, h⟩ := ld_b h
      refine x_iald X Z 5 rfl hin10 hv12 dX4_refine_32 ?_
      refine lv_istore_n (lv' := [(3, .int v11), (0, .ref o), (1, .ref q_p1), (2, .int x2)]) hx hb dX4_refine_33 rfl hl (by decide) rfl (fun ls hl => ?_)
      refine lv_aload_n hx hb dX4_refine_34 rfl (lv_at hl 1 rfl) ?_
      refine x_get X Z 0 1 (v := .ref (d 1)) rfl rfl lk_X4_refine_X4_members dX4_refine_35 ?_
      refine lv_aload_n hx hb dX4_refine_38 rfl (lv_at hl 1 rfl) ?_
      refine x_get X Z 0 4 (v := .ref (d 4)) rfl rfl lk_X4_refine_X4_first dX4_refine_39 ?_
      refine lv_iload_n hx hb dX4_refine_42 rfl (lv_at hl 3 rfl) ?_
      obtain ⟨hin13, v14, hv15, h⟩ := ld_b h
      refine x_iald X Z 4 rfl hin13 hv15 dX4_refine_43 ?_
      refine lv_aload_n hx hb dX4_refine_44 rfl (lv_at hl 1 rfl) ?_
      refine x_get X Z 0 9 (v := .ref (d 9)) rfl rfl lk_X4_refine_X4_splitter dX4_refine_45 ?_
      refine lv_iconst (v := (0 : Int32)) hx hb dX4_refine_48 (by decide) ?_
      refine lv_iload_n hx hb dX4_refine_49 rfl (lv_at hl 0 rfl) ?_
      obtain ⟨hcx18, splitter_16, hv17, h⟩ := cp_b h
      refine x_cpyI X Z hl 1 8 (RW_X4_refine cy o q_p1 d d_p1 blocks_ touchedCount_ members_ place_ blockOf_ first_ size_ marked_ touched_ splitter_16 sourceStart_ sources_) lc_X4_refine_61 rfl rfl hcx18 hv17 rfl (Nat.le_of_ble_eq_true rfl) (Nat.le_of_ble_eq_true rfl) dX4_refine_50 (fun H locs Z => ?_)
      refine lv_iconst (v := (0 : Int32)) hx hb dX4_refine_53 (by decide) ?_
      refine lv_istore (lv' := [(4, .int (0 : Int32)), (3, .int v11), (0, .ref o), (1, .ref q_p1), (2, .int x2)]) hx hb dX4_refine_54 hl (by decide) rfl (fun ls hl => ?_)
      obtain ⟨u19, hL20, h⟩ := ob_some h
      refine wl_X4_refine_56 o q_p1 d d_p1 p1_letters_ p1_states_ p1_next_ p1_marks_ splitter_16 sourceStart_ sources_ x2 v11 FU (blocks_, touchedCount_, members_, place_, blockOf_, first_, size_, marked_, touched_, (0 : Int32)) u19 X hL20 (fun H locs ls Z hl => ?_) H locs ls Z (lv_sub hl [2, 3, 4, 1, 0] rfl)
      refine lv_iinc (v := (x2 + (1 : Int32))) (lv' := [(2, .int (x2 + (1 : Int32))), (0, .ref o), (1, .ref q_p1)]) hx hb dX4_refine_103 hl (k := 2) rfl rfl (by decide) rfl (fun ls hl => ?_)
      refine lv_goto (tgt := 12) hx hb dX4_refine_106 (by decide) ?_
      obtain rfl := Option.some.inj h
      exact sk_l K H locs ls Z (lv_sub hl [1, 2, 0] rfl)
set_option maxHeartbeats 4000000 in
set_option maxRecDepth 100000 in
theorem wl_X4_refine_12 {p : Program} {l : Launch} {e : Env} {s : State} {m : MethodId} {args : Array Value} {below : List Frame} {meth : Method} {c : Code} {A : Nat → Prop} {Q : State → Prop} {D : va_G} {cy : Nat → ClassId} (o : Nat) (q_p1 : Nat) (d : Nat → Nat) (d_p1 : Nat → Nat) (p1_letters_ : Int32) (p1_states_ : Int32) (p1_next_ : Nat → Int32) (p1_marks_ : Nat → Int32) (sourceStart_ : Nat → Int32) (sources_ : Nat → Int32) (n : Nat) (v : Int32 × Int32 × (Nat → Int32) × (Nat → Int32) × (Nat → Int32) × (Nat → Int32) × (Nat → Int32) × (Nat → Int32) × (Nat → Int32) × (Nat → Int32) × Int32) (x : Int32 × Int32 × (Nat → Int32) × (Nat → Int32) × (Nat → Int32) × (Nat → Int32) × (Nat → Int32) × (Nat → Int32) × (Nat → Int32) × (Nat → Int32)) (X : Cx p m c cX4_refine 6 s args wsX4_refine RX4 A D cy (RO_X4_refine cy o q_p1 d d_p1 p1_letters_ p1_states_ p1_next_ p1_marks_)) (h : loopN (fun v => b_X4_refine_12 p1_letters_ sourceStart_ sources_ v.1 v.2.1 v.2.2.1 v.2.2.2.1 v.2.2.2.2.1 v.2.2.2.2.2.1 v.2.2.2.2.2.2.1 v.2.2.2.2.2.2.2.1 v.2.2.2.2.2.2.2.2.1 v.2.2.2.2.2.2.2.2.2.1 v.2.2.2.2.2.2.2.2.2.2) n v = some x) (K : ∀ (H : Heap) (locs : List Loc) (ls : Array Slot), St A D s (RW_X4_refine cy o q_p1 d d_p1 x.1 x.2.1 x.2.2.1 x.2.2.2.1 x.2.2.2.2.1 x.2.2.2.2.2.1 x.2.2.2.2.2.2.1 x.2.2.2.2.2.2.2.1 x.2.2.2.2.2.2.2.2.1 x.2.2.2.2.2.2.2.2.2 sourceStart_ sources_) H locs → lv_has ls 6 [] → W p l e rm_X4_refine s m args below meth c H locs 0 0 Q (F0 m 109 ls [])) : ∀ (H : Heap) (locs : List Loc) (ls : Array Slot), St A D s (RW_X4_refine cy o q_p1 d d_p1 v.1 v.2.1 v.2.2.1 v.2.2.2.1 v.2.2.2.2.1 v.2.2.2.2.2.1 v.2.2.2.2.2.2.1 v.2.2.2.2.2.2.2.1 v.2.2.2.2.2.2.2.2.1 v.2.2.2.2.2.2.2.2.2.1 sourceStart_ sources_) H locs → lv_has ls 6 [(0, .ref o), (1, .ref q_p1), (2, .int v.2.2.2.2.2.2.2.2.2.2)] → W p l e rm_X4_refine s m args below meth c H locs 0 0 Q (F0 m 12 ls []) :=
  loop_gen (B := (fun v => b_X4_refine_12 p1_letters_ sourceStart_ sources_ v.1 v.2.1 v.2.2.1 v.2.2.2.1 v.2.2.2.2.1 v.2.2.2.2.2.1 v.2.2.2.2.2.2.1 v.2.2.2.2.2.2.2.1 v.2.2.2.2.2.2.2.2.1 v.2.2.2.2.2.2.2.2.2.1 v.2.2.2.2.2.2.2.2.2.2)) (Head := fun v : Int32 × Int32 × (Nat → Int32) × (Nat → Int32) × (Nat → Int32) × (Nat → Int32) × (Nat → Int32) × (Nat → Int32) × (Nat → Int32) × (Nat → Int32) × Int32 => ∀ (H : Heap) (locs : List Loc) (ls : Array Slot), St A D s (RW_X4_refine cy o q_p1 d d_p1 v.1 v.2.1 v.2.2.1 v.2.2.2.1 v.2.2.2.2.1 v.2.2.2.2.2.1 v.2.2.2.2.2.2.1 v.2.2.2.2.2.2.2.1 v.2.2.2.2.2.2.2.2.1 v.2.2.2.2.2.2.2.2.2.1 sourceStart_ sources_) H locs → lv_has ls 6 [(0, .ref o), (1, .ref q_p1), (2, .int v.2.2.2.2.2.2.2.2.2.2)] → W p l e rm_X4_refine s m args below meth c H locs 0 0 Q (F0 m 12 ls [])) (Exit := fun v : Int32 × Int32 × (Nat → Int32) × (Nat → Int32) × (Nat → Int32) × (Nat → Int32) × (Nat → Int32) × (Nat → Int32) × (Nat → Int32) × (Nat → Int32) => ∀ (H : Heap) (locs : List Loc) (ls : Array Slot), St A D s (RW_X4_refine cy o q_p1 d d_p1 v.1 v.2.1 v.2.2.1 v.2.2.2.1 v.2.2.2.2.1 v.2.2.2.2.2.1 v.2.2.2.2.2.2.1 v.2.2.2.2.2.2.2.1 v.2.2.2.2.2.2.2.2.1 v.2.2.2.2.2.2.2.2.2 sourceStart_ sources_) H locs → lv_has ls 6 [] → W p l e rm_X4_refine s m args below meth c H locs 0 0 Q (F0 m 109 ls [])) (fun v o9 hb1 K1 => wb_X4_refine_12 o q_p1 d d_p1 p1_letters_ p1_states_ p1_next_ p1_marks_ sourceStart_ sources_ v.1 v.2.1 v.2.2.1 v.2.2.2.1 v.2.2.2.2.1 v.2.2.2.2.2.1 v.2.2.2.2.2.2.1 v.2.2.2.2.2.2.2.1 v.2.2.2.2.2.2.2.2.1 v.2.2.2.2.2.2.2.2.2.1 v.2.2.2.2.2.2.2.2.2.2 o9 X hb1 K1) n v x h K
def f_X4_refine (p1_letters_ : Int32) (p1_states_ : Int32) (p1_next_ : Nat → Int32) (p1_marks_ : Nat → Int32) (blocks_ : Int32) (touchedCount_ : Int32) (members_ : Nat → Int32) (place_ : Nat → Int32) (blockOf_ : Nat → Int32) (first_ : Nat → Int32) (size_ : Nat → Int32) (marked_ : Nat → Int32) (touched_ : Nat → Int32) (splitter_ : Nat → Int32) (sourceStart_ : Nat → Int32) (sources_ : Nat → Int32) : Option (Int32 × Int32 × (Nat → Int32) × (Nat → Int32) × (Nat → Int32) × (Nat → Int32) × (Nat → Int32) × (Nat → Int32) × (Nat → Int32) × (Nat → Int32) × (Nat → Int32) × (Nat → Int32)) :=
  (f_X4_groupByMark p1_states_ p1_marks_ blocks_ members_ place_ blockOf_ first_ size_ marked_).bind (fun u21 =>
  (f_X4_gatherSources p1_letters_ p1_states_ p1_next_ sourceStart_ sources_).bind (fun u23 =>
  (loopN (fun v => b_X4_refine_12 p1_letters_ u23.1 u23.2 v.1 v.2.1 v.2.2.1 v.2.2.2.1 v.2.2.2.2.1 v.2.2.2.2.2.1 v.2.2.2.2.2.2.1 v.2.2.2.2.2.2.2.1 v.2.2.2.2.2.2.2.2.1 v.2.2.2.2.2.2.2.2.2.1 v.2.2.2.2.2.2.2.2.2.2) FU (u21.1, touchedCount_, u21.2.1, u21.2.2.1, u21.2.2.2.1, u21.2.2.2.2.1, u21.2.2.2.2.2.1, u21.2.2.2.2.2.2, touched_, splitter_, (0 : Int32))).bind (fun u25 =>
  some (u25.1, u25.2.1, u25.2.2.1, u25.2.2.2.1, u25.2.2.2.2.1, u25.2.2.2.2.2.1, u25.2.2.2.2.2.2.1, u25.2.2.2.2.2.2.2.1, u25.2.2.2.2.2.2.2.2.1, u25.2.2.2.2.2.2.2.2.2, u23.1, u23.2))))
set_option maxHeartbeats 4000000 in
set_option maxRecDepth 100000 in
theorem wt_X4_refine {p : Program} {l : Launch} {e : Env} {s : State} {m : MethodId} {args : Array Value} {below : List Frame} {meth : Method} {c : Code} {A : Nat → Prop} {Q : State → Prop} {D : va_G} {cy : Nat → ClassId} (o : Nat) (q_p1 : Nat) (d : Nat → Nat) (d_p1 : Nat → Nat) (p1_letters_ : Int32) (p1_states_ : Int32) (p1_next_ : Nat → Int32) (p1_marks_ : Nat → Int32) (blocks_ : Int32) (touchedCount_ : Int32) (members_ : Nat → Int32) (place_ : Nat → Int32) (blockOf_ : Nat → Int32) (first_ : Nat → Int32) (size_ : Nat → Int32) (marked_ : Nat → Int32) (touched_ : Nat → Int32) (splitter_ : Nat → Int32) (sourceStart_ : Nat → Int32) (sources_ : Nat → Int32) (out : Int32 × Int32 × (Nat → Int32) × (Nat → Int32) × (Nat → Int32) × (Nat → Int32) × (Nat → Int32) × (Nat → Int32) × (Nat → Int32) × (Nat → Int32) × (Nat → Int32) × (Nat → Int32)) (X : Cx p m c cX4_refine 6 s args wsX4_refine RX4 A D cy (RO_X4_refine cy o q_p1 d d_p1 p1_letters_ p1_states_ p1_next_ p1_marks_)) (h : f_X4_refine p1_letters_ p1_states_ p1_next_ p1_marks_ blocks_ touchedCount_ members_ place_ blockOf_ first_ size_ marked_ touched_ splitter_ sourceStart_ sources_ = some out) (K : ∀ (H : Heap) (locs : List Loc) (ls : Array Slot) (pc : Nat), decode cX4_refine pc = .ok (.return_, 1) → St A D s (RW_X4_refine cy o q_p1 d d_p1 out.1 out.2.1 out.2.2.1 out.2.2.2.1 out.2.2.2.2.1 out.2.2.2.2.2.1 out.2.2.2.2.2.2.1 out.2.2.2.2.2.2.2.1 out.2.2.2.2.2.2.2.2.1 out.2.2.2.2.2.2.2.2.2.1 out.2.2.2.2.2.2.2.2.2.2.1 out.2.2.2.2.2.2.2.2.2.2.2) H locs → W p l e rm_X4_refine s m args below meth c H locs 0 0 Q (F0 m pc ls [])) : ∀ (H : Heap) (locs : List Loc) (ls : Array Slot), St A D s (RW_X4_refine cy o q_p1 d d_p1 blocks_ touchedCount_ members_ place_ blockOf_ first_ size_ marked_ touched_ splitter_ sourceStart_ sources_) H locs → lv_has ls 6 [(0, .ref o), (1, .ref q_p1)] → W p l e rm_X4_refine s m args below meth c H locs 0 0 Q (F0 m 0 ls []) := by
  intro H locs ls Z hl
  have hx := X.1.1
  have hb := X.1.2.1
  unfold f_X4_refine at h
  refine lv_aload_n hx hb dX4_refine_0 rfl (lv_at hl 0 rfl) ?_
  refine lv_aload_n hx hb dX4_refine_1 rfl (lv_at hl 1 rfl) ?_
  obtain ⟨u21, hc22, h⟩ := ob_some h
  refine x_runVv (RW' := (RW_X4_refine cy o q_p1 d d_p1 u21.1 touchedCount_ u21.2.1 u21.2.2.1 u21.2.2.2.1 u21.2.2.2.2.1 u21.2.2.2.2.2.1 u21.2.2.2.2.2.2 touched_ splitter_ sourceStart_ sources_)) (wr := [((d 7), aI cy 2000 touched_), ((d 9), aI cy 2000 splitter_), ((d 11), aI cy 6003 sourceStart_), ((d 12), aI cy 6000 sources_)]) (isC := [0, 1, 2, 3, 4, 5, 6]) (isR := [7, 8, 9, 10]) (isF := [4, 5, 6, 7, 8, 9, 10, 0, 1, 2, 3]) (rest := []) (As := [.ref q_p1]) (n := 1) X Z (c_X4_groupByMark l D cy o q_p1 d d_p1 p1_letters_ p1_states_ p1_marks_ blocks_ touchedCount_ members_ place_ blockOf_ first_ size_ marked_ u21 hc22) gX4_refine_X4_groupByMark rfl (by decide +kernel) ⟨Nat.le_of_ble_eq_true rfl, Nat.le_of_ble_eq_true rfl⟩ ⟨rfl, rfl⟩ ⟨Nat.le_of_ble_eq_true rfl, Nat.le_of_ble_eq_true rfl⟩ (x_rv X Z 0 rfl rfl) ⟨rfl, rfl, (roC (Or.inr (mem_at 0 rfl)) (roC (Or.inr (mem_at 2 rfl)) roN)), rfl, rfl, by decide⟩ ⟨rfl, rfl⟩ rfl hl.1 rfl (Nat.le_of_ble_eq_true rfl) dX4_refine_2 (fun H locs Z => ?_)
  refine lv_aload_n hx hb dX4_refine_5 rfl (lv_at hl 0 rfl) ?_
  refine lv_aload_n hx hb dX4_refine_6 rfl (lv_at hl 1 rfl) ?_
  obtain ⟨u23, hc24, h⟩ := ob_some h
  refine x_runVv (RW' := (RW_X4_refine cy o q_p1 d d_p1 u21.1 touchedCount_ u21.2.1 u21.2.2.1 u21.2.2.2.1 u21.2.2.2.2.1 u21.2.2.2.2.2.1 u21.2.2.2.2.2.2 touched_ splitter_ u23.1 u23.2)) (wr := [(o, ob 4 (oX4 d u21.1 touchedCount_)), ((d 1), aI cy 2000 u21.2.1), ((d 2), aI cy 2000 u21.2.2.1), ((d 3), aI cy 2000 u21.2.2.2.1), ((d 4), aI cy 2000 u21.2.2.2.2.1), ((d 5), aI cy 2000 u21.2.2.2.2.2.1), ((d 6), aI cy 2000 u21.2.2.2.2.2.2), ((d 7), aI cy 2000 touched_), ((d 9), aI cy 2000 splitter_)]) (isC := [9, 10]) (isR := [0, 1, 2, 3, 4, 5, 6, 7, 8]) (isF := [0, 1, 2, 3, 4, 5, 6, 7, 8, 9, 10]) (rest := []) (As := [.ref q_p1]) (n := 1) X Z (c_X4_gatherSources l D cy o q_p1 d d_p1 u21.1 touchedCount_ p1_letters_ p1_states_ p1_next_ sourceStart_ sources_ u23 hc24) gX4_refine_X4_gatherSources rfl (by decide +kernel) ⟨Nat.le_of_ble_eq_true rfl, Nat.le_of_ble_eq_true rfl⟩ ⟨rfl, rfl⟩ ⟨Nat.le_of_ble_eq_true rfl, Nat.le_of_ble_eq_true rfl⟩ (x_rv X Z 0 rfl rfl) ⟨rfl, rfl, (roC (Or.inl (mem_at 0 rfl)) (roC (Or.inr (mem_at 0 rfl)) (roC (Or.inr (mem_at 1 rfl)) roN))), rfl, rfl, by decide⟩ ⟨rfl, rfl⟩ rfl hl.1 rfl (Nat.le_of_ble_eq_true rfl) dX4_refine_7 (fun H locs Z => ?_)
  refine lv_iconst (v := (0 : Int32)) hx hb dX4_refine_10 (by decide) ?_
  refine lv_istore_n (lv' := [(2, .int (0 : Int32)), (0, .ref o), (1, .ref q_p1)]) hx hb dX4_refine_11 rfl hl (by decide) rfl (fun ls hl => ?_)
  obtain ⟨u25, hL26, h⟩ := ob_some h
  refine wl_X4_refine_12 o q_p1 d d_p1 p1_letters_ p1_states_ p1_next_ p1_marks_ u23.1 u23.2 FU (u21.1, touchedCount_, u21.2.1, u21.2.2.1, u21.2.2.2.1, u21.2.2.2.2.1, u21.2.2.2.2.2.1, u21.2.2.2.2.2.2, touched_, splitter_, (0 : Int32)) u25 X hL26 (fun H locs ls Z hl => ?_) H locs ls Z (lv_sub hl [1, 2, 0] rfl)
  obtain rfl := Option.some.inj h
  exact K H locs ls _ dX4_refine_109 Z
theorem c_X4_refine (l : Launch) (D : va_G) (cy : Nat → ClassId) (o : Nat) (q_p1 : Nat) (d : Nat → Nat) (d_p1 : Nat → Nat) (p1_letters_ : Int32) (p1_states_ : Int32) (p1_next_ : Nat → Int32) (p1_marks_ : Nat → Int32) (blocks_ : Int32) (touchedCount_ : Int32) (members_ : Nat → Int32) (place_ : Nat → Int32) (blockOf_ : Nat → Int32) (first_ : Nat → Int32) (size_ : Nat → Int32) (marked_ : Nat → Int32) (touched_ : Nat → Int32) (splitter_ : Nat → Int32) (sourceStart_ : Nat → Int32) (sources_ : Nat → Int32) (out : Int32 × Int32 × (Nat → Int32) × (Nat → Int32) × (Nat → Int32) × (Nat → Int32) × (Nat → Int32) × (Nat → Int32) × (Nat → Int32) × (Nat → Int32) × (Nat → Int32) × (Nat → Int32)) (h : f_X4_refine p1_letters_ p1_states_ p1_next_ p1_marks_ blocks_ touchedCount_ members_ place_ blockOf_ first_ size_ marked_ touched_ splitter_ sourceStart_ sources_ = some out) : CtV l yX4_refine wsX4_refine rm_X4_refine D cy [.ref o, .ref q_p1] (RW_X4_refine cy o q_p1 d d_p1 blocks_ touchedCount_ members_ place_ blockOf_ first_ size_ marked_ touched_ splitter_ sourceStart_ sources_) (RO_X4_refine cy o q_p1 d d_p1 p1_letters_ p1_states_ p1_next_ p1_marks_) (RW_X4_refine cy o q_p1 d d_p1 out.1 out.2.1 out.2.2.1 out.2.2.2.1 out.2.2.2.2.1 out.2.2.2.2.2.1 out.2.2.2.2.2.2.1 out.2.2.2.2.2.2.2.1 out.2.2.2.2.2.2.2.2.1 out.2.2.2.2.2.2.2.2.2.1 out.2.2.2.2.2.2.2.2.2.2.1 out.2.2.2.2.2.2.2.2.2.2.2) :=
  mk_v (by decide) rfl (Nat.le_of_ble_eq_true rfl) (fun p e s m args below meth c A Q X K H locs ls Z hl => wt_X4_refine o q_p1 d d_p1 p1_letters_ p1_states_ p1_next_ p1_marks_ blocks_ touchedCount_ members_ place_ blockOf_ first_ size_ marked_ touched_ splitter_ sourceStart_ sources_ out X h K H locs ls Z hl)
/-! SubwordCounter minimalStates (I)I -/
abbrev rm_X11_minimalStates : Room := { frames := 6, cells := 0, slots := 0, locals := 143 }
def RW_X11_minimalStates (cy : Nat → ClassId) (o : Nat) (d : Nat → Nat) (d_now : Nat → Nat) (d_automaton : Nat → Nat) (d_partition : Nat → Nat) (d_now_tests : Nat → Nat) (d_automaton_tests : Nat → Nat) (mono : Value) (PT : va_W) (automaton_letters_ : Int32) (automaton_states_ : Int32) (partition_blocks_ : Int32) (partition_touchedCount_ : Int32) (automaton_tests_count_ : Int32) (automaton_next_ : Nat → Int32) (automaton_marks_ : Nat → Int32) (automaton_depth_ : Nat → Int32) (automaton_low_ : Nat → Int64) (automaton_high_ : Nat → Int64) (automaton_parent_ : Nat → Int32) (automaton_lastLetter_ : Nat → Int32) (automaton_slots_ : Nat → Int32) (partition_members_ : Nat → Int32) (partition_place_ : Nat → Int32) (partition_blockOf_ : Nat → Int32) (partition_first_ : Nat → Int32) (partition_size_ : Nat → Int32) (partition_marked_ : Nat → Int32) (partition_touched_ : Nat → Int32) (partition_splitter_ : Nat → Int32) (partition_sourceStart_ : Nat → Int32) (partition_sources_ : Nat → Int32) (automaton_tests_members_ : Nat → Option Nat) : va_W := [((d 8), ob 0 (oX0 d_automaton automaton_letters_ automaton_states_)), ((d 9), ob 4 (oX4 d_partition partition_blocks_ partition_touchedCount_)), ((d_automaton 0), ob 1 (oX1 d_automaton_tests automaton_tests_count_)), ((d_automaton 3), aI cy 6000 automaton_next_), ((d_automaton 4), aI cy 2000 automaton_marks_), ((d_automaton 5), aI cy 2000 automaton_depth_), ((d_automaton 6), aJ cy 2000 automaton_low_), ((d_automaton 7), aJ cy 2000 automaton_high_), ((d_automaton 8), aI cy 2000 automaton_parent_), ((d_automaton 9), aI cy 2000 automaton_lastLetter_), ((d_automaton 10), aI cy 4096 automaton_slots_), ((d_partition 1), aI cy 2000 partition_members_), ((d_partition 2), aI cy 2000 partition_place_), ((d_partition 3), aI cy 2000 partition_blockOf_), ((d_partition 4), aI cy 2000 partition_first_), ((d_partition 5), aI cy 2000 partition_size_), ((d_partition 6), aI cy 2000 partition_marked_), ((d_partition 7), aI cy 2000 partition_touched_), ((d_partition 9), aI cy 2000 partition_splitter_), ((d_partition 11), aI cy 6003 partition_sourceStart_), ((d_partition 12), aI cy 6000 partition_sources_), ((d_automaton_tests 0), aR cy 4 8 automaton_tests_members_)]
def RO_X11_minimalStates (cy : Nat → ClassId) (o : Nat) (d : Nat → Nat) (d_now : Nat → Nat) (d_automaton : Nat → Nat) (d_partition : Nat → Nat) (d_now_tests : Nat → Nat) (d_automaton_tests : Nat → Nat) (mono : Value) (PT : va_W) (snapshotTaken_ : Int32) (inputLength_ : Int32) (now_letters_ : Int32) (now_tests_count_ : Int32) (now_tests_members_ : Nat → Option Nat) : va_W := [(o, ob 10 (oX11 d mono snapshotTaken_ inputLength_)), ((d 0), ob 5 (oX5 d_now now_letters_)), ((d_now 2), ob 1 (oX1 d_now_tests now_tests_count_)), ((d_now_tests 0), aR cy 4 8 now_tests_members_)] ++ PT
theorem in_X11_minimalStates_X11 : ∀ w ∈ u_ws RX11 TX11 12, w ∈ wsX11_minimalStates := fun w h => (List.mem_cons_of_mem _ (List.mem_append_left _ (List.mem_append_left _ (List.mem_append_left _ (List.mem_append_left _ (List.mem_append_left _ (List.mem_append_right _ h)))))))
theorem lk_X11_minimalStates_X11_partition : Lk wsX11_minimalStates RX11 61 10 9 := ⟨RX11, TX11, 12, rfl, by decide, in_X11_minimalStates_X11, mem_at 1 rfl⟩
theorem lk_X11_minimalStates_X11_automaton : Lk wsX11_minimalStates RX11 54 10 8 := ⟨RX11, TX11, 12, rfl, by decide, in_X11_minimalStates_X11, mem_at 2 rfl⟩
theorem in_X11_minimalStates_X4 : ∀ w ∈ u_ws RX4 TX4 13, w ∈ wsX11_minimalStates := fun w h => (List.mem_cons_of_mem _ (List.mem_append_left _ (List.mem_append_left _ (List.mem_append_left _ (List.mem_append_left _ (List.mem_append_right _ h))))))
theorem lk_X11_minimalStates_X4_blocks : Lk wsX11_minimalStates RX11 214 4 0 := ⟨RX4, TX4, 13, rfl, by decide, in_X11_minimalStates_X4, mem_at 3 rfl⟩
def f_X11_minimalStates (x1 : Int32) (tq : Nat → Option TV) (now_letters_ : Int32) (now_tests_count_ : Int32) (now_tests_members_ : Nat → Option Nat) (automaton_letters_ : Int32) (automaton_states_ : Int32) (partition_blocks_ : Int32) (partition_touchedCount_ : Int32) (automaton_tests_count_ : Int32) (automaton_next_ : Nat → Int32) (automaton_marks_ : Nat → Int32) (automaton_depth_ : Nat → Int32) (automaton_low_ : Nat → Int64) (automaton_high_ : Nat → Int64) (automaton_parent_ : Nat → Int32) (automaton_lastLetter_ : Nat → Int32) (automaton_slots_ : Nat → Int32) (partition_members_ : Nat → Int32) (partition_place_ : Nat → Int32) (partition_blockOf_ : Nat → Int32) (partition_first_ : Nat → Int32) (partition_size_ : Nat → Int32) (partition_marked_ : Nat → Int32) (partition_touched_ : Nat → Int32) (partition_splitter_ : Nat → Int32) (partition_sourceStart_ : Nat → Int32) (partition_sources_ : Nat → Int32) (automaton_tests_members_ : Nat → Option Nat) : Option (Int32 × Int32 × Int32 × Int32 × Int32 × Int32 × (Nat → Int32) × (Nat → Int32) × (Nat → Int32) × (Nat → Int64) × (Nat → Int64) × (Nat → Int32) × (Nat → Int32) × (Nat → Int32) × (Nat → Int32) × (Nat → Int32) × (Nat → Int32) × (Nat → Int32) × (Nat → Int32) × (Nat → Int32) × (Nat → Int32) × (Nat → Int32) × (Nat → Int32) × (Nat → Int32) × (Nat → Option Nat)) :=
  (f_X11_isTest x1 now_tests_count_).bind (fun u1 =>
  if u1 = 0 then
  (some ((-1 : Int32), automaton_letters_, automaton_states_, partition_blocks_, partition_touchedCount_, automaton_tests_count_, automaton_next_, automaton_marks_, automaton_depth_, automaton_low_, automaton_high_, automaton_parent_, automaton_lastLetter_, automaton_slots_, partition_members_, partition_place_, partition_blockOf_, partition_first_, partition_size_, partition_marked_, partition_touched_, partition_splitter_, partition_sourceStart_, partition_sources_, automaton_tests_members_))
  else
  ((f_X11_exploreTest x1 tq now_letters_ now_tests_members_ automaton_letters_ automaton_states_ automaton_tests_count_ automaton_next_ automaton_marks_ automaton_depth_ automaton_low_ automaton_high_ automaton_parent_ automaton_lastLetter_ automaton_slots_ automaton_tests_members_).bind (fun u3 =>
  if u3.1 = 0 then
  (some ((-4 : Int32), u3.2.1, u3.2.2.1, partition_blocks_, partition_touchedCount_, u3.2.2.2.1, u3.2.2.2.2.1, u3.2.2.2.2.2.1, u3.2.2.2.2.2.2.1, u3.2.2.2.2.2.2.2.1, u3.2.2.2.2.2.2.2.2.1, u3.2.2.2.2.2.2.2.2.2.1, u3.2.2.2.2.2.2.2.2.2.2.1, u3.2.2.2.2.2.2.2.2.2.2.2.1, partition_members_, partition_place_, partition_blockOf_, partition_first_, partition_size_, partition_marked_, partition_touched_, partition_splitter_, partition_sourceStart_, partition_sources_, u3.2.2.2.2.2.2.2.2.2.2.2.2))
  else
  ((f_X4_refine u3.2.1 u3.2.2.1 u3.2.2.2.2.1 u3.2.2.2.2.2.1 partition_blocks_ partition_touchedCount_ partition_members_ partition_place_ partition_blockOf_ partition_first_ partition_size_ partition_marked_ partition_touched_ partition_splitter_ partition_sourceStart_ partition_sources_).bind (fun u5 =>
  some (u5.1, u3.2.1, u3.2.2.1, u5.1, u5.2.1, u3.2.2.2.1, u3.2.2.2.2.1, u3.2.2.2.2.2.1, u3.2.2.2.2.2.2.1, u3.2.2.2.2.2.2.2.1, u3.2.2.2.2.2.2.2.2.1, u3.2.2.2.2.2.2.2.2.2.1, u3.2.2.2.2.2.2.2.2.2.2.1, u3.2.2.2.2.2.2.2.2.2.2.2.1, u5.2.2.1, u5.2.2.2.1, u5.2.2.2.2.1, u5.2.2.2.2.2.1, u5.2.2.2.2.2.2.1, u5.2.2.2.2.2.2.2.1, u5.2.2.2.2.2.2.2.2.1, u5.2.2.2.2.2.2.2.2.2.1, u5.2.2.2.2.2.2.2.2.2.2.1, u5.2.2.2.2.2.2.2.2.2.2.2, u3.2.2.2.2.2.2.2.2.2.2.2.2))))))
set_option maxHeartbeats 4000000 in
set_option maxRecDepth 100000 in
theorem wt_X11_minimalStates {p : Program} {l : Launch} {e : Env} {s : State} {m : MethodId} {args : Array Value} {below : List Frame} {meth : Method} {c : Code} {A : Nat → Prop} {Q : State → Prop} {D : va_G} {cy : Nat → ClassId} (o : Nat) (d : Nat → Nat) (d_now : Nat → Nat) (d_automaton : Nat → Nat) (d_partition : Nat → Nat) (d_now_tests : Nat → Nat) (d_automaton_tests : Nat → Nat) (mono : Value) (PT : va_W) (tq : Nat → Option TV) (snapshotTaken_ : Int32) (inputLength_ : Int32) (now_letters_ : Int32) (now_tests_count_ : Int32) (now_tests_members_ : Nat → Option Nat) (automaton_letters_ : Int32) (automaton_states_ : Int32) (partition_blocks_ : Int32) (partition_touchedCount_ : Int32) (automaton_tests_count_ : Int32) (automaton_next_ : Nat → Int32) (automaton_marks_ : Nat → Int32) (automaton_depth_ : Nat → Int32) (automaton_low_ : Nat → Int64) (automaton_high_ : Nat → Int64) (automaton_parent_ : Nat → Int32) (automaton_lastLetter_ : Nat → Int32) (automaton_slots_ : Nat → Int32) (partition_members_ : Nat → Int32) (partition_place_ : Nat → Int32) (partition_blockOf_ : Nat → Int32) (partition_first_ : Nat → Int32) (partition_size_ : Nat → Int32) (partition_marked_ : Nat → Int32) (partition_touched_ : Nat → Int32) (partition_splitter_ : Nat → Int32) (partition_sourceStart_ : Nat → Int32) (partition_sources_ : Nat → Int32) (automaton_tests_members_ : Nat → Option Nat) (x1 : Int32) (out : Int32 × Int32 × Int32 × Int32 × Int32 × Int32 × (Nat → Int32) × (Nat → Int32) × (Nat → Int32) × (Nat → Int64) × (Nat → Int64) × (Nat → Int32) × (Nat → Int32) × (Nat → Int32) × (Nat → Int32) × (Nat → Int32) × (Nat → Int32) × (Nat → Int32) × (Nat → Int32) × (Nat → Int32) × (Nat → Int32) × (Nat → Int32) × (Nat → Int32) × (Nat → Int32) × (Nat → Option Nat)) (hT : TP cy PT tq) (X : Cx p m c cX11_minimalStates 2 s args wsX11_minimalStates RX11 A D cy (RO_X11_minimalStates cy o d d_now d_automaton d_partition d_now_tests d_automaton_tests mono PT snapshotTaken_ inputLength_ now_letters_ now_tests_count_ now_tests_members_)) (h : f_X11_minimalStates x1 tq now_letters_ now_tests_count_ now_tests_members_ automaton_letters_ automaton_states_ partition_blocks_ partition_touchedCount_ automaton_tests_count_ automaton_next_ automaton_marks_ automaton_depth_ automaton_low_ automaton_high_ automaton_parent_ automaton_lastLetter_ automaton_slots_ partition_members_ partition_place_ partition_blockOf_ partition_first_ partition_size_ partition_marked_ partition_touched_ partition_splitter_ partition_sourceStart_ partition_sources_ automaton_tests_members_ = some out) (K : ∀ (H : Heap) (locs : List Loc) (ls : Array Slot) (pc : Nat), decode cX11_minimalStates pc = .ok (.ireturn, 1) → St A D s (RW_X11_minimalStates cy o d d_now d_automaton d_partition d_now_tests d_automaton_tests mono PT out.2.1 out.2.2.1 out.2.2.2.1 out.2.2.2.2.1 out.2.2.2.2.2.1 out.2.2.2.2.2.2.1 out.2.2.2.2.2.2.2.1 out.2.2.2.2.2.2.2.2.1 out.2.2.2.2.2.2.2.2.2.1 out.2.2.2.2.2.2.2.2.2.2.1 out.2.2.2.2.2.2.2.2.2.2.2.1 out.2.2.2.2.2.2.2.2.2.2.2.2.1 out.2.2.2.2.2.2.2.2.2.2.2.2.2.1 out.2.2.2.2.2.2.2.2.2.2.2.2.2.2.1 out.2.2.2.2.2.2.2.2.2.2.2.2.2.2.2.1 out.2.2.2.2.2.2.2.2.2.2.2.2.2.2.2.2.1 out.2.2.2.2.2.2.2.2.2.2.2.2.2.2.2.2.2.1 out.2.2.2.2.2.2.2.2.2.2.2.2.2.2.2.2.2.2.1 out.2.2.2.2.2.2.2.2.2.2.2.2.2.2.2.2.2.2.2.1 out.2.2.2.2.2.2.2.2.2.2.2.2.2.2.2.2.2.2.2.2.1 out.2.2.2.2.2.2.2.2.2.2.2.2.2.2.2.2.2.2.2.2.2.1 out.2.2.2.2.2.2.2.2.2.2.2.2.2.2.2.2.2.2.2.2.2.2.1 out.2.2.2.2.2.2.2.2.2.2.2.2.2.2.2.2.2.2.2.2.2.2.2.1 out.2.2.2.2.2.2.2.2.2.2.2.2.2.2.2.2.2.2.2.2.2.2.2.2) H locs → W p l e rm_X11_minimalStates s m args below meth c H locs 0 0 Q (F0 m pc ls [.int out.1])) : ∀ (H : Heap) (locs : List Loc) (ls : Array Slot), St A D s (RW_X11_minimalStates cy o d d_now d_automaton d_partition d_now_tests d_automaton_tests mono PT automaton_letters_ automaton_states_ partition_blocks_ partition_touchedCount_ automaton_tests_count_ automaton_next_ automaton_marks_ automaton_depth_ automaton_low_ automaton_high_ automaton_parent_ automaton_lastLetter_ automaton_slots_ partition_members_ partition_place_ partition_blockOf_ partition_first_ partition_size_ partition_marked_ partition_touched_ partition_splitter_ partition_sourceStart_ partition_sources_ automaton_tests_members_) H locs → lv_has ls 2 [(0, .ref o), (1, .int x1)] → W p l e rm_X11_minimalStates s m args below meth c H locs 0 0 Q (F0 m 0 ls []) := by
  intro H locs ls Z hl
  have hx := X.1.1
  have hb := X.1.2.1
  unfold f_X11_minimalStates at h
  refine lv_aload_n hx hb dX11_minimalStates_0 rfl (lv_at hl 0 rfl) ?_
  refine lv_iload_n hx hb dX11_minimalStates_1 rfl (lv_at hl 1 rfl) ?_
  obtain ⟨u1, hc2, h⟩ := ob_some h
  refine x_runVi (RW' := (RW_X11_minimalStates cy o d d_now d_automaton d_partition d_now_tests d_automaton_tests mono PT automaton_letters_ automaton_states_ partition_blocks_ partition_touchedCount_ automaton_tests_count_ automaton_next_ automaton_marks_ automaton_depth_ automaton_low_ automaton_high_ automaton_parent_ automaton_lastLetter_ automaton_slots_ partition_members_ partition_place_ partition_blockOf_ partition_first_ partition_size_ partition_marked_ partition_touched_ partition_splitter_ partition_sourceStart_ partition_sources_ automaton_tests_members_)) (wr := [((d 8), ob 0 (oX0 d_automaton automaton_letters_ automaton_states_)), ((d 9), ob 4 (oX4 d_partition partition_blocks_ partition_touchedCount_)), ((d_automaton 0), ob 1 (oX1 d_automaton_tests automaton_tests_count_)), ((d_automaton 3), aI cy 6000 automaton_next_), ((d_automaton 4), aI cy 2000 automaton_marks_), ((d_automaton 5), aI cy 2000 automaton_depth_), ((d_automaton 6), aJ cy 2000 automaton_low_), ((d_automaton 7), aJ cy 2000 automaton_high_), ((d_automaton 8), aI cy 2000 automaton_parent_), ((d_automaton 9), aI cy 2000 automaton_lastLetter_), ((d_automaton 10), aI cy 4096 automaton_slots_), ((d_partition 1), aI cy 2000 partition_members_), ((d_partition 2), aI cy 2000 partition_place_), ((d_partition 3), aI cy 2000 partition_blockOf_), ((d_partition 4), aI cy 2000 partition_first_), ((d_partition 5), aI cy 2000 partition_size_), ((d_partition 6), aI cy 2000 partition_marked_), ((d_partition 7), aI cy 2000 partition_touched_), ((d_partition 9), aI cy 2000 partition_splitter_), ((d_partition 11), aI cy 6003 partition_sourceStart_), ((d_partition 12), aI cy 6000 partition_sources_), ((d_automaton_tests 0), aR cy 4 8 automaton_tests_members_)]) (isC := []) (isR := [0, 1, 2, 3, 4, 5, 6, 7, 8, 9, 10, 11, 12, 13, 14, 15, 16, 17, 18, 19, 20, 21]) (isF := [0, 1, 2, 3, 4, 5, 6, 7, 8, 9, 10, 11, 12, 13, 14, 15, 16, 17, 18, 19, 20, 21]) (rest := []) (As := [.int x1]) (n := 1) X Z (c_X11_isTest l D cy o d d_now d_now_tests mono snapshotTaken_ inputLength_ now_letters_ now_tests_count_ x1 u1 hc2) gX11_minimalStates_X11_isTest rfl (by decide +kernel) ⟨Nat.le_of_ble_eq_true rfl, Nat.le_of_ble_eq_true rfl⟩ ⟨rfl, rfl⟩ ⟨Nat.le_of_ble_eq_true rfl, Nat.le_of_ble_eq_true rfl⟩ (x_rvO X Z 0 rfl rfl) ⟨rfl, rfl, (roC (Or.inr (mem_at 0 rfl)) (roC (Or.inr (mem_at 1 rfl)) (roC (Or.inr (mem_at 2 rfl)) roN))), rfl, rfl, by decide⟩ ⟨rfl, rfl⟩ rfl hl.1 rfl (Nat.le_of_ble_eq_true rfl) dX11_minimalStates_2 (fun H locs Z => ?_)
  refine lv_if_ne (tgt := 10) hx hb dX11_minimalStates_5 (by decide) (fun cnd => ?_) (fun cnd => ?_)
  · replace h := ifn h cnd
    refine lv_aload_n hx hb dX11_minimalStates_10 rfl (lv_at hl 0 rfl) ?_
    refine lv_iload_n hx hb dX11_minimalStates_11 rfl (lv_at hl 1 rfl) ?_
    obtain ⟨u3, hc4, h⟩ := ob_some h
    refine x_runVi (RW' := (RW_X11_minimalStates cy o d d_now d_automaton d_partition d_now_tests d_automaton_tests mono PT u3.2.1 u3.2.2.1 partition_blocks_ partition_touchedCount_ u3.2.2.2.1 u3.2.2.2.2.1 u3.2.2.2.2.2.1 u3.2.2.2.2.2.2.1 u3.2.2.2.2.2.2.2.1 u3.2.2.2.2.2.2.2.2.1 u3.2.2.2.2.2.2.2.2.2.1 u3.2.2.2.2.2.2.2.2.2.2.1 u3.2.2.2.2.2.2.2.2.2.2.2.1 partition_members_ partition_place_ partition_blockOf_ partition_first_ partition_size_ partition_marked_ partition_touched_ partition_splitter_ partition_sourceStart_ partition_sources_ u3.2.2.2.2.2.2.2.2.2.2.2.2)) (wr := [((d 9), ob 4 (oX4 d_partition partition_blocks_ partition_touchedCount_)), ((d_partition 1), aI cy 2000 partition_members_), ((d_partition 2), aI cy 2000 partition_place_), ((d_partition 3), aI cy 2000 partition_blockOf_), ((d_partition 4), aI cy 2000 partition_first_), ((d_partition 5), aI cy 2000 partition_size_), ((d_partition 6), aI cy 2000 partition_marked_), ((d_partition 7), aI cy 2000 partition_touched_), ((d_partition 9), aI cy 2000 partition_splitter_), ((d_partition 11), aI cy 6003 partition_sourceStart_), ((d_partition 12), aI cy 6000 partition_sources_)]) (isC := [0, 2, 3, 4, 5, 6, 7, 8, 9, 10, 21]) (isR := [1, 11, 12, 13, 14, 15, 16, 17, 18, 19, 20]) (isF := [11, 0, 12, 13, 14, 15, 16, 17, 18, 19, 20, 1, 2, 3, 4, 5, 6, 7, 8, 9, 10, 21]) (rest := []) (As := [.int x1]) (n := 1) X Z (c_X11_exploreTest l D cy o d d_now d_automaton d_now_tests d_automaton_tests mono PT tq snapshotTaken_ inputLength_ now_letters_ now_tests_count_ now_tests_members_ automaton_letters_ automaton_states_ automaton_tests_count_ automaton_next_ automaton_marks_ automaton_depth_ automaton_low_ automaton_high_ automaton_parent_ automaton_lastLetter_ automaton_slots_ automaton_tests_members_ x1 u3 hT hc4) gX11_minimalStates_X11_exploreTest rfl (by decide +kernel) ⟨Nat.le_of_ble_eq_true rfl, Nat.le_of_ble_eq_true rfl⟩ ⟨rfl, rfl⟩ ⟨Nat.le_of_ble_eq_true rfl, Nat.le_of_ble_eq_true rfl⟩ (x_rvO X Z 0 rfl rfl) ⟨rfl, rfl, (roC (Or.inr (mem_at 0 rfl)) (roC (Or.inr (mem_at 1 rfl)) (roC (Or.inr (mem_at 2 rfl)) (roC (Or.inr (mem_at 3 rfl)) (fun q hq => Or.inr (List.mem_append_right _ hq)))))), rfl, rfl, by decide⟩ ⟨rfl, rfl⟩ rfl hl.1 rfl (Nat.le_of_ble_eq_true rfl) dX11_minimalStates_12 (fun H locs Z => ?_)
    refine lv_if_ne (tgt := 21) hx hb dX11_minimalStates_15 (by decide) (fun cnd => ?_) (fun cnd => ?_)
    · replace h := ifn h cnd
      refine lv_aload_n hx hb dX11_minimalStates_21 rfl (lv_at hl 0 rfl) ?_
      refine x_getO X Z 0 9 (v := .ref (d 9)) rfl rfl lk_X11_minimalStates_X11_partition dX11_minimalStates_22 ?_
      refine lv_aload_n hx hb dX11_minimalStates_25 rfl (lv_at hl 0 rfl) ?_
      refine x_getO X Z 0 8 (v := .ref (d 8)) rfl rfl lk_X11_minimalStates_X11_automaton dX11_minimalStates_26 ?_
      obtain ⟨u5, hc6, h⟩ := ob_some h
      refine x_runVv (RW' := (RW_X11_minimalStates cy o d d_now d_automaton d_partition d_now_tests d_automaton_tests mono PT u3.2.1 u3.2.2.1 u5.1 u5.2.1 u3.2.2.2.1 u3.2.2.2.2.1 u3.2.2.2.2.2.1 u3.2.2.2.2.2.2.1 u3.2.2.2.2.2.2.2.1 u3.2.2.2.2.2.2.2.2.1 u3.2.2.2.2.2.2.2.2.2.1 u3.2.2.2.2.2.2.2.2.2.2.1 u3.2.2.2.2.2.2.2.2.2.2.2.1 u5.2.2.1 u5.2.2.2.1 u5.2.2.2.2.1 u5.2.2.2.2.2.1 u5.2.2.2.2.2.2.1 u5.2.2.2.2.2.2.2.1 u5.2.2.2.2.2.2.2.2.1 u5.2.2.2.2.2.2.2.2.2.1 u5.2.2.2.2.2.2.2.2.2.2.1 u5.2.2.2.2.2.2.2.2.2.2.2 u3.2.2.2.2.2.2.2.2.2.2.2.2)) (wr := [((d 8), ob 0 (oX0 d_automaton u3.2.1 u3.2.2.1)), ((d_automaton 0), ob 1 (oX1 d_automaton_tests u3.2.2.2.1)), ((d_automaton 3), aI cy 6000 u3.2.2.2.2.1), ((d_automaton 4), aI cy 2000 u3.2.2.2.2.2.1), ((d_automaton 5), aI cy 2000 u3.2.2.2.2.2.2.1), ((d_automaton 6), aJ cy 2000 u3.2.2.2.2.2.2.2.1), ((d_automaton 7), aJ cy 2000 u3.2.2.2.2.2.2.2.2.1), ((d_automaton 8), aI cy 2000 u3.2.2.2.2.2.2.2.2.2.1), ((d_automaton 9), aI cy 2000 u3.2.2.2.2.2.2.2.2.2.2.1), ((d_automaton 10), aI cy 4096 u3.2.2.2.2.2.2.2.2.2.2.2.1), ((d_automaton_tests 0), aR cy 4 8 u3.2.2.2.2.2.2.2.2.2.2.2.2)]) (isC := [1, 11, 12, 13, 14, 15, 16, 17, 18, 19, 20]) (isR := [0, 2, 3, 4, 5, 6, 7, 8, 9, 10, 21]) (isF := [0, 11, 1, 2, 3, 4, 5, 6, 7, 8, 9, 12, 13, 14, 15, 16, 17, 18, 19, 20, 21, 10]) (rest := []) (As := [.ref (d 8)]) (n := 1) X Z (c_X4_refine l D cy (d 9) (d 8) d_partition d_automaton u3.2.1 u3.2.2.1 u3.2.2.2.2.1 u3.2.2.2.2.2.1 partition_blocks_ partition_touchedCount_ partition_members_ partition_place_ partition_blockOf_ partition_first_ partition_size_ partition_marked_ partition_touched_ partition_splitter_ partition_sourceStart_ partition_sources_ u5 hc6) gX11_minimalStates_X4_refine rfl (by decide +kernel) ⟨Nat.le_of_ble_eq_true rfl, Nat.le_of_ble_eq_true rfl⟩ ⟨rfl, rfl⟩ ⟨Nat.le_of_ble_eq_true rfl, Nat.le_of_ble_eq_true rfl⟩ (x_rv X Z 1 rfl rfl) ⟨rfl, rfl, (roC (Or.inl (mem_at 0 rfl)) (roC (Or.inl (mem_at 2 rfl)) (roC (Or.inl (mem_at 3 rfl)) roN))), rfl, rfl, by decide⟩ ⟨rfl, rfl⟩ rfl hl.1 rfl (Nat.le_of_ble_eq_true rfl) dX11_minimalStates_29 (fun H locs Z => ?_)
      refine lv_aload_n hx hb dX11_minimalStates_32 rfl (lv_at hl 0 rfl) ?_
      refine x_getO X Z 0 9 (v := .ref (d 9)) rfl rfl lk_X11_minimalStates_X11_partition dX11_minimalStates_33 ?_
      refine x_get X Z 1 0 (v := .int u5.1) rfl rfl lk_X11_minimalStates_X4_blocks dX11_minimalStates_36 ?_
      obtain rfl := Option.some.inj h
      exact K H locs ls _ dX11_minimalStates_39 Z
    · replace h := ifp h cnd
      refine lv_bipush (v := (-4 : Int32)) hx hb dX11_minimalStates_18 (by decide) ?_
      obtain rfl := Option.some.inj h
      exact K H locs ls _ dX11_minimalStates_20 Z
  · replace h := ifp h cnd
    refine lv_iconst (v := (-1 : Int32)) hx hb dX11_minimalStates_8 (by decide) ?_
    obtain rfl := Option.some.inj h
    exact K H locs ls _ dX11_minimalStates_9 Z
theorem c_X11_minimalStates (l : Launch) (D : va_G) (cy : Nat → ClassId) (o : Nat) (d : Nat → Nat) (d_now : Nat → Nat) (d_automaton : Nat → Nat) (d_partition : Nat → Nat) (d_now_tests : Nat → Nat) (d_automaton_tests : Nat → Nat) (mono : Value) (PT : va_W) (tq : Nat → Option TV) (snapshotTaken_ : Int32) (inputLength_ : Int32) (now_letters_ : Int32) (now_tests_count_ : Int32) (now_tests_members_ : Nat → Option Nat) (automaton_letters_ : Int32) (automaton_states_ : Int32) (partition_blocks_ : Int32) (partition_touchedCount_ : Int32) (automaton_tests_count_ : Int32) (automaton_next_ : Nat → Int32) (automaton_marks_ : Nat → Int32) (automaton_depth_ : Nat → Int32) (automaton_low_ : Nat → Int64) (automaton_high_ : Nat → Int64) (automaton_parent_ : Nat → Int32) (automaton_lastLetter_ : Nat → Int32) (automaton_slots_ : Nat → Int32) (partition_members_ : Nat → Int32) (partition_place_ : Nat → Int32) (partition_blockOf_ : Nat → Int32) (partition_first_ : Nat → Int32) (partition_size_ : Nat → Int32) (partition_marked_ : Nat → Int32) (partition_touched_ : Nat → Int32) (partition_splitter_ : Nat → Int32) (partition_sourceStart_ : Nat → Int32) (partition_sources_ : Nat → Int32) (automaton_tests_members_ : Nat → Option Nat) (x1 : Int32) (out : Int32 × Int32 × Int32 × Int32 × Int32 × Int32 × (Nat → Int32) × (Nat → Int32) × (Nat → Int32) × (Nat → Int64) × (Nat → Int64) × (Nat → Int32) × (Nat → Int32) × (Nat → Int32) × (Nat → Int32) × (Nat → Int32) × (Nat → Int32) × (Nat → Int32) × (Nat → Int32) × (Nat → Int32) × (Nat → Int32) × (Nat → Int32) × (Nat → Int32) × (Nat → Int32) × (Nat → Option Nat)) (hT : TP cy PT tq) (h : f_X11_minimalStates x1 tq now_letters_ now_tests_count_ now_tests_members_ automaton_letters_ automaton_states_ partition_blocks_ partition_touchedCount_ automaton_tests_count_ automaton_next_ automaton_marks_ automaton_depth_ automaton_low_ automaton_high_ automaton_parent_ automaton_lastLetter_ automaton_slots_ partition_members_ partition_place_ partition_blockOf_ partition_first_ partition_size_ partition_marked_ partition_touched_ partition_splitter_ partition_sourceStart_ partition_sources_ automaton_tests_members_ = some out) : CtI l yX11_minimalStates wsX11_minimalStates rm_X11_minimalStates D cy [.ref o, .int x1] (RW_X11_minimalStates cy o d d_now d_automaton d_partition d_now_tests d_automaton_tests mono PT automaton_letters_ automaton_states_ partition_blocks_ partition_touchedCount_ automaton_tests_count_ automaton_next_ automaton_marks_ automaton_depth_ automaton_low_ automaton_high_ automaton_parent_ automaton_lastLetter_ automaton_slots_ partition_members_ partition_place_ partition_blockOf_ partition_first_ partition_size_ partition_marked_ partition_touched_ partition_splitter_ partition_sourceStart_ partition_sources_ automaton_tests_members_) (RO_X11_minimalStates cy o d d_now d_automaton d_partition d_now_tests d_automaton_tests mono PT snapshotTaken_ inputLength_ now_letters_ now_tests_count_ now_tests_members_) (RW_X11_minimalStates cy o d d_now d_automaton d_partition d_now_tests d_automaton_tests mono PT out.2.1 out.2.2.1 out.2.2.2.1 out.2.2.2.2.1 out.2.2.2.2.2.1 out.2.2.2.2.2.2.1 out.2.2.2.2.2.2.2.1 out.2.2.2.2.2.2.2.2.1 out.2.2.2.2.2.2.2.2.2.1 out.2.2.2.2.2.2.2.2.2.2.1 out.2.2.2.2.2.2.2.2.2.2.2.1 out.2.2.2.2.2.2.2.2.2.2.2.2.1 out.2.2.2.2.2.2.2.2.2.2.2.2.2.1 out.2.2.2.2.2.2.2.2.2.2.2.2.2.2.1 out.2.2.2.2.2.2.2.2.2.2.2.2.2.2.2.1 out.2.2.2.2.2.2.2.2.2.2.2.2.2.2.2.2.1 out.2.2.2.2.2.2.2.2.2.2.2.2.2.2.2.2.2.1 out.2.2.2.2.2.2.2.2.2.2.2.2.2.2.2.2.2.2.1 out.2.2.2.2.2.2.2.2.2.2.2.2.2.2.2.2.2.2.2.1 out.2.2.2.2.2.2.2.2.2.2.2.2.2.2.2.2.2.2.2.2.1 out.2.2.2.2.2.2.2.2.2.2.2.2.2.2.2.2.2.2.2.2.2.1 out.2.2.2.2.2.2.2.2.2.2.2.2.2.2.2.2.2.2.2.2.2.2.1 out.2.2.2.2.2.2.2.2.2.2.2.2.2.2.2.2.2.2.2.2.2.2.2.1 out.2.2.2.2.2.2.2.2.2.2.2.2.2.2.2.2.2.2.2.2.2.2.2.2) out.1 :=
  mk_i (ty := .int) (by decide) rfl rfl (Nat.le_of_ble_eq_true rfl) (fun p e s m args below meth c A Q X K H locs ls Z hl => wt_X11_minimalStates o d d_now d_automaton d_partition d_now_tests d_automaton_tests mono PT tq snapshotTaken_ inputLength_ now_letters_ now_tests_count_ now_tests_members_ automaton_letters_ automaton_states_ partition_blocks_ partition_touchedCount_ automaton_tests_count_ automaton_next_ automaton_marks_ automaton_depth_ automaton_low_ automaton_high_ automaton_parent_ automaton_lastLetter_ automaton_slots_ partition_members_ partition_place_ partition_blockOf_ partition_first_ partition_size_ partition_marked_ partition_touched_ partition_splitter_ partition_sourceStart_ partition_sources_ automaton_tests_members_ x1 out hT X h K H locs ls Z hl)
