set_option linter.unusedVariables false
/-! SubwordCounter$Partition nextBlock (LSubwordCounter$Automaton;II)I -/
abbrev rm_X4_nextBlock : Room := { frames := 0, cells := 0, slots := 0, locals := 0 }
def RW_X4_nextBlock (cy : Nat → ClassId) (o : Nat) (q_p1 : Nat) (d : Nat → Nat) (d_p1 : Nat → Nat)  : va_W := []
def RO_X4_nextBlock (cy : Nat → ClassId) (o : Nat) (q_p1 : Nat) (d : Nat → Nat) (d_p1 : Nat → Nat) (blocks_ : Int32) (touchedCount_ : Int32) (p1_letters_ : Int32) (p1_states_ : Int32) (members_ : Nat → Int32) (blockOf_ : Nat → Int32) (first_ : Nat → Int32) (p1_next_ : Nat → Int32) : va_W := [(o, ob 4 (oX4 d blocks_ touchedCount_)), (q_p1, ob 0 (oX0 d_p1 p1_letters_ p1_states_)), ((d 1), aI cy 2000 members_), ((d 3), aI cy 2000 blockOf_), ((d 4), aI cy 2000 first_), ((d_p1 3), aI cy 6000 p1_next_)]
theorem in_X4_nextBlock_X4 : ∀ w ∈ u_ws RX4 TX4 13, w ∈ wsX4_nextBlock := fun w h => (List.mem_cons_of_mem _ (List.mem_append_left _ (List.mem_append_right _ h)))
theorem lk_X4_nextBlock_X4_blockOf : Lk wsX4_nextBlock RX4 24 4 3 := ⟨RX4, TX4, 13, rfl, by decide, in_X4_nextBlock_X4, mem_at 1 rfl⟩
theorem in_X4_nextBlock_X0 : ∀ w ∈ u_ws RX0 TX0 13, w ∈ wsX4_nextBlock := fun w h => (List.mem_cons_of_mem _ (List.mem_append_right _ h))
theorem lk_X4_nextBlock_X0_next : Lk wsX4_nextBlock RX4 86 0 3 := ⟨RX0, TX0, 13, rfl, by decide, in_X4_nextBlock_X0, mem_at 2 rfl⟩
theorem lk_X4_nextBlock_X4_members : Lk wsX4_nextBlock RX4 17 4 1 := ⟨RX4, TX4, 13, rfl, by decide, in_X4_nextBlock_X4, mem_at 3 rfl⟩
theorem lk_X4_nextBlock_X4_first : Lk wsX4_nextBlock RX4 27 4 4 := ⟨RX4, TX4, 13, rfl, by decide, in_X4_nextBlock_X4, mem_at 4 rfl⟩
def f_X4_nextBlock (x2 : Int32) (x3 : Int32) (members_ : Nat → Int32) (blockOf_ : Nat → Int32) (first_ : Nat → Int32) (p1_next_ : Nat → Int32) : Option (Int32) :=
  ldA first_ 2000 x2 (fun v2 =>
  ldA members_ 2000 v2 (fun v5 =>
  ldA p1_next_ 6000 ((v5 * (3 : Int32)) + x3) (fun v8 =>
  ldA blockOf_ 2000 v8 (fun v11 =>
  some v11))))
set_option maxHeartbeats 4000000 in
set_option maxRecDepth 100000 in
theorem wt_X4_nextBlock {p : Program} {l : Launch} {e : Env} {s : State} {m : MethodId} {args : Array Value} {below : List Frame} {meth : Method} {c : Code} {A : Nat → Prop} {Q : State → Prop} {D : va_G} {cy : Nat → ClassId} (o : Nat) (q_p1 : Nat) (d : Nat → Nat) (d_p1 : Nat → Nat) (blocks_ : Int32) (touchedCount_ : Int32) (p1_letters_ : Int32) (p1_states_ : Int32) (members_ : Nat → Int32) (blockOf_ : Nat → Int32) (first_ : Nat → Int32) (p1_next_ : Nat → Int32)  (x2 : Int32) (x3 : Int32) (out : Int32) (X : Cx p m c cX4_nextBlock 4 s args wsX4_nextBlock RX4 A D cy (RO_X4_nextBlock cy o q_p1 d d_p1 blocks_ touchedCount_ p1_letters_ p1_states_ members_ blockOf_ first_ p1_next_)) (h : f_X4_nextBlock x2 x3 members_ blockOf_ first_ p1_next_ = some out) (K : ∀ (H : Heap) (locs : List Loc) (ls : Array Slot) (pc : Nat), decode cX4_nextBlock pc = .ok (.ireturn, 1) → St A D s (RW_X4_nextBlock cy o q_p1 d d_p1) H locs → W p l e rm_X4_nextBlock s m args below meth c H locs 0 0 Q (F0 m pc ls [.int out])) : ∀ (H : Heap) (locs : List Loc) (ls : Array Slot), St A D s (RW_X4_nextBlock cy o q_p1 d d_p1) H locs → lv_has ls 4 [(0, .ref o), (1, .ref q_p1), (2, .int x2), (3, .int x3)] → W p l e rm_X4_nextBlock s m args below meth c H locs 0 0 Q (F0 m 0 ls []) := by
  intro H locs ls Z hl
  have hx := X.1.1
  have hb := X.1.2.1
  unfold f_X4_nextBlock at h
  refine lv_aload_n hx hb dX4_nextBlock_0 rfl (lv_at hl 0 rfl) ?_
  refine x_getO X Z 0 3 (v := .ref (d 3)) rfl rfl lk_X4_nextBlock_X4_blockOf dX4_nextBlock_1 ?_
  refine lv_aload_n hx hb dX4_nextBlock_4 rfl (lv_at hl 1 rfl) ?_
  refine x_getO X Z 1 3 (v := .ref (d_p1 3)) rfl rfl lk_X4_nextBlock_X0_next dX4_nextBlock_5 ?_
  refine lv_aload_n hx hb dX4_nextBlock_8 rfl (lv_at hl 0 rfl) ?_
  refine x_getO X Z 0 1 (v := .ref (d 1)) rfl rfl lk_X4_nextBlock_X4_members dX4_nextBlock_9 ?_
  refine lv_aload_n hx hb dX4_nextBlock_12 rfl (lv_at hl 0 rfl) ?_
  refine x_getO X Z 0 4 (v := .ref (d 4)) rfl rfl lk_X4_nextBlock_X4_first dX4_nextBlock_13 ?_
  refine lv_iload_n hx hb dX4_nextBlock_16 rfl (lv_at hl 2 rfl) ?_
  obtain ⟨hin1, v2, hv3, h⟩ := ld_b h
  refine x_ialdO X Z 4 rfl hin1 hv3 dX4_nextBlock_17 ?_
  obtain ⟨hin4, v5, hv6, h⟩ := ld_b h
  refine x_ialdO X Z 2 rfl hin4 hv6 dX4_nextBlock_18 ?_
  refine lv_iconst (v := (3 : Int32)) hx hb dX4_nextBlock_19 (by decide) ?_
  refine lv_imul hx hb dX4_nextBlock_20 ?_
  refine lv_iload_n hx hb dX4_nextBlock_21 rfl (lv_at hl 3 rfl) ?_
  refine lv_iadd hx hb dX4_nextBlock_22 ?_
  obtain ⟨hin7, v8, hv9, h⟩ := ld_b h
  refine x_ialdO X Z 5 rfl hin7 hv9 dX4_nextBlock_23 ?_
  obtain ⟨hin10, v11, hv12, h⟩ := ld_b h
  refine x_ialdO X Z 3 rfl hin10 hv12 dX4_nextBlock_24 ?_
  obtain rfl := Option.some.inj h
  exact K H locs ls _ dX4_nextBlock_25 Z
theorem c_X4_nextBlock (l : Launch) (D : va_G) (cy : Nat → ClassId) (o : Nat) (q_p1 : Nat) (d : Nat → Nat) (d_p1 : Nat → Nat) (blocks_ : Int32) (touchedCount_ : Int32) (p1_letters_ : Int32) (p1_states_ : Int32) (members_ : Nat → Int32) (blockOf_ : Nat → Int32) (first_ : Nat → Int32) (p1_next_ : Nat → Int32)  (x2 : Int32) (x3 : Int32) (out : Int32) (h : f_X4_nextBlock x2 x3 members_ blockOf_ first_ p1_next_ = some out) : CtI l yX4_nextBlock wsX4_nextBlock rm_X4_nextBlock D cy [.ref o, .ref q_p1, .int x2, .int x3] (RW_X4_nextBlock cy o q_p1 d d_p1) (RO_X4_nextBlock cy o q_p1 d d_p1 blocks_ touchedCount_ p1_letters_ p1_states_ members_ blockOf_ first_ p1_next_) (RW_X4_nextBlock cy o q_p1 d d_p1) out :=
  mk_i (ty := .int) (by decide) rfl rfl (Nat.le_of_ble_eq_true rfl) (fun p e s m args below meth c A Q X K H locs ls Z hl => wt_X4_nextBlock o q_p1 d d_p1 blocks_ touchedCount_ p1_letters_ p1_states_ members_ blockOf_ first_ p1_next_ x2 x3 out X h K H locs ls Z hl)
/-! SubwordCounter$Partition isPermuted (LSubwordCounter$Automaton;)Z -/
abbrev rm_X4_isPermuted : Room := { frames := 1, cells := 0, slots := 0, locals := 23 }
def RW_X4_isPermuted (cy : Nat → ClassId) (o : Nat) (q_p1 : Nat) (d : Nat → Nat) (d_p1 : Nat → Nat) (hit_ : Nat → Int32) : va_W := [((d 10), aI cy 2000 hit_)]
def RO_X4_isPermuted (cy : Nat → ClassId) (o : Nat) (q_p1 : Nat) (d : Nat → Nat) (d_p1 : Nat → Nat) (blocks_ : Int32) (touchedCount_ : Int32) (p1_letters_ : Int32) (p1_states_ : Int32) (members_ : Nat → Int32) (blockOf_ : Nat → Int32) (first_ : Nat → Int32) (p1_next_ : Nat → Int32) : va_W := [(o, ob 4 (oX4 d blocks_ touchedCount_)), (q_p1, ob 0 (oX0 d_p1 p1_letters_ p1_states_)), ((d 1), aI cy 2000 members_), ((d 3), aI cy 2000 blockOf_), ((d 4), aI cy 2000 first_), ((d_p1 3), aI cy 6000 p1_next_)]
theorem in_X4_isPermuted_X4 : ∀ w ∈ u_ws RX4 TX4 13, w ∈ wsX4_isPermuted := fun w h => (List.mem_cons_of_mem _ (List.mem_append_right _ h))
theorem lk_X4_isPermuted_X4_blocks : Lk wsX4_isPermuted RX4 9 4 0 := ⟨RX4, TX4, 13, rfl, by decide, in_X4_isPermuted_X4, mem_at 2 rfl⟩
theorem lk_X4_isPermuted_X4_hit : Lk wsX4_isPermuted RX4 45 4 10 := ⟨RX4, TX4, 13, rfl, by decide, in_X4_isPermuted_X4, mem_at 3 rfl⟩
theorem in_X4_isPermuted_X0 : ∀ w ∈ u_ws RX0 TX0 13, w ∈ wsX4_isPermuted := fun w h => (List.mem_cons_of_mem _ (List.mem_append_left _ (List.mem_append_right _ h)))
theorem lk_X4_isPermuted_X0_letters : Lk wsX4_isPermuted RX4 67 0 1 := ⟨RX0, TX0, 13, rfl, by decide, in_X4_isPermuted_X0, mem_at 1 rfl⟩
def b_X4_isPermuted_35 (blocks_ : Int32) (members_ : Nat → Int32) (blockOf_ : Nat → Int32) (first_ : Nat → Int32) (p1_next_ : Nat → Int32) (x2 : Int32) (hit_ : Nat → Int32) (x3 : Int32) : Option (((Nat → Int32) × Int32) ⊕ (((Nat → Int32)) ⊕ ((Nat → Int32)))) :=
  if blocks_ ≤ x3 then
  (some (.inr (.inr hit_)))
  else
  ((f_X4_nextBlock x3 x2 members_ blockOf_ first_ p1_next_).bind (fun u1 =>
  ldA hit_ 2000 u1 (fun v4 =>
  if v4 = (1 : Int32) then
  (some (.inr (.inl hit_)))
  else
  (stA hit_ 2000 u1 (1 : Int32) (fun hit_7 =>
  some (.inl (hit_7, (x3 + (1 : Int32)))))))))
set_option maxHeartbeats 4000000 in
set_option maxRecDepth 100000 in
theorem wb_X4_isPermuted_35 {p : Program} {l : Launch} {e : Env} {s : State} {m : MethodId} {args : Array Value} {below : List Frame} {meth : Method} {c : Code} {A : Nat → Prop} {Q : State → Prop} {D : va_G} {cy : Nat → ClassId} (o : Nat) (q_p1 : Nat) (d : Nat → Nat) (d_p1 : Nat → Nat) (blocks_ : Int32) (touchedCount_ : Int32) (p1_letters_ : Int32) (p1_states_ : Int32) (members_ : Nat → Int32) (blockOf_ : Nat → Int32) (first_ : Nat → Int32) (p1_next_ : Nat → Int32)  (x2 : Int32) (hit_ : Nat → Int32) (x3 : Int32) (o1 : ((Nat → Int32) × Int32) ⊕ (((Nat → Int32)) ⊕ ((Nat → Int32)))) (X : Cx p m c cX4_isPermuted 5 s args wsX4_isPermuted RX4 A D cy (RO_X4_isPermuted cy o q_p1 d d_p1 blocks_ touchedCount_ p1_letters_ p1_states_ members_ blockOf_ first_ p1_next_)) (h : b_X4_isPermuted_35 blocks_ members_ blockOf_ first_ p1_next_ x2 hit_ x3 = some o1) (K : Sum.elim (fun v : (Nat → Int32) × Int32 => ∀ (H : Heap) (locs : List Loc) (ls : Array Slot), St A D s (RW_X4_isPermuted cy o q_p1 d d_p1 v.1) H locs → lv_has ls 5 [(0, .ref o), (1, .ref q_p1), (2, .int x2), (3, .int v.2)] → W p l e rm_X4_isPermuted s m args below meth c H locs 0 0 Q (F0 m 35 ls [])) (fun v : ((Nat → Int32)) ⊕ ((Nat → Int32)) => Sum.elim (fun w : (Nat → Int32) => ∀ (H : Heap) (locs : List Loc) (ls : Array Slot), St A D s (RW_X4_isPermuted cy o q_p1 d d_p1 w) H locs → lv_has ls 5 [] → W p l e rm_X4_isPermuted s m args below meth c H locs 0 0 Q (F0 m 63 ls [])) (fun w => ∀ (H : Heap) (locs : List Loc) (ls : Array Slot), St A D s (RW_X4_isPermuted cy o q_p1 d d_p1 w) H locs → lv_has ls 5 [(0, .ref o), (1, .ref q_p1), (2, .int x2)] → W p l e rm_X4_isPermuted s m args below meth c H locs 0 0 Q (F0 m 79 ls [])) v) o1) : ∀ (H : Heap) (locs : List Loc) (ls : Array Slot), St A D s (RW_X4_isPermuted cy o q_p1 d d_p1 hit_) H locs → lv_has ls 5 [(0, .ref o), (1, .ref q_p1), (2, .int x2), (3, .int x3)] → W p l e rm_X4_isPermuted s m args below meth c H locs 0 0 Q (F0 m 35 ls []) := by
  intro H locs ls Z hl
  have hx := X.1.1
  have hb := X.1.2.1
  unfold b_X4_isPermuted_35 at h
  refine lv_iload_n hx hb dX4_isPermuted_35 rfl (lv_at hl 3 rfl) ?_
  refine lv_aload_n hx hb dX4_isPermuted_36 rfl (lv_at hl 0 rfl) ?_
  refine x_getO X Z 0 0 (v := .int blocks_) rfl rfl lk_X4_isPermuted_X4_blocks dX4_isPermuted_37 ?_
  refine lv_icmp_ge (tgt := 79) hx hb dX4_isPermuted_40 (by decide) (fun cnd => ?_) (fun cnd => ?_)
  · replace h := ifp h cnd
    obtain rfl := Option.some.inj h
    exact (sk_r (sk_r K)) H locs ls Z (lv_sub hl [0, 1, 2] rfl)
  · replace h := ifn h cnd
    refine lv_aload_n hx hb dX4_isPermuted_43 rfl (lv_at hl 0 rfl) ?_
    refine lv_aload_n hx hb dX4_isPermuted_44 rfl (lv_at hl 1 rfl) ?_
    refine lv_iload_n hx hb dX4_isPermuted_45 rfl (lv_at hl 3 rfl) ?_
    refine lv_iload_n hx hb dX4_isPermuted_46 rfl (lv_at hl 2 rfl) ?_
    obtain ⟨u1, hc2, h⟩ := ob_some h
    refine x_runVi (RW' := (RW_X4_isPermuted cy o q_p1 d d_p1 hit_)) (wr := [((d 10), aI cy 2000 hit_)]) (isC := []) (isR := [0]) (isF := [0]) (rest := []) (As := [.ref q_p1, .int x3, .int x2]) (n := 3) X Z (c_X4_nextBlock l D cy o q_p1 d d_p1 blocks_ touchedCount_ p1_letters_ p1_states_ members_ blockOf_ first_ p1_next_ x3 x2 u1 hc2) gX4_isPermuted_X4_nextBlock rfl (by decide +kernel) ⟨Nat.le_of_ble_eq_true rfl, Nat.le_of_ble_eq_true rfl⟩ ⟨rfl, rfl⟩ ⟨Nat.le_of_ble_eq_true rfl, Nat.le_of_ble_eq_true rfl⟩ (x_rvO X Z 0 rfl rfl) ⟨rfl, rfl, (roC (Or.inr (mem_at 0 rfl)) (roC (Or.inr (mem_at 1 rfl)) (roC (Or.inr (mem_at 2 rfl)) (roC (Or.inr (mem_at 3 rfl)) (roC (Or.inr (mem_at 4 rfl)) (roC (Or.inr (mem_at 5 rfl)) roN)))))), rfl, rfl, by decide⟩ ⟨rfl, rfl⟩ rfl hl.1 rfl (Nat.le_of_ble_eq_true rfl) dX4_isPermuted_47 (fun H locs Z => ?_)
    refine lv_istore (lv' := [(4, .int u1), (0, .ref o), (1, .ref q_p1), (2, .int x2), (3, .int x3)]) hx hb dX4_isPermuted_50 hl (by decide) rfl (fun ls hl => ?_)
    refine lv_aload_n hx hb dX4_isPermuted_52 rfl (lv_at hl 1 rfl) ?_
    refine x_getO X Z 0 10 (v := .ref (d 10)) rfl rfl lk_X4_isPermuted_X4_hit dX4_isPermuted_53 ?_
    refine lv_iload hx hb dX4_isPermuted_56 (lv_at hl 0 rfl) ?_
    obtain ⟨hin3, v4, hv5, h⟩ := ld_b h
    refine x_iald X Z 0 rfl hin3 hv5 dX4_isPermuted_58 ?_
    refine lv_iconst (v := (1 : Int32)) hx hb dX4_isPermuted_59 (by decide) ?_
    refine lv_icmp_ne (tgt := 65) hx hb dX4_isPermuted_60 (by decide) (fun cnd => ?_) (fun cnd => ?_)
    · replace h := ifn h cnd
      refine lv_aload_n hx hb dX4_isPermuted_65 rfl (lv_at hl 1 rfl) ?_
      refine x_getO X Z 0 10 (v := .ref (d 10)) rfl rfl lk_X4_isPermuted_X4_hit dX4_isPermuted_66 ?_
      refine lv_iload hx hb dX4_isPermuted_69 (lv_at hl 0 rfl) ?_
      refine lv_iconst (v := (1 : Int32)) hx hb dX4_isPermuted_71 (by decide) ?_
      obtain ⟨hin6, hit_7, hv8, h⟩ := st_b h
      refine x_iast X Z 0 (RW_X4_isPermuted cy o q_p1 d d_p1 hit_7) rfl hin6 hv8 rfl dX4_isPermuted_72 (fun H locs Z => ?_)
      refine lv_iinc (v := (x3 + (1 : Int32))) (lv' := [(3, .int (x3 + (1 : Int32))), (4, .int u1), (0, .ref o), (1, .ref q_p1), (2, .int x2)]) hx hb dX4_isPermuted_73 hl (k := 4) rfl rfl (by decide) rfl (fun ls hl => ?_)
      refine lv_goto (tgt := 35) hx hb dX4_isPermuted_76 (by decide) ?_
      obtain rfl := Option.some.inj h
      exact sk_l K H locs ls Z (lv_sub hl [2, 3, 4, 0] rfl)
    · replace h := ifp h cnd
      obtain rfl := Option.some.inj h
      exact (sk_l (sk_r K)) H locs ls Z (lv_sub hl [] rfl)
set_option maxHeartbeats 4000000 in
set_option maxRecDepth 100000 in
theorem wl_X4_isPermuted_35 {p : Program} {l : Launch} {e : Env} {s : State} {m : MethodId} {args : Array Value} {below : List Frame} {meth : Method} {c : Code} {A : Nat → Prop} {Q : State → Prop} {D : va_G} {cy : Nat → ClassId} (o : Nat) (q_p1 : Nat) (d : Nat → Nat) (d_p1 : Nat → Nat) (blocks_ : Int32) (touchedCount_ : Int32) (p1_letters_ : Int32) (p1_states_ : Int32) (members_ : Nat → Int32) (blockOf_ : Nat → Int32) (first_ : Nat → Int32) (p1_next_ : Nat → Int32)  (x2 : Int32) (n : Nat) (v : (Nat → Int32) × Int32) (x : ((Nat → Int32)) ⊕ ((Nat → Int32))) (X : Cx p m c cX4_isPermuted 5 s args wsX4_isPermuted RX4 A D cy (RO_X4_isPermuted cy o q_p1 d d_p1 blocks_ touchedCount_ p1_letters_ p1_states_ members_ blockOf_ first_ p1_next_)) (h : loopN (fun v => b_X4_isPermuted_35 blocks_ members_ blockOf_ first_ p1_next_ x2 v.1 v.2) n v = some x) (K : Sum.elim (fun w : (Nat → Int32) => ∀ (H : Heap) (locs : List Loc) (ls : Array Slot), St A D s (RW_X4_isPermuted cy o q_p1 d d_p1 w) H locs → lv_has ls 5 [] → W p l e rm_X4_isPermuted s m args below meth c H locs 0 0 Q (F0 m 63 ls [])) (fun w => ∀ (H : Heap) (locs : List Loc) (ls : Array Slot), St A D s (RW_X4_isPermuted cy o q_p1 d d_p1 w) H locs → lv_has ls 5 [(0, .ref o), (1, .ref q_p1), (2, .int x2)] → W p l e rm_X4_isPermuted s m args below meth c H locs 0 0 Q (F0 m 79 ls [])) x) : ∀ (H : Heap) (locs : List Loc) (ls : Array Slot), St A D s (RW_X4_isPermuted cy o q_p1 d d_p1 v.1) H locs → lv_has ls 5 [(0, .ref o), (1, .ref q_p1), (2, .int x2), (3, .int v.2)] → W p l e rm_X4_isPermuted s m args below meth c H locs 0 0 Q (F0 m 35 ls []) :=
  loop_gen (B := (fun v => b_X4_isPermuted_35 blocks_ members_ blockOf_ first_ p1_next_ x2 v.1 v.2)) (Head := fun v : (Nat → Int32) × Int32 => ∀ (H : Heap) (locs : List Loc) (ls : Array Slot), St A D s (RW_X4_isPermuted cy o q_p1 d d_p1 v.1) H locs → lv_has ls 5 [(0, .ref o), (1, .ref q_p1), (2, .int x2), (3, .int v.2)] → W p l e rm_X4_isPermuted s m args below meth c H locs 0 0 Q (F0 m 35 ls [])) (Exit := fun v : ((Nat → Int32)) ⊕ ((Nat → Int32)) => Sum.elim (fun w : (Nat → Int32) => ∀ (H : Heap) (locs : List Loc) (ls : Array Slot), St A D s (RW_X4_isPermuted cy o q_p1 d d_p1 w) H locs → lv_has ls 5 [] → W p l e rm_X4_isPermuted s m args below meth c H locs 0 0 Q (F0 m 63 ls [])) (fun w => ∀ (H : Heap) (locs : List Loc) (ls : Array Slot), St A D s (RW_X4_isPermuted cy o q_p1 d d_p1 w) H locs → lv_has ls 5 [(0, .ref o), (1, .ref q_p1), (2, .int x2)] → W p l e rm_X4_isPermuted s m args below meth c H locs 0 0 Q (F0 m 79 ls [])) v) (fun v o9 hb1 K1 => wb_X4_isPermuted_35 o q_p1 d d_p1 blocks_ touchedCount_ p1_letters_ p1_states_ members_ blockOf_ first_ p1_next_ x2 v.1 v.2 o9 X hb1 K1) n v x h K
def b_X4_isPermuted_12 (blocks_ : Int32) (hit_ : Nat → Int32) (x3 : Int32) : Option (((Nat → Int32) × Int32) ⊕ ((Nat → Int32))) :=
  if blocks_ ≤ x3 then
  (some (.inr hit_))
  else
  (stA hit_ 2000 x3 (0 : Int32) (fun hit_10 =>
  some (.inl (hit_10, (x3 + (1 : Int32))))))
set_option maxHeartbeats 4000000 in
set_option maxRecDepth 100000 in
theorem wb_X4_isPermuted_12 {p : Program} {l : Launch} {e : Env} {s : State} {m : MethodId} {args : Array Value} {below : List Frame} {meth : Method} {c : Code} {A : Nat → Prop} {Q : State → Prop} {D : va_G} {cy : Nat → ClassId} (o : Nat) (q_p1 : Nat) (d : Nat → Nat) (d_p1 : Nat → Nat) (blocks_ : Int32) (touchedCount_ : Int32) (p1_letters_ : Int32) (p1_states_ : Int32) (members_ : Nat → Int32) (blockOf_ : Nat → Int32) (first_ : Nat → Int32) (p1_next_ : Nat → Int32)  (x2 : Int32) (hit_ : Nat → Int32) (x3 : Int32) (o1 : ((Nat → Int32) × Int32) ⊕ ((Nat → Int32))) (X : Cx p m c cX4_isPermuted 5 s args wsX4_isPermuted RX4 A D cy (RO_X4_isPermuted cy o q_p1 d d_p1 blocks_ touchedCount_ p1_letters_ p1_states_ members_ blockOf_ first_ p1_next_)) (h : b_X4_isPermuted_12 blocks_ hit_ x3 = some o1) (K : Sum.elim (fun v : (Nat → Int32) × Int32 => ∀ (H : Heap) (locs : List Loc) (ls : Array Slot), St A D s (RW_X4_isPermuted cy o q_p1 d d_p1 v.1) H locs → lv_has ls 5 [(0, .ref o), (1, .ref q_p1), (2, .int x2), (3, .int v.2)] → W p l e rm_X4_isPermuted s m args below meth c H locs 0 0 Q (F0 m 12 ls [])) (fun v : (Nat → Int32) => ∀ (H : Heap) (locs : List Loc) (ls : Array Slot), St A D s (RW_X4_isPermuted cy o q_p1 d d_p1 v) H locs → lv_has ls 5 [(0, .ref o), (1, .ref q_p1), (2, .int x2)] → W p l e rm_X4_isPermuted s m args below meth c H locs 0 0 Q (F0 m 33 ls [])) o1) : ∀ (H : Heap) (locs : List Loc) (ls : Array Slot), St A D s (RW_X4_isPermuted cy o q_p1 d d_p1 hit_) H locs → lv_has ls 5 [(0, .ref o), (1, .ref q_p1), (2, .int x2), (3, .int x3)] → W p l e rm_X4_isPermuted s m args below meth c H locs 0 0 Q (F0 m 12 ls []) := by
  intro H locs ls Z hl
  have hx := X.1.1
  have hb := X.1.2.1
  unfold b_X4_isPermuted_12 at h
  refine lv_iload_n hx hb dX4_isPermuted_12 rfl (lv_at hl 3 rfl) ?_
  refine lv_aload_n hx hb dX4_isPermuted_13 rfl (lv_at hl 0 rfl) ?_
  refine x_getO X Z 0 0 (v := .int blocks_) rfl rfl lk_X4_isPermuted_X4_blocks dX4_isPermuted_14 ?_
  refine lv_icmp_ge (tgt := 33) hx hb dX4_isPermuted_17 (by decide) (fun cnd => ?_) (fun cnd => ?_)
  · replace h := ifp h cnd
    obtain rfl := Option.some.inj h
    exact (sk_r K) H locs ls Z (lv_sub hl [0, 1, 2] rfl)
  · replace h := ifn h cnd
    refine lv_aload_n hx hb dX4_isPermuted_20 rfl (lv_at hl 0 rfl) ?_
    refine x_getO X Z 0 10 (v := .ref (d 10)) rfl rfl lk_X4_isPermuted_X4_hit dX4_isPermuted_21 ?_
    refine lv_iload_n hx hb dX4_isPermuted_24 rfl (lv_at hl 3 rfl) ?_
    refine lv_iconst (v := (0 : Int32)) hx hb dX4_isPermuted_25 (by decide) ?_
    obtain ⟨hin9, hit_10, hv11, h⟩ := st_b h
    refine x_iast X Z 0 (RW_X4_isPermuted cy o q_p1 d d_p1 hit_10) rfl hin9 hv11 rfl dX4_isPermuted_26 (fun H locs Z => ?_)
    refine lv_iinc (v := (x3 + (1 : Int32))) (lv' := [(3, .int (x3 + (1 : Int32))), (0, .ref o), (1, .ref q_p1), (2, .int x2)]) hx hb dX4_isPermuted_27 hl (k := 3) rfl rfl (by decide) rfl (fun ls hl => ?_)
    refine lv_goto (tgt := 12) hx hb dX4_isPermuted_30 (by decide) ?_
    obtain rfl := Option.some.inj h
    exact sk_l K H locs ls Z (lv_sub hl [1, 2, 3, 0] rfl)
set_option maxHeartbeats 4000000 in
set_option maxRecDepth 100000 in
theorem wl_X4_isPermuted_12 {p : Program} {l : Launch} {e : Env} {s : State} {m : MethodId} {args : Array Value} {below : List Frame} {meth : Method} {c : Code} {A : Nat → Prop} {Q : State → Prop} {D : va_G} {cy : Nat → ClassId} (o : Nat) (q_p1 : Nat) (d : Nat → Nat) (d_p1 : Nat → Nat) (blocks_ : Int32) (touchedCount_ : Int32) (p1_letters_ : Int32) (p1_states_ : Int32) (members_ : Nat → Int32) (blockOf_ : Nat → Int32) (first_ : Nat → Int32) (p1_next_ : Nat → Int32)  (x2 : Int32) (n : Nat) (v : (Nat → Int32) × Int32) (x : (Nat → Int32)) (X : Cx p m c cX4_isPermuted 5 s args wsX4_isPermuted RX4 A D cy (RO_X4_isPermuted cy o q_p1 d d_p1 blocks_ touchedCount_ p1_letters_ p1_states_ members_ blockOf_ first_ p1_next_)) (h : loopN (fun v => b_X4_isPermuted_12 blocks_ v.1 v.2) n v = some x) (K : ∀ (H : Heap) (locs : List Loc) (ls : Array Slot), St A D s (RW_X4_isPermuted cy o q_p1 d d_p1 x) H locs → lv_has ls 5 [(0, .ref o), (1, .ref q_p1), (2, .int x2)] → W p l e rm_X4_isPermuted s m args below meth c H locs 0 0 Q (F0 m 33 ls [])) : ∀ (H : Heap) (locs : List Loc) (ls : Array Slot), St A D s (RW_X4_isPermuted cy o q_p1 d d_p1 v.1) H locs → lv_has ls 5 [(0, .ref o), (1, .ref q_p1), (2, .int x2), (3, .int v.2)] → W p l e rm_X4_isPermuted s m args below meth c H locs 0 0 Q (F0 m 12 ls []) :=
  loop_gen (B := (fun v => b_X4_isPermuted_12 blocks_ v.1 v.2)) (Head := fun v : (Nat → Int32) × Int32 => ∀ (H : Heap) (locs : List Loc) (ls : Array Slot), St A D s (RW_X4_isPermuted cy o q_p1 d d_p1 v.1) H locs → lv_has ls 5 [(0, .ref o), (1, .ref q_p1), (2, .int x2), (3, .int v.2)] → W p l e rm_X4_isPermuted s m args below meth c H locs 0 0 Q (F0 m 12 ls [])) (Exit := fun v : (Nat → Int32) => ∀ (H : Heap) (locs : List Loc) (ls : Array Slot), St A D s (RW_X4_isPermuted cy o q_p1 d d_p1 v) H locs → lv_has ls 5 [(0, .ref o), (1, .ref q_p1), (2, .int x2)] → W p l e rm_X4_isPermuted s m args below meth c H locs 0 0 Q (F0 m 33 ls [])) (fun v o9 hb1 K1 => wb_X4_isPermuted_12 o q_p1 d d_p1 blocks_ touchedCount_ p1_letters_ p1_states_ members_ blockOf_ first_ p1_next_ x2 v.1 v.2 o9 X hb1 K1) n v x h K
def b_X4_isPermuted_2 (blocks_ : Int32) (p1_letters_ : Int32) (members_ : Nat → Int32) (blockOf_ : Nat → Int32) (first_ : Nat → Int32) (p1_next_ : Nat → Int32) (hit_ : Nat → Int32) (x2 : Int32) : Option (((Nat → Int32) × Int32) ⊕ (((Nat → Int32)) ⊕ ((Nat → Int32)))) :=
  if p1_letters_ ≤ x2 then
  (some (.inr (.inr hit_)))
  else
  ((loopN (fun v => b_X4_isPermuted_12 blocks_ v.1 v.2) FU (hit_, (0 : Int32))).bind (fun u12 =>
  (loopN (fun v => b_X4_isPermuted_35 blocks_ members_ blockOf_ first_ p1_next_ x2 v.1 v.2) FU (u12, (0 : Int32))).bind (fun u14 =>
  Sum.elim (fun u14 =>
  some (.inr (.inl u14))) (fun u14 =>
  some (.inl (u14, (x2 + (1 : Int32))))) u14)))
set_option maxHeartbeats 4000000 in
set_option maxRecDepth 100000 in
theorem wb_X4_isPermuted_2 {p : Program} {l : Launch} {e : Env} {s : State} {m : MethodId} {args : Array Value} {below : List Frame} {meth : Method} {c : Code} {A : Nat → Prop} {Q : State → Prop} {D : va_G} {cy : Nat → ClassId} (o : Nat) (q_p1 : Nat) (d : Nat → Nat) (d_p1 : Nat → Nat) (blocks_ : Int32) (touchedCount_ : Int32) (p1_letters_ : Int32) (p1_states_ : Int32) (members_ : Nat → Int32) (blockOf_ : Nat → Int32) (first_ : Nat → Int32) (p1_next_ : Nat → Int32)  (hit_ : Nat → Int32) (x2 : Int32) (o1 : ((Nat → Int32) × Int32) ⊕ (((Nat → Int32)) ⊕ ((Nat → Int32)))) (X : Cx p m c cX4_isPermuted 5 s args wsX4_isPermuted RX4 A D cy (RO_X4_isPermuted cy o q_p1 d d_p1 blocks_ touchedCount_ p1_letters_ p1_states_ members_ blockOf_ first_ p1_next_)) (h : b_X4_isPermuted_2 blocks_ p1_letters_ members_ blockOf_ first_ p1_next_ hit_ x2 = some o1) (K : Sum.elim (fun v : (Nat → Int32) × Int32 => ∀ (H : Heap) (locs : List Loc) (ls : Array Slot), St A D s (RW_X4_isPermuted cy o q_p1 d d_p1 v.1) H locs → lv_has ls 5 [(0, .ref o), (1, .ref q_p1), (2, .int v.2)] → W p l e rm_X4_isPermuted s m args below meth c H locs 0 0 Q (F0 m 2 ls [])) (fun v : ((Nat → Int32)) ⊕ ((Nat → Int32)) => Sum.elim (fun w : (Nat → Int32) => ∀ (H : Heap) (locs : List Loc) (ls : Array Slot), St A D s (RW_X4_isPermuted cy o q_p1 d d_p1 w) H locs → lv_has ls 5 [] → W p l e rm_X4_isPermuted s m args below meth c H locs 0 0 Q (F0 m 63 ls [])) (fun w => ∀ (H : Heap) (locs : List Loc) (ls : Array Slot), St A D s (RW_X4_isPermuted cy o q_p1 d d_p1 w) H locs → lv_has ls 5 [] → W p l e rm_X4_isPermuted s m args below meth c H locs 0 0 Q (F0 m 85 ls [])) v) o1) : ∀ (H : Heap) (locs : List Loc) (ls : Array Slot), St A D s (RW_X4_isPermuted cy o q_p1 d d_p1 hit_) H locs → lv_has ls 5 [(0, .ref o), (1, .ref q_p1), (2, .int x2)] → W p l e rm_X4_isPermuted s m args below meth c H locs 0 0 Q (F0 m 2 ls []) := by
  intro H locs ls Z hl
  have hx := X.1.1
  have hb := X.1.2.1
  unfold b_X4_isPermuted_2 at h
  refine lv_iload_n hx hb dX4_isPermuted_2 rfl (lv_at hl 2 rfl) ?_
  refine lv_aload_n hx hb dX4_isPermuted_3 rfl (lv_at hl 1 rfl) ?_
  refine x_getO X Z 1 1 (v := .int p1_letters_) rfl rfl lk_X4_isPermuted_X0_letters dX4_isPermuted_4 ?_
  refine lv_icmp_ge (tgt := 85) hx hb dX4_isPermuted_7 (by decide) (fun cnd => ?_) (fun cnd => ?_)
  · replace h := ifp h cnd
    obtain rfl := Option.some.inj h
    exact (sk_r (sk_r K)) H locs ls Z (lv_sub hl [] rfl)
  · replace h := ifn h cnd
    refine lv_iconst (v := (0 : Int32)) hx hb dX4_isPermuted_10 (by decide) ?_
    refine lv_istore_n (lv' := [(3, .int (0 : Int32)), (0, .ref o), (1, .ref q_p1), (2, .int x2)]) hx hb dX4_isPermuted_11 rfl hl (by decide) rfl (fun ls hl => ?_)
    obtain ⟨u12, hL13, h⟩ := ob_some h
    refine wl_X4_isPermuted_12 o q_p1 d d_p1 blocks_ touchedCount_ p1_letters_ p1_states_ members_ blockOf_ first_ p1_next_ x2 FU (hit_, (0 : Int32)) u12 X hL13 (fun H locs ls Z hl => ?_) H locs ls Z (lv_sub hl [1, 2, 3, 0] rfl)
    refine lv_iconst (v := (0 : Int32)) hx hb dX4_isPermuted_33 (by decide) ?_
    refine lv_istore_n (lv' := [(3, .int (0 : Int32)), (0, .ref o), (1, .ref q_p1), (2, .int x2)]) hx hb dX4_isPermuted_34 rfl hl (by decide) rfl (fun ls hl => ?_)
    obtain ⟨u14, hL15, h⟩ := ob_some h
    rcases u14 with u14 | u14
    · replace h := se_l h
      refine wl_X4_isPermuted_35 o q_p1 d d_p1 blocks_ touchedCount_ p1_letters_ p1_states_ members_ blockOf_ first_ p1_next_ x2 FU (u12, (0 : Int32)) (.inl u14) X hL15 (sk_li (fun H locs ls Z hl => ?_)) H locs ls Z (lv_sub hl [1, 2, 3, 0] rfl)
      obtain rfl := Option.some.inj h
      exact (sk_l (sk_r K)) H locs ls Z (lv_sub hl [] rfl)
    · replace h := se_r h
      refine wl_X4_isPermuted_35 o q_p1 d d_p1 blocks_ touchedCount_ p1_letters_ p1_states_ members_ blockOf_ first_ p1_next_ x2 FU (u12, (0 : Int32)) (.inr u14) X hL15 (sk_ri (fun H locs ls Z hl => ?_)) H locs ls Z (lv_sub hl [1, 2, 3, 0] rfl)
      refine lv_iinc (v := (x2 + (1 : Int32))) (lv' := [(2, .int (x2 + (1 : Int32))), (0, .ref o), (1, .ref q_p1)]) hx hb dX4_isPermuted_79 hl (k := 2) rfl rfl (by decide) rfl (fun ls hl => ?_)
      refine lv_goto (tgt := 2) hx hb dX4_isPermuted_82 (by decide) ?_
      obtain rfl := Option.some.inj h
      exact sk_l K H locs ls Z (lv_sub hl [1, 2, 0] rfl)
set_option maxHeartbeats 4000000 in
set_option maxRecDepth 100000 in
theorem wl_X4_isPermuted_2 {p : Program} {l : Launch} {e : Env} {s : State} {m : MethodId} {args : Array Value} {below : List Frame} {meth : Method} {c : Code} {A : Nat → Prop} {Q : State → Prop} {D : va_G} {cy : Nat → ClassId} (o : Nat) (q_p1 : Nat) (d : Nat → Nat) (d_p1 : Nat → Nat) (blocks_ : Int32) (touchedCount_ : Int32) (p1_letters_ : Int32) (p1_states_ : Int32) (members_ : Nat → Int32) (blockOf_ : Nat → Int32) (first_ : Nat → Int32) (p1_next_ : Nat → Int32)  (n : Nat) (v : (Nat → Int32) × Int32) (x : ((Nat → Int32)) ⊕ ((Nat → Int32))) (X : Cx p m c cX4_isPermuted 5 s args wsX4_isPermuted RX4 A D cy (RO_X4_isPermuted cy o q_p1 d d_p1 blocks_ touchedCount_ p1_letters_ p1_states_ members_ blockOf_ first_ p1_next_)) (h : loopN (fun v => b_X4_isPermuted_2 blocks_ p1_letters_ members_ blockOf_ first_ p1_next_ v.1 v.2) n v = some x) (K : Sum.elim (fun w : (Nat → Int32) => ∀ (H : Heap) (locs : List Loc) (ls : Array Slot), St A D s (RW_X4_isPermuted cy o q_p1 d d_p1 w) H locs → lv_has ls 5 [] → W p l e rm_X4_isPermuted s m args below meth c H locs 0 0 Q (F0 m 63 ls [])) (fun w => ∀ (H : Heap) (locs : List Loc) (ls : Array Slot), St A D s (RW_X4_isPermuted cy o q_p1 d d_p1 w) H locs → lv_has ls 5 [] → W p l e rm_X4_isPermuted s m args below meth c H locs 0 0 Q (F0 m 85 ls [])) x) : ∀ (H : Heap) (locs : List Loc) (ls : Array Slot), St A D s (RW_X4_isPermuted cy o q_p1 d d_p1 v.1) H locs → lv_has ls 5 [(0, .ref o), (1, .ref q_p1), (2, .int v.2)] → W p l e rm_X4_isPermuted s m args below meth c H locs 0 0 Q (F0 m 2 ls []) :=
  loop_gen (B := (fun v => b_X4_isPermuted_2 blocks_ p1_letters_ members_ blockOf_ first_ p1_next_ v.1 v.2)) (Head := fun v : (Nat → Int32) × Int32 => ∀ (H : Heap) (locs : List Loc) (ls : Array Slot), St A D s (RW_X4_isPermuted cy o q_p1 d d_p1 v.1) H locs → lv_has ls 5 [(0, .ref o), (1, .ref q_p1), (2, .int v.2)] → W p l e rm_X4_isPermuted s m args below meth c H locs 0 0 Q (F0 m 2 ls [])) (Exit := fun v : ((Nat → Int32)) ⊕ ((Nat → Int32)) => Sum.elim (fun w : (Nat → Int32) => ∀ (H : Heap) (locs : List Loc) (ls : Array Slot), St A D s (RW_X4_isPermuted cy o q_p1 d d_p1 w) H locs → lv_has ls 5 [] → W p l e rm_X4_isPermuted s m args below meth c H locs 0 0 Q (F0 m 63 ls [])) (fun w => ∀ (H : Heap) (locs : List Loc) (ls : Array Slot), St A D s (RW_X4_isPermuted cy o q_p1 d d_p1 w) H locs → lv_has ls 5 [] → W p l e rm_X4_isPermuted s m args below meth c H locs 0 0 Q (F0 m 85 ls [])) v) (fun v o9 hb1 K1 => wb_X4_isPermuted_2 o q_p1 d d_p1 blocks_ touchedCount_ p1_letters_ p1_states_ members_ blockOf_ first_ p1_next_ v.1 v.2 o9 X hb1 K1) n v x h K
def f_X4_isPermuted (blocks_ : Int32) (p1_letters_ : Int32) (members_ : Nat → Int32) (blockOf_ : Nat → Int32) (first_ : Nat → Int32) (p1_next_ : Nat → Int32) (hit_ : Nat → Int32) : Option (Int32 × (Nat → Int32)) :=
  (loopN (fun v => b_X4_isPermuted_2 blocks_ p1_letters_ members_ blockOf_ first_ p1_next_ v.1 v.2) FU (hit_, (0 : Int32))).bind (fun u16 =>
  Sum.elim (fun u16 =>
  some ((0 : Int32), u16)) (fun u16 =>
  some ((1 : Int32), u16)) u16)
set_option maxHeartbeats 4000000 in
set_option maxRecDepth 100000 in
theorem wt_X4_isPermuted {p : Program} {l : Launch} {e : Env} {s : State} {m : MethodId} {args : Array Value} {below : List Frame} {meth : Method} {c : Code} {A : Nat → Prop} {Q : State → Prop} {D : va_G} {cy : Nat → ClassId} (o : Nat) (q_p1 : Nat) (d : Nat → Nat) (d_p1 : Nat → Nat) (blocks_ : Int32) (touchedCount_ : Int32) (p1_letters_ : Int32) (p1_states_ : Int32) (members_ : Nat → Int32) (blockOf_ : Nat → Int32) (first_ : Nat → Int32) (p1_next_ : Nat → Int32) (hit_ : Nat → Int32) (out : Int32 × (Nat → Int32)) (X : Cx p m c cX4_isPermuted 5 s args wsX4_isPermuted RX4 A D cy (RO_X4_isPermuted cy o q_p1 d d_p1 blocks_ touchedCount_ p1_letters_ p1_states_ members_ blockOf_ first_ p1_next_)) (h : f_X4_isPermuted blocks_ p1_letters_ members_ blockOf_ first_ p1_next_ hit_ = some out) (K : ∀ (H : Heap) (locs : List Loc) (ls : Array Slot) (pc : Nat), decode cX4_isPermuted pc = .ok (.ireturn, 1) → (out.1 = 0 ∨ out.1 = 1) → St A D s (RW_X4_isPermuted cy o q_p1 d d_p1 out.2) H locs → W p l e rm_X4_isPermuted s m args below meth c H locs 0 0 Q (F0 m pc ls [.int out.1])) : ∀ (H : Heap) (locs : List Loc) (ls : Array Slot), St A D s (RW_X4_isPermuted cy o q_p1 d d_p1 hit_) H locs → lv_has ls 5 [(0, .ref o), (1, .ref q_p1)] → W p l e rm_X4_isPermuted s m args below meth c H locs 0 0 Q (F0 m 0 ls []) := by
  intro H locs ls Z hl
  have hx := X.1.1
  have hb := X.1.2.1
  unfold f_X4_isPermuted at h
  refine lv_iconst (v := (0 : Int32)) hx hb dX4_isPermuted_0 (by decide) ?_
  refine lv_istore_n (lv' := [(2, .int (0 : Int32)), (0, .ref o), (1, .ref q_p1)]) hx hb dX4_isPermuted_1 rfl hl (by decide) rfl (fun ls hl => ?_)
  obtain ⟨u16, hL17, h⟩ := ob_some h
  rcases u16 with u16 | u16
  · replace h := se_l h
    refine wl_X4_isPermuted_2 o q_p1 d d_p1 blocks_ touchedCount_ p1_letters_ p1_states_ members_ blockOf_ first_ p1_next_ FU (hit_, (0 : Int32)) (.inl u16) X hL17 (sk_li (fun H locs ls Z hl => ?_)) H locs ls Z (lv_sub hl [1, 2, 0] rfl)
    refine lv_iconst (v := (0 : Int32)) hx hb dX4_isPermuted_63 (by decide) ?_
    obtain rfl := Option.some.inj h
    exact K H locs ls _ dX4_isPermuted_64 (Or.inl rfl) Z
  · replace h := se_r h
    refine wl_X4_isPermuted_2 o q_p1 d d_p1 blocks_ touchedCount_ p1_letters_ p1_states_ members_ blockOf_ first_ p1_next_ FU (hit_, (0 : Int32)) (.inr u16) X hL17 (sk_ri (fun H locs ls Z hl => ?_)) H locs ls Z (lv_sub hl [1, 2, 0] rfl)
    refine lv_iconst (v := (1 : Int32)) hx hb dX4_isPermuted_85 (by decide) ?_
    obtain rfl := Option.some.inj h
    exact K H locs ls _ dX4_isPermuted_86 (Or.inr rfl) Z
theorem c_X4_isPermuted (l : Launch) (D : va_G) (cy : Nat → ClassId) (o : Nat) (q_p1 : Nat) (d : Nat → Nat) (d_p1 : Nat → Nat) (blocks_ : Int32) (touchedCount_ : Int32) (p1_letters_ : Int32) (p1_states_ : Int32) (members_ : Nat → Int32) (blockOf_ : Nat → Int32) (first_ : Nat → Int32) (p1_next_ : Nat → Int32) (hit_ : Nat → Int32) (out : Int32 × (Nat → Int32)) (h : f_X4_isPermuted blocks_ p1_letters_ members_ blockOf_ first_ p1_next_ hit_ = some out) : CtI l yX4_isPermuted wsX4_isPermuted rm_X4_isPermuted D cy [.ref o, .ref q_p1] (RW_X4_isPermuted cy o q_p1 d d_p1 hit_) (RO_X4_isPermuted cy o q_p1 d d_p1 blocks_ touchedCount_ p1_letters_ p1_states_ members_ blockOf_ first_ p1_next_) (RW_X4_isPermuted cy o q_p1 d d_p1 out.2) out.1 :=
  mk_z (by decide) rfl (Nat.le_of_ble_eq_true rfl) (fun p e s m args below meth c A Q X K H locs ls Z hl => wt_X4_isPermuted o q_p1 d d_p1 blocks_ touchedCount_ p1_letters_ p1_states_ members_ blockOf_ first_ p1_next_ hit_ out X h K H locs ls Z hl)
/-! SubwordCounter isGroup (I)I -/
abbrev rm_X11_isGroup : Room := { frames := 6, cells := 0, slots := 0, locals := 143 }
def RW_X11_isGroup (cy : Nat → ClassId) (o : Nat) (d : Nat → Nat) (d_now : Nat → Nat) (d_automaton : Nat → Nat) (d_partition : Nat → Nat) (d_now_tests : Nat → Nat) (d_automaton_tests : Nat → Nat) (mono : Value) (PT : va_W) (automaton_letters_ : Int32) (automaton_states_ : Int32) (partition_blocks_ : Int32) (partition_touchedCount_ : Int32) (automaton_tests_count_ : Int32) (automaton_next_ : Nat → Int32) (automaton_marks_ : Nat → Int32) (automaton_depth_ : Nat → Int32) (automaton_low_ : Nat → Int64) (automaton_high_ : Nat → Int64) (automaton_parent_ : Nat → Int32) (automaton_lastLetter_ : Nat → Int32) (automaton_slots_ : Nat → Int32) (partition_members_ : Nat → Int32) (partition_place_ : Nat → Int32) (partition_blockOf_ : Nat → Int32) (partition_first_ : Nat → Int32) (partition_size_ : Nat → Int32) (partition_marked_ : Nat → Int32) (partition_touched_ : Nat → Int32) (partition_splitter_ : Nat → Int32) (partition_hit_ : Nat → Int32) (partition_sourceStart_ : Nat → Int32) (partition_sources_ : Nat → Int32) (automaton_tests_members_ : Nat → Option Nat) : va_W := [((d 8), ob 0 (oX0 d_automaton automaton_letters_ automaton_states_)), ((d 9), ob 4 (oX4 d_partition partition_blocks_ partition_touchedCount_)), ((d_automaton 0), ob 1 (oX1 d_automaton_tests automaton_tests_count_)), ((d_automaton 3), aI cy 6000 automaton_next_), ((d_automaton 4), aI cy 2000 automaton_marks_), ((d_automaton 5), aI cy 2000 automaton_depth_), ((d_automaton 6), aJ cy 2000 automaton_low_), ((d_automaton 7), aJ cy 2000 automaton_high_), ((d_automaton 8), aI cy 2000 automaton_parent_), ((d_automaton 9), aI cy 2000 automaton_lastLetter_), ((d_automaton 10), aI cy 4096 automaton_slots_), ((d_partition 1), aI cy 2000 partition_members_), ((d_partition 2), aI cy 2000 partition_place_), ((d_partition 3), aI cy 2000 partition_blockOf_), ((d_partition 4), aI cy 2000 partition_first_), ((d_partition 5), aI cy 2000 partition_size_), ((d_partition 6), aI cy 2000 partition_marked_), ((d_partition 7), aI cy 2000 partition_touched_), ((d_partition 9), aI cy 2000 partition_splitter_), ((d_partition 10), aI cy 2000 partition_hit_), ((d_partition 11), aI cy 6003 partition_sourceStart_), ((d_partition 12), aI cy 6000 partition_sources_), ((d_automaton_tests 0), aR cy 4 8 automaton_tests_members_)]
def RO_X11_isGroup (cy : Nat → ClassId) (o : Nat) (d : Nat → Nat) (d_now : Nat → Nat) (d_automaton : Nat → Nat) (d_partition : Nat → Nat) (d_now_tests : Nat → Nat) (d_automaton_tests : Nat → Nat) (mono : Value) (PT : va_W) (snapshotTaken_ : Int32) (inputLength_ : Int32) (now_letters_ : Int32) (now_tests_count_ : Int32) (now_tests_members_ : Nat → Option Nat) : va_W := [(o, ob 10 (oX11 d mono snapshotTaken_ inputLength_)), ((d 0), ob 5 (oX5 d_now now_letters_)), ((d_now 2), ob 1 (oX1 d_now_tests now_tests_count_)), ((d_now_tests 0), aR cy 4 8 now_tests_members_)] ++ PT
theorem in_X11_isGroup_X11 : ∀ w ∈ u_ws RX11 TX11 12, w ∈ wsX11_isGroup := fun w h => (List.mem_cons_of_mem _ (List.mem_append_left _ (List.mem_append_left _ (List.mem_append_left _ (List.mem_append_left _ (List.mem_append_left _ (List.mem_append_right _ h)))))))
theorem lk_X11_isGroup_X11_partition : Lk wsX11_isGroup RX11 61 10 9 := ⟨RX11, TX11, 12, rfl, by decide, in_X11_isGroup_X11, mem_at 1 rfl⟩
theorem lk_X11_isGroup_X11_automaton : Lk wsX11_isGroup RX11 54 10 8 := ⟨RX11, TX11, 12, rfl, by decide, in_X11_isGroup_X11, mem_at 2 rfl⟩
def f_X11_isGroup (x1 : Int32) (tq : Nat → Option TV) (now_letters_ : Int32) (now_tests_count_ : Int32) (now_tests_members_ : Nat → Option Nat) (automaton_letters_ : Int32) (automaton_states_ : Int32) (partition_blocks_ : Int32) (partition_touchedCount_ : Int32) (automaton_tests_count_ : Int32) (automaton_next_ : Nat → Int32) (automaton_marks_ : Nat → Int32) (automaton_depth_ : Nat → Int32) (automaton_low_ : Nat → Int64) (automaton_high_ : Nat → Int64) (automaton_parent_ : Nat → Int32) (automaton_lastLetter_ : Nat → Int32) (automaton_slots_ : Nat → Int32) (partition_members_ : Nat → Int32) (partition_place_ : Nat → Int32) (partition_blockOf_ : Nat → Int32) (partition_first_ : Nat → Int32) (partition_size_ : Nat → Int32) (partition_marked_ : Nat → Int32) (partition_touched_ : Nat → Int32) (partition_splitter_ : Nat → Int32) (partition_hit_ : Nat → Int32) (partition_sourceStart_ : Nat → Int32) (partition_sources_ : Nat → Int32) (automaton_tests_members_ : Nat → Option Nat) : Option (Int32 × Int32 × Int32 × Int32 × Int32 × Int32 × (Nat → Int32) × (Nat → Int32) × (Nat → Int32) × (Nat → Int64) × (Nat → Int64) × (Nat → Int32) × (Nat → Int32) × (Nat → Int32) × (Nat → Int32) × (Nat → Int32) × (Nat → Int32) × (Nat → Int32) × (Nat → Int32) × (Nat → Int32) × (Nat → Int32) × (Nat → Int32) × (Nat → Int32) × (Nat → Int32) × (Nat → Int32) × (Nat → Option Nat)) :=
  (f_X11_isTest x1 now_tests_count_).bind (fun u1 =>
  if u1 = 0 then
  (some ((-1 : Int32), automaton_letters_, automaton_states_, partition_blocks_, partition_touchedCount_, automaton_tests_count_, automaton_next_, automaton_marks_, automaton_depth_, automaton_low_, automaton_high_, automaton_parent_, automaton_lastLetter_, automaton_slots_, partition_members_, partition_place_, partition_blockOf_, partition_first_, partition_size_, partition_marked_, partition_touched_, partition_splitter_, partition_hit_, partition_sourceStart_, partition_sources_, automaton_tests_members_))
  else
  ((f_X11_exploreTest x1 tq now_letters_ now_tests_members_ automaton_letters_ automaton_states_ automaton_tests_count_ automaton_next_ automaton_marks_ automaton_depth_ automaton_low_ automaton_high_ automaton_parent_ automaton_lastLetter_ automaton_slots_ automaton_tests_members_).bind (fun u3 =>
  if u3.1 = 0 then
  (some ((-4 : Int32), u3.2.1, u3.2.2.1, partition_blocks_, partition_touchedCount_, u3.2.2.2.1, u3.2.2.2.2.1, u3.2.2.2.2.2.1, u3.2.2.2.2.2.2.1, u3.2.2.2.2.2.2.2.1, u3.2.2.2.2.2.2.2.2.1, u3.2.2.2.2.2.2.2.2.2.1, u3.2.2.2.2.2.2.2.2.2.2.1, u3.2.2.2.2.2.2.2.2.2.2.2.1, partition_members_, partition_place_, partition_blockOf_, partition_first_, partition_size_, partition_marked_, partition_touched_, partition_splitter_, partition_hit_, partition_sourceStart_, partition_sources_, u3.2.2.2.2.2.2.2.2.2.2.2.2))
  else
  ((f_X4_refine u3.2.1 u3.2.2.1 u3.2.2.2.2.1 u3.2.2.2.2.2.1 partition_blocks_ partition_touchedCount_ partition_members_ partition_place_ partition_blockOf_ partition_first_ partition_size_ partition_marked_ partition_touched_ partition_splitter_ partition_sourceStart_ partition_sources_).bind (fun u5 =>
  (f_X4_isPermuted u5.1 u3.2.1 u5.2.2.1 u5.2.2.2.2.1 u5.2.2.2.2.2.1 u3.2.2.2.2.1 partition_hit_).bind (fun u7 =>
  if u7.1 = 0 then
  (some ((0 : Int32), u3.2.1, u3.2.2.1, u5.1, u5.2.1, u3.2.2.2.1, u3.2.2.2.2.1, u3.2.2.2.2.2.1, u3.2.2.2.2.2.2.1, u3.2.2.2.2.2.2.2.1, u3.2.2.2.2.2.2.2.2.1, u3.2.2.2.2.2.2.2.2.2.1, u3.2.2.2.2.2.2.2.2.2.2.1, u3.2.2.2.2.2.2.2.2.2.2.2.1, u5.2.2.1, u5.2.2.2.1, u5.2.2.2.2.1, u5.2.2.2.2.2.1, u5.2.2.2.2.2.2.1, u5.2.2.2.2.2.2.2.1, u5.2.2.2.2.2.2.2.2.1, u5.2.2.2.2.2.2.2.2.2.1, u7.2, u5.2.2.2.2.2.2.2.2.2.2.1, u5.2.2.2.2.2.2.2.2.2.2.2, u3.2.2.2.2.2.2.2.2.2.2.2.2))
  else
  (some ((1 : Int32), u3.2.1, u3.2.2.1, u5.1, u5.2.1, u3.2.2.2.1, u3.2.2.2.2.1, u3.2.2.2.2.2.1, u3.2.2.2.2.2.2.1, u3.2.2.2.2.2.2.2.1, u3.2.2.2.2.2.2.2.2.1, u3.2.2.2.2.2.2.2.2.2.1, u3.2.2.2.2.2.2.2.2.2.2.1, u3.2.2.2.2.2.2.2.2.2.2.2.1, u5.2.2.1, u5.2.2.2.1, u5.2.2.2.2.1, u5.2.2.2.2.2.1, u5.2.2.2.2.2.2.1, u5.2.2.2.2.2.2.2.1, u5.2.2.2.2.2.2.2.2.1, u5.2.2.2.2.2.2.2.2.2.1, u7.2, u5.2.2.2.2.2.2.2.2.2.2.1, u5.2.2.2.2.2.2.2.2.2.2.2, u3.2.2.2.2.2.2.2.2.2.2.2.2))))))))
set_option maxHeartbeats 4000000 in
set_option maxRecDepth 100000 in
theorem wt_X11_isGroup {p : Program} {l : Launch} {e : Env} {s : State} {m : MethodId} {args : Array Value} {below : List Frame} {meth : Method} {c : Code} {A : Nat → Prop} {Q : State → Prop} {D : va_G} {cy : Nat → ClassId} (o : Nat) (d : Nat → Nat) (d_now : Nat → Nat) (d_automaton : Nat → Nat) (d_partition : Nat → Nat) (d_now_tests : Nat → Nat) (d_automaton_tests : Nat → Nat) (mono : Value) (PT : va_W) (tq : Nat → Option TV) (snapshotTaken_ : Int32) (inputLength_ : Int32) (now_letters_ : Int32) (now_tests_count_ : Int32) (now_tests_members_ : Nat → Option Nat) (automaton_letters_ : Int32) (automaton_states_ : Int32) (partition_blocks_ : Int32) (partition_touchedCount_ : Int32) (automaton_tests_count_ : Int32) (automaton_next_ : Nat → Int32) (automaton_marks_ : Nat → Int32) (automaton_depth_ : Nat → Int32) (automaton_low_ : Nat → Int64) (automaton_high_ : Nat → Int64) (automaton_parent_ : Nat → Int32) (automaton_lastLetter_ : Nat → Int32) (automaton_slots_ : Nat → Int32) (partition_members_ : Nat → Int32) (partition_place_ : Nat → Int32) (partition_blockOf_ : Nat → Int32) (partition_first_ : Nat → Int32) (partition_size_ : Nat → Int32) (partition_marked_ : Nat → Int32) (partition_touched_ : Nat → Int32) (partition_splitter_ : Nat → Int32) (partition_hit_ : Nat → Int32) (partition_sourceStart_ : Nat → Int32) (partition_sources_ : Nat → Int32) (automaton_tests_members_ : Nat → Option Nat) (x1 : Int32) (out : Int32 × Int32 × Int32 × Int32 × Int32 × Int32 × (Nat → Int32) × (Nat → Int32) × (Nat → Int32) × (Nat → Int64) × (Nat → Int64) × (Nat → Int32) × (Nat → Int32) × (Nat → Int32) × (Nat → Int32) × (Nat → Int32) × (Nat → Int32) × (Nat → Int32) × (Nat → Int32) × (Nat → Int32) × (Nat → Int32) × (Nat → Int32) × (Nat → Int32) × (Nat → Int32) × (Nat → Int32) × (Nat → Option Nat)) (hT : TP cy PT tq) (X : Cx p m c cX11_isGroup 2 s args wsX11_isGroup RX11 A D cy (RO_X11_isGroup cy o d d_now d_automaton d_partition d_now_tests d_automaton_tests mono PT snapshotTaken_ inputLength_ now_letters_ now_tests_count_ now_tests_members_)) (h : f_X11_isGroup x1 tq now_letters_ now_tests_count_ now_tests_members_ automaton_letters_ automaton_states_ partition_blocks_ partition_touchedCount_ automaton_tests_count_ automaton_next_ automaton_marks_ automaton_depth_ automaton_low_ automaton_high_ automaton_parent_ automaton_lastLetter_ automaton_slots_ partition_members_ partition_place_ partition_blockOf_ partition_first_ partition_size_ partition_marked_ partition_touched_ partition_splitter_ partition_hit_ partition_sourceStart_ partition_sources_ automaton_tests_members_ = some out) (K : ∀ (H : Heap) (locs : List Loc) (ls : Array Slot) (pc : Nat), decode cX11_isGroup pc = .ok (.ireturn, 1) → St A D s (RW_X11_isGroup cy o d d_now d_automaton d_partition d_now_tests d_automaton_tests mono PT out.2.1 out.2.2.1 out.2.2.2.1 out.2.2.2.2.1 out.2.2.2.2.2.1 out.2.2.2.2.2.2.1 out.2.2.2.2.2.2.2.1 out.2.2.2.2.2.2.2.2.1 out.2.2.2.2.2.2.2.2.2.1 out.2.2.2.2.2.2.2.2.2.2.1 out.2.2.2.2.2.2.2.2.2.2.2.1 out.2.2.2.2.2.2.2.2.2.2.2.2.1 out.2.2.2.2.2.2.2.2.2.2.2.2.2.1 out.2.2.2.2.2.2.2.2.2.2.2.2.2.2.1 out.2.2.2.2.2.2.2.2.2.2.2.2.2.2.2.1 out.2.2.2.2.2.2.2.2.2.2.2.2.2.2.2.2.1 out.2.2.2.2.2.2.2.2.2.2.2.2.2.2.2.2.2.1 out.2.2.2.2.2.2.2.2.2.2.2.2.2.2.2.2.2.2.1 out.2.2.2.2.2.2.2.2.2.2.2.2.2.2.2.2.2.2.2.1 out.2.2.2.2.2.2.2.2.2.2.2.2.2.2.2.2.2.2.2.2.1 out.2.2.2.2.2.2.2.2.2.2.2.2.2.2.2.2.2.2.2.2.2.1 out.2.2.2.2.2.2.2.2.2.2.2.2.2.2.2.2.2.2.2.2.2.2.1 out.2.2.2.2.2.2.2.2.2.2.2.2.2.2.2.2.2.2.2.2.2.2.2.1 out.2.2.2.2.2.2.2.2.2.2.2.2.2.2.2.2.2.2.2.2.2.2.2.2.1 out.2.2.2.2.2.2.2.2.2.2.2.2.2.2.2.2.2.2.2.2.2.2.2.2.2) H locs → W p l e rm_X11_isGroup s m args below meth c H locs 0 0 Q (F0 m pc ls [.int out.1])) : ∀ (H : Heap) (locs : List Loc) (ls : Array Slot), St A D s (RW_X11_isGroup cy o d d_now d_automaton d_partition d_now_tests d_automaton_tests mono PT automaton_letters_ automaton_states_ partition_blocks_ partition_touchedCount_ automaton_tests_count_ automaton_next_ automaton_marks_ automaton_depth_ automaton_low_ automaton_high_ automaton_parent_ automaton_lastLetter_ automaton_slots_ partition_members_ partition_place_ partition_blockOf_ partition_first_ partition_size_ partition_marked_ partition_touched_ partition_splitter_ partition_hit_ partition_sourceStart_ partition_sources_ automaton_tests_members_) H locs → lv_has ls 2 [(0, .ref o), (1, .int x1)] → W p l e rm_X11_isGroup s m args below meth c H locs 0 0 Q (F0 m 0 ls []) := by
  intro H locs ls Z hl
  have hx := X.1.1
  have hb := X.1.2.1
  unfold f_X11_isGroup at h
  refine lv_aload_n hx hb dX11_isGroup_0 rfl (lv_at hl 0 rfl) ?_
  refine lv_iload_n hx hb dX11_isGroup_1 rfl (lv_at hl 1 rfl) ?_
  obtain ⟨u1, hc2, h⟩ := ob_some h
  refine x_runVi (RW' := (RW_X11_isGroup cy o d d_now d_automaton d_partition d_now_tests d_automaton_tests mono PT automaton_letters_ automaton_states_ partition_blocks_ partition_touchedCount_ automaton_tests_count_ automaton_next_ automaton_marks_ automaton_depth_ automaton_low_ automaton_high_ automaton_parent_ automaton_lastLetter_ automaton_slots_ partition_members_ partition_place_ partition_blockOf_ partition_first_ partition_size_ partition_marked_ partition_touched_ partition_splitter_ partition_hit_ partition_sourceStart_ partition_sources_ automaton_tests_members_)) (wr := [((d 8), ob 0 (oX0 d_automaton automaton_letters_ automaton_states_)), ((d 9), ob 4 (oX4 d_partition partition_blocks_ partition_touchedCount_)), ((d_automaton 0), ob 1 (oX1 d_automaton_tests automaton_tests_count_)), ((d_automaton 3), aI cy 6000 automaton_next_), ((d_automaton 4), aI cy 2000 automaton_marks_), ((d_automaton 5), aI cy 2000 automaton_depth_), ((d_automaton 6), aJ cy 2000 automaton_low_), ((d_automaton 7), aJ cy 2000 automaton_high_), ((d_automaton 8), aI cy 2000 automaton_parent_), ((d_automaton 9), aI cy 2000 automaton_lastLetter_), ((d_automaton 10), aI cy 4096 automaton_slots_), ((d_partition 1), aI cy 2000 partition_members_), ((d_partition 2), aI cy 2000 partition_place_), ((d_partition 3), aI cy 2000 partition_blockOf_), ((d_partition 4), aI cy 2000 partition_first_), ((d_partition 5), aI cy 2000 partition_size_), ((d_partition 6), aI cy 2000 partition_marked_), ((d_partition 7), aI cy 2000 partition_touched_), ((d_partition 9), aI cy 2000 partition_splitter_), ((d_partition 10), aI cy 2000 partition_hit_), ((d_partition 11), aI cy 6003 partition_sourceStart_), ((d_partition 12), aI cy 6000 partition_sources_), ((d_automaton_tests 0), aR cy 4 8 automaton_tests_members_)]) (isC := []) (isR := [0, 1, 2, 3, 4, 5, 6, 7, 8, 9, 10, 11, 12, 13, 14, 15, 16, 17, 18, 19, 20, 21, 22]) (isF := [0, 1, 2, 3, 4, 5, 6, 7, 8, 9, 10, 11, 12, 13, 14, 15, 16, 17, 18, 19, 20, 21, 22]) (rest := []) (As := [.int x1]) (n := 1) X Z (c_X11_isTest l D cy o d d_now d_now_tests mono snapshotTaken_ inputLength_ now_letters_ now_tests_count_ x1 u1 hc2) gX11_isGroup_X11_isTest rfl (by decide +kernel) ⟨Nat.le_of_ble_eq_true rfl, Nat.le_of_ble_eq_true rfl⟩ ⟨rfl, rfl⟩ ⟨Nat.le_of_ble_eq_true rfl, Nat.le_of_ble_eq_true rfl⟩ (x_rvO X Z 0 rfl rfl) ⟨rfl, rfl, (roC (Or.inr (mem_at 0 rfl)) (roC (Or.inr (mem_at 1 rfl)) (roC (Or.inr (mem_at 2 rfl)) roN))), rfl, rfl, by decide⟩ ⟨rfl, rfl⟩ rfl hl.1 rfl (Nat.le_of_ble_eq_true rfl) dX11_isGroup_2 (fun H locs Z => ?_)
  refine lv_if_ne (tgt := 10) hx hb dX11_isGroup_5 (by decide) (fun cnd => ?_) (fun cnd => ?_)
  · replace h := ifn h cnd
    refine lv_aload_n hx hb dX11_isGroup_10 rfl (lv_at hl 0 rfl) ?_
    refine lv_iload_n hx hb dX11_isGroup_11 rfl (lv_at hl 1 rfl) ?_
    obtain ⟨u3, hc4, h⟩ := ob_some h
    refine x_runVi (RW' := (RW_X11_isGroup cy o d d_now d_automaton d_partition d_now_tests d_automaton_tests mono PT u3.2.1 u3.2.2.1 partition_blocks_ partition_touchedCount_ u3.2.2.2.1 u3.2.2.2.2.1 u3.2.2.2.2.2.1 u3.2.2.2.2.2.2.1 u3.2.2.2.2.2.2.2.1 u3.2.2.2.2.2.2.2.2.1 u3.2.2.2.2.2.2.2.2.2.1 u3.2.2.2.2.2.2.2.2.2.2.1 u3.2.2.2.2.2.2.2.2.2.2.2.1 partition_members_ partition_place_ partition_blockOf_ partition_first_ partition_size_ partition_marked_ partition_touched_ partition_splitter_ partition_hit_ partition_sourceStart_ partition_sources_ u3.2.2.2.2.2.2.2.2.2.2.2.2)) (wr := [((d 9), ob 4 (oX4 d_partition partition_blocks_ partition_touchedCount_)), ((d_partition 1), aI cy 2000 partition_members_), ((d_partition 2), aI cy 2000 partition_place_), ((d_partition 3), aI cy 2000 partition_blockOf_), ((d_partition 4), aI cy 2000 partition_first_), ((d_partition 5), aI cy 2000 partition_size_), ((d_partition 6), aI cy 2000 partition_marked_), ((d_partition 7), aI cy 2000 partition_touched_), ((d_partition 9), aI cy 2000 partition_splitter_), ((d_partition 10), aI cy 2000 partition_hit_), ((d_partition 11), aI cy 6003 partition_sourceStart_), ((d_partition 12), aI cy 6000 partition_sources_)]) (isC := [0, 2, 3, 4, 5, 6, 7, 8, 9, 10, 22]) (isR := [1, 11, 12, 13, 14, 15, 16, 17, 18, 19, 20, 21]) (isF := [12, 0, 13, 14, 15, 16, 17, 18, 19, 20, 21, 1, 2, 3, 4, 5, 6, 7, 8, 9, 10, 11, 22]) (rest := []) (As := [.int x1]) (n := 1) X Z (c_X11_exploreTest l D cy o d d_now d_automaton d_now_tests d_automaton_tests mono PT tq snapshotTaken_ inputLength_ now_letters_ now_tests_count_ now_tests_members_ automaton_letters_ automaton_states_ automaton_tests_count_ automaton_next_ automaton_marks_ automaton_depth_ automaton_low_ automaton_high_ automaton_parent_ automaton_lastLetter_ automaton_slots_ automaton_tests_members_ x1 u3 hT hc4) gX11_isGroup_X11_exploreTest rfl (by decide +kernel) ⟨Nat.le_of_ble_eq_true rfl, Nat.le_of_ble_eq_true rfl⟩ ⟨rfl, rfl⟩ ⟨Nat.le_of_ble_eq_true rfl, Nat.le_of_ble_eq_true rfl⟩ (x_rvO X Z 0 rfl rfl) ⟨rfl, rfl, (roC (Or.inr (mem_at 0 rfl)) (roC (Or.inr (mem_at 1 rfl)) (roC (Or.inr (mem_at 2 rfl)) (roC (Or.inr (mem_at 3 rfl)) (fun q hq => Or.inr (List.mem_append_right _ hq)))))), rfl, rfl, by decide⟩ ⟨rfl, rfl⟩ rfl hl.1 rfl (Nat.le_of_ble_eq_true rfl) dX11_isGroup_12 (fun H locs Z => ?_)
    refine lv_if_ne (tgt := 21) hx hb dX11_isGroup_15 (by decide) (fun cnd => ?_) (fun cnd => ?_)
    · replace h := ifn h cnd
      refine lv_aload_n hx hb dX11_isGroup_21 rfl (lv_at hl 0 rfl) ?_
      refine x_getO X Z 0 9 (v := .ref (d 9)) rfl rfl lk_X11_isGroup_X11_partition dX11_isGroup_22 ?_
      refine lv_aload_n hx hb dX11_isGroup_25 rfl (lv_at hl 0 rfl) ?_
      refine x_getO X Z 0 8 (v := .ref (d 8)) rfl rfl lk_X11_isGroup_X11_automaton dX11_isGroup_26 ?_
      obtain ⟨u5, hc6, h⟩ := ob_some h
      refine x_runVv (RW' := (RW_X11_isGroup cy o d d_now d_automaton d_partition d_now_tests d_automaton_tests mono PT u3.2.1 u3.2.2.1 u5.1 u5.2.1 u3.2.2.2.1 u3.2.2.2.2.1 u3.2.2.2.2.2.1 u3.2.2.2.2.2.2.1 u3.2.2.2.2.2.2.2.1 u3.2.2.2.2.2.2.2.2.1 u3.2.2.2.2.2.2.2.2.2.1 u3.2.2.2.2.2.2.2.2.2.2.1 u3.2.2.2.2.2.2.2.2.2.2.2.1 u5.2.2.1 u5.2.2.2.1 u5.2.2.2.2.1 u5.2.2.2.2.2.1 u5.2.2.2.2.2.2.1 u5.2.2.2.2.2.2.2.1 u5.2.2.2.2.2.2.2.2.1 u5.2.2.2.2.2.2.2.2.2.1 partition_hit_ u5.2.2.2.2.2.2.2.2.2.2.1 u5.2.2.2.2.2.2.2.2.2.2.2 u3.2.2.2.2.2.2.2.2.2.2.2.2)) (wr := [((d 8), ob 0 (oX0 d_automaton u3.2.1 u3.2.2.1)), ((d_automaton 0), ob 1 (oX1 d_automaton_tests u3.2.2.2.1)), ((d_automaton 3), aI cy 6000 u3.2.2.2.2.1), ((d_automaton 4), aI cy 2000 u3.2.2.2.2.2.1), ((d_automaton 5), aI cy 2000 u3.2.2.2.2.2.2.1), ((d_automaton 6), aJ cy 2000 u3.2.2.2.2.2.2.2.1), ((d_automaton 7), aJ cy 2000 u3.2.2.2.2.2.2.2.2.1), ((d_automaton 8), aI cy 2000 u3.2.2.2.2.2.2.2.2.2.1), ((d_automaton 9), aI cy 2000 u3.2.2.2.2.2.2.2.2.2.2.1), ((d_automaton 10), aI cy 4096 u3.2.2.2.2.2.2.2.2.2.2.2.1), ((d_partition 10), aI cy 2000 partition_hit_), ((d_automaton_tests 0), aR cy 4 8 u3.2.2.2.2.2.2.2.2.2.2.2.2)]) (isC := [1, 11, 12, 13, 14, 15, 16, 17, 18, 20, 21]) (isR := [0, 2, 3, 4, 5, 6, 7, 8, 9, 10, 19, 22]) (isF := [0, 12, 1, 2, 3, 4, 5, 6, 7, 8, 9, 13, 14, 15, 16, 17, 18, 19, 20, 10, 21, 22, 11]) (rest := []) (As := [.ref (d 8)]) (n := 1) X Z (c_X4_refine l D cy (d 9) (d 8) d_partition d_automaton u3.2.1 u3.2.2.1 u3.2.2.2.2.1 u3.2.2.2.2.2.1 partition_blocks_ partition_touchedCount_ partition_members_ partition_place_ partition_blockOf_ partition_first_ partition_size_ partition_marked_ partition_touched_ partition_splitter_ partition_sourceStart_ partition_sources_ u5 hc6) gX11_isGroup_X4_refine rfl (by decide +kernel) ⟨Nat.le_of_ble_eq_true rfl, Nat.le_of_ble_eq_true rfl⟩ ⟨rfl, rfl⟩ ⟨Nat.le_of_ble_eq_true rfl, Nat.le_of_ble_eq_true rfl⟩ (x_rv X Z 1 rfl rfl) ⟨rfl, rfl, (roC (Or.inl (mem_at 0 rfl)) (roC (Or.inl (mem_at 2 rfl)) (roC (Or.inl (mem_at 3 rfl)) roN))), rfl, rfl, by decide⟩ ⟨rfl, rfl⟩ rfl hl.1 rfl (Nat.le_of_ble_eq_true rfl) dX11_isGroup_29 (fun H locs Z => ?_)
      refine lv_aload_n hx hb dX11_isGroup_32 rfl (lv_at hl 0 rfl) ?_
      refine x_getO X Z 0 9 (v := .ref (d 9)) rfl rfl lk_X11_isGroup_X11_partition dX11_isGroup_33 ?_
      refine lv_aload_n hx hb dX11_isGroup_36 rfl (lv_at hl 0 rfl) ?_
      refine x_getO X Z 0 8 (v := .ref (d 8)) rfl rfl lk_X11_isGroup_X11_automaton dX11_isGroup_37 ?_
      obtain ⟨u7, hc8, h⟩ := ob_some h
      refine x_runVi (RW' := (RW_X11_isGroup cy o d d_now d_automaton d_partition d_now_tests d_automaton_tests mono PT u3.2.1 u3.2.2.1 u5.1 u5.2.1 u3.2.2.2.1 u3.2.2.2.2.1 u3.2.2.2.2.2.1 u3.2.2.2.2.2.2.1 u3.2.2.2.2.2.2.2.1 u3.2.2.2.2.2.2.2.2.1 u3.2.2.2.2.2.2.2.2.2.1 u3.2.2.2.2.2.2.2.2.2.2.1 u3.2.2.2.2.2.2.2.2.2.2.2.1 u5.2.2.1 u5.2.2.2.1 u5.2.2.2.2.1 u5.2.2.2.2.2.1 u5.2.2.2.2.2.2.1 u5.2.2.2.2.2.2.2.1 u5.2.2.2.2.2.2.2.2.1 u5.2.2.2.2.2.2.2.2.2.1 u7.2 u5.2.2.2.2.2.2.2.2.2.2.1 u5.2.2.2.2.2.2.2.2.2.2.2 u3.2.2.2.2.2.2.2.2.2.2.2.2)) (wr := [((d 8), ob 0 (oX0 d_automaton u3.2.1 u3.2.2.1)), ((d 9), ob 4 (oX4 d_partition u5.1 u5.2.1)), ((d_automaton 0), ob 1 (oX1 d_automaton_tests u3.2.2.2.1)), ((d_automaton 3), aI cy 6000 u3.2.2.2.2.1), ((d_automaton 4), aI cy 2000 u3.2.2.2.2.2.1), ((d_automaton 5), aI cy 2000 u3.2.2.2.2.2.2.1), ((d_automaton 6), aJ cy 2000 u3.2.2.2.2.2.2.2.1), ((d_automaton 7), aJ cy 2000 u3.2.2.2.2.2.2.2.2.1), ((d_automaton 8), aI cy 2000 u3.2.2.2.2.2.2.2.2.2.1), ((d_automaton 9), aI cy 2000 u3.2.2.2.2.2.2.2.2.2.2.1), ((d_automaton 10), aI cy 4096 u3.2.2.2.2.2.2.2.2.2.2.2.1), ((d_partition 1), aI cy 2000 u5.2.2.1), ((d_partition 2), aI cy 2000 u5.2.2.2.1), ((d_partition 3), aI cy 2000 u5.2.2.2.2.1), ((d_partition 4), aI cy 2000 u5.2.2.2.2.2.1), ((d_partition 5), aI cy 2000 u5.2.2.2.2.2.2.1), ((d_partition 6), aI cy 2000 u5.2.2.2.2.2.2.2.1), ((d_partition 7), aI cy 2000 u5.2.2.2.2.2.2.2.2.1), ((d_partition 9), aI cy 2000 u5.2.2.2.2.2.2.2.2.2.1), ((d_partition 11), aI cy 6003 u5.2.2.2.2.2.2.2.2.2.2.1), ((d_partition 12), aI cy 6000 u5.2.2.2.2.2.2.2.2.2.2.2), ((d_automaton_tests 0), aR cy 4 8 u3.2.2.2.2.2.2.2.2.2.2.2.2)]) (isC := [19]) (isR := [0, 1, 2, 3, 4, 5, 6, 7, 8, 9, 10, 11, 12, 13, 14, 15, 16, 17, 18, 20, 21, 22]) (isF := [0, 1, 2, 3, 4, 5, 6, 7, 8, 9, 10, 11, 12, 13, 14, 15, 16, 17, 18, 22, 19, 20, 21]) (rest := []) (As := [.ref (d 8)]) (n := 1) X Z (c_X4_isPermuted l D cy (d 9) (d 8) d_partition d_automaton u5.1 u5.2.1 u3.2.1 u3.2.2.1 u5.2.2.1 u5.2.2.2.2.1 u5.2.2.2.2.2.1 u3.2.2.2.2.1 partition_hit_ u7 hc8) gX11_isGroup_X4_isPermuted rfl (by decide +kernel) ⟨Nat.le_of_ble_eq_true rfl, Nat.le_of_ble_eq_true rfl⟩ ⟨rfl, rfl⟩ ⟨Nat.le_of_ble_eq_true rfl, Nat.le_of_ble_eq_true rfl⟩ (x_rv X Z 1 rfl rfl) ⟨rfl, rfl, (roC (Or.inl (mem_at 1 rfl)) (roC (Or.inl (mem_at 0 rfl)) (roC (Or.inl (mem_at 11 rfl)) (roC (Or.inl (mem_at 13 rfl)) (roC (Or.inl (mem_at 14 rfl)) (roC (Or.inl (mem_at 3 rfl)) roN)))))), rfl, rfl, by decide⟩ ⟨rfl, rfl⟩ rfl hl.1 rfl (Nat.le_of_ble_eq_true rfl) dX11_isGroup_40 (fun H locs Z => ?_)
      refine lv_if_eq (tgt := 50) hx hb dX11_isGroup_43 (by decide) (fun cnd => ?_) (fun cnd => ?_)
      · replace h := ifp h cnd
        refine lv_iconst (v := (0 : Int32)) hx hb dX11_isGroup_50 (by decide) ?_
        obtain rfl := Option.some.inj h
        exact K H locs ls _ dX11_isGroup_51 Z
      · replace h := ifn h cnd
        refine lv_iconst (v := (1 : Int32)) hx hb dX11_isGroup_46 (by decide) ?_
        refine lv_goto (tgt := 51) hx hb dX11_isGroup_47 (by decide) ?_
        obtain rfl := Option.some.inj h
        exact K H locs ls _ dX11_isGroup_51 Z
    · replace h := ifp h cnd
      refine lv_bipush (v := (-4 : Int32)) hx hb dX11_isGroup_18 (by decide) ?_
      obtain rfl := Option.some.inj h
      exact K H locs ls _ dX11_isGroup_20 Z
  · replace h := ifp h cnd
    refine lv_iconst (v := (-1 : Int32)) hx hb dX11_isGroup_8 (by decide) ?_
    obtain rfl := Option.some.inj h
    exact K H locs ls _ dX11_isGroup_9 Z
theorem c_X11_isGroup (l : Launch) (D : va_G) (cy : Nat → ClassId) (o : Nat) (d : Nat → Nat) (d_now : Nat → Nat) (d_automaton : Nat → Nat) (d_partition : Nat → Nat) (d_now_tests : Nat → Nat) (d_automaton_tests : Nat → Nat) (mono : Value) (PT : va_W) (tq : Nat → Option TV) (snapshotTaken_ : Int32) (inputLength_ : Int32) (now_letters_ : Int32) (now_tests_count_ : Int32) (now_tests_members_ : Nat → Option Nat) (automaton_letters_ : Int32) (automaton_states_ : Int32) (partition_blocks_ : Int32) (partition_touchedCount_ : Int32) (automaton_tests_count_ : Int32) (automaton_next_ : Nat → Int32) (automaton_marks_ : Nat → Int32) (automaton_depth_ : Nat → Int32) (automaton_low_ : Nat → Int64) (automaton_high_ : Nat → Int64) (automaton_parent_ : Nat → Int32) (automaton_lastLetter_ : Nat → Int32) (automaton_slots_ : Nat → Int32) (partition_members_ : Nat → Int32) (partition_place_ : Nat → Int32) (partition_blockOf_ : Nat → Int32) (partition_first_ : Nat → Int32) (partition_size_ : Nat → Int32) (partition_marked_ : Nat → Int32) (partition_touched_ : Nat → Int32) (partition_splitter_ : Nat → Int32) (partition_hit_ : Nat → Int32) (partition_sourceStart_ : Nat → Int32) (partition_sources_ : Nat → Int32) (automaton_tests_members_ : Nat → Option Nat) (x1 : Int32) (out : Int32 × Int32 × Int32 × Int32 × Int32 × Int32 × (Nat → Int32) × (Nat → Int32) × (Nat → Int32) × (Nat → Int64) × (Nat → Int64) × (Nat → Int32) × (Nat → Int32) × (Nat → Int32) × (Nat → Int32) × (Nat → Int32) × (Nat → Int32) × (Nat → Int32) × (Nat → Int32) × (Nat → Int32) × (Nat → Int32) × (Nat → Int32) × (Nat → Int32) × (Nat → Int32) × (Nat → Int32) × (Nat → Option Nat)) (hT : TP cy PT tq) (h : f_X11_isGroup x1 tq now_letters_ now_tests_count_ now_tests_members_ automaton_letters_ automaton_states_ partition_blocks_ partition_touchedCount_ automaton_tests_count_ automaton_next_ automaton_marks_ automaton_depth_ automaton_low_ automaton_high_ automaton_parent_ automaton_lastLetter_ automaton_slots_ partition_members_ partition_place_ partition_blockOf_ partition_first_ partition_size_ partition_marked_ partition_touched_ partition_splitter_ partition_hit_ partition_sourceStart_ partition_sources_ automaton_tests_members_ = some out) : CtI l yX11_isGroup wsX11_isGroup rm_X11_isGroup D cy [.ref o, .int x1] (RW_X11_isGroup cy o d d_now d_automaton d_partition d_now_tests d_automaton_tests mono PT automaton_letters_ automaton_states_ partition_blocks_ partition_touchedCount_ automaton_tests_count_ automaton_next_ automaton_marks_ automaton_depth_ automaton_low_ automaton_high_ automaton_parent_ automaton_lastLetter_ automaton_slots_ partition_members_ partition_place_ partition_blockOf_ partition_first_ partition_size_ partition_marked_ partition_touched_ partition_splitter_ partition_hit_ partition_sourceStart_ partition_sources_ automaton_tests_members_) (RO_X11_isGroup cy o d d_now d_automaton d_partition d_now_tests d_automaton_tests mono PT snapshotTaken_ inputLength_ now_letters_ now_tests_count_ now_tests_members_) (RW_X11_isGroup cy o d d_now d_automaton d_partition d_now_tests d_automaton_tests mono PT out.2.1 out.2.2.1 out.2.2.2.1 out.2.2.2.2.1 out.2.2.2.2.2.1 out.2.2.2.2.2.2.1 out.2.2.2.2.2.2.2.1 out.2.2.2.2.2.2.2.2.1 out.2.2.2.2.2.2.2.2.2.1 out.2.2.2.2.2.2.2.2.2.2.1 out.2.2.2.2.2.2.2.2.2.2.2.1 out.2.2.2.2.2.2.2.2.2.2.2.2.1 out.2.2.2.2.2.2.2.2.2.2.2.2.2.1 out.2.2.2.2.2.2.2.2.2.2.2.2.2.2.1 out.2.2.2.2.2.2.2.2.2.2.2.2.2.2.2.1 out.2.2.2.2.2.2.2.2.2.2.2.2.2.2.2.2.1 out.2.2.2.2.2.2.2.2.2.2.2.2.2.2.2.2.2.1 out.2.2.2.2.2.2.2.2.2.2.2.2.2.2.2.2.2.2.1 out.2.2.2.2.2.2.2.2.2.2.2.2.2.2.2.2.2.2.2.1 out.2.2.2.2.2.2.2.2.2.2.2.2.2.2.2.2.2.2.2.2.1 out.2.2.2.2.2.2.2.2.2.2.2.2.2.2.2.2.2.2.2.2.2.1 out.2.2.2.2.2.2.2.2.2.2.2.2.2.2.2.2.2.2.2.2.2.2.1 out.2.2.2.2.2.2.2.2.2.2.2.2.2.2.2.2.2.2.2.2.2.2.2.1 out.2.2.2.2.2.2.2.2.2.2.2.2.2.2.2.2.2.2.2.2.2.2.2.2.1 out.2.2.2.2.2.2.2.2.2.2.2.2.2.2.2.2.2.2.2.2.2.2.2.2.2) out.1 :=
  mk_i (ty := .int) (by decide) rfl rfl (Nat.le_of_ble_eq_true rfl) (fun p e s m args below meth c A Q X K H locs ls Z hl => wt_X11_isGroup o d d_now d_automaton d_partition d_now_tests d_automaton_tests mono PT tq snapshotTaken_ inputLength_ now_letters_ now_tests_count_ now_tests_members_ automaton_letters_ automaton_states_ partition_blocks_ partition_touchedCount_ automaton_tests_count_ automaton_next_ automaton_marks_ automaton_depth_ automaton_low_ automaton_high_ automaton_parent_ automaton_lastLetter_ automaton_slots_ partition_members_ partition_place_ partition_blockOf_ partition_first_ partition_size_ partition_marked_ partition_touched_ partition_splitter_ partition_hit_ partition_sourceStart_ partition_sources_ automaton_tests_members_ x1 out hT X h K H locs ls Z hl)
/-! SubwordCounter isLanguage (I)Z -/
abbrev rm_X11_isLanguage : Room := { frames := 0, cells := 0, slots := 0, locals := 0 }
def RW_X11_isLanguage (cy : Nat → ClassId)   : va_W := []
def RO_X11_isLanguage (cy : Nat → ClassId)   : va_W := []
def f_X11_isLanguage (x0 : Int32)  : Option (Int32) :=
  if x0 < 0 then
  (some (0 : Int32))
  else
  (if (4 : Int32) ≤ x0 then
  (some (0 : Int32))
  else
  (some (1 : Int32)))
set_option maxHeartbeats 4000000 in
set_option maxRecDepth 100000 in
theorem wt_X11_isLanguage {p : Program} {l : Launch} {e : Env} {s : State} {m : MethodId} {args : Array Value} {below : List Frame} {meth : Method} {c : Code} {A : Nat → Prop} {Q : State → Prop} {D : va_G} {cy : Nat → ClassId}    (x0 : Int32) (out : Int32) (X : Cx p m c cX11_isLanguage 1 s args wsX11_isLanguage RX11 A D cy (RO_X11_isLanguage cy )) (h : f_X11_isLanguage x0 = some out) (K : ∀ (H : Heap) (locs : List Loc) (ls : Array Slot) (pc : Nat), decode cX11_isLanguage pc = .ok (.ireturn, 1) → (out = 0 ∨ out = 1) → St A D s (RW_X11_isLanguage cy ) H locs → W p l e rm_X11_isLanguage s m args below meth c H locs 0 0 Q (F0 m pc ls [.int out])) : ∀ (H : Heap) (locs : List Loc) (ls : Array Slot), St A D s (RW_X11_isLanguage cy ) H locs → lv_has ls 1 [(0, .int x0)] → W p l e rm_X11_isLanguage s m args below meth c H locs 0 0 Q (F0 m 0 ls []) := by
  intro H locs ls Z hl
  have hx := X.1.1
  have hb := X.1.2.1
  unfold f_X11_isLanguage at h
  refine lv_iload_n hx hb dX11_isLanguage_0 rfl (lv_at hl 0 rfl) ?_
  refine lv_if_lt (tgt := 13) hx hb dX11_isLanguage_1 (by decide) (fun cnd => ?_) (fun cnd => ?_)
  · replace h := ifp h cnd
    refine lv_iconst (v := (0 : Int32)) hx hb dX11_isLanguage_13 (by decide) ?_
    obtain rfl := Option.some.inj h
    exact K H locs ls _ dX11_isLanguage_14 (Or.inl rfl) Z
  · replace h := ifn h cnd
    refine lv_iload_n hx hb dX11_isLanguage_4 rfl (lv_at hl 0 rfl) ?_
    refine lv_iconst (v := (4 : Int32)) hx hb dX11_isLanguage_5 (by decide) ?_
    refine lv_icmp_ge (tgt := 13) hx hb dX11_isLanguage_6 (by decide) (fun cnd => ?_) (fun cnd => ?_)
    · replace h := ifp h cnd
      refine lv_iconst (v := (0 : Int32)) hx hb dX11_isLanguage_13 (by decide) ?_
      obtain rfl := Option.some.inj h
      exact K H locs ls _ dX11_isLanguage_14 (Or.inl rfl) Z
    · replace h := ifn h cnd
      refine lv_iconst (v := (1 : Int32)) hx hb dX11_isLanguage_9 (by decide) ?_
      refine lv_goto (tgt := 14) hx hb dX11_isLanguage_10 (by decide) ?_
      obtain rfl := Option.some.inj h
      exact K H locs ls _ dX11_isLanguage_14 (Or.inr rfl) Z
theorem c_X11_isLanguage (l : Launch) (D : va_G) (cy : Nat → ClassId)    (x0 : Int32) (out : Int32) (h : f_X11_isLanguage x0 = some out) : CtI l yX11_isLanguage wsX11_isLanguage rm_X11_isLanguage D cy [.int x0] (RW_X11_isLanguage cy ) (RO_X11_isLanguage cy ) (RW_X11_isLanguage cy ) out :=
  mk_z (by decide) rfl (Nat.le_of_ble_eq_true rfl) (fun p e s m args below meth c A Q X K H locs ls Z hl => wt_X11_isLanguage  x0 out X h K H locs ls Z hl)
/-! SubwordCounter clearLanguage (I)I -/
abbrev rm_X11_clearLanguage : Room := { frames := 1, cells := 0, slots := 0, locals := 20 }
def RW_X11_clearLanguage (cy : Nat → ClassId) (o : Nat) (d : Nat → Nat) (d_now : Nat → Nat) (mono : Value) (now_languages_ : Nat → Option Nat) : va_W := [((d_now 3), aR cy 2 4 now_languages_)]
def RO_X11_clearLanguage (cy : Nat → ClassId) (o : Nat) (d : Nat → Nat) (d_now : Nat → Nat) (mono : Value) (snapshotTaken_ : Int32) (inputLength_ : Int32) (now_letters_ : Int32) : va_W := [(o, ob 10 (oX11 d mono snapshotTaken_ inputLength_)), ((d 0), ob 5 (oX5 d_now now_letters_))]
theorem in_X11_clearLanguage_X11 : ∀ w ∈ u_ws RX11 TX11 12, w ∈ wsX11_clearLanguage := fun w h => (List.mem_cons_of_mem _ (List.mem_append_left _ (List.mem_append_right _ h)))
theorem lk_X11_clearLanguage_X11_now : Lk wsX11_clearLanguage RX11 10 10 0 := ⟨RX11, TX11, 12, rfl, by decide, in_X11_clearLanguage_X11, mem_at 1 rfl⟩
theorem in_X11_clearLanguage_X5 : ∀ w ∈ u_ws RX5 TX5 4, w ∈ wsX11_clearLanguage := fun w h => (List.mem_cons_of_mem _ (List.mem_append_right _ h))
theorem lk_X11_clearLanguage_X5_languages : Lk wsX11_clearLanguage RX11 232 5 3 := ⟨RX5, TX5, 4, rfl, by decide, in_X11_clearLanguage_X5, mem_at 2 rfl⟩
def j_X11_clearLanguage_26 (now_languages_ : Nat → Option Nat) (x1 : Int32) (t0 : Int32) : Option (Int32 × (Nat → Option Nat)) :=
  stA now_languages_ 4 x1 none (fun now_languages_2 =>
  some (t0, now_languages_2))
set_option maxHeartbeats 4000000 in
set_option maxRecDepth 100000 in
theorem jw_X11_clearLanguage_26 {p : Program} {l : Launch} {e : Env} {s : State} {m : MethodId} {args : Array Value} {below : List Frame} {meth : Method} {c : Code} {A : Nat → Prop} {Q : State → Prop} {D : va_G} {cy : Nat → ClassId} (o : Nat) (d : Nat → Nat) (d_now : Nat → Nat) (mono : Value) (snapshotTaken_ : Int32) (inputLength_ : Int32) (now_letters_ : Int32) (now_languages_ : Nat → Option Nat) (x1 : Int32) (t0 : Int32) (out : Int32 × (Nat → Option Nat)) (X : Cx p m c cX11_clearLanguage 3 s args wsX11_clearLanguage RX11 A D cy (RO_X11_clearLanguage cy o d d_now mono snapshotTaken_ inputLength_ now_letters_)) (h : j_X11_clearLanguage_26 now_languages_ x1 t0 = some out) (K : ∀ (H : Heap) (locs : List Loc) (ls : Array Slot) (pc : Nat), decode cX11_clearLanguage pc = .ok (.ireturn, 1) → St A D s (RW_X11_clearLanguage cy o d d_now mono out.2) H locs → W p l e rm_X11_clearLanguage s m args below meth c H locs 0 0 Q (F0 m pc ls [.int out.1])) : ∀ (H : Heap) (locs : List Loc) (ls : Array Slot), St A D s (RW_X11_clearLanguage cy o d d_now mono now_languages_) H locs → lv_has ls 3 [(0, .ref o), (1, .int x1)] → W p l e rm_X11_clearLanguage s m args below meth c H locs 0 0 Q (F0 m 26 ls [.int t0]) := by
  intro H locs ls Z hl
  have hx := X.1.1
  have hb := X.1.2.1
  unfold j_X11_clearLanguage_26 at h
  refine lv_istore_n (lv' := [(2, .int t0), (0, .ref o), (1, .int x1)]) hx hb dX11_clearLanguage_26 rfl hl (by decide) rfl (fun ls hl => ?_)
  refine lv_aload_n hx hb dX11_clearLanguage_27 rfl (lv_at hl 1 rfl) ?_
  refine x_getO X Z 0 0 (v := .ref (d 0)) rfl rfl lk_X11_clearLanguage_X11_now dX11_clearLanguage_28 ?_
  refine x_getO X Z 1 3 (v := .ref (d_now 3)) rfl rfl lk_X11_clearLanguage_X5_languages dX11_clearLanguage_31 ?_
  refine lv_iload_n hx hb dX11_clearLanguage_34 rfl (lv_at hl 2 rfl) ?_
  refine lv_null hx hb dX11_clearLanguage_35 ?_
  obtain ⟨hin1, now_languages_2, hv3, h⟩ := st_b h
  refine x_rastN X Z 0 2 (RW_X11_clearLanguage cy o d d_now mono now_languages_2) rfl rfl hin1 hv3 rfl dX11_clearLanguage_36 (fun H locs Z => ?_)
  refine lv_iload_n hx hb dX11_clearLanguage_37 rfl (lv_at hl 0 rfl) ?_
  obtain rfl := Option.some.inj h
  exact K H locs ls _ dX11_clearLanguage_38 Z
def f_X11_clearLanguage (x1 : Int32) (now_languages_ : Nat → Option Nat) : Option (Int32 × (Nat → Option Nat)) :=
  (f_X11_isLanguage x1).bind (fun u4 =>
  if u4 = 0 then
  (some ((-1 : Int32), now_languages_))
  else
  (ldA now_languages_ 4 x1 (fun r7 =>
  nlA r7 (
  j_X11_clearLanguage_26 now_languages_ x1 (0 : Int32)) (
  j_X11_clearLanguage_26 now_languages_ x1 (1 : Int32)))))
set_option maxHeartbeats 4000000 in
set_option maxRecDepth 100000 in
theorem wt_X11_clearLanguage {p : Program} {l : Launch} {e : Env} {s : State} {m : MethodId} {args : Array Value} {below : List Frame} {meth : Method} {c : Code} {A : Nat → Prop} {Q : State → Prop} {D : va_G} {cy : Nat → ClassId} (o : Nat) (d : Nat → Nat) (d_now : Nat → Nat) (mono : Value) (snapshotTaken_ : Int32) (inputLength_ : Int32) (now_letters_ : Int32) (now_languages_ : Nat → Option Nat) (x1 : Int32) (out : Int32 × (Nat → Option Nat)) (X : Cx p m c cX11_clearLanguage 3 s args wsX11_clearLanguage RX11 A D cy (RO_X11_clearLanguage cy o d d_now mono snapshotTaken_ inputLength_ now_letters_)) (h : f_X11_clearLanguage x1 now_languages_ = some out) (K : ∀ (H : Heap) (locs : List Loc) (ls : Array Slot) (pc : Nat), decode cX11_clearLanguage pc = .ok (.ireturn, 1) → St A D s (RW_X11_clearLanguage cy o d d_now mono out.2) H locs → W p l e rm_X11_clearLanguage s m args below meth c H locs 0 0 Q (F0 m pc ls [.int out.1])) : ∀ (H : Heap) (locs : List Loc) (ls : Array Slot), St A D s (RW_X11_clearLanguage cy o d d_now mono now_languages_) H locs → lv_has ls 3 [(0, .ref o), (1, .int x1)] → W p l e rm_X11_clearLanguage s m args below meth c H locs 0 0 Q (F0 m 0 ls []) := by
  intro H locs ls Z hl
  have hx := X.1.1
  have hb := X.1.2.1
  unfold f_X11_clearLanguage at h
  refine lv_iload_n hx hb dX11_clearLanguage_0 rfl (lv_at hl 1 rfl) ?_
  obtain ⟨u4, hc5, h⟩ := ob_some h
  refine x_runSi (RW' := (RW_X11_clearLanguage cy o d d_now mono now_languages_)) (wr := [((d_now 3), aR cy 2 4 now_languages_)]) (isC := []) (isR := [0]) (isF := [0]) (rest := []) (As := [.int x1]) (n := 1) X Z (c_X11_isLanguage l D cy x1 u4 hc5) gX11_clearLanguage_X11_isLanguage rfl (by decide +kernel) ⟨Nat.le_of_ble_eq_true rfl, Nat.le_of_ble_eq_true rfl⟩ ⟨rfl, rfl⟩ ⟨Nat.le_of_ble_eq_true rfl, Nat.le_of_ble_eq_true rfl⟩ ⟨rfl, rfl, roN, rfl, rfl, by decide⟩ ⟨rfl, rfl⟩ rfl hl.1 rfl (Nat.le_of_ble_eq_true rfl) dX11_clearLanguage_1 (fun H locs Z => ?_)
  refine lv_if_ne (tgt := 9) hx hb dX11_clearLanguage_4 (by decide) (fun cnd => ?_) (fun cnd => ?_)
  · replace h := ifn h cnd
    refine lv_aload_n hx hb dX11_clearLanguage_9 rfl (lv_at hl 0 rfl) ?_
    refine x_getO X Z 0 0 (v := .ref (d 0)) rfl rfl lk_X11_clearLanguage_X11_now dX11_clearLanguage_10 ?_
    refine x_getO X Z 1 3 (v := .ref (d_now 3)) rfl rfl lk_X11_clearLanguage_X5_languages dX11_clearLanguage_13 ?_
    refine lv_iload_n hx hb dX11_clearLanguage_16 rfl (lv_at hl 1 rfl) ?_
    obtain ⟨hin6, r7, hv8, h⟩ := ld_b h
    refine x_raldq X Z 0 2 rfl rfl hin6 hv8 dX11_clearLanguage_17 (fun hr9 => ?_) (fun b10 hr9 => ?_)
    · replace h := nl_n h hr9
      refine lv_ifnonnullN hx hb dX11_clearLanguage_18 ?_
      refine lv_iconst (v := (0 : Int32)) hx hb dX11_clearLanguage_21 (by decide) ?_
      refine lv_goto (tgt := 26) hx hb dX11_clearLanguage_22 (by decide) ?_
      exact jw_X11_clearLanguage_26 o d d_now mono snapshotTaken_ inputLength_ now_letters_ now_languages_ x1 (0 : Int32) _ X h K H locs ls Z (lv_sub hl [0, 1] rfl)
    · replace h := nl_s h hr9
      refine lv_ifnonnull (tgt := 25) hx hb dX11_clearLanguage_18 (by decide) ?_
      refine lv_iconst (v := (1 : Int32)) hx hb dX11_clearLanguage_25 (by decide) ?_
      exact jw_X11_clearLanguage_26 o d d_now mono snapshotTaken_ inputLength_ now_letters_ now_languages_ x1 (1 : Int32) _ X h K H locs ls Z (lv_sub hl [0, 1] rfl)
  · replace h := ifp h cnd
    refine lv_iconst (v := (-1 : Int32)) hx hb dX11_clearLanguage_7 (by decide) ?_
    obtain rfl := Option.some.inj h
    exact K H locs ls _ dX11_clearLanguage_8 Z
theorem c_X11_clearLanguage (l : Launch) (D : va_G) (cy : Nat → ClassId) (o : Nat) (d : Nat → Nat) (d_now : Nat → Nat) (mono : Value) (snapshotTaken_ : Int32) (inputLength_ : Int32) (now_letters_ : Int32) (now_languages_ : Nat → Option Nat) (x1 : Int32) (out : Int32 × (Nat → Option Nat)) (h : f_X11_clearLanguage x1 now_languages_ = some out) : CtI l yX11_clearLanguage wsX11_clearLanguage rm_X11_clearLanguage D cy [.ref o, .int x1] (RW_X11_clearLanguage cy o d d_now mono now_languages_) (RO_X11_clearLanguage cy o d d_now mono snapshotTaken_ inputLength_ now_letters_) (RW_X11_clearLanguage cy o d d_now mono out.2) out.1 :=
  mk_i (ty := .int) (by decide) rfl rfl (Nat.le_of_ble_eq_true rfl) (fun p e s m args below meth c A Q X K H locs ls Z hl => wt_X11_clearLanguage o d d_now mono snapshotTaken_ inputLength_ now_letters_ now_languages_ x1 out X h K H locs ls Z hl)
/-! SubwordCounter form (I)I -/
abbrev rm_X11_form : Room := { frames := 1, cells := 0, slots := 0, locals := 20 }
def RW_X11_form (cy : Nat → ClassId) (o : Nat) (q_now_languages_L1 : Nat) (d : Nat → Nat) (d_now_languages_L1 : Nat → Nat) (d_now : Nat → Nat) (mono : Value)  : va_W := []
def RO_X11_form (cy : Nat → ClassId) (o : Nat) (q_now_languages_L1 : Nat) (d : Nat → Nat) (d_now_languages_L1 : Nat → Nat) (d_now : Nat → Nat) (mono : Value) (snapshotTaken_ : Int32) (inputLength_ : Int32) (now_languages_L1_form_ : Int32) (now_languages_L1_basics_ : Int32) (now_languages_L1_table_ : Int32) (now_letters_ : Int32) (now_languages_ : Nat → Option Nat) : va_W := [(o, ob 10 (oX11 d mono snapshotTaken_ inputLength_)), (q_now_languages_L1, ob 2 (oX2 d_now_languages_L1 now_languages_L1_form_ now_languages_L1_basics_ now_languages_L1_table_)), ((d 0), ob 5 (oX5 d_now now_letters_)), ((d_now 3), aR cy 2 4 now_languages_)]
theorem in_X11_form_X11 : ∀ w ∈ u_ws RX11 TX11 12, w ∈ wsX11_form := fun w h => (List.mem_cons_of_mem _ (List.mem_append_left _ (List.mem_append_left _ (List.mem_append_right _ h))))
theorem lk_X11_form_X11_now : Lk wsX11_form RX11 10 10 0 := ⟨RX11, TX11, 12, rfl, by decide, in_X11_form_X11, mem_at 1 rfl⟩
theorem in_X11_form_X5 : ∀ w ∈ u_ws RX5 TX5 4, w ∈ wsX11_form := fun w h => (List.mem_cons_of_mem _ (List.mem_append_left _ (List.mem_append_right _ h)))
theorem lk_X11_form_X5_languages : Lk wsX11_form RX11 232 5 3 := ⟨RX5, TX5, 4, rfl, by decide, in_X11_form_X5, mem_at 2 rfl⟩
theorem in_X11_form_X2 : ∀ w ∈ u_ws RX2 TX2 5, w ∈ wsX11_form := fun w h => (List.mem_cons_of_mem _ (List.mem_append_right _ h))
theorem lk_X11_form_X2_form : Lk wsX11_form RX11 253 2 0 := ⟨RX2, TX2, 5, rfl, by decide, in_X11_form_X2, mem_at 3 rfl⟩
def f_X11_form (x1 : Int32) (q_now_languages_L1 : Nat) (now_languages_L1_form_ : Int32) (now_languages_ : Nat → Option Nat) : Option (Int32) :=
  (f_X11_isLanguage x1).bind (fun u1 =>
  if u1 = 0 then
  (some (-1 : Int32))
  else
  (ldA now_languages_ 4 x1 (fun r4 =>
  nlA r4 (
  some (-5 : Int32)) (
  asR r4 q_now_languages_L1 (
  some now_languages_L1_form_)))))
set_option maxHeartbeats 4000000 in
set_option maxRecDepth 100000 in
theorem wt_X11_form {p : Program} {l : Launch} {e : Env} {s : State} {m : MethodId} {args : Array Value} {below : List Frame} {meth : Method} {c : Code} {A : Nat → Prop} {Q : State → Prop} {D : va_G} {cy : Nat → ClassId} (o : Nat) (q_now_languages_L1 : Nat) (d : Nat → Nat) (d_now_languages_L1 : Nat → Nat) (d_now : Nat → Nat) (mono : Value) (snapshotTaken_ : Int32) (inputLength_ : Int32) (now_languages_L1_form_ : Int32) (now_languages_L1_basics_ : Int32) (now_languages_L1_table_ : Int32) (now_letters_ : Int32) (now_languages_ : Nat → Option Nat)  (x1 : Int32) (out : Int32) (X : Cx p m c cX11_form 3 s args wsX11_form RX11 A D cy (RO_X11_form cy o q_now_languages_L1 d d_now_languages_L1 d_now mono snapshotTaken_ inputLength_ now_languages_L1_form_ now_languages_L1_basics_ now_languages_L1_table_ now_letters_ now_languages_)) (h : f_X11_form x1 q_now_languages_L1 now_languages_L1_form_ now_languages_ = some out) (K : ∀ (H : Heap) (locs : List Loc) (ls : Array Slot) (pc : Nat), decode cX11_form pc = .ok (.ireturn, 1) → St A D s (RW_X11_form cy o q_now_languages_L1 d d_now_languages_L1 d_now mono) H locs → W p l e rm_X11_form s m args below meth c H locs 0 0 Q (F0 m pc ls [.int out])) : ∀ (H : Heap) (locs : List Loc) (ls : Array Slot), St A D s (RW_X11_form cy o q_now_languages_L1 d d_now_languages_L1 d_now mono) H locs → lv_has ls 3 [(0, .ref o), (1, .int x1)] → W p l e rm_X11_form s m args below meth c H locs 0 0 Q (F0 m 0 ls []) := by
  intro H locs ls Z hl
  have hx := X.1.1
  have hb := X.1.2.1
  unfold f_X11_form at h
  refine lv_iload_n hx hb dX11_form_0 rfl (lv_at hl 1 rfl) ?_
  obtain ⟨u1, hc2, h⟩ := ob_some h
  refine x_runSi (RW' := (RW_X11_form cy o q_now_languages_L1 d d_now_languages_L1 d_now mono)) (wr := []) (isC := []) (isR := []) (isF := []) (rest := []) (As := [.int x1]) (n := 1) X Z (c_X11_isLanguage l D cy x1 u1 hc2) gX11_form_X11_isLanguage rfl (by decide +kernel) ⟨Nat.le_of_ble_eq_true rfl, Nat.le_of_ble_eq_true rfl⟩ ⟨rfl, rfl⟩ ⟨Nat.le_of_ble_eq_true rfl, Nat.le_of_ble_eq_true rfl⟩ ⟨rfl, rfl, roN, rfl, rfl, by decide⟩ ⟨rfl, rfl⟩ rfl hl.1 rfl (Nat.le_of_ble_eq_true rfl) dX11_form_1 (fun H locs Z => ?_)
  refine lv_if_ne (tgt := 9) hx hb dX11_form_4 (by decide) (fun cnd => ?_) (fun cnd => ?_)
  · replace h := ifn h cnd
    refine lv_aload_n hx hb dX11_form_9 rfl (lv_at hl 0 rfl) ?_
    refine x_getO X Z 0 0 (v := .ref (d 0)) rfl rfl lk_X11_form_X11_now dX11_form_10 ?_
    refine x_getO X Z 2 3 (v := .ref (d_now 3)) rfl rfl lk_X11_form_X5_languages dX11_form_13 ?_
    refine lv_iload_n hx hb dX11_form_16 rfl (lv_at hl 1 rfl) ?_
    obtain ⟨hin3, r4, hv5, h⟩ := ld_b h
    refine x_raldqO X Z 3 2 rfl rfl hin3 hv5 dX11_form_17 (fun hr6 => ?_) (fun b7 hr6 => ?_)
    · replace h := nl_n h hr6
      refine lv_astore_nN (lv' := [(2, .null), (0, .ref o), (1, .int x1)]) hx hb dX11_form_18 rfl hl (by decide) rfl (fun ls hl => ?_)
      refine lv_aload_nN hx hb dX11_form_19 rfl (lv_at hl 0 rfl) ?_
      refine lv_ifnonnullN hx hb dX11_form_20 ?_
      refine lv_bipush (v := (-5 : Int32)) hx hb dX11_form_23 (by decide) ?_
      refine lv_goto (tgt := 32) hx hb dX11_form_25 (by decide) ?_
      obtain rfl := Option.some.inj h
      exact K H locs ls _ dX11_form_32 Z
    · replace h := nl_s h hr6
      obtain ⟨ha8, h⟩ := as_b h
      obtain rfl : q_now_languages_L1 = b7 := Option.some.inj (ha8.symm.trans hr6)
      refine lv_astore_n (lv' := [(2, .ref q_now_languages_L1), (0, .ref o), (1, .int x1)]) hx hb dX11_form_18 rfl hl (by decide) rfl (fun ls hl => ?_)
      refine lv_aload_n hx hb dX11_form_19 rfl (lv_at hl 0 rfl) ?_
      refine lv_ifnonnull (tgt := 28) hx hb dX11_form_20 (by decide) ?_
      refine lv_aload_n hx hb dX11_form_28 rfl (lv_at hl 0 rfl) ?_
      refine x_getO X Z 1 0 (v := .int now_languages_L1_form_) rfl rfl lk_X11_form_X2_form dX11_form_29 ?_
      obtain rfl := Option.some.inj h
      exact K H locs ls _ dX11_form_32 Z
  · replace h := ifp h cnd
    refine lv_iconst (v := (-1 : Int32)) hx hb dX11_form_7 (by decide) ?_
    obtain rfl := Option.some.inj h
    exact K H locs ls _ dX11_form_8 Z
theorem c_X11_form (l : Launch) (D : va_G) (cy : Nat → ClassId) (o : Nat) (q_now_languages_L1 : Nat) (d : Nat → Nat) (d_now_languages_L1 : Nat → Nat) (d_now : Nat → Nat) (mono : Value) (snapshotTaken_ : Int32) (inputLength_ : Int32) (now_languages_L1_form_ : Int32) (now_languages_L1_basics_ : Int32) (now_languages_L1_table_ : Int32) (now_letters_ : Int32) (now_languages_ : Nat → Option Nat)  (x1 : Int32) (out : Int32) (h : f_X11_form x1 q_now_languages_L1 now_languages_L1_form_ now_languages_ = some out) : CtI l yX11_form wsX11_form rm_X11_form D cy [.ref o, .int x1] (RW_X11_form cy o q_now_languages_L1 d d_now_languages_L1 d_now mono) (RO_X11_form cy o q_now_languages_L1 d d_now_languages_L1 d_now mono snapshotTaken_ inputLength_ now_languages_L1_form_ now_languages_L1_basics_ now_languages_L1_table_ now_letters_ now_languages_) (RW_X11_form cy o q_now_languages_L1 d d_now_languages_L1 d_now mono) out :=
  mk_i (ty := .int) (by decide) rfl rfl (Nat.le_of_ble_eq_true rfl) (fun p e s m args below meth c A Q X K H locs ls Z hl => wt_X11_form o q_now_languages_L1 d d_now_languages_L1 d_now mono snapshotTaken_ inputLength_ now_languages_L1_form_ now_languages_L1_basics_ now_languages_L1_table_ now_letters_ now_languages_ x1 out X h K H locs ls Z hl)
/-! SubwordCounter$Language accepts (I)Z -/
abbrev rm_X2_accepts : Room := { frames := 0, cells := 0, slots := 0, locals := 0 }
def RW_X2_accepts (cy : Nat → ClassId) (o : Nat) (d : Nat → Nat)  : va_W := []
def RO_X2_accepts (cy : Nat → ClassId) (o : Nat) (d : Nat → Nat) (form_ : Int32) (basics_ : Int32) (table_ : Int32) : va_W := [(o, ob 2 (oX2 d form_ basics_ table_))]
theorem in_X2_accepts_X2 : ∀ w ∈ u_ws RX2 TX2 5, w ∈ wsX2_accepts := fun w h => (List.mem_cons_of_mem _ (List.mem_append_right _ h))
theorem lk_X2_accepts_X2_table : Lk wsX2_accepts RX2 18 2 2 := ⟨RX2, TX2, 5, rfl, by decide, in_X2_accepts_X2, mem_at 1 rfl⟩
def f_X2_accepts (x1 : Int32) (table_ : Int32) : Option (Int32) :=
  if ((ushI table_ x1) &&& (1 : Int32)) = (1 : Int32) then
  (some (1 : Int32))
  else
  (some (0 : Int32))
set_option maxHeartbeats 4000000 in
set_option maxRecDepth 100000 in
theorem wt_X2_accepts {p : Program} {l : Launch} {e : Env} {s : State} {m : MethodId} {args : Array Value} {below : List Frame} {meth : Method} {c : Code} {A : Nat → Prop} {Q : State → Prop} {D : va_G} {cy : Nat → ClassId} (o : Nat) (d : Nat → Nat) (form_ : Int32) (basics_ : Int32) (table_ : Int32)  (x1 : Int32) (out : Int32) (X : Cx p m c cX2_accepts 2 s args wsX2_accepts RX2 A D cy (RO_X2_accepts cy o d form_ basics_ table_)) (h : f_X2_accepts x1 table_ = some out) (K : ∀ (H : Heap) (locs : List Loc) (ls : Array Slot) (pc : Nat), decode cX2_accepts pc = .ok (.ireturn, 1) → (out = 0 ∨ out = 1) → St A D s (RW_X2_accepts cy o d) H locs → W p l e rm_X2_accepts s m args below meth c H locs 0 0 Q (F0 m pc ls [.int out])) : ∀ (H : Heap) (locs : List Loc) (ls : Array Slot), St A D s (RW_X2_accepts cy o d) H locs → lv_has ls 2 [(0, .ref o), (1, .int x1)] → W p l e rm_X2_accepts s m args below meth c H locs 0 0 Q (F0 m 0 ls []) := by
  intro H locs ls Z hl
  have hx := X.1.1
  have hb := X.1.2.1
  unfold f_X2_accepts at h
  refine lv_aload_n hx hb dX2_accepts_0 rfl (lv_at hl 0 rfl) ?_
  refine x_getO X Z 0 2 (v := .int table_) rfl rfl lk_X2_accepts_X2_table dX2_accepts_1 ?_
  refine lv_iload_n hx hb dX2_accepts_4 rfl (lv_at hl 1 rfl) ?_
  refine lv_iushr (v := (ushI table_ x1)) hx hb dX2_accepts_5 rfl ?_
  refine lv_iconst (v := (1 : Int32)) hx hb dX2_accepts_6 (by decide) ?_
  refine lv_iand hx hb dX2_accepts_7 ?_
  refine lv_iconst (v := (1 : Int32)) hx hb dX2_accepts_8 (by decide) ?_
  refine lv_icmp_ne (tgt := 16) hx hb dX2_accepts_9 (by decide) (fun cnd => ?_) (fun cnd => ?_)
  · replace h := ifn h cnd
    refine lv_iconst (v := (0 : Int32)) hx hb dX2_accepts_16 (by decide) ?_
    obtain rfl := Option.some.inj h
    exact K H locs ls _ dX2_accepts_17 (Or.inl rfl) Z
  · replace h := ifp h cnd
    refine lv_iconst (v := (1 : Int32)) hx hb dX2_accepts_12 (by decide) ?_
    refine lv_goto (tgt := 17) hx hb dX2_accepts_13 (by decide) ?_
    obtain rfl := Option.some.inj h
    exact K H locs ls _ dX2_accepts_17 (Or.inr rfl) Z
theorem c_X2_accepts (l : Launch) (D : va_G) (cy : Nat → ClassId) (o : Nat) (d : Nat → Nat) (form_ : Int32) (basics_ : Int32) (table_ : Int32)  (x1 : Int32) (out : Int32) (h : f_X2_accepts x1 table_ = some out) : CtI l yX2_accepts wsX2_accepts rm_X2_accepts D cy [.ref o, .int x1] (RW_X2_accepts cy o d) (RO_X2_accepts cy o d form_ basics_ table_) (RW_X2_accepts cy o d) out :=
  mk_z (by decide) rfl (Nat.le_of_ble_eq_true rfl) (fun p e s m args below meth c A Q X K H locs ls Z hl => wt_X2_accepts o d form_ basics_ table_ x1 out X h K H locs ls Z hl)
/-! SubwordCounter$Language holds (LSubwordCounter$Word;)Z -/
abbrev rm_X2_holds : Room := { frames := 4, cells := 0, slots := 0, locals := 91 }
def RW_X2_holds (cy : Nat → ClassId) (o : Nat) (q_p1 : Nat) (n_tests : Nat) (n_values : Nat) (d : Nat → Nat) (d_p1 : Nat → Nat) (PT : va_W)  : va_W := []
def RO_X2_holds (cy : Nat → ClassId) (o : Nat) (q_p1 : Nat) (n_tests : Nat) (n_values : Nat) (d : Nat → Nat) (d_p1 : Nat → Nat) (PT : va_W) (form_ : Int32) (basics_ : Int32) (table_ : Int32) (p1_size_ : Int32) (tests_ : Nat → Option Nat) (values_ : Nat → Int32) (p1_letters_ : Nat → Int32) : va_W := [(o, ob 2 (oX2 d form_ basics_ table_)), (q_p1, ob 8 (oX9 d_p1 p1_size_)), ((d 3), aR cy 4 n_tests tests_), ((d 4), aI cy n_values values_), ((d_p1 0), aI cy 12 p1_letters_)] ++ PT
theorem in_X2_holds_X2 : ∀ w ∈ u_ws RX2 TX2 5, w ∈ wsX2_holds := fun w h => (List.mem_cons_of_mem _ (List.mem_append_left _ (List.mem_append_left _ (List.mem_append_right _ h))))
theorem lk_X2_holds_X2_basics : Lk wsX2_holds RX2 15 2 1 := ⟨RX2, TX2, 5, rfl, by decide, in_X2_holds_X2, mem_at 1 rfl⟩
theorem lk_X2_holds_X2_tests : Lk wsX2_holds RX2 21 2 3 := ⟨RX2, TX2, 5, rfl, by decide, in_X2_holds_X2, mem_at 2 rfl⟩
theorem lk_X2_holds_X2_values : Lk wsX2_holds RX2 25 2 4 := ⟨RX2, TX2, 5, rfl, by decide, in_X2_holds_X2, mem_at 3 rfl⟩
def b_X2_holds_4 (n_tests : Nat) (n_values : Nat) (tq : Nat → Option TV) (basics_ : Int32) (p1_size_ : Int32) (tests_ : Nat → Option Nat) (values_ : Nat → Int32) (p1_letters_ : Nat → Int32)  (x2 : Int32) (x3 : Int32) : Option ((Int32 × Int32) ⊕ (Int32)) :=
  if basics_ ≤ x3 then
  (some (.inr x2))
  else
  (ldA tests_ n_tests x3 (fun r2 =>
  tsA tq r2 (fun a4 tv5 =>
  (f_X8_valueFor tv5.2.2.2.2.2.1 tv5.1 tv5.2.1 tv5.2.2.2.1 p1_size_ tv5.2.2.2.2.2.2 p1_letters_).bind (fun u8 =>
  ldA values_ n_values x3 (fun v11 =>
  if u8 = v11 then
  (some (.inl ((x2 ||| ((1 : Int32) <<< (x3 &&& 31))), (x3 + (1 : Int32)))))
  else
  (some (.inl (x2, (x3 + (1 : Int32))))))))))
set_option maxHeartbeats 4000000 in
set_option maxRecDepth 100000 in
theorem wb_X2_holds_4 {p : Program} {l : Launch} {e : Env} {s : State} {m : MethodId} {args : Array Value} {below : List Frame} {meth : Method} {c : Code} {A : Nat → Prop} {Q : State → Prop} {D : va_G} {cy : Nat → ClassId} (o : Nat) (q_p1 : Nat) (n_tests : Nat) (n_values : Nat) (d : Nat → Nat) (d_p1 : Nat → Nat) (PT : va_W) (tq : Nat → Option TV) (form_ : Int32) (basics_ : Int32) (table_ : Int32) (p1_size_ : Int32) (tests_ : Nat → Option Nat) (values_ : Nat → Int32) (p1_letters_ : Nat → Int32)   (x2 : Int32) (x3 : Int32) (o1 : (Int32 × Int32) ⊕ (Int32)) (hT : TP cy PT tq) (X : Cx p m c cX2_holds 4 s args wsX2_holds RX2 A D cy (RO_X2_holds cy o q_p1 n_tests n_values d d_p1 PT form_ basics_ table_ p1_size_ tests_ values_ p1_letters_)) (h : b_X2_holds_4 n_tests n_values tq basics_ p1_size_ tests_ values_ p1_letters_ x2 x3 = some o1) (K : Sum.elim (fun v : Int32 × Int32 => ∀ (H : Heap) (locs : List Loc) (ls : Array Slot), St A D s (RW_X2_holds cy o q_p1 n_tests n_values d d_p1 PT) H locs → lv_has ls 4 [(0, .ref o), (1, .ref q_p1), (2, .int v.1), (3, .int v.2)] → W p l e rm_X2_holds s m args below meth c H locs 0 0 Q (F0 m 4 ls [])) (fun v : Int32 => ∀ (H : Heap) (locs : List Loc) (ls : Array Slot), St A D s (RW_X2_holds cy o q_p1 n_tests n_values d d_p1 PT) H locs → lv_has ls 4 [(0, .ref o), (2, .int v)] → W p l e rm_X2_holds s m args below meth c H locs 0 0 Q (F0 m 43 ls [])) o1) : ∀ (H : Heap) (locs : List Loc) (ls : Array Slot), St A D s (RW_X2_holds cy o q_p1 n_tests n_values d d_p1 PT) H locs → lv_has ls 4 [(0, .ref o), (1, .ref q_p1), (2, .int x2), (3, .int x3)] → W p l e rm_X2_holds s m args below meth c H locs 0 0 Q (F0 m 4 ls []) := by
  intro H locs ls Z hl
  have hx := X.1.1
  have hb := X.1.2.1
  unfold b_X2_holds_4 at h
  refine lv_iload_n hx hb dX2_holds_4 rfl (lv_at hl 3 rfl) ?_
  refine lv_aload_n hx hb dX2_holds_5 rfl (lv_at hl 0 rfl) ?_
  refine x_getO X Z 0 1 (v := .int basics_) rfl rfl lk_X2_holds_X2_basics dX2_holds_6 ?_
  refine lv_icmp_ge (tgt := 43) hx hb dX2_holds_9 (by decide) (fun cnd => ?_) (fun cnd => ?_)
  · replace h := ifp h cnd
    obtain rfl := Option.some.inj h
    exact (sk_r K) H locs ls Z (lv_sub hl [0, 2] rfl)
  · replace h := ifn h cnd
    refine lv_aload_n hx hb dX2_holds_12 rfl (lv_at hl 0 rfl) ?_
    refine x_getO X Z 0 3 (v := .ref (d 3)) rfl rfl lk_X2_holds_X2_tests dX2_holds_13 ?_
    refine lv_iload_n hx hb dX2_holds_16 rfl (lv_at hl 3 rfl) ?_
    obtain ⟨hin1, r2, hv3, h⟩ := ld_b h
    obtain ⟨a4, tv5, hr6, ht7, h⟩ := ts_b h
    refine x_raldO X Z 2 4 rfl rfl hin1 hv3 hr6 dX2_holds_17 ?_
    refine lv_aload_n hx hb dX2_holds_18 rfl (lv_at hl 1 rfl) ?_
    obtain ⟨u8, hc9, h⟩ := ob_some h
    refine x_runVi (RW' := (RW_X2_holds cy o q_p1 n_tests n_values d d_p1 PT)) (wr := []) (isC := []) (isR := []) (isF := []) (rest := []) (As := [.ref q_p1]) (n := 1) X Z (c_X8_valueFor l D cy a4 q_p1 tv5.2.2.2.2.2.1 (fun _ => tv5.2.2.2.2.1) d_p1 tv5.1 tv5.2.1 tv5.2.2.1 tv5.2.2.2.1 p1_size_ tv5.2.2.2.2.2.2 p1_letters_ u8 hc9) gX2_holds_X8_valueFor rfl (by decide +kernel) ⟨Nat.le_of_ble_eq_true rfl, Nat.le_of_ble_eq_true rfl⟩ ⟨rfl, rfl⟩ ⟨Nat.le_of_ble_eq_true rfl, Nat.le_of_ble_eq_true rfl⟩ (x_rvM X Z (List.mem_append_right _ (hT a4 tv5 ht7).1) rfl) ⟨rfl, rfl, (roC (Or.inr (List.mem_append_right _ (hT a4 tv5 ht7).1)) (roC (Or.inr (mem_at 1 rfl)) (roC (Or.inr (List.mem_append_right _ (hT a4 tv5 ht7).2)) (roC (Or.inr (mem_at 4 rfl)) roN)))), rfl, rfl, by decide⟩ ⟨rfl, rfl⟩ rfl hl.1 rfl (Nat.le_of_ble_eq_true rfl) dX2_holds_19 (fun H locs Z => ?_)
    refine lv_aload_n hx hb dX2_holds_22 rfl (lv_at hl 0 rfl) ?_
    refine x_getO X Z 0 4 (v := .ref (d 4)) rfl rfl lk_X2_holds_X2_values dX2_holds_23 ?_
    refine lv_iload_n hx hb dX2_holds_26 rfl (lv_at hl 3 rfl) ?_
    obtain ⟨hin10, v11, hv12, h⟩ := ld_b h
    refine x_ialdO X Z 3 rfl hin10 hv12 dX2_holds_27 ?_
    refine lv_icmp_ne (tgt := 37) hx hb dX2_holds_28 (by decide) (fun cnd => ?_) (fun cnd => ?_)
    · replace h := ifn h cnd
      refine lv_iinc (v := (x3 + (1 : Int32))) (lv' := [(3, .int (x3 + (1 : Int32))), (0, .ref o), (1, .ref q_p1), (2, .int x2)]) hx hb dX2_holds_37 hl (k := 3) rfl rfl (by decide) rfl (fun ls hl => ?_)
      refine lv_goto (tgt := 4) hx hb dX2_holds_40 (by decide) ?_
      obtain rfl := Option.some.inj h
      exact sk_l K H locs ls Z (lv_sub hl [1, 2, 3, 0] rfl)
    · replace h := ifp h cnd
      refine lv_iload_n hx hb dX2_holds_31 rfl (lv_at hl 2 rfl) ?_
      refine lv_iconst (v := (1 : Int32)) hx hb dX2_holds_32 (by decide) ?_
      refine lv_iload_n hx hb dX2_holds_33 rfl (lv_at hl 3 rfl) ?_
      refine lv_ishl hx hb dX2_holds_34 ?_
      refine lv_ior hx hb dX2_holds_35 ?_
      refine lv_istore_n (lv' := [(2, .int (x2 ||| ((1 : Int32) <<< (x3 &&& 31)))), (0, .ref o), (1, .ref q_p1), (3, .int x3)]) hx hb dX2_holds_36 rfl hl (by decide) rfl (fun ls hl => ?_)
      refine lv_iinc (v := (x3 + (1 : Int32))) (lv' := [(3, .int (x3 + (1 : Int32))), (2, .int (x2 ||| ((1 : Int32) <<< (x3 &&& 31)))), (0, .ref o), (1, .ref q_p1)]) hx hb dX2_holds_37 hl (k := 3) rfl rfl (by decide) rfl (fun ls hl => ?_)
      refine lv_goto (tgt := 4) hx hb dX2_holds_40 (by decide) ?_
      obtain rfl := Option.some.inj h
      exact sk_l K H locs ls Z (lv_sub hl [2, 3, 1, 0] rfl)
set_option maxHeartbeats 4000000 in
set_option maxRecDepth 100000 in
theorem wl_X2_holds_4 {p : Program} {l : Launch} {e : Env} {s : State} {m : MethodId} {args : Array Value} {below : List Frame} {meth : Method} {c : Code} {A : Nat → Prop} {Q : State → Prop} {D : va_G} {cy : Nat → ClassId} (o : Nat) (q_p1 : Nat) (n_tests : Nat) (n_values : Nat) (d : Nat → Nat) (d_p1 : Nat → Nat) (PT : va_W) (tq : Nat → Option TV) (form_ : Int32) (basics_ : Int32) (table_ : Int32) (p1_size_ : Int32) (tests_ : Nat → Option Nat) (values_ : Nat → Int32) (p1_letters_ : Nat → Int32)  (n : Nat) (v : Int32 × Int32) (x : Int32) (hT : TP cy PT tq) (X : Cx p m c cX2_holds 4 s args wsX2_holds RX2 A D cy (RO_X2_holds cy o q_p1 n_tests n_values d d_p1 PT form_ basics_ table_ p1_size_ tests_ values_ p1_letters_)) (h : loopN (fun v => b_X2_holds_4 n_tests n_values tq basics_ p1_size_ tests_ values_ p1_letters_ v.1 v.2) n v = some x) (K : ∀ (H : Heap) (locs : List Loc) (ls : Array Slot), St A D s (RW_X2_holds cy o q_p1 n_tests n_values d d_p1 PT) H locs → lv_has ls 4 [(0, .ref o), (2, .int x)] → W p l e rm_X2_holds s m args below meth c H locs 0 0 Q (F0 m 43 ls [])) : ∀ (H : Heap) (locs : List Loc) (ls : Array Slot), St A D s (RW_X2_holds cy o q_p1 n_tests n_values d d_p1 PT) H locs → lv_has ls 4 [(0, .ref o), (1, .ref q_p1), (2, .int v.1), (3, .int v.2)] → W p l e rm_X2_holds s m args below meth c H locs 0 0 Q (F0 m 4 ls []) :=
  loop_gen (B := (fun v => b_X2_holds_4 n_tests n_values tq basics_ p1_size_ tests_ values_ p1_letters_ v.1 v.2)) (Head := fun v : Int32 × Int32 => ∀ (H : Heap) (locs : List Loc) (ls : Array Slot), St A D s (RW_X2_holds cy o q_p1 n_tests n_values d d_p1 PT) H locs → lv_has ls 4 [(0, .ref o), (1, .ref q_p1), (2, .int v.1), (3, .int v.2)] → W p l e rm_X2_holds s m args below meth c H locs 0 0 Q (F0 m 4 ls [])) (Exit := fun v : Int32 => ∀ (H : Heap) (locs : List Loc) (ls : Array Slot), St A D s (RW_X2_holds cy o q_p1 n_tests n_values d d_p1 PT) H locs → lv_has ls 4 [(0, .ref o), (2, .int v)] → W p l e rm_X2_holds s m args below meth c H locs 0 0 Q (F0 m 43 ls [])) (fun v o9 hb1 K1 => wb_X2_holds_4 o q_p1 n_tests n_values d d_p1 PT tq form_ basics_ table_ p1_size_ tests_ values_ p1_letters_ v.1 v.2 o9 hT X hb1 K1) n v x h K
def f_X2_holds (n_tests : Nat) (n_values : Nat) (tq : Nat → Option TV) (basics_ : Int32) (table_ : Int32) (p1_size_ : Int32) (tests_ : Nat → Option Nat) (values_ : Nat → Int32) (p1_letters_ : Nat → Int32) : Option (Int32) :=
  (loopN (fun v => b_X2_holds_4 n_tests n_values tq basics_ p1_size_ tests_ values_ p1_letters_ v.1 v.2) FU ((0 : Int32), (0 : Int32))).bind (fun u13 =>
  (f_X2_accepts u13 table_).bind (fun u15 =>
  bitZ u15 (some u15)))
set_option maxHeartbeats 4000000 in
set_option maxRecDepth 100000 in
theorem wt_X2_holds {p : Program} {l : Launch} {e : Env} {s : State} {m : MethodId} {args : Array Value} {below : List Frame} {meth : Method} {c : Code} {A : Nat → Prop} {Q : State → Prop} {D : va_G} {cy : Nat → ClassId} (o : Nat) (q_p1 : Nat) (n_tests : Nat) (n_values : Nat) (d : Nat → Nat) (d_p1 : Nat → Nat) (PT : va_W) (tq : Nat → Option TV) (form_ : Int32) (basics_ : Int32) (table_ : Int32) (p1_size_ : Int32) (tests_ : Nat → Option Nat) (values_ : Nat → Int32) (p1_letters_ : Nat → Int32)  (out : Int32) (hT : TP cy PT tq) (X : Cx p m c cX2_holds 4 s args wsX2_holds RX2 A D cy (RO_X2_holds cy o q_p1 n_tests n_values d d_p1 PT form_ basics_ table_ p1_size_ tests_ values_ p1_letters_)) (h : f_X2_holds n_tests n_values tq basics_ table_ p1_size_ tests_ values_ p1_letters_ = some out) (K : ∀ (H : Heap) (locs : List Loc) (ls : Array Slot) (pc : Nat), decode cX2_holds pc = .ok (.ireturn, 1) → (out = 0 ∨ out = 1) → St A D s (RW_X2_holds cy o q_p1 n_tests n_values d d_p1 PT) H locs → W p l e rm_X2_holds s m args below meth c H locs 0 0 Q (F0 m pc ls [.int out])) : ∀ (H : Heap) (locs : List Loc) (ls : Array Slot), St A D s (RW_X2_holds cy o q_p1 n_tests n_values d d_p1 PT) H locs → lv_has ls 4 [(0, .ref o), (1, .ref q_p1)] → W p l e rm_X2_holds s m args below meth c H locs 0 0 Q (F0 m 0 ls []) := by
  intro H locs ls Z hl
  have hx := X.1.1
  have hb := X.1.2.1
  unfold f_X2_holds at h
  refine lv_iconst (v := (0 : Int32)) hx hb dX2_holds_0 (by decide) ?_
  refine lv_istore_n (lv' := [(2, .int (0 : Int32)), (0, .ref o), (1, .ref q_p1)]) hx hb dX2_holds_1 rfl hl (by decide) rfl (fun ls hl => ?_)
  refine lv_iconst (v := (0 : Int32)) hx hb dX2_holds_2 (by decide) ?_
  refine lv_istore_n (lv' := [(3, .int (0 : Int32)), (2, .int (0 : Int32)), (0, .ref o), (1, .ref q_p1)]) hx hb dX2_holds_3 rfl hl (by decide) rfl (fun ls hl => ?_)
  obtain ⟨u13, hL14, h⟩ := ob_some h
  refine wl_X2_holds_4 o q_p1 n_tests n_values d d_p1 PT tq form_ basics_ table_ p1_size_ tests_ values_ p1_letters_ FU ((0 : Int32), (0 : Int32)) u13 hT X hL14 (fun H locs ls Z hl => ?_) H locs ls Z (lv_sub hl [2, 3, 1, 0] rfl)
  refine lv_aload_n hx hb dX2_holds_43 rfl (lv_at hl 0 rfl) ?_
  refine lv_iload_n hx hb dX2_holds_44 rfl (lv_at hl 1 rfl) ?_
  obtain ⟨u15, hc16, h⟩ := ob_some h
  refine x_runVi (RW' := (RW_X2_holds cy o q_p1 n_tests n_values d d_p1 PT)) (wr := []) (isC := []) (isR := []) (isF := []) (rest := []) (As := [.int u13]) (n := 1) X Z (c_X2_accepts l D cy o d form_ basics_ table_ u13 u15 hc16) gX2_holds_X2_accepts rfl (by decide +kernel) ⟨Nat.le_of_ble_eq_true rfl, Nat.le_of_ble_eq_true rfl⟩ ⟨rfl, rfl⟩ ⟨Nat.le_of_ble_eq_true rfl, Nat.le_of_ble_eq_true rfl⟩ (x_rvO X Z 0 rfl rfl) ⟨rfl, rfl, (roC (Or.inr (mem_at 0 rfl)) roN), rfl, rfl, by decide⟩ ⟨rfl, rfl⟩ rfl hl.1 rfl (Nat.le_of_ble_eq_true rfl) dX2_holds_45 (fun H locs Z => ?_)
  obtain ⟨hz17, h⟩ := bz_b h
  obtain rfl := Option.some.inj h
  exact K H locs ls _ dX2_holds_48 hz17 Z
theorem c_X2_holds (l : Launch) (D : va_G) (cy : Nat → ClassId) (o : Nat) (q_p1 : Nat) (n_tests : Nat) (n_values : Nat) (d : Nat → Nat) (d_p1 : Nat → Nat) (PT : va_W) (tq : Nat → Option TV) (form_ : Int32) (basics_ : Int32) (table_ : Int32) (p1_size_ : Int32) (tests_ : Nat → Option Nat) (values_ : Nat → Int32) (p1_letters_ : Nat → Int32)  (out : Int32) (hT : TP cy PT tq) (h : f_X2_holds n_tests n_values tq basics_ table_ p1_size_ tests_ values_ p1_letters_ = some out) : CtI l yX2_holds wsX2_holds rm_X2_holds D cy [.ref o, .ref q_p1] (RW_X2_holds cy o q_p1 n_tests n_values d d_p1 PT) (RO_X2_holds cy o q_p1 n_tests n_values d d_p1 PT form_ basics_ table_ p1_size_ tests_ values_ p1_letters_) (RW_X2_holds cy o q_p1 n_tests n_values d d_p1 PT) out :=
  mk_z (by decide) rfl (Nat.le_of_ble_eq_true rfl) (fun p e s m args below meth c A Q X K H locs ls Z hl => wt_X2_holds o q_p1 n_tests n_values d d_p1 PT tq form_ basics_ table_ p1_size_ tests_ values_ p1_letters_ out hT X h K H locs ls Z hl)
/-! SubwordCounter contains (II)I -/
abbrev rm_X11_contains : Room := { frames := 5, cells := 0, slots := 0, locals := 114 }
def RW_X11_contains (cy : Nat → ClassId) (o : Nat) (q_now_languages_L1 : Nat) (q_now_words_L2 : Nat) (n_now_languages_L1_tests : Nat) (n_now_languages_L1_values : Nat) (d : Nat → Nat) (d_now_languages_L1 : Nat → Nat) (d_now_words_L2 : Nat → Nat) (d_now : Nat → Nat) (mono : Value) (PT : va_W)  : va_W := []
def RO_X11_contains (cy : Nat → ClassId) (o : Nat) (q_now_languages_L1 : Nat) (q_now_words_L2 : Nat) (n_now_languages_L1_tests : Nat) (n_now_languages_L1_values : Nat) (d : Nat → Nat) (d_now_languages_L1 : Nat → Nat) (d_now_words_L2 : Nat → Nat) (d_now : Nat → Nat) (mono : Value) (PT : va_W) (snapshotTaken_ : Int32) (inputLength_ : Int32) (now_languages_L1_form_ : Int32) (now_languages_L1_basics_ : Int32) (now_languages_L1_table_ : Int32) (now_words_L2_size_ : Int32) (now_letters_ : Int32) (now_languages_L1_tests_ : Nat → Option Nat) (now_languages_L1_values_ : Nat → Int32) (now_words_L2_letters_ : Nat → Int32) (now_words_ : Nat → Option Nat) (now_languages_ : Nat → Option Nat) : va_W := [(o, ob 10 (oX11 d mono snapshotTaken_ inputLength_)), (q_now_languages_L1, ob 2 (oX2 d_now_languages_L1 now_languages_L1_form_ now_languages_L1_basics_ now_languages_L1_table_)), (q_now_words_L2, ob 8 (oX9 d_now_words_L2 now_words_L2_size_)), ((d 0), ob 5 (oX5 d_now now_letters_)), ((d_now_languages_L1 3), aR cy 4 n_now_languages_L1_tests now_languages_L1_tests_), ((d_now_languages_L1 4), aI cy n_now_languages_L1_values now_languages_L1_values_), ((d_now_words_L2 0), aI cy 12 now_words_L2_letters_), ((d_now 1), aR cy 5 3 now_words_), ((d_now 3), aR cy 2 4 now_languages_)] ++ PT
theorem in_X11_contains_X11 : ∀ w ∈ u_ws RX11 TX11 12, w ∈ wsX11_contains := fun w h => (List.mem_cons_of_mem _ (List.mem_append_left _ (List.mem_append_left _ (List.mem_append_left _ (List.mem_append_left _ (List.mem_append_right _ h))))))
theorem lk_X11_contains_X11_now : Lk wsX11_contains RX11 10 10 0 := ⟨RX11, TX11, 12, rfl, by decide, in_X11_contains_X11, mem_at 1 rfl⟩
theorem in_X11_contains_X5 : ∀ w ∈ u_ws RX5 TX5 4, w ∈ wsX11_contains := fun w h => (List.mem_cons_of_mem _ (List.mem_append_left _ (List.mem_append_left _ (List.mem_append_left _ (List.mem_append_right _ h)))))
theorem lk_X11_contains_X5_languages : Lk wsX11_contains RX11 232 5 3 := ⟨RX5, TX5, 4, rfl, by decide, in_X11_contains_X5, mem_at 2 rfl⟩
theorem lk_X11_contains_X5_words : Lk wsX11_contains RX11 85 5 1 := ⟨RX5, TX5, 4, rfl, by decide, in_X11_contains_X5, mem_at 3 rfl⟩
def f_X11_contains (x1 : Int32) (x2 : Int32) (n_now_languages_L1_tests : Nat) (n_now_languages_L1_values : Nat) (q_now_languages_L1 : Nat) (q_now_words_L2 : Nat) (tq : Nat → Option TV) (now_languages_L1_basics_ : Int32) (now_languages_L1_table_ : Int32) (now_words_L2_size_ : Int32) (now_languages_L1_tests_ : Nat → Option Nat) (now_languages_L1_values_ : Nat → Int32) (now_words_L2_letters_ : Nat → Int32) (now_words_ : Nat → Option Nat) (now_languages_ : Nat → Option Nat) : Option (Int32) :=
  (f_X11_isLanguage x1).bind (fun u1 =>
  if u1 = 0 then
  (some (-1 : Int32))
  else
  ((f_X11_isWord x2).bind (fun u3 =>
  if u3 = 0 then
  (some (-1 : Int32))
  else
  (ldA now_languages_ 4 x1 (fun r6 =>
  nlA r6 (
  some (-5 : Int32)) (
  asR r6 q_now_languages_L1 (
  ldA now_words_ 3 x2 (fun r12 =>
  asR r12 q_now_words_L2 (
  (f_X2_holds n_now_languages_L1_tests n_now_languages_L1_values tq now_languages_L1_basics_ now_languages_L1_table_ now_words_L2_size_ now_languages_L1_tests_ now_languages_L1_values_ now_words_L2_letters_).bind (fun u15 =>
  if u15 = 0 then
  (some (0 : Int32))
  else
  (some (1 : Int32))))))))))))
set_option maxHeartbeats 4000000 in
set_option maxRecDepth 100000 in
theorem wt_X11_contains {p : Program} {l : Launch} {e : Env} {s : State} {m : MethodId} {args : Array Value} {below : List Frame} {meth : Method} {c : Code} {A : Nat → Prop} {Q : State → Prop} {D : va_G} {cy : Nat → ClassId} (o : Nat) (q_now_languages_L1 : Nat) (q_now_words_L2 : Nat) (n_now_languages_L1_tests : Nat) (n_now_languages_L1_values : Nat) (d : Nat → Nat) (d_now_languages_L1 : Nat → Nat) (d_now_words_L2 : Nat → Nat) (d_now : Nat → Nat) (mono : Value) (PT : va_W) (tq : Nat → Option TV) (snapshotTaken_ : Int32) (inputLength_ : Int32) (now_languages_L1_form_ : Int32) (now_languages_L1_basics_ : Int32) (now_languages_L1_table_ : Int32) (now_words_L2_size_ : Int32) (now_letters_ : Int32) (now_languages_L1_tests_ : Nat → Option Nat) (now_languages_L1_values_ : Nat → Int32) (now_words_L2_letters_ : Nat → Int32) (now_words_ : Nat → Option Nat) (now_languages_ : Nat → Option Nat)  (x1 : Int32) (x2 : Int32) (out : Int32) (hT : TP cy PT tq) (X : Cx p m c cX11_contains 4 s args wsX11_contains RX11 A D cy (RO_X11_contains cy o q_now_languages_L1 q_now_words_L2 n_now_languages_L1_tests n_now_languages_L1_values d d_now_languages_L1 d_now_words_L2 d_now mono PT snapshotTaken_ inputLength_ now_languages_L1_form_ now_languages_L1_basics_ now_languages_L1_table_ now_words_L2_size_ now_letters_ now_languages_L1_tests_ now_languages_L1_values_ now_words_L2_letters_ now_words_ now_languages_)) (h : f_X11_contains x1 x2 n_now_languages_L1_tests n_now_languages_L1_values q_now_languages_L1 q_now_words_L2 tq now_languages_L1_basics_ now_languages_L1_table_ now_words_L2_size_ now_languages_L1_tests_ now_languages_L1_values_ now_words_L2_letters_ now_words_ now_languages_ = some out) (K : ∀ (H : Heap) (locs : List Loc) (ls : Array Slot) (pc : Nat), decode cX11_contains pc = .ok (.ireturn, 1) → St A D s (RW_X11_contains cy o q_now_languages_L1 q_now_words_L2 n_now_languages_L1_tests n_now_languages_L1_values d d_now_languages_L1 d_now_words_L2 d_now mono PT) H locs → W p l e rm_X11_contains s m args below meth c H locs 0 0 Q (F0 m pc ls [.int out])) : ∀ (H : Heap) (locs : List Loc) (ls : Array Slot), St A D s (RW_X11_contains cy o q_now_languages_L1 q_now_words_L2 n_now_languages_L1_tests n_now_languages_L1_values d d_now_languages_L1 d_now_words_L2 d_now mono PT) H locs → lv_has ls 4 [(0, .ref o), (1, .int x1), (2, .int x2)] → W p l e rm_X11_contains s m args below meth c H locs 0 0 Q (F0 m 0 ls []) := by
  intro H locs ls Z hl
  have hx := X.1.1
  have hb := X.1.2.1
  unfold f_X11_contains at h
  refine lv_iload_n hx hb dX11_contains_0 rfl (lv_at hl 1 rfl) ?_
  obtain ⟨u1, hc2, h⟩ := ob_some h
  refine x_runSi (RW' := (RW_X11_contains cy o q_now_languages_L1 q_now_words_L2 n_now_languages_L1_tests n_now_languages_L1_values d d_now_languages_L1 d_now_words_L2 d_now mono PT)) (wr := []) (isC := []) (isR := []) (isF := []) (rest := []) (As := [.int x1]) (n := 1) X Z (c_X11_isLanguage l D cy x1 u1 hc2) gX11_contains_X11_isLanguage rfl (by decide +kernel) ⟨Nat.le_of_ble_eq_true rfl, Nat.le_of_ble_eq_true rfl⟩ ⟨rfl, rfl⟩ ⟨Nat.le_of_ble_eq_true rfl, Nat.le_of_ble_eq_true rfl⟩ ⟨rfl, rfl, roN, rfl, rfl, by decide⟩ ⟨rfl, rfl⟩ rfl hl.1 rfl (Nat.le_of_ble_eq_true rfl) dX11_contains_1 (fun H locs Z => ?_)
  refine lv_if_eq (tgt := 14) hx hb dX11_contains_4 (by decide) (fun cnd => ?_) (fun cnd => ?_)
  · replace h := ifp h cnd
    refine lv_iconst (v := (-1 : Int32)) hx hb dX11_contains_14 (by decide) ?_
    obtain rfl := Option.some.inj h
    exact K H locs ls _ dX11_contains_15 Z
  · replace h := ifn h cnd
    refine lv_iload_n hx hb dX11_contains_7 rfl (lv_at hl 2 rfl) ?_
    obtain ⟨u3, hc4, h⟩ := ob_some h
    refine x_runSi (RW' := (RW_X11_contains cy o q_now_languages_L1 q_now_words_L2 n_now_languages_L1_tests n_now_languages_L1_values d d_now_languages_L1 d_now_words_L2 d_now mono PT)) (wr := []) (isC := []) (isR := []) (isF := []) (rest := []) (As := [.int x2]) (n := 1) X Z (c_X11_isWord l D cy x2 u3 hc4) gX11_contains_X11_isWord rfl (by decide +kernel) ⟨Nat.le_of_ble_eq_true rfl, Nat.le_of_ble_eq_true rfl⟩ ⟨rfl, rfl⟩ ⟨Nat.le_of_ble_eq_true rfl, Nat.le_of_ble_eq_true rfl⟩ ⟨rfl, rfl, roN, rfl, rfl, by decide⟩ ⟨rfl, rfl⟩ rfl hl.1 rfl (Nat.le_of_ble_eq_true rfl) dX11_contains_8 (fun H locs Z => ?_)
    refine lv_if_ne (tgt := 16) hx hb dX11_contains_11 (by decide) (fun cnd => ?_) (fun cnd => ?_)
    · replace h := ifn h cnd
      refine lv_aload_n hx hb dX11_contains_16 rfl (lv_at hl 0 rfl) ?_
      refine x_getO X Z 0 0 (v := .ref (d 0)) rfl rfl lk_X11_contains_X11_now dX11_contains_17 ?_
      refine x_getO X Z 3 3 (v := .ref (d_now 3)) rfl rfl lk_X11_contains_X5_languages dX11_contains_20 ?_
      refine lv_iload_n hx hb dX11_contains_23 rfl (lv_at hl 1 rfl) ?_
      obtain ⟨hin5, r6, hv7, h⟩ := ld_b h
      refine x_raldqO X Z 8 2 rfl rfl hin5 hv7 dX11_contains_24 (fun hr8 => ?_) (fun b9 hr8 => ?_)
      · replace h := nl_n h hr8
        refine lv_astore_nN (lv' := [(3, .null), (0, .ref o), (1, .int x1), (2, .int x2)]) hx hb dX11_contains_25 rfl hl (by decide) rfl (fun ls hl => ?_)
        refine lv_aload_nN hx hb dX11_contains_26 rfl (lv_at hl 0 rfl) ?_
        refine lv_ifnonnullN hx hb dX11_contains_27 ?_
        refine lv_bipush (v := (-5 : Int32)) hx hb dX11_contains_30 (by decide) ?_
        obtain rfl := Option.some.inj h
        exact K H locs ls _ dX11_contains_32 Z
      · replace h := nl_s h hr8
        obtain ⟨ha10, h⟩ := as_b h
        obtain rfl : q_now_languages_L1 = b9 := Option.some.inj (ha10.symm.trans hr8)
        refine lv_astore_n (lv' := [(3, .ref q_now_languages_L1), (0, .ref o), (1, .int x1), (2, .int x2)]) hx hb dX11_contains_25 rfl hl (by decide) rfl (fun ls hl => ?_)
        refine lv_aload_n hx hb dX11_contains_26 rfl (lv_at hl 0 rfl) ?_
        refine lv_ifnonnull (tgt := 33) hx hb dX11_contains_27 (by decide) ?_
        refine lv_aload_n hx hb dX11_contains_33 rfl (lv_at hl 0 rfl) ?_
        refine lv_aload_n hx hb dX11_contains_34 rfl (lv_at hl 1 rfl) ?_
        refine x_getO X Z 0 0 (v := .ref (d 0)) rfl rfl lk_X11_contains_X11_now dX11_contains_35 ?_
        refine x_getO X Z 3 1 (v := .ref (d_now 1)) rfl rfl lk_X11_contains_X5_words dX11_contains_38 ?_
        refine lv_iload_n hx hb dX11_contains_41 rfl (lv_at hl 3 rfl) ?_
        obtain ⟨hin11, r12, hv13, h⟩ := ld_b h
        obtain ⟨ha14, h⟩ := as_b h
        refine x_raldO X Z 7 5 rfl rfl hin11 hv13 ha14 dX11_contains_42 ?_
        obtain ⟨u15, hc16, h⟩ := ob_some h
        refine x_runVi (RW' := (RW_X11_contains cy o q_now_languages_L1 q_now_words_L2 n_now_languages_L1_tests n_now_languages_L1_values d d_now_languages_L1 d_now_words_L2 d_now mono PT)) (wr := []) (isC := []) (isR := []) (isF := []) (rest := []) (As := [.ref q_now_words_L2]) (n := 1) X Z (c_X2_holds l D cy q_now_languages_L1 q_now_words_L2 n_now_languages_L1_tests n_now_languages_L1_values d_now_languages_L1 d_now_words_L2 PT tq now_languages_L1_form_ now_languages_L1_basics_ now_languages_L1_table_ now_words_L2_size_ now_languages_L1_tests_ now_languages_L1_values_ now_words_L2_letters_ u15 hT hc16) gX11_contains_X2_holds rfl (by decide +kernel) ⟨Nat.le_of_ble_eq_true rfl, Nat.le_of_ble_eq_true rfl⟩ ⟨rfl, rfl⟩ ⟨Nat.le_of_ble_eq_true rfl, Nat.le_of_ble_eq_true rfl⟩ (x_rvO X Z 1 rfl rfl) ⟨rfl, rfl, (roC (Or.inr (mem_at 1 rfl)) (roC (Or.inr (mem_at 2 rfl)) (roC (Or.inr (mem_at 4 rfl)) (roC (Or.inr (mem_at 5 rfl)) (roC (Or.inr (mem_at 6 rfl)) (fun q hq => Or.inr (List.mem_append_right _ hq))))))), rfl, rfl, by decide⟩ ⟨rfl, rfl⟩ rfl hl.1 rfl (Nat.le_of_ble_eq_true rfl) dX11_contains_43 (fun H locs Z => ?_)
        refine lv_if_eq (tgt := 53) hx hb dX11_contains_46 (by decide) (fun cnd => ?_) (fun cnd => ?_)
        · replace h := ifp h cnd
          refine lv_iconst (v := (0 : Int32)) hx hb dX11_contains_53 (by decide) ?_
          obtain rfl := Option.some.inj h
          exact K H locs ls _ dX11_contains_54 Z
        · replace h := ifn h cnd
          refine lv_iconst (v := (1 : Int32)) hx hb dX11_contains_49 (by decide) ?_
          refine lv_goto (tgt := 54) hx hb dX11_contains_50 (by decide) ?_
          obtain rfl := Option.some.inj h
          exact K H locs ls _ dX11_contains_54 Z
    · replace h := ifp h cnd
      refine lv_iconst (v := (-1 : Int32)) hx hb dX11_contains_14 (by decide) ?_
      obtain rfl := Option.some.inj h
      exact K H locs ls _ dX11_contains_15 Z
theorem c_X11_contains (l : Launch) (D : va_G) (cy : Nat → ClassId) (o : Nat) (q_now_languages_L1 : Nat) (q_now_words_L2 : Nat) (n_now_languages_L1_tests : Nat) (n_now_languages_L1_values : Nat) (d : Nat → Nat) (d_now_languages_L1 : Nat → Nat) (d_now_words_L2 : Nat → Nat) (d_now : Nat → Nat) (mono : Value) (PT : va_W) (tq : Nat → Option TV) (snapshotTaken_ : Int32) (inputLength_ : Int32) (now_languages_L1_form_ : Int32) (now_languages_L1_basics_ : Int32) (now_languages_L1_table_ : Int32) (now_words_L2_size_ : Int32) (now_letters_ : Int32) (now_languages_L1_tests_ : Nat → Option Nat) (now_languages_L1_values_ : Nat → Int32) (now_words_L2_letters_ : Nat → Int32) (now_words_ : Nat → Option Nat) (now_languages_ : Nat → Option Nat)  (x1 : Int32) (x2 : Int32) (out : Int32) (hT : TP cy PT tq) (h : f_X11_contains x1 x2 n_now_languages_L1_tests n_now_languages_L1_values q_now_languages_L1 q_now_words_L2 tq now_languages_L1_basics_ now_languages_L1_table_ now_words_L2_size_ now_languages_L1_tests_ now_languages_L1_values_ now_words_L2_letters_ now_words_ now_languages_ = some out) : CtI l yX11_contains wsX11_contains rm_X11_contains D cy [.ref o, .int x1, .int x2] (RW_X11_contains cy o q_now_languages_L1 q_now_words_L2 n_now_languages_L1_tests n_now_languages_L1_values d d_now_languages_L1 d_now_words_L2 d_now mono PT) (RO_X11_contains cy o q_now_languages_L1 q_now_words_L2 n_now_languages_L1_tests n_now_languages_L1_values d d_now_languages_L1 d_now_words_L2 d_now mono PT snapshotTaken_ inputLength_ now_languages_L1_form_ now_languages_L1_basics_ now_languages_L1_table_ now_words_L2_size_ now_letters_ now_languages_L1_tests_ now_languages_L1_values_ now_words_L2_letters_ now_words_ now_languages_) (RW_X11_contains cy o q_now_languages_L1 q_now_words_L2 n_now_languages_L1_tests n_now_languages_L1_values d d_now_languages_L1 d_now_words_L2 d_now mono PT) out :=
  mk_i (ty := .int) (by decide) rfl rfl (Nat.le_of_ble_eq_true rfl) (fun p e s m args below meth c A Q X K H locs ls Z hl => wt_X11_contains o q_now_languages_L1 q_now_words_L2 n_now_languages_L1_tests n_now_languages_L1_values d d_now_languages_L1 d_now_words_L2 d_now mono PT tq snapshotTaken_ inputLength_ now_languages_L1_form_ now_languages_L1_basics_ now_languages_L1_table_ now_words_L2_size_ now_letters_ now_languages_L1_tests_ now_languages_L1_values_ now_words_L2_letters_ now_words_ now_languages_ x1 x2 out hT X h K H locs ls Z hl)
/-! SubwordCounter$Language holdsAt (LSubwordCounter$Bundle;IJJ)Z -/
abbrev rm_X2_holdsAt : Room := { frames := 2, cells := 0, slots := 0, locals := 48 }
def RW_X2_holdsAt (cy : Nat → ClassId) (o : Nat) (q_p1 : Nat) (n_values : Nat) (d : Nat → Nat) (d_p1 : Nat → Nat) (PT : va_W)  : va_W := []
def RO_X2_holdsAt (cy : Nat → ClassId) (o : Nat) (q_p1 : Nat) (n_values : Nat) (d : Nat → Nat) (d_p1 : Nat → Nat) (PT : va_W) (form_ : Int32) (basics_ : Int32) (table_ : Int32) (p1_count_ : Int32) (values_ : Nat → Int32) (p1_members_ : Nat → Option Nat) : va_W := [(o, ob 2 (oX2 d form_ basics_ table_)), (q_p1, ob 1 (oX1 d_p1 p1_count_)), ((d 4), aI cy n_values values_), ((d_p1 0), aR cy 4 8 p1_members_)] ++ PT
theorem in_X2_holdsAt_X2 : ∀ w ∈ u_ws RX2 TX2 5, w ∈ wsX2_holdsAt := fun w h => (List.mem_cons_of_mem _ (List.mem_append_left _ (List.mem_append_left _ (List.mem_append_right _ h))))
theorem lk_X2_holdsAt_X2_basics : Lk wsX2_holdsAt RX2 15 2 1 := ⟨RX2, TX2, 5, rfl, by decide, in_X2_holdsAt_X2, mem_at 1 rfl⟩
theorem lk_X2_holdsAt_X2_values : Lk wsX2_holdsAt RX2 25 2 4 := ⟨RX2, TX2, 5, rfl, by decide, in_X2_holdsAt_X2, mem_at 2 rfl⟩
def b_X2_holdsAt_6 (n_values : Nat) (tq : Nat → Option TV) (basics_ : Int32) (values_ : Nat → Int32) (p1_members_ : Nat → Option Nat) (x2 : Int32) (x3 : Int64) (x5 : Int64)  (x7 : Int32) (x8 : Int32) : Option ((Int32 × Int32) ⊕ (Int32)) :=
  if basics_ ≤ x8 then
  (some (.inr x7))
  else
  ((f_X1_valueAt (x2 + x8) x3 x5 tq p1_members_).bind (fun u1 =>
  ldA values_ n_values x8 (fun v4 =>
  if u1 = v4 then
  (some (.inl ((x7 ||| ((1 : Int32) <<< (x8 &&& 31))), (x8 + (1 : Int32)))))
  else
  (some (.inl (x7, (x8 + (1 : Int32))))))))
set_option maxHeartbeats 4000000 in
set_option maxRecDepth 100000 in
theorem wb_X2_holdsAt_6 {p : Program} {l : Launch} {e : Env} {s : State} {m : MethodId} {args : Array Value} {below : List Frame} {meth : Method} {c : Code} {A : Nat → Prop} {Q : State → Prop} {D : va_G} {cy : Nat → ClassId} (o : Nat) (q_p1 : Nat) (n_values : Nat) (d : Nat → Nat) (d_p1 : Nat → Nat) (PT : va_W) (tq : Nat → Option TV) (form_ : Int32) (basics_ : Int32) (table_ : Int32) (p1_count_ : Int32) (values_ : Nat → Int32) (p1_members_ : Nat → Option Nat)  (x2 : Int32) (x3 : Int64) (x5 : Int64)  (x7 : Int32) (x8 : Int32) (o1 : (Int32 × Int32) ⊕ (Int32)) (hT : TP cy PT tq) (X : Cx p m c cX2_holdsAt 9 s args wsX2_holdsAt RX2 A D cy (RO_X2_holdsAt cy o q_p1 n_values d d_p1 PT form_ basics_ table_ p1_count_ values_ p1_members_)) (h : b_X2_holdsAt_6 n_values tq basics_ values_ p1_members_ x2 x3 x5 x7 x8 = some o1) (K : Sum.elim (fun v : Int32 × Int32 => ∀ (H : Heap) (locs : List Loc) (ls : Array Slot), St A D s (RW_X2_holdsAt cy o q_p1 n_values d d_p1 PT) H locs → lv_has ls 9 [(0, .ref o), (1, .ref q_p1), (2, .int x2), (3, .long x3), (5, .long x5), (7, .int v.1), (8, .int v.2)] → W p l e rm_X2_holdsAt s m args below meth c H locs 0 0 Q (F0 m 6 ls [])) (fun v : Int32 => ∀ (H : Heap) (locs : List Loc) (ls : Array Slot), St A D s (RW_X2_holdsAt cy o q_p1 n_values d d_p1 PT) H locs → lv_has ls 9 [(0, .ref o), (7, .int v)] → W p l e rm_X2_holdsAt s m args below meth c H locs 0 0 Q (F0 m 51 ls [])) o1) : ∀ (H : Heap) (locs : List Loc) (ls : Array Slot), St A D s (RW_X2_holdsAt cy o q_p1 n_values d d_p1 PT) H locs → lv_has ls 9 [(0, .ref o), (1, .ref q_p1), (2, .int x2), (3, .long x3), (5, .long x5), (7, .int x7), (8, .int x8)] → W p l e rm_X2_holdsAt s m args below meth c H locs 0 0 Q (F0 m 6 ls []) := by
  intro H locs ls Z hl
  have hx := X.1.1
  have hb := X.1.2.1
  unfold b_X2_holdsAt_6 at h
  refine lv_iload hx hb dX2_holdsAt_6 (lv_at hl 6 rfl) ?_
  refine lv_aload_n hx hb dX2_holdsAt_8 rfl (lv_at hl 0 rfl) ?_
  refine x_getO X Z 0 1 (v := .int basics_) rfl rfl lk_X2_holdsAt_X2_basics dX2_holdsAt_9 ?_
  refine lv_icmp_ge (tgt := 51) hx hb dX2_holdsAt_12 (by decide) (fun cnd => ?_) (fun cnd => ?_)
  · replace h := ifp h cnd
    obtain rfl := Option.some.inj h
    exact (sk_r K) H locs ls Z (lv_sub hl [0, 5] rfl)
  · replace h := ifn h cnd
    refine lv_aload_n hx hb dX2_holdsAt_15 rfl (lv_at hl 1 rfl) ?_
    refine lv_iload_n hx hb dX2_holdsAt_16 rfl (lv_at hl 2 rfl) ?_
    refine lv_iload hx hb dX2_holdsAt_17 (lv_at hl 6 rfl) ?_
    refine lv_iadd hx hb dX2_holdsAt_19 ?_
    refine lv_lload_n hx hb dX2_holdsAt_20 rfl (lv_at hl 3 rfl) ?_
    refine lv_lload hx hb dX2_holdsAt_21 (lv_at hl 4 rfl) ?_
    obtain ⟨u1, hc2, h⟩ := ob_some h
    refine x_runVi (RW' := (RW_X2_holdsAt cy o q_p1 n_values d d_p1 PT)) (wr := []) (isC := []) (isR := []) (isF := []) (rest := []) (As := [.int (x2 + x8), .long x3, .long x5]) (n := 3) X Z (c_X1_valueAt l D cy q_p1 d_p1 PT tq p1_count_ p1_members_ (x2 + x8) x3 x5 u1 hT hc2) gX2_holdsAt_X1_valueAt rfl (by decide +kernel) ⟨Nat.le_of_ble_eq_true rfl, Nat.le_of_ble_eq_true rfl⟩ ⟨rfl, rfl⟩ ⟨Nat.le_of_ble_eq_true rfl, Nat.le_of_ble_eq_true rfl⟩ (x_rvO X Z 1 rfl rfl) ⟨rfl, rfl, (roC (Or.inr (mem_at 1 rfl)) (roC (Or.inr (mem_at 3 rfl)) (fun q hq => Or.inr (List.mem_append_right _ hq)))), rfl, rfl, by decide⟩ ⟨rfl, rfl⟩ rfl hl.1 rfl (Nat.le_of_ble_eq_true rfl) dX2_holdsAt_23 (fun H locs Z => ?_)
    refine lv_aload_n hx hb dX2_holdsAt_26 rfl (lv_at hl 0 rfl) ?_
    refine x_getO X Z 0 4 (v := .ref (d 4)) rfl rfl lk_X2_holdsAt_X2_values dX2_holdsAt_27 ?_
    refine lv_iload hx hb dX2_holdsAt_30 (lv_at hl 6 rfl) ?_
    obtain ⟨hin3, v4, hv5, h⟩ := ld_b h
    refine x_ialdO X Z 2 rfl hin3 hv5 dX2_holdsAt_32 ?_
    refine lv_icmp_ne (tgt := 45) hx hb dX2_holdsAt_33 (by decide) (fun cnd => ?_) (fun cnd => ?_)
    · replace h := ifn h cnd
      refine lv_iinc (v := (x8 + (1 : Int32))) (lv' := [(8, .int (x8 + (1 : Int32))), (0, .ref o), (1, .ref q_p1), (2, .int x2), (3, .long x3), (5, .long x5), (7, .int x7)]) hx hb dX2_holdsAt_45 hl (k := 6) rfl rfl (by decide) rfl (fun ls hl => ?_)
      refine lv_goto (tgt := 6) hx hb dX2_holdsAt_48 (by decide) ?_
      obtain rfl := Option.some.inj h
      exact sk_l K H locs ls Z (lv_sub hl [1, 2, 3, 4, 5, 6, 0] rfl)
    · replace h := ifp h cnd
      refine lv_iload hx hb dX2_holdsAt_36 (lv_at hl 5 rfl) ?_
      refine lv_iconst (v := (1 : Int32)) hx hb dX2_holdsAt_38 (by decide) ?_
      refine lv_iload hx hb dX2_holdsAt_39 (lv_at hl 6 rfl) ?_
      refine lv_ishl hx hb dX2_holdsAt_41 ?_
      refine lv_ior hx hb dX2_holdsAt_42 ?_
      refine lv_istore (lv' := [(7, .int (x7 ||| ((1 : Int32) <<< (x8 &&& 31)))), (0, .ref o), (1, .ref q_p1), (2, .int x2), (3, .long x3), (5, .long x5), (8, .int x8)]) hx hb dX2_holdsAt_43 hl (by decide) rfl (fun ls hl => ?_)
      refine lv_iinc (v := (x8 + (1 : Int32))) (lv' := [(8, .int (x8 + (1 : Int32))), (7, .int (x7 ||| ((1 : Int32) <<< (x8 &&& 31)))), (0, .ref o), (1, .ref q_p1), (2, .int x2), (3, .long x3), (5, .long x5)]) hx hb dX2_holdsAt_45 hl (k := 6) rfl rfl (by decide) rfl (fun ls hl => ?_)
      refine lv_goto (tgt := 6) hx hb dX2_holdsAt_48 (by decide) ?_
      obtain rfl := Option.some.inj h
      exact sk_l K H locs ls Z (lv_sub hl [2, 3, 4, 5, 6, 1, 0] rfl)
set_option maxHeartbeats 4000000 in
set_option maxRecDepth 100000 in
theorem wl_X2_holdsAt_6 {p : Program} {l : Launch} {e : Env} {s : State} {m : MethodId} {args : Array Value} {below : List Frame} {meth : Method} {c : Code} {A : Nat → Prop} {Q : State → Prop} {D : va_G} {cy : Nat → ClassId} (o : Nat) (q_p1 : Nat) (n_values : Nat) (d : Nat → Nat) (d_p1 : Nat → Nat) (PT : va_W) (tq : Nat → Option TV) (form_ : Int32) (basics_ : Int32) (table_ : Int32) (p1_count_ : Int32) (values_ : Nat → Int32) (p1_members_ : Nat → Option Nat)  (x2 : Int32) (x3 : Int64) (x5 : Int64) (n : Nat) (v : Int32 × Int32) (x : Int32) (hT : TP cy PT tq) (X : Cx p m c cX2_holdsAt 9 s args wsX2_holdsAt RX2 A D cy (RO_X2_holdsAt cy o q_p1 n_values d d_p1 PT form_ basics_ table_ p1_count_ values_ p1_members_)) (h : loopN (fun v => b_X2_holdsAt_6 n_values tq basics_ values_ p1_members_ x2 x3 x5 v.1 v.2) n v = some x) (K : ∀ (H : Heap) (locs : List Loc) (ls : Array Slot), St A D s (RW_X2_holdsAt cy o q_p1 n_values d d_p1 PT) H locs → lv_has ls 9 [(0, .ref o), (7, .int x)] → W p l e rm_X2_holdsAt s m args below meth c H locs 0 0 Q (F0 m 51 ls [])) : ∀ (H : Heap) (locs : List Loc) (ls : Array Slot), St A D s (RW_X2_holdsAt cy o q_p1 n_values d d_p1 PT) H locs → lv_has ls 9 [(0, .ref o), (1, .ref q_p1), (2, .int x2), (3, .long x3), (5, .long x5), (7, .int v.1), (8, .int v.2)] → W p l e rm_X2_holdsAt s m args below meth c H locs 0 0 Q (F0 m 6 ls []) :=
  loop_gen (B := (fun v => b_X2_holdsAt_6 n_values tq basics_ values_ p1_members_ x2 x3 x5 v.1 v.2)) (Head := fun v : Int32 × Int32 => ∀ (H : Heap) (locs : List Loc) (ls : Array Slot), St A D s (RW_X2_holdsAt cy o q_p1 n_values d d_p1 PT) H locs → lv_has ls 9 [(0, .ref o), (1, .ref q_p1), (2, .int x2), (3, .long x3), (5, .long x5), (7, .int v.1), (8, .int v.2)] → W p l e rm_X2_holdsAt s m args below meth c H locs 0 0 Q (F0 m 6 ls [])) (Exit := fun v : Int32 => ∀ (H : Heap) (locs : List Loc) (ls : Array Slot), St A D s (RW_X2_holdsAt cy o q_p1 n_values d d_p1 PT) H locs → lv_has ls 9 [(0, .ref o), (7, .int v)] → W p l e rm_X2_holdsAt s m args below meth c H locs 0 0 Q (F0 m 51 ls [])) (fun v o9 hb1 K1 => wb_X2_holdsAt_6 o q_p1 n_values d d_p1 PT tq form_ basics_ table_ p1_count_ values_ p1_members_ x2 x3 x5 v.1 v.2 o9 hT X hb1 K1) n v x h K
def f_X2_holdsAt (x2 : Int32) (x3 : Int64) (x5 : Int64) (n_values : Nat) (tq : Nat → Option TV) (basics_ : Int32) (table_ : Int32) (values_ : Nat → Int32) (p1_members_ : Nat → Option Nat) : Option (Int32) :=
  (loopN (fun v => b_X2_holdsAt_6 n_values tq basics_ values_ p1_members_ x2 x3 x5 v.1 v.2) FU ((0 : Int32), (0 : Int32))).bind (fun u6 =>
  (f_X2_accepts u6 table_).bind (fun u8 =>
  bitZ u8 (some u8)))
set_option maxHeartbeats 4000000 in
set_option maxRecDepth 100000 in
theorem wt_X2_holdsAt {p : Program} {l : Launch} {e : Env} {s : State} {m : MethodId} {args : Array Value} {below : List Frame} {meth : Method} {c : Code} {A : Nat → Prop} {Q : State → Prop} {D : va_G} {cy : Nat → ClassId} (o : Nat) (q_p1 : Nat) (n_values : Nat) (d : Nat → Nat) (d_p1 : Nat → Nat) (PT : va_W) (tq : Nat → Option TV) (form_ : Int32) (basics_ : Int32) (table_ : Int32) (p1_count_ : Int32) (values_ : Nat → Int32) (p1_members_ : Nat → Option Nat)  (x2 : Int32) (x3 : Int64) (x5 : Int64) (out : Int32) (hT : TP cy PT tq) (X : Cx p m c cX2_holdsAt 9 s args wsX2_holdsAt RX2 A D cy (RO_X2_holdsAt cy o q_p1 n_values d d_p1 PT form_ basics_ table_ p1_count_ values_ p1_members_)) (h : f_X2_holdsAt x2 x3 x5 n_values tq basics_ table_ values_ p1_members_ = some out) (K : ∀ (H : Heap) (locs : List Loc) (ls : Array Slot) (pc : Nat), decode cX2_holdsAt pc = .ok (.ireturn, 1) → (out = 0 ∨ out = 1) → St A D s (RW_X2_holdsAt cy o q_p1 n_values d d_p1 PT) H locs → W p l e rm_X2_holdsAt s m args below meth c H locs 0 0 Q (F0 m pc ls [.int out])) : ∀ (H : Heap) (locs : List Loc) (ls : Array Slot), St A D s (RW_X2_holdsAt cy o q_p1 n_values d d_p1 PT) H locs → lv_has ls 9 [(0, .ref o), (1, .ref q_p1), (2, .int x2), (3, .long x3), (5, .long x5)] → W p l e rm_X2_holdsAt s m args below meth c H locs 0 0 Q (F0 m 0 ls []) := by
  intro H locs ls Z hl
  have hx := X.1.1
  have hb := X.1.2.1
  unfold f_X2_holdsAt at h
  refine lv_iconst (v := (0 : Int32)) hx hb dX2_holdsAt_0 (by decide) ?_
  refine lv_istore (lv' := [(7, .int (0 : Int32)), (0, .ref o), (1, .ref q_p1), (2, .int x2), (3, .long x3), (5, .long x5)]) hx hb dX2_holdsAt_1 hl (by decide) rfl (fun ls hl => ?_)
  refine lv_iconst (v := (0 : Int32)) hx hb dX2_holdsAt_3 (by decide) ?_
  refine lv_istore (lv' := [(8, .int (0 : Int32)), (7, .int (0 : Int32)), (0, .ref o), (1, .ref q_p1), (2, .int x2), (3, .long x3), (5, .long x5)]) hx hb dX2_holdsAt_4 hl (by decide) rfl (fun ls hl => ?_)
  obtain ⟨u6, hL7, h⟩ := ob_some h
  refine wl_X2_holdsAt_6 o q_p1 n_values d d_p1 PT tq form_ basics_ table_ p1_count_ values_ p1_members_ x2 x3 x5 FU ((0 : Int32), (0 : Int32)) u6 hT X hL7 (fun H locs ls Z hl => ?_) H locs ls Z (lv_sub hl [2, 3, 4, 5, 6, 1, 0] rfl)
  refine lv_aload_n hx hb dX2_holdsAt_51 rfl (lv_at hl 0 rfl) ?_
  refine lv_iload hx hb dX2_holdsAt_52 (lv_at hl 1 rfl) ?_
  obtain ⟨u8, hc9, h⟩ := ob_some h
  refine x_runVi (RW' := (RW_X2_holdsAt cy o q_p1 n_values d d_p1 PT)) (wr := []) (isC := []) (isR := []) (isF := []) (rest := []) (As := [.int u6]) (n := 1) X Z (c_X2_accepts l D cy o d form_ basics_ table_ u6 u8 hc9) gX2_holdsAt_X2_accepts rfl (by decide +kernel) ⟨Nat.le_of_ble_eq_true rfl, Nat.le_of_ble_eq_true rfl⟩ ⟨rfl, rfl⟩ ⟨Nat.le_of_ble_eq_true rfl, Nat.le_of_ble_eq_true rfl⟩ (x_rvO X Z 0 rfl rfl) ⟨rfl, rfl, (roC (Or.inr (mem_at 0 rfl)) roN), rfl, rfl, by decide⟩ ⟨rfl, rfl⟩ rfl hl.1 rfl (Nat.le_of_ble_eq_true rfl) dX2_holdsAt_54 (fun H locs Z => ?_)
  obtain ⟨hz10, h⟩ := bz_b h
  obtain rfl := Option.some.inj h
  exact K H locs ls _ dX2_holdsAt_57 hz10 Z
theorem c_X2_holdsAt (l : Launch) (D : va_G) (cy : Nat → ClassId) (o : Nat) (q_p1 : Nat) (n_values : Nat) (d : Nat → Nat) (d_p1 : Nat → Nat) (PT : va_W) (tq : Nat → Option TV) (form_ : Int32) (basics_ : Int32) (table_ : Int32) (p1_count_ : Int32) (values_ : Nat → Int32) (p1_members_ : Nat → Option Nat)  (x2 : Int32) (x3 : Int64) (x5 : Int64) (out : Int32) (hT : TP cy PT tq) (h : f_X2_holdsAt x2 x3 x5 n_values tq basics_ table_ values_ p1_members_ = some out) : CtI l yX2_holdsAt wsX2_holdsAt rm_X2_holdsAt D cy [.ref o, .ref q_p1, .int x2, .long x3, .long x5] (RW_X2_holdsAt cy o q_p1 n_values d d_p1 PT) (RO_X2_holdsAt cy o q_p1 n_values d d_p1 PT form_ basics_ table_ p1_count_ values_ p1_members_) (RW_X2_holdsAt cy o q_p1 n_values d d_p1 PT) out :=
  mk_z (by decide) rfl (Nat.le_of_ble_eq_true rfl) (fun p e s m args below meth c A Q X K H locs ls Z hl => wt_X2_holdsAt o q_p1 n_values d d_p1 PT tq form_ basics_ table_ p1_count_ values_ p1_members_ x2 x3 x5 out hT X h K H locs ls Z hl)
/-! SubwordCounter$Automaton markMembers (LSubwordCounter$Language;)V -/
abbrev rm_X0_markMembers : Room := { frames := 3, cells := 0, slots := 0, locals := 76 }
def RW_X0_markMembers (cy : Nat → ClassId) (o : Nat) (q_p1 : Nat) (n_p1_values : Nat) (d : Nat → Nat) (d_p1 : Nat → Nat) (d_tests : Nat → Nat) (PT : va_W) (marks_ : Nat → Int32) : va_W := [((d 4), aI cy 2000 marks_)]
def RO_X0_markMembers (cy : Nat → ClassId) (o : Nat) (q_p1 : Nat) (n_p1_values : Nat) (d : Nat → Nat) (d_p1 : Nat → Nat) (d_tests : Nat → Nat) (PT : va_W) (letters_ : Int32) (states_ : Int32) (p1_form_ : Int32) (p1_basics_ : Int32) (p1_table_ : Int32) (tests_count_ : Int32) (low_ : Nat → Int64) (high_ : Nat → Int64) (p1_values_ : Nat → Int32) (tests_members_ : Nat → Option Nat) : va_W := [(o, ob 0 (oX0 d letters_ states_)), (q_p1, ob 2 (oX2 d_p1 p1_form_ p1_basics_ p1_table_)), ((d 0), ob 1 (oX1 d_tests tests_count_)), ((d 6), aJ cy 2000 low_), ((d 7), aJ cy 2000 high_), ((d_p1 4), aI cy n_p1_values p1_values_), ((d_tests 0), aR cy 4 8 tests_members_)] ++ PT
theorem in_X0_markMembers_X0 : ∀ w ∈ u_ws RX0 TX0 13, w ∈ wsX0_markMembers := fun w h => (List.mem_cons_of_mem _ (List.mem_append_left _ (List.mem_append_left _ (List.mem_append_left _ (List.mem_append_right _ h)))))
theorem lk_X0_markMembers_X0_states : Lk wsX0_markMembers RX0 22 0 2 := ⟨RX0, TX0, 13, rfl, by decide, in_X0_markMembers_X0, mem_at 1 rfl⟩
theorem lk_X0_markMembers_X0_marks : Lk wsX0_markMembers RX0 29 0 4 := ⟨RX0, TX0, 13, rfl, by decide, in_X0_markMembers_X0, mem_at 2 rfl⟩
theorem lk_X0_markMembers_X0_tests : Lk wsX0_markMembers RX0 12 0 0 := ⟨RX0, TX0, 13, rfl, by decide, in_X0_markMembers_X0, mem_at 3 rfl⟩
theorem lk_X0_markMembers_X0_low : Lk wsX0_markMembers RX0 35 0 6 := ⟨RX0, TX0, 13, rfl, by decide, in_X0_markMembers_X0, mem_at 4 rfl⟩
theorem lk_X0_markMembers_X0_high : Lk wsX0_markMembers RX0 39 0 7 := ⟨RX0, TX0, 13, rfl, by decide, in_X0_markMembers_X0, mem_at 5 rfl⟩
def b_X0_markMembers_2 (n_p1_values : Nat) (tq : Nat → Option TV) (states_ : Int32) (p1_basics_ : Int32) (p1_table_ : Int32) (low_ : Nat → Int64) (high_ : Nat → Int64) (p1_values_ : Nat → Int32) (tests_members_ : Nat → Option Nat) (marks_ : Nat → Int32) (x2 : Int32) : Option (((Nat → Int32) × Int32) ⊕ ((Nat → Int32))) :=
  if states_ ≤ x2 then
  (some (.inr marks_))
  else
  (ldA low_ 2000 x2 (fun v2 =>
  ldA high_ 2000 x2 (fun v5 =>
  (f_X2_holdsAt (0 : Int32) v2 v5 n_p1_values tq p1_basics_ p1_table_ p1_values_ tests_members_).bind (fun u7 =>
  if u7 = 0 then
  (stA marks_ 2000 x2 (0 : Int32) (fun marks_10 =>
  some (.inl (marks_10, (x2 + (1 : Int32))))))
  else
  (stA marks_ 2000 x2 (1 : Int32) (fun marks_13 =>
  some (.inl (marks_13, (x2 + (1 : Int32))))))))))
set_option maxHeartbeats 4000000 in
set_option maxRecDepth 100000 in
theorem wb_X0_markMembers_2 {p : Program} {l : Launch} {e : Env} {s : State} {m : MethodId} {args : Array Value} {below : List Frame} {meth : Method} {c : Code} {A : Nat → Prop} {Q : State → Prop} {D : va_G} {cy : Nat → ClassId} (o : Nat) (q_p1 : Nat) (n_p1_values : Nat) (d : Nat → Nat) (d_p1 : Nat → Nat) (d_tests : Nat → Nat) (PT : va_W) (tq : Nat → Option TV) (letters_ : Int32) (states_ : Int32) (p1_form_ : Int32) (p1_basics_ : Int32) (p1_table_ : Int32) (tests_count_ : Int32) (low_ : Nat → Int64) (high_ : Nat → Int64) (p1_values_ : Nat → Int32) (tests_members_ : Nat → Option Nat)  (marks_ : Nat → Int32) (x2 : Int32) (o1 : ((Nat → Int32) × Int32) ⊕ ((Nat → Int32))) (hT : TP cy PT tq) (X : Cx p m c cX0_markMembers 3 s args wsX0_markMembers RX0 A D cy (RO_X0_markMembers cy o q_p1 n_p1_values d d_p1 d_tests PT letters_ states_ p1_form_ p1_basics_ p1_table_ tests_count_ low_ high_ p1_values_ tests_members_)) (h : b_X0_markMembers_2 n_p1_values tq states_ p1_basics_ p1_table_ low_ high_ p1_values_ tests_members_ marks_ x2 = some o1) (K : Sum.elim (fun v : (Nat → Int32) × Int32 => ∀ (H : Heap) (locs : List Loc) (ls : Array Slot), St A D s (RW_X0_markMembers cy o q_p1 n_p1_values d d_p1 d_tests PT v.1) H locs → lv_has ls 3 [(0, .ref o), (1, .ref q_p1), (2, .int v.2)] → W p l e rm_X0_markMembers s m args below meth c H locs 0 0 Q (F0 m 2 ls [])) (fun v : (Nat → Int32) => ∀ (H : Heap) (locs : List Loc) (ls : Array Slot), St A D s (RW_X0_markMembers cy o q_p1 n_p1_values d d_p1 d_tests PT v) H locs → lv_has ls 3 [] → W p l e rm_X0_markMembers s m args below meth c H locs 0 0 Q (F0 m 51 ls [])) o1) : ∀ (H : Heap) (locs : List Loc) (ls : Array Slot), St A D s (RW_X0_markMembers cy o q_p1 n_p1_values d d_p1 d_tests PT marks_) H locs → lv_has ls 3 [(0, .ref o), (1, .ref q_p1), (2, .int x2)] → W p l e rm_X0_markMembers s m args below meth c H locs 0 0 Q (F0 m 2 ls []) := by
  intro H locs ls Z hl
  have hx := X.1.1
  have hb := X.1.2.1
  unfold b_X0_markMembers_2 at h
  refine lv_iload_n hx hb dX0_markMembers_2 rfl (lv_at hl 2 rfl) ?_
  refine lv_aload_n hx hb dX0_markMembers_3 rfl (lv_at hl 0 rfl) ?_
  refine x_getO X Z 0 2 (v := .int states_) rfl rfl lk_X0_markMembers_X0_states dX0_markMembers_4 ?_
  refine lv_icmp_ge (tgt := 51) hx hb dX0_markMembers_7 (by decide) (fun cnd => ?_) (fun cnd => ?_)
  · replace h := ifp h cnd
    obtain rfl := Option.some.inj h
    exact (sk_r K) H locs ls Z (lv_sub hl [] rfl)
  · replace h := ifn h cnd
    refine lv_aload_n hx hb dX0_markMembers_10 rfl (lv_at hl 0 rfl) ?_
    refine x_getO X Z 0 4 (v := .ref (d 4)) rfl rfl lk_X0_markMembers_X0_marks dX0_markMembers_11 ?_
    refine lv_iload_n hx hb dX0_markMembers_14 rfl (lv_at hl 2 rfl) ?_
    refine lv_aload_n hx hb dX0_markMembers_15 rfl (lv_at hl 1 rfl) ?_
    refine lv_aload_n hx hb dX0_markMembers_16 rfl (lv_at hl 0 rfl) ?_
    refine x_getO X Z 0 0 (v := .ref (d 0)) rfl rfl lk_X0_markMembers_X0_tests dX0_markMembers_17 ?_
    refine lv_iconst (v := (0 : Int32)) hx hb dX0_markMembers_20 (by decide) ?_
    refine lv_aload_n hx hb dX0_markMembers_21 rfl (lv_at hl 0 rfl) ?_
    refine x_getO X Z 0 6 (v := .ref (d 6)) rfl rfl lk_X0_markMembers_X0_low dX0_markMembers_22 ?_
    refine lv_iload_n hx hb dX0_markMembers_25 rfl (lv_at hl 2 rfl) ?_
    obtain ⟨hin1, v2, hv3, h⟩ := ld_b h
    refine x_laldO X Z 3 rfl hin1 hv3 dX0_markMembers_26 ?_
    refine lv_aload_n hx hb dX0_markMembers_27 rfl (lv_at hl 0 rfl) ?_
    refine x_getO X Z 0 7 (v := .ref (d 7)) rfl rfl lk_X0_markMembers_X0_high dX0_markMembers_28 ?_
    refine lv_iload_n hx hb dX0_markMembers_31 rfl (lv_at hl 2 rfl) ?_
    obtain ⟨hin4, v5, hv6, h⟩ := ld_b h
    refine x_laldO X Z 4 rfl hin4 hv6 dX0_markMembers_32 ?_
    obtain ⟨u7, hc8, h⟩ := ob_some h
    refine x_runVi (RW' := (RW_X0_markMembers cy o q_p1 n_p1_values d d_p1 d_tests PT marks_)) (wr := [((d 4), aI cy 2000 marks_)]) (isC := []) (isR := [0]) (isF := [0]) (rest := [.int x2, .ref (d 4)]) (As := [.ref (d 0), .int (0 : Int32), .long v2, .long v5]) (n := 4) X Z (c_X2_holdsAt l D cy q_p1 (d 0) n_p1_values d_p1 d_tests PT tq p1_form_ p1_basics_ p1_table_ tests_count_ p1_values_ tests_members_ (0 : Int32) v2 v5 u7 hT hc8) gX0_markMembers_X2_holdsAt rfl (by decide +kernel) ⟨Nat.le_of_ble_eq_true rfl, Nat.le_of_ble_eq_true rfl⟩ ⟨rfl, rfl⟩ ⟨Nat.le_of_ble_eq_true rfl, Nat.le_of_ble_eq_true rfl⟩ (x_rvO X Z 1 rfl rfl) ⟨rfl, rfl, (roC (Or.inr (mem_at 1 rfl)) (roC (Or.inr (mem_at 2 rfl)) (roC (Or.inr (mem_at 5 rfl)) (roC (Or.inr (mem_at 6 rfl)) (fun q hq => Or.inr (List.mem_append_right _ hq)))))), rfl, rfl, by decide⟩ ⟨rfl, rfl⟩ rfl hl.1 rfl (Nat.le_of_ble_eq_true rfl) dX0_markMembers_33 (fun H locs Z => ?_)
    refine lv_if_eq (tgt := 43) hx hb dX0_markMembers_36 (by decide) (fun cnd => ?_) (fun cnd => ?_)
    · replace h := ifp h cnd
      refine lv_iconst (v := (0 : Int32)) hx hb dX0_markMembers_43 (by decide) ?_
      obtain ⟨hin9, marks_10, hv11, h⟩ := st_b h
      refine x_iast X Z 0 (RW_X0_markMembers cy o q_p1 n_p1_values d d_p1 d_tests PT marks_10) rfl hin9 hv11 rfl dX0_markMembers_44 (fun H locs Z => ?_)
      refine lv_iinc (v := (x2 + (1 : Int32))) (lv' := [(2, .int (x2 + (1 : Int32))), (0, .ref o), (1, .ref q_p1)]) hx hb dX0_markMembers_45 hl (k := 2) rfl rfl (by decide) rfl (fun ls hl => ?_)
      refine lv_goto (tgt := 2) hx hb dX0_markMembers_48 (by decide) ?_
      obtain rfl := Option.some.inj h
      exact sk_l K H locs ls Z (lv_sub hl [1, 2, 0] rfl)
    · replace h := ifn h cnd
      refine lv_iconst (v := (1 : Int32)) hx hb dX0_markMembers_39 (by decide) ?_
      refine lv_goto (tgt := 44) hx hb dX0_markMembers_40 (by decide) ?_
      obtain ⟨hin12, marks_13, hv14, h⟩ := st_b h
      refine x_iast X Z 0 (RW_X0_markMembers cy o q_p1 n_p1_values d d_p1 d_tests PT marks_13) rfl hin12 hv14 rfl dX0_markMembers_44 (fun H locs Z => ?_)
      refine lv_iinc (v := (x2 + (1 : Int32))) (lv' := [(2, .int (x2 + (1 : Int32))), (0, .ref o), (1, .ref q_p1)]) hx hb dX0_markMembers_45 hl (k := 2) rfl rfl (by decide) rfl (fun ls hl => ?_)
      refine lv_goto (tgt := 2) hx hb dX0_markMembers_48 (by decide) ?_
      obtain rfl := Option.some.inj h
      exact sk_l K H locs ls Z (lv_sub hl [1, 2, 0] rfl)
set_option maxHeartbeats 4000000 in
set_option maxRecDepth 100000 in
theorem wl_X0_markMembers_2 {p : Program} {l : Launch} {e : Env} {s : State} {m : MethodId} {args : Array Value} {below : List Frame} {meth : Method} {c : Code} {A : Nat → Prop} {Q : State → Prop} {D : va_G} {cy : Nat → ClassId} (o : Nat) (q_p1 : Nat) (n_p1_values : Nat) (d : Nat → Nat) (d_p1 : Nat → Nat) (d_tests : Nat → Nat) (PT : va_W) (tq : Nat → Option TV) (letters_ : Int32) (states_ : Int32) (p1_form_ : Int32) (p1_basics_ : Int32) (p1_table_ : Int32) (tests_count_ : Int32) (low_ : Nat → Int64) (high_ : Nat → Int64) (p1_values_ : Nat → Int32) (tests_members_ : Nat → Option Nat)  (n : Nat) (v : (Nat → Int32) × Int32) (x : (Nat → Int32)) (hT : TP cy PT tq) (X : Cx p m c cX0_markMembers 3 s args wsX0_markMembers RX0 A D cy (RO_X0_markMembers cy o q_p1 n_p1_values d d_p1 d_tests PT letters_ states_ p1_form_ p1_basics_ p1_table_ tests_count_ low_ high_ p1_values_ tests_members_)) (h : loopN (fun v => b_X0_markMembers_2 n_p1_values tq states_ p1_basics_ p1_table_ low_ high_ p1_values_ tests_members_ v.1 v.2) n v = some x) (K : ∀ (H : Heap) (locs : List Loc) (ls : Array Slot), St A D s (RW_X0_markMembers cy o q_p1 n_p1_values d d_p1 d_tests PT x) H locs → lv_has ls 3 [] → W p l e rm_X0_markMembers s m args below meth c H locs 0 0 Q (F0 m 51 ls [])) : ∀ (H : Heap) (locs : List Loc) (ls : Array Slot), St A D s (RW_X0_markMembers cy o q_p1 n_p1_values d d_p1 d_tests PT v.1) H locs → lv_has ls 3 [(0, .ref o), (1, .ref q_p1), (2, .int v.2)] → W p l e rm_X0_markMembers s m args below meth c H locs 0 0 Q (F0 m 2 ls []) :=
  loop_gen (B := (fun v => b_X0_markMembers_2 n_p1_values tq states_ p1_basics_ p1_table_ low_ high_ p1_values_ tests_members_ v.1 v.2)) (Head := fun v : (Nat → Int32) × Int32 => ∀ (H : Heap) (locs : List Loc) (ls : Array Slot), St A D s (RW_X0_markMembers cy o q_p1 n_p1_values d d_p1 d_tests PT v.1) H locs → lv_has ls 3 [(0, .ref o), (1, .ref q_p1), (2, .int v.2)] → W p l e rm_X0_markMembers s m args below meth c H locs 0 0 Q (F0 m 2 ls [])) (Exit := fun v : (Nat → Int32) => ∀ (H : Heap) (locs : List Loc) (ls : Array Slot), St A D s (RW_X0_markMembers cy o q_p1 n_p1_values d d_p1 d_tests PT v) H locs → lv_has ls 3 [] → W p l e rm_X0_markMembers s m args below meth c H locs 0 0 Q (F0 m 51 ls [])) (fun v o9 hb1 K1 => wb_X0_markMembers_2 o q_p1 n_p1_values d d_p1 d_tests PT tq letters_ states_ p1_form_ p1_basics_ p1_table_ tests_count_ low_ high_ p1_values_ tests_members_ v.1 v.2 o9 hT X hb1 K1) n v x h K
def f_X0_markMembers (n_p1_values : Nat) (tq : Nat → Option TV) (states_ : Int32) (p1_basics_ : Int32) (p1_table_ : Int32) (low_ : Nat → Int64) (high_ : Nat → Int64) (p1_values_ : Nat → Int32) (tests_members_ : Nat → Option Nat) (marks_ : Nat → Int32) : Option ((Nat → Int32)) :=
  (loopN (fun v => b_X0_markMembers_2 n_p1_values tq states_ p1_basics_ p1_table_ low_ high_ p1_values_ tests_members_ v.1 v.2) FU (marks_, (0 : Int32))).bind (fun u15 =>
  some u15)
set_option maxHeartbeats 4000000 in
set_option maxRecDepth 100000 in
theorem wt_X0_markMembers {p : Program} {l : Launch} {e : Env} {s : State} {m : MethodId} {args : Array Value} {below : List Frame} {meth : Method} {c : Code} {A : Nat → Prop} {Q : State → Prop} {D : va_G} {cy : Nat → ClassId} (o : Nat) (q_p1 : Nat) (n_p1_values : Nat) (d : Nat → Nat) (d_p1 : Nat → Nat) (d_tests : Nat → Nat) (PT : va_W) (tq : Nat → Option TV) (letters_ : Int32) (states_ : Int32) (p1_form_ : Int32) (p1_basics_ : Int32) (p1_table_ : Int32) (tests_count_ : Int32) (low_ : Nat → Int64) (high_ : Nat → Int64) (p1_values_ : Nat → Int32) (tests_members_ : Nat → Option Nat) (marks_ : Nat → Int32) (out : (Nat → Int32)) (hT : TP cy PT tq) (X : Cx p m c cX0_markMembers 3 s args wsX0_markMembers RX0 A D cy (RO_X0_markMembers cy o q_p1 n_p1_values d d_p1 d_tests PT letters_ states_ p1_form_ p1_basics_ p1_table_ tests_count_ low_ high_ p1_values_ tests_members_)) (h : f_X0_markMembers n_p1_values tq states_ p1_basics_ p1_table_ low_ high_ p1_values_ tests_members_ marks_ = some out) (K : ∀ (H : Heap) (locs : List Loc) (ls : Array Slot) (pc : Nat), decode cX0_markMembers pc = .ok (.return_, 1) → St A D s (RW_X0_markMembers cy o q_p1 n_p1_values d d_p1 d_tests PT out) H locs → W p l e rm_X0_markMembers s m args below meth c H locs 0 0 Q (F0 m pc ls [])) : ∀ (H : Heap) (locs : List Loc) (ls : Array Slot), St A D s (RW_X0_markMembers cy o q_p1 n_p1_values d d_p1 d_tests PT marks_) H locs → lv_has ls 3 [(0, .ref o), (1, .ref q_p1)] → W p l e rm_X0_markMembers s m args below meth c H locs 0 0 Q (F0 m 0 ls []) := by
  intro H locs ls Z hl
  have hx := X.1.1
  have hb := X.1.2.1
  unfold f_X0_markMembers at h
  refine lv_iconst (v := (0 : Int32)) hx hb dX0_markMembers_0 (by decide) ?_
  refine lv_istore_n (lv' := [(2, .int (0 : Int32)), (0, .ref o), (1, .ref q_p1)]) hx hb dX0_markMembers_1 rfl hl (by decide) rfl (fun ls hl => ?_)
  obtain ⟨u15, hL16, h⟩ := ob_some h
  refine wl_X0_markMembers_2 o q_p1 n_p1_values d d_p1 d_tests PT tq letters_ states_ p1_form_ p1_basics_ p1_table_ tests_count_ low_ high_ p1_values_ tests_members_ FU (marks_, (0 : Int32)) u15 hT X hL16 (fun H locs ls Z hl => ?_) H locs ls Z (lv_sub hl [1, 2, 0] rfl)
  obtain rfl := Option.some.inj h
  exact K H locs ls _ dX0_markMembers_51 Z
theorem c_X0_markMembers (l : Launch) (D : va_G) (cy : Nat → ClassId) (o : Nat) (q_p1 : Nat) (n_p1_values : Nat) (d : Nat → Nat) (d_p1 : Nat → Nat) (d_tests : Nat → Nat) (PT : va_W) (tq : Nat → Option TV) (letters_ : Int32) (states_ : Int32) (p1_form_ : Int32) (p1_basics_ : Int32) (p1_table_ : Int32) (tests_count_ : Int32) (low_ : Nat → Int64) (high_ : Nat → Int64) (p1_values_ : Nat → Int32) (tests_members_ : Nat → Option Nat) (marks_ : Nat → Int32) (out : (Nat → Int32)) (hT : TP cy PT tq) (h : f_X0_markMembers n_p1_values tq states_ p1_basics_ p1_table_ low_ high_ p1_values_ tests_members_ marks_ = some out) : CtV l yX0_markMembers wsX0_markMembers rm_X0_markMembers D cy [.ref o, .ref q_p1] (RW_X0_markMembers cy o q_p1 n_p1_values d d_p1 d_tests PT marks_) (RO_X0_markMembers cy o q_p1 n_p1_values d d_p1 d_tests PT letters_ states_ p1_form_ p1_basics_ p1_table_ tests_count_ low_ high_ p1_values_ tests_members_) (RW_X0_markMembers cy o q_p1 n_p1_values d d_p1 d_tests PT out) :=
  mk_v (by decide) rfl (Nat.le_of_ble_eq_true rfl) (fun p e s m args below meth c A Q X K H locs ls Z hl => wt_X0_markMembers o q_p1 n_p1_values d d_p1 d_tests PT tq letters_ states_ p1_form_ p1_basics_ p1_table_ tests_count_ low_ high_ p1_values_ tests_members_ marks_ out hT X h K H locs ls Z hl)
/-! SubwordCounter$Language addTestsTo (LSubwordCounter$Bundle;)V -/
abbrev rm_X2_addTestsTo : Room := { frames := 1, cells := 0, slots := 0, locals := 21 }
def RW_X2_addTestsTo (cy : Nat → ClassId) (o : Nat) (q_p1 : Nat) (n_tests : Nat) (d : Nat → Nat) (d_p1 : Nat → Nat) (PT : va_W) (p1_count_ : Int32) (p1_members_ : Nat → Option Nat) : va_W := [(q_p1, ob 1 (oX1 d_p1 p1_count_)), ((d_p1 0), aR cy 4 8 p1_members_)]
def RO_X2_addTestsTo (cy : Nat → ClassId) (o : Nat) (q_p1 : Nat) (n_tests : Nat) (d : Nat → Nat) (d_p1 : Nat → Nat) (PT : va_W) (form_ : Int32) (basics_ : Int32) (table_ : Int32) (tests_ : Nat → Option Nat) : va_W := [(o, ob 2 (oX2 d form_ basics_ table_)), ((d 3), aR cy 4 n_tests tests_)] ++ PT
theorem in_X2_addTestsTo_X2 : ∀ w ∈ u_ws RX2 TX2 5, w ∈ wsX2_addTestsTo := fun w h => (List.mem_cons_of_mem _ (List.mem_append_left _ (List.mem_append_right _ h)))
theorem lk_X2_addTestsTo_X2_basics : Lk wsX2_addTestsTo RX2 15 2 1 := ⟨RX2, TX2, 5, rfl, by decide, in_X2_addTestsTo_X2, mem_at 1 rfl⟩
theorem lk_X2_addTestsTo_X2_tests : Lk wsX2_addTestsTo RX2 21 2 3 := ⟨RX2, TX2, 5, rfl, by decide, in_X2_addTestsTo_X2, mem_at 2 rfl⟩
def b_X2_addTestsTo_2 (n_tests : Nat) (tq : Nat → Option TV) (basics_ : Int32) (tests_ : Nat → Option Nat) (p1_count_ : Int32) (p1_members_ : Nat → Option Nat) (x2 : Int32) : Option ((Int32 × (Nat → Option Nat) × Int32) ⊕ (Int32 × (Nat → Option Nat))) :=
  if basics_ ≤ x2 then
  (some (.inr (p1_count_, p1_members_)))
  else
  (ldA tests_ n_tests x2 (fun r2 =>
  tsA tq r2 (fun a4 tv5 =>
  (f_X1_add a4 p1_count_ p1_members_).bind (fun u8 =>
  some (.inl (u8.1, u8.2, (x2 + (1 : Int32))))))))
set_option maxHeartbeats 4000000 in
set_option maxRecDepth 100000 in
theorem wb_X2_addTestsTo_2 {p : Program} {l : Launch} {e : Env} {s : State} {m : MethodId} {args : Array Value} {below : List Frame} {meth : Method} {c : Code} {A : Nat → Prop} {Q : State → Prop} {D : va_G} {cy : Nat → ClassId} (o : Nat) (q_p1 : Nat) (n_tests : Nat) (d : Nat → Nat) (d_p1 : Nat → Nat) (PT : va_W) (tq : Nat → Option TV) (form_ : Int32) (basics_ : Int32) (table_ : Int32) (tests_ : Nat → Option Nat)  (p1_count_ : Int32) (p1_members_ : Nat → Option Nat) (x2 : Int32) (o1 : (Int32 × (Nat → Option Nat) × Int32) ⊕ (Int32 × (Nat → Option Nat))) (hT : TP cy PT tq) (X : Cx p m c cX2_addTestsTo 3 s args wsX2_addTestsTo RX2 A D cy (RO_X2_addTestsTo cy o q_p1 n_tests d d_p1 PT form_ basics_ table_ tests_)) (h : b_X2_addTestsTo_2 n_tests tq basics_ tests_ p1_count_ p1_members_ x2 = some o1) (K : Sum.elim (fun v : Int32 × (Nat → Option Nat) × Int32 => ∀ (H : Heap) (locs : List Loc) (ls : Array Slot), St A D s (RW_X2_addTestsTo cy o q_p1 n_tests d d_p1 PT v.1 v.2.1) H locs → lv_has ls 3 [(0, .ref o), (1, .ref q_p1), (2, .int v.2.2)] → W p l e rm_X2_addTestsTo s m args below meth c H locs 0 0 Q (F0 m 2 ls [])) (fun v : Int32 × (Nat → Option Nat) => ∀ (H : Heap) (locs : List Loc) (ls : Array Slot), St A D s (RW_X2_addTestsTo cy o q_p1 n_tests d d_p1 PT v.1 v.2) H locs → lv_has ls 3 [] → W p l e rm_X2_addTestsTo s m args below meth c H locs 0 0 Q (F0 m 26 ls [])) o1) : ∀ (H : Heap) (locs : List Loc) (ls : Array Slot), St A D s (RW_X2_addTestsTo cy o q_p1 n_tests d d_p1 PT p1_count_ p1_members_) H locs → lv_has ls 3 [(0, .ref o), (1, .ref q_p1), (2, .int x2)] → W p l e rm_X2_addTestsTo s m args below meth c H locs 0 0 Q (F0 m 2 ls []) := by
  intro H locs ls Z hl
  have hx := X.1.1
  have hb := X.1.2.1
  unfold b_X2_addTestsTo_2 at h
  refine lv_iload_n hx hb dX2_addTestsTo_2 rfl (lv_at hl 2 rfl) ?_
  refine lv_aload_n hx hb dX2_addTestsTo_3 rfl (lv_at hl 0 rfl) ?_
  refine x_getO X Z 0 1 (v := .int basics_) rfl rfl lk_X2_addTestsTo_X2_basics dX2_addTestsTo_4 ?_
  refine lv_icmp_ge (tgt := 26) hx hb dX2_addTestsTo_7 (by decide) (fun cnd => ?_) (fun cnd => ?_)
  · replace h := ifp h cnd
    obtain rfl := Option.some.inj h
    exact (sk_r K) H locs ls Z (lv_sub hl [] rfl)
  · replace h := ifn h cnd
    refine lv_aload_n hx hb dX2_addTestsTo_10 rfl (lv_at hl 1 rfl) ?_
    refine lv_aload_n hx hb dX2_addTestsTo_11 rfl (lv_at hl 0 rfl) ?_
    refine x_getO X Z 0 3 (v := .ref (d 3)) rfl rfl lk_X2_addTestsTo_X2_tests dX2_addTestsTo_12 ?_
    refine lv_iload_n hx hb dX2_addTestsTo_15 rfl (lv_at hl 2 rfl) ?_
    obtain ⟨hin1, r2, hv3, h⟩ := ld_b h
    obtain ⟨a4, tv5, hr6, ht7, h⟩ := ts_b h
    refine x_raldO X Z 1 4 rfl rfl hin1 hv3 hr6 dX2_addTestsTo_16 ?_
    obtain ⟨u8, hc9, h⟩ := ob_some h
    refine x_runVv (RW' := (RW_X2_addTestsTo cy o q_p1 n_tests d d_p1 PT u8.1 u8.2)) (wr := []) (isC := [0, 1]) (isR := []) (isF := [0, 1]) (rest := []) (As := [.ref a4]) (n := 1) X Z (c_X1_add l D cy q_p1 a4 d_p1 (fun _ => tv5.2.2.2.2.1) tv5.1 tv5.2.1 tv5.2.2.1 tv5.2.2.2.1 p1_count_ p1_members_ u8 hc9) gX2_addTestsTo_X1_add rfl (by decide +kernel) ⟨Nat.le_of_ble_eq_true rfl, Nat.le_of_ble_eq_true rfl⟩ ⟨rfl, rfl⟩ ⟨Nat.le_of_ble_eq_true rfl, Nat.le_of_ble_eq_true rfl⟩ (x_rv X Z 0 rfl rfl) ⟨rfl, rfl, (roC (Or.inr (List.mem_append_right _ (hT a4 tv5 ht7).1)) roN), rfl, rfl, by decide⟩ ⟨rfl, rfl⟩ rfl hl.1 rfl (Nat.le_of_ble_eq_true rfl) dX2_addTestsTo_17 (fun H locs Z => ?_)
    refine lv_iinc (v := (x2 + (1 : Int32))) (lv' := [(2, .int (x2 + (1 : Int32))), (0, .ref o), (1, .ref q_p1)]) hx hb dX2_addTestsTo_20 hl (k := 2) rfl rfl (by decide) rfl (fun ls hl => ?_)
    refine lv_goto (tgt := 2) hx hb dX2_addTestsTo_23 (by decide) ?_
    obtain rfl := Option.some.inj h
    exact sk_l K H locs ls Z (lv_sub hl [1, 2, 0] rfl)
set_option maxHeartbeats 4000000 in
set_option maxRecDepth 100000 in
theorem wl_X2_addTestsTo_2 {p : Program} {l : Launch} {e : Env} {s : State} {m : MethodId} {args : Array Value} {below : List Frame} {meth : Method} {c : Code} {A : Nat → Prop} {Q : State → Prop} {D : va_G} {cy : Nat → ClassId} (o : Nat) (q_p1 : Nat) (n_tests : Nat) (d : Nat → Nat) (d_p1 : Nat → Nat) (PT : va_W) (tq : Nat → Option TV) (form_ : Int32) (basics_ : Int32) (table_ : Int32) (tests_ : Nat → Option Nat)  (n : Nat) (v : Int32 × (Nat → Option Nat) × Int32) (x : Int32 × (Nat → Option Nat)) (hT : TP cy PT tq) (X : Cx p m c cX2_addTestsTo 3 s args wsX2_addTestsTo RX2 A D cy (RO_X2_addTestsTo cy o q_p1 n_tests d d_p1 PT form_ basics_ table_ tests_)) (h : loopN (fun v => b_X2_addTestsTo_2 n_tests tq basics_ tests_ v.1 v.2.1 v.2.2) n v = some x) (K : ∀ (H : Heap) (locs : List Loc) (ls : Array Slot), St A D s (RW_X2_addTestsTo cy o q_p1 n_tests d d_p1 PT x.1 x.2) H locs → lv_has ls 3 [] → W p l e rm_X2_addTestsTo s m args below meth c H locs 0 0 Q (F0 m 26 ls [])) : ∀ (H : Heap) (locs : List Loc) (ls : Array Slot), St A D s (RW_X2_addTestsTo cy o q_p1 n_tests d d_p1 PT v.1 v.2.1) H locs → lv_has ls 3 [(0, .ref o), (1, .ref q_p1), (2, .int v.2.2)] → W p l e rm_X2_addTestsTo s m args below meth c H locs 0 0 Q (F0 m 2 ls []) :=
  loop_gen (B := (fun v => b_X2_addTestsTo_2 n_tests tq basics_ tests_ v.1 v.2.1 v.2.2)) (Head := fun v : Int32 × (Nat → Option Nat) × Int32 => ∀ (H : Heap) (locs : List Loc) (ls : Array Slot), St A D s (RW_X2_addTestsTo cy o q_p1 n_tests d d_p1 PT v.1 v.2.1) H locs → lv_has ls 3 [(0, .ref o), (1, .ref q_p1), (2, .int v.2.2)] → W p l e rm_X2_addTestsTo s m args below meth c H locs 0 0 Q (F0 m 2 ls [])) (Exit := fun v : Int32 × (Nat → Option Nat) => ∀ (H : Heap) (locs : List Loc) (ls : Array Slot), St A D s (RW_X2_addTestsTo cy o q_p1 n_tests d d_p1 PT v.1 v.2) H locs → lv_has ls 3 [] → W p l e rm_X2_addTestsTo s m args below meth c H locs 0 0 Q (F0 m 26 ls [])) (fun v o9 hb1 K1 => wb_X2_addTestsTo_2 o q_p1 n_tests d d_p1 PT tq form_ basics_ table_ tests_ v.1 v.2.1 v.2.2 o9 hT X hb1 K1) n v x h K
def f_X2_addTestsTo (n_tests : Nat) (tq : Nat → Option TV) (basics_ : Int32) (tests_ : Nat → Option Nat) (p1_count_ : Int32) (p1_members_ : Nat → Option Nat) : Option (Int32 × (Nat → Option Nat)) :=
  (loopN (fun v => b_X2_addTestsTo_2 n_tests tq basics_ tests_ v.1 v.2.1 v.2.2) FU (p1_count_, p1_members_, (0 : Int32))).bind (fun u10 =>
  some (u10.1, u10.2))
set_option maxHeartbeats 4000000 in
set_option maxRecDepth 100000 in
theorem wt_X2_addTestsTo {p : Program} {l : Launch} {e : Env} {s : State} {m : MethodId} {args : Array Value} {below : List Frame} {meth : Method} {c : Code} {A : Nat → Prop} {Q : State → Prop} {D : va_G} {cy : Nat → ClassId} (o : Nat) (q_p1 : Nat) (n_tests : Nat) (d : Nat → Nat) (d_p1 : Nat → Nat) (PT : va_W) (tq : Nat → Option TV) (form_ : Int32) (basics_ : Int32) (table_ : Int32) (tests_ : Nat → Option Nat) (p1_count_ : Int32) (p1_members_ : Nat → Option Nat) (out : Int32 × (Nat → Option Nat)) (hT : TP cy PT tq) (X : Cx p m c cX2_addTestsTo 3 s args wsX2_addTestsTo RX2 A D cy (RO_X2_addTestsTo cy o q_p1 n_tests d d_p1 PT form_ basics_ table_ tests_)) (h : f_X2_addTestsTo n_tests tq basics_ tests_ p1_count_ p1_members_ = some out) (K : ∀ (H : Heap) (locs : List Loc) (ls : Array Slot) (pc : Nat), decode cX2_addTestsTo pc = .ok (.return_, 1) → St A D s (RW_X2_addTestsTo cy o q_p1 n_tests d d_p1 PT out.1 out.2) H locs → W p l e rm_X2_addTestsTo s m args below meth c H locs 0 0 Q (F0 m pc ls [])) : ∀ (H : Heap) (locs : List Loc) (ls : Array Slot), St A D s (RW_X2_addTestsTo cy o q_p1 n_tests d d_p1 PT p1_count_ p1_members_) H locs → lv_has ls 3 [(0, .ref o), (1, .ref q_p1)] → W p l e rm_X2_addTestsTo s m args below meth c H locs 0 0 Q (F0 m 0 ls []) := by
  intro H locs ls Z hl
  have hx := X.1.1
  have hb := X.1.2.1
  unfold f_X2_addTestsTo at h
  refine lv_iconst (v := (0 : Int32)) hx hb dX2_addTestsTo_0 (by decide) ?_
  refine lv_istore_n (lv' := [(2, .int (0 : Int32)), (0, .ref o), (1, .ref q_p1)]) hx hb dX2_addTestsTo_1 rfl hl (by decide) rfl (fun ls hl => ?_)
  obtain ⟨u10, hL11, h⟩ := ob_some h
  refine wl_X2_addTestsTo_2 o q_p1 n_tests d d_p1 PT tq form_ basics_ table_ tests_ FU (p1_count_, p1_members_, (0 : Int32)) u10 hT X hL11 (fun H locs ls Z hl => ?_) H locs ls Z (lv_sub hl [1, 2, 0] rfl)
  obtain rfl := Option.some.inj h
  exact K H locs ls _ dX2_addTestsTo_26 Z
theorem c_X2_addTestsTo (l : Launch) (D : va_G) (cy : Nat → ClassId) (o : Nat) (q_p1 : Nat) (n_tests : Nat) (d : Nat → Nat) (d_p1 : Nat → Nat) (PT : va_W) (tq : Nat → Option TV) (form_ : Int32) (basics_ : Int32) (table_ : Int32) (tests_ : Nat → Option Nat) (p1_count_ : Int32) (p1_members_ : Nat → Option Nat) (out : Int32 × (Nat → Option Nat)) (hT : TP cy PT tq) (h : f_X2_addTestsTo n_tests tq basics_ tests_ p1_count_ p1_members_ = some out) : CtV l yX2_addTestsTo wsX2_addTestsTo rm_X2_addTestsTo D cy [.ref o, .ref q_p1] (RW_X2_addTestsTo cy o q_p1 n_tests d d_p1 PT p1_count_ p1_members_) (RO_X2_addTestsTo cy o q_p1 n_tests d d_p1 PT form_ basics_ table_ tests_) (RW_X2_addTestsTo cy o q_p1 n_tests d d_p1 PT out.1 out.2) :=
  mk_v (by decide) rfl (Nat.le_of_ble_eq_true rfl) (fun p e s m args below meth c A Q X K H locs ls Z hl => wt_X2_addTestsTo o q_p1 n_tests d d_p1 PT tq form_ basics_ table_ tests_ p1_count_ p1_members_ out hT X h K H locs ls Z hl)
/-! SubwordCounter exploreLanguage (LSubwordCounter$Language;)Z -/
abbrev rm_X11_exploreLanguage : Room := { frames := 5, cells := 0, slots := 0, locals := 122 }
def RW_X11_exploreLanguage (cy : Nat → ClassId) (o : Nat) (q_p1 : Nat) (n_p1_tests : Nat) (n_p1_values : Nat) (d : Nat → Nat) (d_p1 : Nat → Nat) (d_now : Nat → Nat) (d_automaton : Nat → Nat) (d_automaton_tests : Nat → Nat) (mono : Value) (PT : va_W) (automaton_letters_ : Int32) (automaton_states_ : Int32) (automaton_tests_count_ : Int32) (automaton_next_ : Nat → Int32) (automaton_marks_ : Nat → Int32) (automaton_depth_ : Nat → Int32) (automaton_low_ : Nat → Int64) (automaton_high_ : Nat → Int64) (automaton_parent_ : Nat → Int32) (automaton_lastLetter_ : Nat → Int32) (automaton_slots_ : Nat → Int32) (automaton_tests_members_ : Nat → Option Nat) : va_W := [((d 8), ob 0 (oX0 d_automaton automaton_letters_ automaton_states_)), ((d_automaton 0), ob 1 (oX1 d_automaton_tests automaton_tests_count_)), ((d_automaton 3), aI cy 6000 automaton_next_), ((d_automaton 4), aI cy 2000 automaton_marks_), ((d_automaton 5), aI cy 2000 automaton_depth_), ((d_automaton 6), aJ cy 2000 automaton_low_), ((d_automaton 7), aJ cy 2000 automaton_high_), ((d_automaton 8), aI cy 2000 automaton_parent_), ((d_automaton 9), aI cy 2000 automaton_lastLetter_), ((d_automaton 10), aI cy 4096 automaton_slots_), ((d_automaton_tests 0), aR cy 4 8 automaton_tests_members_)]
def RO_X11_exploreLanguage (cy : Nat → ClassId) (o : Nat) (q_p1 : Nat) (n_p1_tests : Nat) (n_p1_values : Nat) (d : Nat → Nat) (d_p1 : Nat → Nat) (d_now : Nat → Nat) (d_automaton : Nat → Nat) (d_automaton_tests : Nat → Nat) (mono : Value) (PT : va_W) (snapshotTaken_ : Int32) (inputLength_ : Int32) (p1_form_ : Int32) (p1_basics_ : Int32) (p1_table_ : Int32) (now_letters_ : Int32) (p1_tests_ : Nat → Option Nat) (p1_values_ : Nat → Int32) : va_W := [(o, ob 10 (oX11 d mono snapshotTaken_ inputLength_)), (q_p1, ob 2 (oX2 d_p1 p1_form_ p1_basics_ p1_table_)), ((d 0), ob 5 (oX5 d_now now_letters_)), ((d_p1 3), aR cy 4 n_p1_tests p1_tests_), ((d_p1 4), aI cy n_p1_values p1_values_)] ++ PT
theorem in_X11_exploreLanguage_X11 : ∀ w ∈ u_ws RX11 TX11 12, w ∈ wsX11_exploreLanguage := fun w h => (List.mem_cons_of_mem _ (List.mem_append_left _ (List.mem_append_left _ (List.mem_append_left _ (List.mem_append_left _ (List.mem_append_left _ (List.mem_append_right _ h)))))))
theorem lk_X11_exploreLanguage_X11_automaton : Lk wsX11_exploreLanguage RX11 54 10 8 := ⟨RX11, TX11, 12, rfl, by decide, in_X11_exploreLanguage_X11, mem_at 1 rfl⟩
theorem lk_X11_exploreLanguage_X11_now : Lk wsX11_exploreLanguage RX11 10 10 0 := ⟨RX11, TX11, 12, rfl, by decide, in_X11_exploreLanguage_X11, mem_at 2 rfl⟩
theorem in_X11_exploreLanguage_X5 : ∀ w ∈ u_ws RX5 TX5 4, w ∈ wsX11_exploreLanguage := fun w h => (List.mem_cons_of_mem _ (List.mem_append_left _ (List.mem_append_left _ (List.mem_append_left _ (List.mem_append_left _ (List.mem_append_right _ h))))))
theorem lk_X11_exploreLanguage_X5_letters : Lk wsX11_exploreLanguage RX11 74 5 0 := ⟨RX5, TX5, 4, rfl, by decide, in_X11_exploreLanguage_X5, mem_at 3 rfl⟩
theorem in_X11_exploreLanguage_X0 : ∀ w ∈ u_ws RX0 TX0 13, w ∈ wsX11_exploreLanguage := fun w h => (List.mem_cons_of_mem _ (List.mem_append_left _ (List.mem_append_left _ (List.mem_append_left _ (List.mem_append_right _ h)))))
theorem lk_X11_exploreLanguage_X0_tests : Lk wsX11_exploreLanguage RX11 320 0 0 := ⟨RX0, TX0, 13, rfl, by decide, in_X11_exploreLanguage_X0, mem_at 4 rfl⟩
def f_X11_exploreLanguage (n_p1_tests : Nat) (n_p1_values : Nat) (tq : Nat → Option TV) (p1_basics_ : Int32) (p1_table_ : Int32) (now_letters_ : Int32) (p1_tests_ : Nat → Option Nat) (p1_values_ : Nat → Int32) (automaton_letters_ : Int32) (automaton_states_ : Int32) (automaton_tests_count_ : Int32) (automaton_next_ : Nat → Int32) (automaton_marks_ : Nat → Int32) (automaton_depth_ : Nat → Int32) (automaton_low_ : Nat → Int64) (automaton_high_ : Nat → Int64) (automaton_parent_ : Nat → Int32) (automaton_lastLetter_ : Nat → Int32) (automaton_slots_ : Nat → Int32) (automaton_tests_members_ : Nat → Option Nat) : Option (Int32 × Int32 × Int32 × Int32 × (Nat → Int32) × (Nat → Int32) × (Nat → Int32) × (Nat → Int64) × (Nat → Int64) × (Nat → Int32) × (Nat → Int32) × (Nat → Int32) × (Nat → Option Nat)) :=
  (f_X0_restart now_letters_ automaton_letters_ automaton_states_ automaton_tests_count_).bind (fun u1 =>
  (f_X2_addTestsTo n_p1_tests tq p1_basics_ p1_tests_ u1.2.2 automaton_tests_members_).bind (fun u3 =>
  (f_X0_explore tq u3.1 u3.2 u1.1 u1.2.1 automaton_next_ automaton_depth_ automaton_low_ automaton_high_ automaton_parent_ automaton_lastLetter_ automaton_slots_).bind (fun u5 =>
  if u5.1 = 0 then
  (some ((0 : Int32), u1.1, u5.2.1, u3.1, u5.2.2.1, automaton_marks_, u5.2.2.2.1, u5.2.2.2.2.1, u5.2.2.2.2.2.1, u5.2.2.2.2.2.2.1, u5.2.2.2.2.2.2.2.1, u5.2.2.2.2.2.2.2.2, u3.2))
  else
  ((f_X0_markMembers n_p1_values tq u5.2.1 p1_basics_ p1_table_ u5.2.2.2.2.1 u5.2.2.2.2.2.1 p1_values_ u3.2 automaton_marks_).bind (fun u7 =>
  some ((1 : Int32), u1.1, u5.2.1, u3.1, u5.2.2.1, u7, u5.2.2.2.1, u5.2.2.2.2.1, u5.2.2.2.2.2.1, u5.2.2.2.2.2.2.1, u5.2.2.2.2.2.2.2.1, u5.2.2.2.2.2.2.2.2, u3.2))))))
set_option maxHeartbeats 4000000 in
set_option maxRecDepth 100000 in
theorem wt_X11_exploreLanguage {p : Program} {l : Launch} {e : Env} {s : State} {m : MethodId} {args : Array Value} {below : List Frame} {meth : Method} {c : Code} {A : Nat → Prop} {Q : State → Prop} {D : va_G} {cy : Nat → ClassId} (o : Nat) (q_p1 : Nat) (n_p1_tests : Nat) (n_p1_values : Nat) (d : Nat → Nat) (d_p1 : Nat → Nat) (d_now : Nat → Nat) (d_automaton : Nat → Nat) (d_automaton_tests : Nat → Nat) (mono : Value) (PT : va_W) (tq : Nat → Option TV) (snapshotTaken_ : Int32) (inputLength_ : Int32) (p1_form_ : Int32) (p1_basics_ : Int32) (p1_table_ : Int32) (now_letters_ : Int32) (p1_tests_ : Nat → Option Nat) (p1_values_ : Nat → Int32) (automaton_letters_ : Int32) (automaton_states_ : Int32) (automaton_tests_count_ : Int32) (automaton_next_ : Nat → Int32) (automaton_marks_ : Nat → Int32) (automaton_depth_ : Nat → Int32) (automaton_low_ : Nat → Int64) (automaton_high_ : Nat → Int64) (automaton_parent_ : Nat → Int32) (automaton_lastLetter_ : Nat → Int32) (automaton_slots_ : Nat → Int32) (automaton_tests_members_ : Nat → Option Nat) (out : Int32 × Int32 × Int32 × Int32 × (Nat → Int32) × (Nat → Int32) × (Nat → Int32) × (Nat → Int64) × (Nat → Int64) × (Nat → Int32) × (Nat → Int32) × (Nat → Int32) × (Nat → Option Nat)) (hT : TP cy PT tq) (X : Cx p m c cX11_exploreLanguage 2 s args wsX11_exploreLanguage RX11 A D cy (RO_X11_exploreLanguage cy o q_p1 n_p1_tests n_p1_values d d_p1 d_now d_automaton d_automaton_tests mono PT snapshotTaken_ inputLength_ p1_form_ p1_basics_ p1_table_ now_letters_ p1_tests_ p1_values_)) (h : f_X11_exploreLanguage n_p1_tests n_p1_values tq p1_basics_ p1_table_ now_letters_ p1_tests_ p1_values_ automaton_letters_ automaton_states_ automaton_tests_count_ automaton_next_ automaton_marks_ automaton_depth_ automaton_low_ automaton_high_ automaton_parent_ automaton_lastLetter_ automaton_slots_ automaton_tests_members_ = some out) (K : ∀ (H : Heap) (locs : List Loc) (ls : Array Slot) (pc : Nat), decode cX11_exploreLanguage pc = .ok (.ireturn, 1) → (out.1 = 0 ∨ out.1 = 1) → St A D s (RW_X11_exploreLanguage cy o q_p1 n_p1_tests n_p1_values d d_p1 d_now d_automaton d_automaton_tests mono PT out.2.1 out.2.2.1 out.2.2.2.1 out.2.2.2.2.1 out.2.2.2.2.2.1 out.2.2.2.2.2.2.1 out.2.2.2.2.2.2.2.1 out.2.2.2.2.2.2.2.2.1 out.2.2.2.2.2.2.2.2.2.1 out.2.2.2.2.2.2.2.2.2.2.1 out.2.2.2.2.2.2.2.2.2.2.2.1 out.2.2.2.2.2.2.2.2.2.2.2.2) H locs → W p l e rm_X11_exploreLanguage s m args below meth c H locs 0 0 Q (F0 m pc ls [.int out.1])) : ∀ (H : Heap) (locs : List Loc) (ls : Array Slot), St A D s (RW_X11_exploreLanguage cy o q_p1 n_p1_tests n_p1_values d d_p1 d_now d_automaton d_automaton_tests mono PT automaton_letters_ automaton_states_ automaton_tests_count_ automaton_next_ automaton_marks_ automaton_depth_ automaton_low_ automaton_high_ automaton_parent_ automaton_lastLetter_ automaton_slots_ automaton_tests_members_) H locs → lv_has ls 2 [(0, .ref o), (1, .ref q_p1)] → W p l e rm_X11_exploreLanguage s m args below meth c H locs 0 0 Q (F0 m 0 ls []) := by
  intro H locs ls Z hl
  have hx := X.1.1
  have hb := X.1.2.1
  unfold f_X11_exploreLanguage at h
  refine lv_aload_n hx hb dX11_exploreLanguage_0 rfl (lv_at hl 0 rfl) ?_
  refine x_getO X Z 0 8 (v := .ref (d 8)) rfl rfl lk_X11_exploreLanguage_X11_automaton dX11_exploreLanguage_1 ?_
  refine lv_aload_n hx hb dX11_exploreLanguage_4 rfl (lv_at hl 0 rfl) ?_
  refine x_getO X Z 0 0 (v := .ref (d 0)) rfl rfl lk_X11_exploreLanguage_X11_now dX11_exploreLanguage_5 ?_
  refine x_getO X Z 2 0 (v := .int now_letters_) rfl rfl lk_X11_exploreLanguage_X5_letters dX11_exploreLanguage_8 ?_
  obtain ⟨u1, hc2, h⟩ := ob_some h
  refine x_runVv (RW' := (RW_X11_exploreLanguage cy o q_p1 n_p1_tests n_p1_values d d_p1 d_now d_automaton d_automaton_tests mono PT u1.1 u1.2.1 u1.2.2 automaton_next_ automaton_marks_ automaton_depth_ automaton_low_ automaton_high_ automaton_parent_ automaton_lastLetter_ automaton_slots_ automaton_tests_members_)) (wr := [((d_automaton 3), aI cy 6000 automaton_next_), ((d_automaton 4), aI cy 2000 automaton_marks_), ((d_automaton 5), aI cy 2000 automaton_depth_), ((d_automaton 6), aJ cy 2000 automaton_low_), ((d_automaton 7), aJ cy 2000 automaton_high_), ((d_automaton 8), aI cy 2000 automaton_parent_), ((d_automaton 9), aI cy 2000 automaton_lastLetter_), ((d_automaton 10), aI cy 4096 automaton_slots_), ((d_automaton_tests 0), aR cy 4 8 automaton_tests_members_)]) (isC := [0, 1]) (isR := [2, 3, 4, 5, 6, 7, 8, 9, 10]) (isF := [9, 10, 0, 1, 2, 3, 4, 5, 6, 7, 8]) (rest := []) (As := [.int now_letters_]) (n := 1) X Z (c_X0_restart l D cy (d 8) d_automaton d_automaton_tests automaton_letters_ automaton_states_ automaton_tests_count_ now_letters_ u1 hc2) gX11_exploreLanguage_X0_restart rfl (by decide +kernel) ⟨Nat.le_of_ble_eq_true rfl, Nat.le_of_ble_eq_true rfl⟩ ⟨rfl, rfl⟩ ⟨Nat.le_of_ble_eq_true rfl, Nat.le_of_ble_eq_true rfl⟩ (x_rv X Z 0 rfl rfl) ⟨rfl, rfl, roN, rfl, rfl, by decide⟩ ⟨rfl, rfl⟩ rfl hl.1 rfl (Nat.le_of_ble_eq_true rfl) dX11_exploreLanguage_11 (fun H locs Z => ?_)
  refine lv_aload_n hx hb dX11_exploreLanguage_14 rfl (lv_at hl 1 rfl) ?_
  refine lv_aload_n hx hb dX11_exploreLanguage_15 rfl (lv_at hl 0 rfl) ?_
  refine x_getO X Z 0 8 (v := .ref (d 8)) rfl rfl lk_X11_exploreLanguage_X11_automaton dX11_exploreLanguage_16 ?_
  refine x_get X Z 0 0 (v := .ref (d_automaton 0)) rfl rfl lk_X11_exploreLanguage_X0_tests dX11_exploreLanguage_19 ?_
  obtain ⟨u3, hc4, h⟩ := ob_some h
  refine x_runVv (RW' := (RW_X11_exploreLanguage cy o q_p1 n_p1_tests n_p1_values d d_p1 d_now d_automaton d_automaton_tests mono PT u1.1 u1.2.1 u3.1 automaton_next_ automaton_marks_ automaton_depth_ automaton_low_ automaton_high_ automaton_parent_ automaton_lastLetter_ automaton_slots_ u3.2)) (wr := [((d 8), ob 0 (oX0 d_automaton u1.1 u1.2.1)), ((d_automaton 3), aI cy 6000 automaton_next_), ((d_automaton 4), aI cy 2000 automaton_marks_), ((d_automaton 5), aI cy 2000 automaton_depth_), ((d_automaton 6), aJ cy 2000 automaton_low_), ((d_automaton 7), aJ cy 2000 automaton_high_), ((d_automaton 8), aI cy 2000 automaton_parent_), ((d_automaton 9), aI cy 2000 automaton_lastLetter_), ((d_automaton 10), aI cy 4096 automaton_slots_)]) (isC := [1, 10]) (isR := [0, 2, 3, 4, 5, 6, 7, 8, 9]) (isF := [0, 9, 1, 2, 3, 4, 5, 6, 7, 8, 10]) (rest := []) (As := [.ref (d_automaton 0)]) (n := 1) X Z (c_X2_addTestsTo l D cy q_p1 (d_automaton 0) n_p1_tests d_p1 d_automaton_tests PT tq p1_form_ p1_basics_ p1_table_ p1_tests_ u1.2.2 automaton_tests_members_ u3 hT hc4) gX11_exploreLanguage_X2_addTestsTo rfl (by decide +kernel) ⟨Nat.le_of_ble_eq_true rfl, Nat.le_of_ble_eq_true rfl⟩ ⟨rfl, rfl⟩ ⟨Nat.le_of_ble_eq_true rfl, Nat.le_of_ble_eq_true rfl⟩ (x_rvO X Z 1 rfl rfl) ⟨rfl, rfl, (roC (Or.inr (mem_at 1 rfl)) (roC (Or.inr (mem_at 3 rfl)) (fun q hq => Or.inr (List.mem_append_right _ hq)))), rfl, rfl, by decide⟩ ⟨rfl, rfl⟩ rfl hl.1 rfl (Nat.le_of_ble_eq_true rfl) dX11_exploreLanguage_22 (fun H locs Z => ?_)
  refine lv_aload_n hx hb dX11_exploreLanguage_25 rfl (lv_at hl 0 rfl) ?_
  refine x_getO X Z 0 8 (v := .ref (d 8)) rfl rfl lk_X11_exploreLanguage_X11_automaton dX11_exploreLanguage_26 ?_
  obtain ⟨u5, hc6, h⟩ := ob_some h
  refine x_runVi (RW' := (RW_X11_exploreLanguage cy o q_p1 n_p1_tests n_p1_values d d_p1 d_now d_automaton d_automaton_tests mono PT u1.1 u5.2.1 u3.1 u5.2.2.1 automaton_marks_ u5.2.2.2.1 u5.2.2.2.2.1 u5.2.2.2.2.2.1 u5.2.2.2.2.2.2.1 u5.2.2.2.2.2.2.2.1 u5.2.2.2.2.2.2.2.2 u3.2)) (wr := [((d_automaton 0), ob 1 (oX1 d_automaton_tests u3.1)), ((d_automaton 4), aI cy 2000 automaton_marks_), ((d_automaton_tests 0), aR cy 4 8 u3.2)]) (isC := [0, 2, 4, 5, 6, 7, 8, 9]) (isR := [1, 3, 10]) (isF := [3, 0, 4, 1, 5, 6, 7, 8, 9, 10, 2]) (rest := []) (As := []) (n := 0) X Z (c_X0_explore l D cy (d 8) d_automaton d_automaton_tests PT tq u3.1 u3.2 u1.1 u1.2.1 automaton_next_ automaton_depth_ automaton_low_ automaton_high_ automaton_parent_ automaton_lastLetter_ automaton_slots_ u5 hT hc6) gX11_exploreLanguage_X0_explore rfl (by decide +kernel) ⟨Nat.le_of_ble_eq_true rfl, Nat.le_of_ble_eq_true rfl⟩ ⟨rfl, rfl⟩ ⟨Nat.le_of_ble_eq_true rfl, Nat.le_of_ble_eq_true rfl⟩ (x_rv X Z 0 rfl rfl) ⟨rfl, rfl, (roC (Or.inl (mem_at 0 rfl)) (roC (Or.inl (mem_at 2 rfl)) (fun q hq => Or.inr (List.mem_append_right _ hq)))), rfl, rfl, by decide⟩ ⟨rfl, rfl⟩ rfl hl.1 rfl (Nat.le_of_ble_eq_true rfl) dX11_exploreLanguage_29 (fun H locs Z => ?_)
  refine lv_if_ne (tgt := 37) hx hb dX11_exploreLanguage_32 (by decide) (fun cnd => ?_) (fun cnd => ?_)
  · replace h := ifn h cnd
    refine lv_aload_n hx hb dX11_exploreLanguage_37 rfl (lv_at hl 0 rfl) ?_
    refine x_getO X Z 0 8 (v := .ref (d 8)) rfl rfl lk_X11_exploreLanguage_X11_automaton dX11_exploreLanguage_38 ?_
    refine lv_aload_n hx hb dX11_exploreLanguage_41 rfl (lv_at hl 1 rfl) ?_
    obtain ⟨u7, hc8, h⟩ := ob_some h
    refine x_runVv (RW' := (RW_X11_exploreLanguage cy o q_p1 n_p1_tests n_p1_values d d_p1 d_now d_automaton d_automaton_tests mono PT u1.1 u5.2.1 u3.1 u5.2.2.1 u7 u5.2.2.2.1 u5.2.2.2.2.1 u5.2.2.2.2.2.1 u5.2.2.2.2.2.2.1 u5.2.2.2.2.2.2.2.1 u5.2.2.2.2.2.2.2.2 u3.2)) (wr := [((d 8), ob 0 (oX0 d_automaton u1.1 u5.2.1)), ((d_automaton 0), ob 1 (oX1 d_automaton_tests u3.1)), ((d_automaton 3), aI cy 6000 u5.2.2.1), ((d_automaton 5), aI cy 2000 u5.2.2.2.1), ((d_automaton 6), aJ cy 2000 u5.2.2.2.2.1), ((d_automaton 7), aJ cy 2000 u5.2.2.2.2.2.1), ((d_automaton 8), aI cy 2000 u5.2.2.2.2.2.2.1), ((d_automaton 9), aI cy 2000 u5.2.2.2.2.2.2.2.1), ((d_automaton 10), aI cy 4096 u5.2.2.2.2.2.2.2.2), ((d_automaton_tests 0), aR cy 4 8 u3.2)]) (isC := [3]) (isR := [0, 1, 2, 4, 5, 6, 7, 8, 9, 10]) (isF := [0, 1, 2, 10, 3, 4, 5, 6, 7, 8, 9]) (rest := []) (As := [.ref q_p1]) (n := 1) X Z (c_X0_markMembers l D cy (d 8) q_p1 n_p1_values d_automaton d_p1 d_automaton_tests PT tq u1.1 u5.2.1 p1_form_ p1_basics_ p1_table_ u3.1 u5.2.2.2.2.1 u5.2.2.2.2.2.1 p1_values_ u3.2 automaton_marks_ u7 hT hc8) gX11_exploreLanguage_X0_markMembers rfl (by decide +kernel) ⟨Nat.le_of_ble_eq_true rfl, Nat.le_of_ble_eq_true rfl⟩ ⟨rfl, rfl⟩ ⟨Nat.le_of_ble_eq_true rfl, Nat.le_of_ble_eq_true rfl⟩ (x_rv X Z 0 rfl rfl) ⟨rfl, rfl, (roC (Or.inl (mem_at 0 rfl)) (roC (Or.inr (mem_at 1 rfl)) (roC (Or.inl (mem_at 1 rfl)) (roC (Or.inl (mem_at 4 rfl)) (roC (Or.inl (mem_at 5 rfl)) (roC (Or.inr (mem_at 4 rfl)) (roC (Or.inl (mem_at 9 rfl)) (fun q hq => Or.inr (List.mem_append_right _ hq))))))))), rfl, rfl, by decide⟩ ⟨rfl, rfl⟩ rfl hl.1 rfl (Nat.le_of_ble_eq_true rfl) dX11_exploreLanguage_42 (fun H locs Z => ?_)
    refine lv_iconst (v := (1 : Int32)) hx hb dX11_exploreLanguage_45 (by decide) ?_
    obtain rfl := Option.some.inj h
    exact K H locs ls _ dX11_exploreLanguage_46 (Or.inr rfl) Z
  · replace h := ifp h cnd
    refine lv_iconst (v := (0 : Int32)) hx hb dX11_exploreLanguage_35 (by decide) ?_
    obtain rfl := Option.some.inj h
    exact K H locs ls _ dX11_exploreLanguage_36 (Or.inl rfl) Z
theorem c_X11_exploreLanguage (l : Launch) (D : va_G) (cy : Nat → ClassId) (o : Nat) (q_p1 : Nat) (n_p1_tests : Nat) (n_p1_values : Nat) (d : Nat → Nat) (d_p1 : Nat → Nat) (d_now : Nat → Nat) (d_automaton : Nat → Nat) (d_automaton_tests : Nat → Nat) (mono : Value) (PT : va_W) (tq : Nat → Option TV) (snapshotTaken_ : Int32) (inputLength_ : Int32) (p1_form_ : Int32) (p1_basics_ : Int32) (p1_table_ : Int32) (now_letters_ : Int32) (p1_tests_ : Nat → Option Nat) (p1_values_ : Nat → Int32) (automaton_letters_ : Int32) (automaton_states_ : Int32) (automaton_tests_count_ : Int32) (automaton_next_ : Nat → Int32) (automaton_marks_ : Nat → Int32) (automaton_depth_ : Nat → Int32) (automaton_low_ : Nat → Int64) (automaton_high_ : Nat → Int64) (automaton_parent_ : Nat → Int32) (automaton_lastLetter_ : Nat → Int32) (automaton_slots_ : Nat → Int32) (automaton_tests_members_ : Nat → Option Nat) (out : Int32 × Int32 × Int32 × Int32 × (Nat → Int32) × (Nat → Int32) × (Nat → Int32) × (Nat → Int64) × (Nat → Int64) × (Nat → Int32) × (Nat → Int32) × (Nat → Int32) × (Nat → Option Nat)) (hT : TP cy PT tq) (h : f_X11_exploreLanguage n_p1_tests n_p1_values tq p1_basics_ p1_table_ now_letters_ p1_tests_ p1_values_ automaton_letters_ automaton_states_ automaton_tests_count_ automaton_next_ automaton_marks_ automaton_depth_ automaton_low_ automaton_high_ automaton_parent_ automaton_lastLetter_ automaton_slots_ automaton_tests_members_ = some out) : CtI l yX11_exploreLanguage wsX11_exploreLanguage rm_X11_exploreLanguage D cy [.ref o, .ref q_p1] (RW_X11_exploreLanguage cy o q_p1 n_p1_tests n_p1_values d d_p1 d_now d_automaton d_automaton_tests mono PT automaton_letters_ automaton_states_ automaton_tests_count_ automaton_next_ automaton_marks_ automaton_depth_ automaton_low_ automaton_high_ automaton_parent_ automaton_lastLetter_ automaton_slots_ automaton_tests_members_) (RO_X11_exploreLanguage cy o q_p1 n_p1_tests n_p1_values d d_p1 d_now d_automaton d_automaton_tests mono PT snapshotTaken_ inputLength_ p1_form_ p1_basics_ p1_table_ now_letters_ p1_tests_ p1_values_) (RW_X11_exploreLanguage cy o q_p1 n_p1_tests n_p1_values d d_p1 d_now d_automaton d_automaton_tests mono PT out.2.1 out.2.2.1 out.2.2.2.1 out.2.2.2.2.1 out.2.2.2.2.2.1 out.2.2.2.2.2.2.1 out.2.2.2.2.2.2.2.1 out.2.2.2.2.2.2.2.2.1 out.2.2.2.2.2.2.2.2.2.1 out.2.2.2.2.2.2.2.2.2.2.1 out.2.2.2.2.2.2.2.2.2.2.2.1 out.2.2.2.2.2.2.2.2.2.2.2.2) out.1 :=
  mk_z (by decide) rfl (Nat.le_of_ble_eq_true rfl) (fun p e s m args below meth c A Q X K H locs ls Z hl => wt_X11_exploreLanguage o q_p1 n_p1_tests n_p1_values d d_p1 d_now d_automaton d_automaton_tests mono PT tq snapshotTaken_ inputLength_ p1_form_ p1_basics_ p1_table_ now_letters_ p1_tests_ p1_values_ automaton_letters_ automaton_states_ automaton_tests_count_ automaton_next_ automaton_marks_ automaton_depth_ automaton_low_ automaton_high_ automaton_parent_ automaton_lastLetter_ automaton_slots_ automaton_tests_members_ out hT X h K H locs ls Z hl)
/-! SubwordCounter languageStates (I)I -/
abbrev rm_X11_languageStates : Room := { frames := 6, cells := 0, slots := 0, locals := 143 }
def RW_X11_languageStates (cy : Nat → ClassId) (o : Nat) (q_now_languages_L1 : Nat) (n_now_languages_L1_tests : Nat) (n_now_languages_L1_values : Nat) (d : Nat → Nat) (d_now_languages_L1 : Nat → Nat) (d_now : Nat → Nat) (d_automaton : Nat → Nat) (d_partition : Nat → Nat) (d_automaton_tests : Nat → Nat) (mono : Value) (PT : va_W) (automaton_letters_ : Int32) (automaton_states_ : Int32) (partition_blocks_ : Int32) (partition_touchedCount_ : Int32) (automaton_tests_count_ : Int32) (automaton_next_ : Nat → Int32) (automaton_marks_ : Nat → Int32) (automaton_depth_ : Nat → Int32) (automaton_low_ : Nat → Int64) (automaton_high_ : Nat → Int64) (automaton_parent_ : Nat → Int32) (automaton_lastLetter_ : Nat → Int32) (automaton_slots_ : Nat → Int32) (partition_members_ : Nat → Int32) (partition_place_ : Nat → Int32) (partition_blockOf_ : Nat → Int32) (partition_first_ : Nat → Int32) (partition_size_ : Nat → Int32) (partition_marked_ : Nat → Int32) (partition_touched_ : Nat → Int32) (partition_splitter_ : Nat → Int32) (partition_sourceStart_ : Nat → Int32) (partition_sources_ : Nat → Int32) (automaton_tests_members_ : Nat → Option Nat) : va_W := [((d 8), ob 0 (oX0 d_automaton automaton_letters_ automaton_states_)), ((d 9), ob 4 (oX4 d_partition partition_blocks_ partition_touchedCount_)), ((d_automaton 0), ob 1 (oX1 d_automaton_tests automaton_tests_count_)), ((d_automaton 3), aI cy 6000 automaton_next_), ((d_automaton 4), aI cy 2000 automaton_marks_), ((d_automaton 5), aI cy 2000 automaton_depth_), ((d_automaton 6), aJ cy 2000 automaton_low_), ((d_automaton 7), aJ cy 2000 automaton_high_), ((d_automaton 8), aI cy 2000 automaton_parent_), ((d_automaton 9), aI cy 2000 automaton_lastLetter_), ((d_automaton 10), aI cy 4096 automaton_slots_), ((d_partition 1), aI cy 2000 partition_members_), ((d_partition 2), aI cy 2000 partition_place_), ((d_partition 3), aI cy 2000 partition_blockOf_), ((d_partition 4), aI cy 2000 partition_first_), ((d_partition 5), aI cy 2000 partition_size_), ((d_partition 6), aI cy 2000 partition_marked_), ((d_partition 7), aI cy 2000 partition_touched_), ((d_partition 9), aI cy 2000 partition_splitter_), ((d_partition 11), aI cy 6003 partition_sourceStart_), ((d_partition 12), aI cy 6000 partition_sources_), ((d_automaton_tests 0), aR cy 4 8 automaton_tests_members_)]
def RO_X11_languageStates (cy : Nat → ClassId) (o : Nat) (q_now_languages_L1 : Nat) (n_now_languages_L1_tests : Nat) (n_now_languages_L1_values : Nat) (d : Nat → Nat) (d_now_languages_L1 : Nat → Nat) (d_now : Nat → Nat) (d_automaton : Nat → Nat) (d_partition : Nat → Nat) (d_automaton_tests : Nat → Nat) (mono : Value) (PT : va_W) (snapshotTaken_ : Int32) (inputLength_ : Int32) (now_languages_L1_form_ : Int32) (now_languages_L1_basics_ : Int32) (now_languages_L1_table_ : Int32) (now_letters_ : Int32) (now_languages_L1_tests_ : Nat → Option Nat) (now_languages_L1_values_ : Nat → Int32) (now_languages_ : Nat → Option Nat) : va_W := [(o, ob 10 (oX11 d mono snapshotTaken_ inputLength_)), (q_now_languages_L1, ob 2 (oX2 d_now_languages_L1 now_languages_L1_form_ now_languages_L1_basics_ now_languages_L1_table_)), ((d 0), ob 5 (oX5 d_now now_letters_)), ((d_now_languages_L1 3), aR cy 4 n_now_languages_L1_tests now_languages_L1_tests_), ((d_now_languages_L1 4), aI cy n_now_languages_L1_values now_languages_L1_values_), ((d_now 3), aR cy 2 4 now_languages_)] ++ PT
theorem in_X11_languageStates_X11 : ∀ w ∈ u_ws RX11 TX11 12, w ∈ wsX11_languageStates := fun w h => (List.mem_cons_of_mem _ (List.mem_append_left _ (List.mem_append_left _ (List.mem_append_left _ (List.mem_append_left _ (List.mem_append_left _ (List.mem_append_left _ (List.mem_append_right _ h))))))))
theorem lk_X11_languageStates_X11_now : Lk wsX11_languageStates RX11 10 10 0 := ⟨RX11, TX11, 12, rfl, by decide, in_X11_languageStates_X11, mem_at 1 rfl⟩
theorem in_X11_languageStates_X5 : ∀ w ∈ u_ws RX5 TX5 4, w ∈ wsX11_languageStates := fun w h => (List.mem_cons_of_mem _ (List.mem_append_left _ (List.mem_append_left _ (List.mem_append_left _ (List.mem_append_left _ (List.mem_append_left _ (List.mem_append_right _ h)))))))
theorem lk_X11_languageStates_X5_languages : Lk wsX11_languageStates RX11 232 5 3 := ⟨RX5, TX5, 4, rfl, by decide, in_X11_languageStates_X5, mem_at 2 rfl⟩
theorem lk_X11_languageStates_X11_partition : Lk wsX11_languageStates RX11 61 10 9 := ⟨RX11, TX11, 12, rfl, by decide, in_X11_languageStates_X11, mem_at 3 rfl⟩
theorem lk_X11_languageStates_X11_automaton : Lk wsX11_languageStates RX11 54 10 8 := ⟨RX11, TX11, 12, rfl, by decide, in_X11_languageStates_X11, mem_at 4 rfl⟩
theorem in_X11_languageStates_X4 : ∀ w ∈ u_ws RX4 TX4 13, w ∈ wsX11_languageStates := fun w h => (List.mem_cons_of_mem _ (List.mem_append_left _ (List.mem_append_left _ (List.mem_append_left _ (List.mem_append_left _ (List.mem_append_right _ h))))))
theorem lk_X11_languageStates_X4_blocks : Lk wsX11_languageStates RX11 214 4 0 := ⟨RX4, TX4, 13, rfl, by decide, in_X11_languageStates_X4, mem_at 5 rfl⟩
def f_X11_languageStates (x1 : Int32) (n_now_languages_L1_tests : Nat) (n_now_languages_L1_values : Nat) (q_now_languages_L1 : Nat) (tq : Nat → Option TV) (now_languages_L1_basics_ : Int32) (now_languages_L1_table_ : Int32) (now_letters_ : Int32) (now_languages_L1_tests_ : Nat → Option Nat) (now_languages_L1_values_ : Nat → Int32) (now_languages_ : Nat → Option Nat) (automaton_letters_ : Int32) (automaton_states_ : Int32) (partition_blocks_ : Int32) (partition_touchedCount_ : Int32) (automaton_tests_count_ : Int32) (automaton_next_ : Nat → Int32) (automaton_marks_ : Nat → Int32) (automaton_depth_ : Nat → Int32) (automaton_low_ : Nat → Int64) (automaton_high_ : Nat → Int64) (automaton_parent_ : Nat → Int32) (automaton_lastLetter_ : Nat → Int32) (automaton_slots_ : Nat → Int32) (partition_members_ : Nat → Int32) (partition_place_ : Nat → Int32) (partition_blockOf_ : Nat → Int32) (partition_first_ : Nat → Int32) (partition_size_ : Nat → Int32) (partition_marked_ : Nat → Int32) (partition_touched_ : Nat → Int32) (partition_splitter_ : Nat → Int32) (partition_sourceStart_ : Nat → Int32) (partition_sources_ : Nat → Int32) (automaton_tests_members_ : Nat → Option Nat) : Option (Int32 × Int32 × Int32 × Int32 × Int32 × Int32 × (Nat → Int32) × (Nat → Int32) × (Nat → Int32) × (Nat → Int64) × (Nat → Int64) × (Nat → Int32) × (Nat → Int32) × (Nat → Int32) × (Nat → Int32) × (Nat → Int32) × (Nat → Int32) × (Nat → Int32) × (Nat → Int32) × (Nat → Int32) × (Nat → Int32) × (Nat → Int32) × (Nat → Int32) × (Nat → Int32) × (Nat → Option Nat)) :=
  (f_X11_isLanguage x1).bind (fun u1 =>
  if u1 = 0 then
  (some ((-1 : Int32), automaton_letters_, automaton_states_, partition_blocks_, partition_touchedCount_, automaton_tests_count_, automaton_next_, automaton_marks_, automaton_depth_, automaton_low_, automaton_high_, automaton_parent_, automaton_lastLetter_, automaton_slots_, partition_members_, partition_place_, partition_blockOf_, partition_first_, partition_size_, partition_marked_, partition_touched_, partition_splitter_, partition_sourceStart_, partition_sources_, automaton_tests_members_))
  else
  (ldA now_languages_ 4 x1 (fun r4 =>
  nlA r4 (
  some ((-5 : Int32), automaton_letters_, automaton_states_, partition_blocks_, partition_touchedCount_, automaton_tests_count_, automaton_next_, automaton_marks_, automaton_depth_, automaton_low_, automaton_high_, automaton_parent_, automaton_lastLetter_, automaton_slots_, partition_members_, partition_place_, partition_blockOf_, partition_first_, partition_size_, partition_marked_, partition_touched_, partition_splitter_, partition_sourceStart_, partition_sources_, automaton_tests_members_)) (
  asR r4 q_now_languages_L1 (
  (f_X11_exploreLanguage n_now_languages_L1_tests n_now_languages_L1_values tq now_languages_L1_basics_ now_languages_L1_table_ now_letters_ now_languages_L1_tests_ now_languages_L1_values_ automaton_letters_ automaton_states_ automaton_tests_count_ automaton_next_ automaton_marks_ automaton_depth_ automaton_low_ automaton_high_ automaton_parent_ automaton_lastLetter_ automaton_slots_ automaton_tests_members_).bind (fun u9 =>
  if u9.1 = 0 then
  (some ((-4 : Int32), u9.2.1, u9.2.2.1, partition_blocks_, partition_touchedCount_, u9.2.2.2.1, u9.2.2.2.2.1, u9.2.2.2.2.2.1, u9.2.2.2.2.2.2.1, u9.2.2.2.2.2.2.2.1, u9.2.2.2.2.2.2.2.2.1, u9.2.2.2.2.2.2.2.2.2.1, u9.2.2.2.2.2.2.2.2.2.2.1, u9.2.2.2.2.2.2.2.2.2.2.2.1, partition_members_, partition_place_, partition_blockOf_, partition_first_, partition_size_, partition_marked_, partition_touched_, partition_splitter_, partition_sourceStart_, partition_sources_, u9.2.2.2.2.2.2.2.2.2.2.2.2))
  else
  ((f_X4_refine u9.2.1 u9.2.2.1 u9.2.2.2.2.1 u9.2.2.2.2.2.1 partition_blocks_ partition_touchedCount_ partition_members_ partition_place_ partition_blockOf_ partition_first_ partition_size_ partition_marked_ partition_touched_ partition_splitter_ partition_sourceStart_ partition_sources_).bind (fun u11 =>
  some (u11.1, u9.2.1, u9.2.2.1, u11.1, u11.2.1, u9.2.2.2.1, u9.2.2.2.2.1, u9.2.2.2.2.2.1, u9.2.2.2.2.2.2.1, u9.2.2.2.2.2.2.2.1, u9.2.2.2.2.2.2.2.2.1, u9.2.2.2.2.2.2.2.2.2.1, u9.2.2.2.2.2.2.2.2.2.2.1, u9.2.2.2.2.2.2.2.2.2.2.2.1, u11.2.2.1, u11.2.2.2.1, u11.2.2.2.2.1, u11.2.2.2.2.2.1, u11.2.2.2.2.2.2.1, u11.2.2.2.2.2.2.2.1, u11.2.2.2.2.2.2.2.2.1, u11.2.2.2.2.2.2.2.2.2.1, u11.2.2.2.2.2.2.2.2.2.2.1, u11.2.2.2.2.2.2.2.2.2.2.2, u9.2.2.2.2.2.2.2.2.2.2.2.2)))))))))
set_option maxHeartbeats 4000000 in
set_option maxRecDepth 100000 in
theorem wt_X11_languageStates {p : Program} {l : Launch} {e : Env} {s : State} {m : MethodId} {args : Array Value} {below : List Frame} {meth : Method} {c : Code} {A : Nat → Prop} {Q : State → Prop} {D : va_G} {cy : Nat → ClassId} (o : Nat) (q_now_languages_L1 : Nat) (n_now_languages_L1_tests : Nat) (n_now_languages_L1_values : Nat) (d : Nat → Nat) (d_now_languages_L1 : Nat → Nat) (d_now : Nat → Nat) (d_automaton : Nat → Nat) (d_partition : Nat → Nat) (d_automaton_tests : Nat → Nat) (mono : Value) (PT : va_W) (tq : Nat → Option TV) (snapshotTaken_ : Int32) (inputLength_ : Int32) (now_languages_L1_form_ : Int32) (now_languages_L1_basics_ : Int32) (now_languages_L1_table_ : Int32) (now_letters_ : Int32) (now_languages_L1_tests_ : Nat → Option Nat) (now_languages_L1_values_ : Nat → Int32) (now_languages_ : Nat → Option Nat) (automaton_letters_ : Int32) (automaton_states_ : Int32) (partition_blocks_ : Int32) (partition_touchedCount_ : Int32) (automaton_tests_count_ : Int32) (automaton_next_ : Nat → Int32) (automaton_marks_ : Nat → Int32) (automaton_depth_ : Nat → Int32) (automaton_low_ : Nat → Int64) (automaton_high_ : Nat → Int64) (automaton_parent_ : Nat → Int32) (automaton_lastLetter_ : Nat → Int32) (automaton_slots_ : Nat → Int32) (partition_members_ : Nat → Int32) (partition_place_ : Nat → Int32) (partition_blockOf_ : Nat → Int32) (partition_first_ : Nat → Int32) (partition_size_ : Nat → Int32) (partition_marked_ : Nat → Int32) (partition_touched_ : Nat → Int32) (partition_splitter_ : Nat → Int32) (partition_sourceStart_ : Nat → Int32) (partition_sources_ : Nat → Int32) (automaton_tests_members_ : Nat → Option Nat) (x1 : Int32) (out : Int32 × Int32 × Int32 × Int32 × Int32 × Int32 × (Nat → Int32) × (Nat → Int32) × (Nat → Int32) × (Nat → Int64) × (Nat → Int64) × (Nat → Int32) × (Nat → Int32) × (Nat → Int32) × (Nat → Int32) × (Nat → Int32) × (Nat → Int32) × (Nat → Int32) × (Nat → Int32) × (Nat → Int32) × (Nat → Int32) × (Nat → Int32) × (Nat → Int32) × (Nat → Int32) × (Nat → Option Nat)) (hT : TP cy PT tq) (X : Cx p m c cX11_languageStates 3 s args wsX11_languageStates RX11 A D cy (RO_X11_languageStates cy o q_now_languages_L1 n_now_languages_L1_tests n_now_languages_L1_values d d_now_languages_L1 d_now d_automaton d_partition d_automaton_tests mono PT snapshotTaken_ inputLength_ now_languages_L1_form_ now_languages_L1_basics_ now_languages_L1_table_ now_letters_ now_languages_L1_tests_ now_languages_L1_values_ now_languages_)) (h : f_X11_languageStates x1 n_now_languages_L1_tests n_now_languages_L1_values q_now_languages_L1 tq now_languages_L1_basics_ now_languages_L1_table_ now_letters_ now_languages_L1_tests_ now_languages_L1_values_ now_languages_ automaton_letters_ automaton_states_ partition_blocks_ partition_touchedCount_ automaton_tests_count_ automaton_next_ automaton_marks_ automaton_depth_ automaton_low_ automaton_high_ automaton_parent_ automaton_lastLetter_ automaton_slots_ partition_members_ partition_place_ partition_blockOf_ partition_first_ partition_size_ partition_marked_ partition_touched_ partition_splitter_ partition_sourceStart_ partition_sources_ automaton_tests_members_ = some out) (K : ∀ (H : Heap) (locs : List Loc) (ls : Array Slot) (pc : Nat), decode cX11_languageStates pc = .ok (.ireturn, 1) → St A D s (RW_X11_languageStates cy o q_now_languages_L1 n_now_languages_L1_tests n_now_languages_L1_values d d_now_languages_L1 d_now d_automaton d_partition d_automaton_tests mono PT out.2.1 out.2.2.1 out.2.2.2.1 out.2.2.2.2.1 out.2.2.2.2.2.1 out.2.2.2.2.2.2.1 out.2.2.2.2.2.2.2.1 out.2.2.2.2.2.2.2.2.1 out.2.2.2.2.2.2.2.2.2.1 out.2.2.2.2.2.2.2.2.2.2.1 out.2.2.2.2.2.2.2.2.2.2.2.1 out.2.2.2.2.2.2.2.2.2.2.2.2.1 out.2.2.2.2.2.2.2.2.2.2.2.2.2.1 out.2.2.2.2.2.2.2.2.2.2.2.2.2.2.1 out.2.2.2.2.2.2.2.2.2.2.2.2.2.2.2.1 out.2.2.2.2.2.2.2.2.2.2.2.2.2.2.2.2.1 out.2.2.2.2.2.2.2.2.2.2.2.2.2.2.2.2.2.1 out.2.2.2.2.2.2.2.2.2.2.2.2.2.2.2.2.2.2.1 out.2.2.2.2.2.2.2.2.2.2.2.2.2.2.2.2.2.2.2.1 out.2.2.2.2.2.2.2.2.2.2.2.2.2.2.2.2.2.2.2.2.1 out.2.2.2.2.2.2.2.2.2.2.2.2.2.2.2.2.2.2.2.2.2.1 out.2.2.2.2.2.2.2.2.2.2.2.2.2.2.2.2.2.2.2.2.2.2.1 out.2.2.2.2.2.2.2.2.2.2.2.2.2.2.2.2.2.2.2.2.2.2.2.1 out.2.2.2.2.2.2.2.2.2.2.2.2.2.2.2.2.2.2.2.2.2.2.2.2) H locs → W p l e rm_X11_languageStates s m args below meth c H locs 0 0 Q (F0 m pc ls [.int out.1])) : ∀ (H : Heap) (locs : List Loc) (ls : Array Slot), St A D s (RW_X11_languageStates cy o q_now_languages_L1 n_now_languages_L1_tests n_now_languages_L1_values d d_now_languages_L1 d_now d_automaton d_partition d_automaton_tests mono PT automaton_letters_ automaton_states_ partition_blocks_ partition_touchedCount_ automaton_tests_count_ automaton_next_ automaton_marks_ automaton_depth_ automaton_low_ automaton_high_ automaton_parent_ automaton_lastLetter_ automaton_slots_ partition_members_ partition_place_ partition_blockOf_ partition_first_ partition_size_ partition_marked_ partition_touched_ partition_splitter_ partition_sourceStart_ partition_sources_ automaton_tests_members_) H locs → lv_has ls 3 [(0, .ref o), (1, .int x1)] → W p l e rm_X11_languageStates s m args below meth c H locs 0 0 Q (F0 m 0 ls []) := by
  intro H locs ls Z hl
  have hx := X.1.1
  have hb := X.1.2.1
  unfold f_X11_languageStates at h
  refine lv_iload_n hx hb dX11_languageStates_0 rfl (lv_at hl 1 rfl) ?_
  obtain ⟨u1, hc2, h⟩ := ob_some h
  refine x_runSi (RW' := (RW_X11_languageStates cy o q_now_languages_L1 n_now_languages_L1_tests n_now_languages_L1_values d d_now_languages_L1 d_now d_automaton d_partition d_automaton_tests mono PT automaton_letters_ automaton_states_ partition_blocks_ partition_touchedCount_ automaton_tests_count_ automaton_next_ automaton_marks_ automaton_depth_ automaton_low_ automaton_high_ automaton_parent_ automaton_lastLetter_ automaton_slots_ partition_members_ partition_place_ partition_blockOf_ partition_first_ partition_size_ partition_marked_ partition_touched_ partition_splitter_ partition_sourceStart_ partition_sources_ automaton_tests_members_)) (wr := [((d 8), ob 0 (oX0 d_automaton automaton_letters_ automaton_states_)), ((d 9), ob 4 (oX4 d_partition partition_blocks_ partition_touchedCount_)), ((d_automaton 0), ob 1 (oX1 d_automaton_tests automaton_tests_count_)), ((d_automaton 3), aI cy 6000 automaton_next_), ((d_automaton 4), aI cy 2000 automaton_marks_), ((d_automaton 5), aI cy 2000 automaton_depth_), ((d_automaton 6), aJ cy 2000 automaton_low_), ((d_automaton 7), aJ cy 2000 automaton_high_), ((d_automaton 8), aI cy 2000 automaton_parent_), ((d_automaton 9), aI cy 2000 automaton_lastLetter_), ((d_automaton 10), aI cy 4096 automaton_slots_), ((d_partition 1), aI cy 2000 partition_members_), ((d_partition 2), aI cy 2000 partition_place_), ((d_partition 3), aI cy 2000 partition_blockOf_), ((d_partition 4), aI cy 2000 partition_first_), ((d_partition 5), aI cy 2000 partition_size_), ((d_partition 6), aI cy 2000 partition_marked_), ((d_partition 7), aI cy 2000 partition_touched_), ((d_partition 9), aI cy 2000 partition_splitter_), ((d_partition 11), aI cy 6003 partition_sourceStart_), ((d_partition 12), aI cy 6000 partition_sources_), ((d_automaton_tests 0), aR cy 4 8 automaton_tests_members_)]) (isC := []) (isR := [0, 1, 2, 3, 4, 5, 6, 7, 8, 9, 10, 11, 12, 13, 14, 15, 16, 17, 18, 19, 20, 21]) (isF := [0, 1, 2, 3, 4, 5, 6, 7, 8, 9, 10, 11, 12, 13, 14, 15, 16, 17, 18, 19, 20, 21]) (rest := []) (As := [.int x1]) (n := 1) X Z (c_X11_isLanguage l D cy x1 u1 hc2) gX11_languageStates_X11_isLanguage rfl (by decide +kernel) ⟨Nat.le_of_ble_eq_true rfl, Nat.le_of_ble_eq_true rfl⟩ ⟨rfl, rfl⟩ ⟨Nat.le_of_ble_eq_true rfl, Nat.le_of_ble_eq_true rfl⟩ ⟨rfl, rfl, roN, rfl, rfl, by decide⟩ ⟨rfl, rfl⟩ rfl hl.1 rfl (Nat.le_of_ble_eq_true rfl) dX11_languageStates_1 (fun H locs Z => ?_)
  refine lv_if_ne (tgt := 9) hx hb dX11_languageStates_4 (by decide) (fun cnd => ?_) (fun cnd => ?_)
  · replace h := ifn h cnd
    refine lv_aload_n hx hb dX11_languageStates_9 rfl (lv_at hl 0 rfl) ?_
    refine x_getO X Z 0 0 (v := .ref (d 0)) rfl rfl lk_X11_languageStates_X11_now dX11_languageStates_10 ?_
    refine x_getO X Z 2 3 (v := .ref (d_now 3)) rfl rfl lk_X11_languageStates_X5_languages dX11_languageStates_13 ?_
    refine lv_iload_n hx hb dX11_languageStates_16 rfl (lv_at hl 1 rfl) ?_
    obtain ⟨hin3, r4, hv5, h⟩ := ld_b h
    refine x_raldqO X Z 5 2 rfl rfl hin3 hv5 dX11_languageStates_17 (fun hr6 => ?_) (fun b7 hr6 => ?_)
    · replace h := nl_n h hr6
      refine lv_astore_nN (lv' := [(2, .null), (0, .ref o), (1, .int x1)]) hx hb dX11_languageStates_18 rfl hl (by decide) rfl (fun ls hl => ?_)
      refine lv_aload_nN hx hb dX11_languageStates_19 rfl (lv_at hl 0 rfl) ?_
      refine lv_ifnonnullN hx hb dX11_languageStates_20 ?_
      refine lv_bipush (v := (-5 : Int32)) hx hb dX11_languageStates_23 (by decide) ?_
      obtain rfl := Option.some.inj h
      exact K H locs ls _ dX11_languageStates_25 Z
    · replace h := nl_s h hr6
      obtain ⟨ha8, h⟩ := as_b h
      obtain rfl : q_now_languages_L1 = b7 := Option.some.inj (ha8.symm.trans hr6)
      refine lv_astore_n (lv' := [(2, .ref q_now_languages_L1), (0, .ref o), (1, .int x1)]) hx hb dX11_languageStates_18 rfl hl (by decide) rfl (fun ls hl => ?_)
      refine lv_aload_n hx hb dX11_languageStates_19 rfl (lv_at hl 0 rfl) ?_
      refine lv_ifnonnull (tgt := 26) hx hb dX11_languageStates_20 (by decide) ?_
      refine lv_aload_n hx hb dX11_languageStates_26 rfl (lv_at hl 1 rfl) ?_
      refine lv_aload_n hx hb dX11_languageStates_27 rfl (lv_at hl 0 rfl) ?_
      obtain ⟨u9, hc10, h⟩ := ob_some h
      refine x_runVi (RW' := (RW_X11_languageStates cy o q_now_languages_L1 n_now_languages_L1_tests n_now_languages_L1_values d d_now_languages_L1 d_now d_automaton d_partition d_automaton_tests mono PT u9.2.1 u9.2.2.1 partition_blocks_ partition_touchedCount_ u9.2.2.2.1 u9.2.2.2.2.1 u9.2.2.2.2.2.1 u9.2.2.2.2.2.2.1 u9.2.2.2.2.2.2.2.1 u9.2.2.2.2.2.2.2.2.1 u9.2.2.2.2.2.2.2.2.2.1 u9.2.2.2.2.2.2.2.2.2.2.1 u9.2.2.2.2.2.2.2.2.2.2.2.1 partition_members_ partition_place_ partition_blockOf_ partition_first_ partition_size_ partition_marked_ partition_touched_ partition_splitter_ partition_sourceStart_ partition_sources_ u9.2.2.2.2.2.2.2.2.2.2.2.2)) (wr := [((d 9), ob 4 (oX4 d_partition partition_blocks_ partition_touchedCount_)), ((d_partition 1), aI cy 2000 partition_members_), ((d_partition 2), aI cy 2000 partition_place_), ((d_partition 3), aI cy 2000 partition_blockOf_), ((d_partition 4), aI cy 2000 partition_first_), ((d_partition 5), aI cy 2000 partition_size_), ((d_partition 6), aI cy 2000 partition_marked_), ((d_partition 7), aI cy 2000 partition_touched_), ((d_partition 9), aI cy 2000 partition_splitter_), ((d_partition 11), aI cy 6003 partition_sourceStart_), ((d_partition 12), aI cy 6000 partition_sources_)]) (isC := [0, 2, 3, 4, 5, 6, 7, 8, 9, 10, 21]) (isR := [1, 11, 12, 13, 14, 15, 16, 17, 18, 19, 20]) (isF := [11, 0, 12, 13, 14, 15, 16, 17, 18, 19, 20, 1, 2, 3, 4, 5, 6, 7, 8, 9, 10, 21]) (rest := []) (As := [.ref q_now_languages_L1]) (n := 1) X Z (c_X11_exploreLanguage l D cy o q_now_languages_L1 n_now_languages_L1_tests n_now_languages_L1_values d d_now_languages_L1 d_now d_automaton d_automaton_tests mono PT tq snapshotTaken_ inputLength_ now_languages_L1_form_ now_languages_L1_basics_ now_languages_L1_table_ now_letters_ now_languages_L1_tests_ now_languages_L1_values_ automaton_letters_ automaton_states_ automaton_tests_count_ automaton_next_ automaton_marks_ automaton_depth_ automaton_low_ automaton_high_ automaton_parent_ automaton_lastLetter_ automaton_slots_ automaton_tests_members_ u9 hT hc10) gX11_languageStates_X11_exploreLanguage rfl (by decide +kernel) ⟨Nat.le_of_ble_eq_true rfl, Nat.le_of_ble_eq_true rfl⟩ ⟨rfl, rfl⟩ ⟨Nat.le_of_ble_eq_true rfl, Nat.le_of_ble_eq_true rfl⟩ (x_rvO X Z 0 rfl rfl) ⟨rfl, rfl, (roC (Or.inr (mem_at 0 rfl)) (roC (Or.inr (mem_at 1 rfl)) (roC (Or.inr (mem_at 2 rfl)) (roC (Or.inr (mem_at 3 rfl)) (roC (Or.inr (mem_at 4 rfl)) (fun q hq => Or.inr (List.mem_append_right _ hq))))))), rfl, rfl, by decide⟩ ⟨rfl, rfl⟩ rfl hl.1 rfl (Nat.le_of_ble_eq_true rfl) dX11_languageStates_28 (fun H locs Z => ?_)
      refine lv_if_ne (tgt := 37) hx hb dX11_languageStates_31 (by decide) (fun cnd => ?_) (fun cnd => ?_)
      · replace h := ifn h cnd
        refine lv_aload_n hx hb dX11_languageStates_37 rfl (lv_at hl 1 rfl) ?_
        refine x_getO X Z 0 9 (v := .ref (d 9)) rfl rfl lk_X11_languageStates_X11_partition dX11_languageStates_38 ?_
        refine lv_aload_n hx hb dX11_languageStates_41 rfl (lv_at hl 1 rfl) ?_
        refine x_getO X Z 0 8 (v := .ref (d 8)) rfl rfl lk_X11_languageStates_X11_automaton dX11_languageStates_42 ?_
        obtain ⟨u11, hc12, h⟩ := ob_some h
        refine x_runVv (RW' := (RW_X11_languageStates cy o q_now_languages_L1 n_now_languages_L1_tests n_now_languages_L1_values d d_now_languages_L1 d_now d_automaton d_partition d_automaton_tests mono PT u9.2.1 u9.2.2.1 u11.1 u11.2.1 u9.2.2.2.1 u9.2.2.2.2.1 u9.2.2.2.2.2.1 u9.2.2.2.2.2.2.1 u9.2.2.2.2.2.2.2.1 u9.2.2.2.2.2.2.2.2.1 u9.2.2.2.2.2.2.2.2.2.1 u9.2.2.2.2.2.2.2.2.2.2.1 u9.2.2.2.2.2.2.2.2.2.2.2.1 u11.2.2.1 u11.2.2.2.1 u11.2.2.2.2.1 u11.2.2.2.2.2.1 u11.2.2.2.2.2.2.1 u11.2.2.2.2.2.2.2.1 u11.2.2.2.2.2.2.2.2.1 u11.2.2.2.2.2.2.2.2.2.1 u11.2.2.2.2.2.2.2.2.2.2.1 u11.2.2.2.2.2.2.2.2.2.2.2 u9.2.2.2.2.2.2.2.2.2.2.2.2)) (wr := [((d 8), ob 0 (oX0 d_automaton u9.2.1 u9.2.2.1)), ((d_automaton 0), ob 1 (oX1 d_automaton_tests u9.2.2.2.1)), ((d_automaton 3), aI cy 6000 u9.2.2.2.2.1), ((d_automaton 4), aI cy 2000 u9.2.2.2.2.2.1), ((d_automaton 5), aI cy 2000 u9.2.2.2.2.2.2.1), ((d_automaton 6), aJ cy 2000 u9.2.2.2.2.2.2.2.1), ((d_automaton 7), aJ cy 2000 u9.2.2.2.2.2.2.2.2.1), ((d_automaton 8), aI cy 2000 u9.2.2.2.2.2.2.2.2.2.1), ((d_automaton 9), aI cy 2000 u9.2.2.2.2.2.2.2.2.2.2.1), ((d_automaton 10), aI cy 4096 u9.2.2.2.2.2.2.2.2.2.2.2.1), ((d_automaton_tests 0), aR cy 4 8 u9.2.2.2.2.2.2.2.2.2.2.2.2)]) (isC := [1, 11, 12, 13, 14, 15, 16, 17, 18, 19, 20]) (isR := [0, 2, 3, 4, 5, 6, 7, 8, 9, 10, 21]) (isF := [0, 11, 1, 2, 3, 4, 5, 6, 7, 8, 9, 12, 13, 14, 15, 16, 17, 18, 19, 20, 21, 10]) (rest := []) (As := [.ref (d 8)]) (n := 1) X Z (c_X4_refine l D cy (d 9) (d 8) d_partition d_automaton u9.2.1 u9.2.2.1 u9.2.2.2.2.1 u9.2.2.2.2.2.1 partition_blocks_ partition_touchedCount_ partition_members_ partition_place_ partition_blockOf_ partition_first_ partition_size_ partition_marked_ partition_touched_ partition_splitter_ partition_sourceStart_ partition_sources_ u11 hc12) gX11_languageStates_X4_refine rfl (by decide +kernel) ⟨Nat.le_of_ble_eq_true rfl, Nat.le_of_ble_eq_true rfl⟩ ⟨rfl, rfl⟩ ⟨Nat.le_of_ble_eq_true rfl, Nat.le_of_ble_eq_true rfl⟩ (x_rv X Z 1 rfl rfl) ⟨rfl, rfl, (roC (Or.inl (mem_at 0 rfl)) (roC (Or.inl (mem_at 2 rfl)) (roC (Or.inl (mem_at 3 rfl)) roN))), rfl, rfl, by decide⟩ ⟨rfl, rfl⟩ rfl hl.1 rfl (Nat.le_of_ble_eq_true rfl) dX11_languageStates_45 (fun H locs Z => ?_)
        refine lv_aload_n hx hb dX11_languageStates_48 rfl (lv_at hl 1 rfl) ?_
        refine x_getO X Z 0 9 (v := .ref (d 9)) rfl rfl lk_X11_languageStates_X11_partition dX11_languageStates_49 ?_
        refine x_get X Z 1 0 (v := .int u11.1) rfl rfl lk_X11_languageStates_X4_blocks dX11_languageStates_52 ?_
        obtain rfl := Option.some.inj h
        exact K H locs ls _ dX11_languageStates_55 Z
      · replace h := ifp h cnd
        refine lv_bipush (v := (-4 : Int32)) hx hb dX11_languageStates_34 (by decide) ?_
        obtain rfl := Option.some.inj h
        exact K H locs ls _ dX11_languageStates_36 Z
  · replace h := ifp h cnd
    refine lv_iconst (v := (-1 : Int32)) hx hb dX11_languageStates_7 (by decide) ?_
    obtain rfl := Option.some.inj h
    exact K H locs ls _ dX11_languageStates_8 Z
theorem c_X11_languageStates (l : Launch) (D : va_G) (cy : Nat → ClassId) (o : Nat) (q_now_languages_L1 : Nat) (n_now_languages_L1_tests : Nat) (n_now_languages_L1_values : Nat) (d : Nat → Nat) (d_now_languages_L1 : Nat → Nat) (d_now : Nat → Nat) (d_automaton : Nat → Nat) (d_partition : Nat → Nat) (d_automaton_tests : Nat → Nat) (mono : Value) (PT : va_W) (tq : Nat → Option TV) (snapshotTaken_ : Int32) (inputLength_ : Int32) (now_languages_L1_form_ : Int32) (now_languages_L1_basics_ : Int32) (now_languages_L1_table_ : Int32) (now_letters_ : Int32) (now_languages_L1_tests_ : Nat → Option Nat) (now_languages_L1_values_ : Nat → Int32) (now_languages_ : Nat → Option Nat) (automaton_letters_ : Int32) (automaton_states_ : Int32) (partition_blocks_ : Int32) (partition_touchedCount_ : Int32) (automaton_tests_count_ : Int32) (automaton_next_ : Nat → Int32) (automaton_marks_ : Nat → Int32) (automaton_depth_ : Nat → Int32) (automaton_low_ : Nat → Int64) (automaton_high_ : Nat → Int64) (automaton_parent_ : Nat → Int32) (automaton_lastLetter_ : Nat → Int32) (automaton_slots_ : Nat → Int32) (partition_members_ : Nat → Int32) (partition_place_ : Nat → Int32) (partition_blockOf_ : Nat → Int32) (partition_first_ : Nat → Int32) (partition_size_ : Nat → Int32) (partition_marked_ : Nat → Int32) (partition_touched_ : Nat → Int32) (partition_splitter_ : Nat → Int32) (partition_sourceStart_ : Nat → Int32) (partition_sources_ : Nat → Int32) (automaton_tests_members_ : Nat → Option Nat) (x1 : Int32) (out : Int32 × Int32 × Int32 × Int32 × Int32 × Int32 × (Nat → Int32) × (Nat → Int32) × (Nat → Int32) × (Nat → Int64) × (Nat → Int64) × (Nat → Int32) × (Nat → Int32) × (Nat → Int32) × (Nat → Int32) × (Nat → Int32) × (Nat → Int32) × (Nat → Int32) × (Nat → Int32) × (Nat → Int32) × (Nat → Int32) × (Nat → Int32) × (Nat → Int32) × (Nat → Int32) × (Nat → Option Nat)) (hT : TP cy PT tq) (h : f_X11_languageStates x1 n_now_languages_L1_tests n_now_languages_L1_values q_now_languages_L1 tq now_languages_L1_basics_ now_languages_L1_table_ now_letters_ now_languages_L1_tests_ now_languages_L1_values_ now_languages_ automaton_letters_ automaton_states_ partition_blocks_ partition_touchedCount_ automaton_tests_count_ automaton_next_ automaton_marks_ automaton_depth_ automaton_low_ automaton_high_ automaton_parent_ automaton_lastLetter_ automaton_slots_ partition_members_ partition_place_ partition_blockOf_ partition_first_ partition_size_ partition_marked_ partition_touched_ partition_splitter_ partition_sourceStart_ partition_sources_ automaton_tests_members_ = some out) : CtI l yX11_languageStates wsX11_languageStates rm_X11_languageStates D cy [.ref o, .int x1] (RW_X11_languageStates cy o q_now_languages_L1 n_now_languages_L1_tests n_now_languages_L1_values d d_now_languages_L1 d_now d_automaton d_partition d_automaton_tests mono PT automaton_letters_ automaton_states_ partition_blocks_ partition_touchedCount_ automaton_tests_count_ automaton_next_ automaton_marks_ automaton_depth_ automaton_low_ automaton_high_ automaton_parent_ automaton_lastLetter_ automaton_slots_ partition_members_ partition_place_ partition_blockOf_ partition_first_ partition_size_ partition_marked_ partition_touched_ partition_splitter_ partition_sourceStart_ partition_sources_ automaton_tests_members_) (RO_X11_languageStates cy o q_now_languages_L1 n_now_languages_L1_tests n_now_languages_L1_values d d_now_languages_L1 d_now d_automaton d_partition d_automaton_tests mono PT snapshotTaken_ inputLength_ now_languages_L1_form_ now_languages_L1_basics_ now_languages_L1_table_ now_letters_ now_languages_L1_tests_ now_languages_L1_values_ now_languages_) (RW_X11_languageStates cy o q_now_languages_L1 n_now_languages_L1_tests n_now_languages_L1_values d d_now_languages_L1 d_now d_automaton d_partition d_automaton_tests mono PT out.2.1 out.2.2.1 out.2.2.2.1 out.2.2.2.2.1 out.2.2.2.2.2.1 out.2.2.2.2.2.2.1 out.2.2.2.2.2.2.2.1 out.2.2.2.2.2.2.2.2.1 out.2.2.2.2.2.2.2.2.2.1 out.2.2.2.2.2.2.2.2.2.2.1 out.2.2.2.2.2.2.2.2.2.2.2.1 out.2.2.2.2.2.2.2.2.2.2.2.2.1 out.2.2.2.2.2.2.2.2.2.2.2.2.2.1 out.2.2.2.2.2.2.2.2.2.2.2.2.2.2.1 out.2.2.2.2.2.2.2.2.2.2.2.2.2.2.2.1 out.2.2.2.2.2.2.2.2.2.2.2.2.2.2.2.2.1 out.2.2.2.2.2.2.2.2.2.2.2.2.2.2.2.2.2.1 out.2.2.2.2.2.2.2.2.2.2.2.2.2.2.2.2.2.2.1 out.2.2.2.2.2.2.2.2.2.2.2.2.2.2.2.2.2.2.2.1 out.2.2.2.2.2.2.2.2.2.2.2.2.2.2.2.2.2.2.2.2.1 out.2.2.2.2.2.2.2.2.2.2.2.2.2.2.2.2.2.2.2.2.2.1 out.2.2.2.2.2.2.2.2.2.2.2.2.2.2.2.2.2.2.2.2.2.2.1 out.2.2.2.2.2.2.2.2.2.2.2.2.2.2.2.2.2.2.2.2.2.2.2.1 out.2.2.2.2.2.2.2.2.2.2.2.2.2.2.2.2.2.2.2.2.2.2.2.2) out.1 :=
  mk_i (ty := .int) (by decide) rfl rfl (Nat.le_of_ble_eq_true rfl) (fun p e s m args below meth c A Q X K H locs ls Z hl => wt_X11_languageStates o q_now_languages_L1 n_now_languages_L1_tests n_now_languages_L1_values d d_now_languages_L1 d_now d_automaton d_partition d_automaton_tests mono PT tq snapshotTaken_ inputLength_ now_languages_L1_form_ now_languages_L1_basics_ now_languages_L1_table_ now_letters_ now_languages_L1_tests_ now_languages_L1_values_ now_languages_ automaton_letters_ automaton_states_ partition_blocks_ partition_touchedCount_ automaton_tests_count_ automaton_next_ automaton_marks_ automaton_depth_ automaton_low_ automaton_high_ automaton_parent_ automaton_lastLetter_ automaton_slots_ partition_members_ partition_place_ partition_blockOf_ partition_first_ partition_size_ partition_marked_ partition_touched_ partition_splitter_ partition_sourceStart_ partition_sources_ automaton_tests_members_ x1 out hT X h K H locs ls Z hl)
/-! SubwordCounter$Automaton clearPaths ([J)V -/
abbrev rm_X0_clearPaths : Room := { frames := 0, cells := 0, slots := 0, locals := 0 }
def RW_X0_clearPaths (cy : Nat → ClassId) (o : Nat) (q_p1 : Nat) (n_p1 : Nat) (d : Nat → Nat) (p1_ : Nat → Int64) : va_W := [(q_p1, aJ cy n_p1 p1_)]
def RO_X0_clearPaths (cy : Nat → ClassId) (o : Nat) (q_p1 : Nat) (n_p1 : Nat) (d : Nat → Nat) (letters_ : Int32) (states_ : Int32) : va_W := [(o, ob 0 (oX0 d letters_ states_))]
theorem in_X0_clearPaths_X0 : ∀ w ∈ u_ws RX0 TX0 13, w ∈ wsX0_clearPaths := fun w h => (List.mem_cons_of_mem _ (List.mem_append_right _ h))
theorem lk_X0_clearPaths_X0_states : Lk wsX0_clearPaths RX0 22 0 2 := ⟨RX0, TX0, 13, rfl, by decide, in_X0_clearPaths_X0, mem_at 1 rfl⟩
def b_X0_clearPaths_2 (n_p1 : Nat) (states_ : Int32) (p1_ : Nat → Int64) (x2 : Int32) : Option (((Nat → Int64) × Int32) ⊕ ((Nat → Int64))) :=
  if states_ ≤ x2 then
  (some (.inr p1_))
  else
  (stA p1_ n_p1 x2 (0 : Int64) (fun p1_2 =>
  some (.inl (p1_2, (x2 + (1 : Int32))))))
set_option maxHeartbeats 4000000 in
set_option maxRecDepth 100000 in
theorem wb_X0_clearPaths_2 {p : Program} {l : Launch} {e : Env} {s : State} {m : MethodId} {args : Array Value} {below : List Frame} {meth : Method} {c : Code} {A : Nat → Prop} {Q : State → Prop} {D : va_G} {cy : Nat → ClassId} (o : Nat) (q_p1 : Nat) (n_p1 : Nat) (d : Nat → Nat) (letters_ : Int32) (states_ : Int32)  (p1_ : Nat → Int64) (x2 : Int32) (o1 : ((Nat → Int64) × Int32) ⊕ ((Nat → Int64))) (X : Cx p m c cX0_clearPaths 3 s args wsX0_clearPaths RX0 A D cy (RO_X0_clearPaths cy o q_p1 n_p1 d letters_ states_)) (h : b_X0_clearPaths_2 n_p1 states_ p1_ x2 = some o1) (K : Sum.elim (fun v : (Nat → Int64) × Int32 => ∀ (H : Heap) (locs : List Loc) (ls : Array Slot), St A D s (RW_X0_clearPaths cy o q_p1 n_p1 d v.1) H locs → lv_has ls 3 [(0, .ref o), (1, .ref q_p1), (2, .int v.2)] → W p l e rm_X0_clearPaths s m args below meth c H locs 0 0 Q (F0 m 2 ls [])) (fun v : (Nat → Int64) => ∀ (H : Heap) (locs : List Loc) (ls : Array Slot), St A D s (RW_X0_clearPaths cy o q_p1 n_p1 d v) H locs → lv_has ls 3 [] → W p l e rm_X0_clearPaths s m args below meth c H locs 0 0 Q (F0 m 20 ls [])) o1) : ∀ (H : Heap) (locs : List Loc) (ls : Array Slot), St A D s (RW_X0_clearPaths cy o q_p1 n_p1 d p1_) H locs → lv_has ls 3 [(0, .ref o), (1, .ref q_p1), (2, .int x2)] → W p l e rm_X0_clearPaths s m args below meth c H locs 0 0 Q (F0 m 2 ls []) := by
  intro H locs ls Z hl
  have hx := X.1.1
  have hb := X.1.2.1
  unfold b_X0_clearPaths_2 at h
  refine lv_iload_n hx hb dX0_clearPaths_2 rfl (lv_at hl 2 rfl) ?_
  refine lv_aload_n hx hb dX0_clearPaths_3 rfl (lv_at hl 0 rfl) ?_
  refine x_getO X Z 0 2 (v := .int states_) rfl rfl lk_X0_clearPaths_X0_states dX0_clearPaths_4 ?_
  refine lv_icmp_ge (tgt := 20) hx hb dX0_clearPaths_7 (by decide) (fun cnd => ?_) (fun cnd => ?_)
  · replace h := ifp h cnd
    obtain rfl := Option.some.inj h
    exact (sk_r K) H locs ls Z (lv_sub hl [] rfl)
  · replace h := ifn h cnd
    refine lv_aload_n hx hb dX0_clearPaths_10 rfl (lv_at hl 1 rfl) ?_
    refine lv_iload_n hx hb dX0_clearPaths_11 rfl (lv_at hl 2 rfl) ?_
    refine lv_lconst (v := (0 : Int64)) hx hb dX0_clearPaths_12 (by decide) ?_
    obtain ⟨hin1, p1_2, hv3, h⟩ := st_b h
    refine x_last X Z 0 (RW_X0_clearPaths cy o q_p1 n_p1 d p1_2) rfl hin1 hv3 rfl dX0_clearPaths_13 (fun H locs Z => ?_)
    refine lv_iinc (v := (x2 + (1 : Int32))) (lv' := [(2, .int (x2 + (1 : Int32))), (0, .ref o), (1, .ref q_p1)]) hx hb dX0_clearPaths_14 hl (k := 2) rfl rfl (by decide) rfl (fun ls hl => ?_)
    refine lv_goto (tgt := 2) hx hb dX0_clearPaths_17 (by decide) ?_
    obtain rfl := Option.some.inj h
    exact sk_l K H locs ls Z (lv_sub hl [1, 2, 0] rfl)
set_option maxHeartbeats 4000000 in
set_option maxRecDepth 100000 in
theorem wl_X0_clearPaths_2 {p : Program} {l : Launch} {e : Env} {s : State} {m : MethodId} {args : Array Value} {below : List Frame} {meth : Method} {c : Code} {A : Nat → Prop} {Q : State → Prop} {D : va_G} {cy : Nat → ClassId} (o : Nat) (q_p1 : Nat) (n_p1 : Nat) (d : Nat → Nat) (letters_ : Int32) (states_ : Int32)  (n : Nat) (v : (Nat → Int64) × Int32) (x : (Nat → Int64)) (X : Cx p m c cX0_clearPaths 3 s args wsX0_clearPaths RX0 A D cy (RO_X0_clearPaths cy o q_p1 n_p1 d letters_ states_)) (h : loopN (fun v => b_X0_clearPaths_2 n_p1 states_ v.1 v.2) n v = some x) (K : ∀ (H : Heap) (locs : List Loc) (ls : Array Slot), St A D s (RW_X0_clearPaths cy o q_p1 n_p1 d x) H locs → lv_has ls 3 [] → W p l e rm_X0_clearPaths s m args below meth c H locs 0 0 Q (F0 m 20 ls [])) : ∀ (H : Heap) (locs : List Loc) (ls : Array Slot), St A D s (RW_X0_clearPaths cy o q_p1 n_p1 d v.1) H locs → lv_has ls 3 [(0, .ref o), (1, .ref q_p1), (2, .int v.2)] → W p l e rm_X0_clearPaths s m args below meth c H locs 0 0 Q (F0 m 2 ls []) :=
  loop_gen (B := (fun v => b_X0_clearPaths_2 n_p1 states_ v.1 v.2)) (Head := fun v : (Nat → Int64) × Int32 => ∀ (H : Heap) (locs : List Loc) (ls : Array Slot), St A D s (RW_X0_clearPaths cy o q_p1 n_p1 d v.1) H locs → lv_has ls 3 [(0, .ref o), (1, .ref q_p1), (2, .int v.2)] → W p l e rm_X0_clearPaths s m args below meth c H locs 0 0 Q (F0 m 2 ls [])) (Exit := fun v : (Nat → Int64) => ∀ (H : Heap) (locs : List Loc) (ls : Array Slot), St A D s (RW_X0_clearPaths cy o q_p1 n_p1 d v) H locs → lv_has ls 3 [] → W p l e rm_X0_clearPaths s m args below meth c H locs 0 0 Q (F0 m 20 ls [])) (fun v o9 hb1 K1 => wb_X0_clearPaths_2 o q_p1 n_p1 d letters_ states_ v.1 v.2 o9 X hb1 K1) n v x h K
def f_X0_clearPaths (n_p1 : Nat) (states_ : Int32) (p1_ : Nat → Int64) : Option ((Nat → Int64)) :=
  (loopN (fun v => b_X0_clearPaths_2 n_p1 states_ v.1 v.2) FU (p1_, (0 : Int32))).bind (fun u4 =>
  some u4)
set_option maxHeartbeats 4000000 in
set_option maxRecDepth 100000 in
theorem wt_X0_clearPaths {p : Program} {l : Launch} {e : Env} {s : State} {m : MethodId} {args : Array Value} {below : List Frame} {meth : Method} {c : Code} {A : Nat → Prop} {Q : State → Prop} {D : va_G} {cy : Nat → ClassId} (o : Nat) (q_p1 : Nat) (n_p1 : Nat) (d : Nat → Nat) (letters_ : Int32) (states_ : Int32) (p1_ : Nat → Int64) (out : (Nat → Int64)) (X : Cx p m c cX0_clearPaths 3 s args wsX0_clearPaths RX0 A D cy (RO_X0_clearPaths cy o q_p1 n_p1 d letters_ states_)) (h : f_X0_clearPaths n_p1 states_ p1_ = some out) (K : ∀ (H : Heap) (locs : List Loc) (ls : Array Slot) (pc : Nat), decode cX0_clearPaths pc = .ok (.return_, 1) → St A D s (RW_X0_clearPaths cy o q_p1 n_p1 d out) H locs → W p l e rm_X0_clearPaths s m args below meth c H locs 0 0 Q (F0 m pc ls [])) : ∀ (H : Heap) (locs : List Loc) (ls : Array Slot), St A D s (RW_X0_clearPaths cy o q_p1 n_p1 d p1_) H locs → lv_has ls 3 [(0, .ref o), (1, .ref q_p1)] → W p l e rm_X0_clearPaths s m args below meth c H locs 0 0 Q (F0 m 0 ls []) := by
  intro H locs ls Z hl
  have hx := X.1.1
  have hb := X.1.2.1
  unfold f_X0_clearPaths at h
  refine lv_iconst (v := (0 : Int32)) hx hb dX0_clearPaths_0 (by decide) ?_
  refine lv_istore_n (lv' := [(2, .int (0 : Int32)), (0, .ref o), (1, .ref q_p1)]) hx hb dX0_clearPaths_1 rfl hl (by decide) rfl (fun ls hl => ?_)
  obtain ⟨u4, hL5, h⟩ := ob_some h
  refine wl_X0_clearPaths_2 o q_p1 n_p1 d letters_ states_ FU (p1_, (0 : Int32)) u4 X hL5 (fun H locs ls Z hl => ?_) H locs ls Z (lv_sub hl [1, 2, 0] rfl)
  obtain rfl := Option.some.inj h
  exact K H locs ls _ dX0_clearPaths_20 Z
theorem c_X0_clearPaths (l : Launch) (D : va_G) (cy : Nat → ClassId) (o : Nat) (q_p1 : Nat) (n_p1 : Nat) (d : Nat → Nat) (letters_ : Int32) (states_ : Int32) (p1_ : Nat → Int64) (out : (Nat → Int64)) (h : f_X0_clearPaths n_p1 states_ p1_ = some out) : CtV l yX0_clearPaths wsX0_clearPaths rm_X0_clearPaths D cy [.ref o, .ref q_p1] (RW_X0_clearPaths cy o q_p1 n_p1 d p1_) (RO_X0_clearPaths cy o q_p1 n_p1 d letters_ states_) (RW_X0_clearPaths cy o q_p1 n_p1 d out) :=
  mk_v (by decide) rfl (Nat.le_of_ble_eq_true rfl) (fun p e s m args below meth c A Q X K H locs ls Z hl => wt_X0_clearPaths o q_p1 n_p1 d letters_ states_ p1_ out X h K H locs ls Z hl)
/-! SubwordCounter$Automaton lengthenPaths ()V -/
abbrev rm_X0_lengthenPaths : Room := { frames := 1, cells := 0, slots := 0, locals := 26 }
def RW_X0_lengthenPaths (cy : Nat → ClassId) (o : Nat) (d : Nat → Nat) (paths_ : Nat → Int64) (longerPaths_ : Nat → Int64) : va_W := [((d 11), aJ cy 2000 paths_), ((d 12), aJ cy 2000 longerPaths_)]
def RO_X0_lengthenPaths (cy : Nat → ClassId) (o : Nat) (d : Nat → Nat) (letters_ : Int32) (states_ : Int32) (next_ : Nat → Int32) : va_W := [(o, ob 0 (oX0 d letters_ states_)), ((d 3), aI cy 6000 next_)]
theorem in_X0_lengthenPaths_X0 : ∀ w ∈ u_ws RX0 TX0 13, w ∈ wsX0_lengthenPaths := fun w h => (List.mem_cons_of_mem _ (List.mem_append_right _ h))
theorem lk_X0_lengthenPaths_X0_letters : Lk wsX0_lengthenPaths RX0 18 0 1 := ⟨RX0, TX0, 13, rfl, by decide, in_X0_lengthenPaths_X0, mem_at 3 rfl⟩
theorem lk_X0_lengthenPaths_X0_longerPaths : Lk wsX0_lengthenPaths RX0 54 0 12 := ⟨RX0, TX0, 13, rfl, by decide, in_X0_lengthenPaths_X0, mem_at 1 rfl⟩
theorem lk_X0_lengthenPaths_X0_next : Lk wsX0_lengthenPaths RX0 25 0 3 := ⟨RX0, TX0, 13, rfl, by decide, in_X0_lengthenPaths_X0, mem_at 4 rfl⟩
theorem lk_X0_lengthenPaths_X0_paths : Lk wsX0_lengthenPaths RX0 51 0 11 := ⟨RX0, TX0, 13, rfl, by decide, in_X0_lengthenPaths_X0, mem_at 5 rfl⟩
theorem lk_X0_lengthenPaths_X0_states : Lk wsX0_lengthenPaths RX0 22 0 2 := ⟨RX0, TX0, 13, rfl, by decide, in_X0_lengthenPaths_X0, mem_at 2 rfl⟩
theorem lc_X0_lengthenPaths_120 : Lc wsX0_lengthenPaths RX0 120 := ⟨mem_at 6 rfl, mem_at 7 rfl, mem_at 8 rfl, mem_at 9 rfl⟩
def b_X0_lengthenPaths_20 (letters_ : Int32) (next_ : Nat → Int32) (paths_ : Nat → Int64) (x1 : Int32) (longerPaths_ : Nat → Int64) (x2 : Int32) : Option (((Nat → Int64) × Int32) ⊕ ((Nat → Int64))) :=
  if letters_ ≤ x2 then
  (some (.inr longerPaths_))
  else
  (ldA next_ 6000 ((x1 * (3 : Int32)) + x2) (fun v2 =>
  ldA longerPaths_ 2000 v2 (fun v5 =>
  ldA paths_ 2000 x1 (fun v8 =>
  stA longerPaths_ 2000 v2 (v5 + v8) (fun longerPaths_11 =>
  some (.inl (longerPaths_11, (x2 + (1 : Int32)))))))))
set_option maxHeartbeats 4000000 in
set_option maxRecDepth 100000 in
theorem wb_X0_lengthenPaths_20 {p : Program} {l : Launch} {e : Env} {s : State} {m : MethodId} {args : Array Value} {below : List Frame} {meth : Method} {c : Code} {A : Nat → Prop} {Q : State → Prop} {D : va_G} {cy : Nat → ClassId} (o : Nat) (d : Nat → Nat) (letters_ : Int32) (states_ : Int32) (next_ : Nat → Int32) (paths_ : Nat → Int64) (x1 : Int32) (longerPaths_ : Nat → Int64) (x2 : Int32) (o1 : ((Nat → Int64) × Int32) ⊕ ((Nat → Int64))) (X : Cx p m c cX0_lengthenPaths 3 s args wsX0_lengthenPaths RX0 A D cy (RO_X0_lengthenPaths cy o d letters_ states_ next_)) (h : b_X0_lengthenPaths_20 letters_ next_ paths_ x1 longerPaths_ x2 = some o1) (K : Sum.elim (fun v : (Nat → Int64) × Int32 => ∀ (H : Heap) (locs : List Loc) (ls : Array Slot), St A D s (RW_X0_lengthenPaths cy o d paths_ v.1) H locs → lv_has ls 3 [(0, .ref o), (1, .int x1), (2, .int v.2)] → W p l e rm_X0_lengthenPaths s m args below meth c H locs 0 0 Q (F0 m 20 ls [])) (fun v : (Nat → Int64) => ∀ (H : Heap) (locs : List Loc) (ls : Array Slot), St A D s (RW_X0_lengthenPaths cy o d paths_ v) H locs → lv_has ls 3 [(0, .ref o), (1, .int x1)] → W p l e rm_X0_lengthenPaths s m args below meth c H locs 0 0 Q (F0 m 58 ls [])) o1) : ∀ (H : Heap) (locs : List Loc) (ls : Array Slot), St A D s (RW_X0_lengthenPaths cy o d paths_ longerPaths_) H locs → lv_has ls 3 [(0, .ref o), (1, .int x1), (2, .int x2)] → W p l e rm_X0_lengthenPaths s m args below meth c H locs 0 0 Q (F0 m 20 ls []) := by
  intro H locs ls Z hl
  have hx := X.1.1
  have hb := X.1.2.1
  unfold b_X0_lengthenPaths_20 at h
  refine lv_iload_n hx hb dX0_lengthenPaths_20 rfl (lv_at hl 2 rfl) ?_
  refine lv_aload_n hx hb dX0_lengthenPaths_21 rfl (lv_at hl 0 rfl) ?_
  refine x_getO X Z 0 1 (v := .int letters_) rfl rfl lk_X0_lengthenPaths_X0_letters dX0_lengthenPaths_22 ?_
  refine lv_icmp_ge (tgt := 58) hx hb dX0_lengthenPaths_25 (by decide) (fun cnd => ?_) (fun cnd => ?_)
  · replace h := ifp h cnd
    obtain rfl := Option.some.inj h
    exact (sk_r K) H locs ls Z (lv_sub hl [0, 1] rfl)
  · replace h := ifn h cnd
    refine lv_aload_n hx hb dX0_lengthenPaths_28 rfl (lv_at hl 0 rfl) ?_
    refine x_getO X Z 0 12 (v := .ref (d 12)) rfl rfl lk_X0_lengthenPaths_X0_longerPaths dX0_lengthenPaths_29 ?_
    refine lv_aload_n hx hb dX0_lengthenPaths_32 rfl (lv_at hl 0 rfl) ?_
    refine x_getO X Z 0 3 (v := .ref (d 3)) rfl rfl lk_X0_lengthenPaths_X0_next dX0_lengthenPaths_33 ?_
    refine lv_iload_n hx hb dX0_lengthenPaths_36 rfl (lv_at hl 1 rfl) ?_
    refine lv_iconst (v := (3 : Int32)) hx hb dX0_lengthenPaths_37 (by decide) ?_
    refine lv_imul hx hb dX0_lengthenPaths_38 ?_
    refine lv_iload_n hx hb dX0_lengthenPaths_39 rfl (lv_at hl 2 rfl) ?_
    refine lv_iadd hx hb dX0_lengthenPaths_40 ?_
    obtain ⟨hin1, v2, hv3, h⟩ := ld_b h
    refine x_ialdO X Z 1 rfl hin1 hv3 dX0_lengthenPaths_41 ?_
    refine lv_dup2_11 hx hb dX0_lengthenPaths_42 rfl rfl ?_
    obtain ⟨hin4, v5, hv6, h⟩ := ld_b h
    refine x_lald X Z 1 rfl hin4 hv6 dX0_lengthenPaths_43 ?_
    refine lv_aload_n hx hb dX0_lengthenPaths_44 rfl (lv_at hl 0 rfl) ?_
    refine x_getO X Z 0 11 (v := .ref (d 11)) rfl rfl lk_X0_lengthenPaths_X0_paths dX0_lengthenPaths_45 ?_
    refine lv_iload_n hx hb dX0_lengthenPaths_48 rfl (lv_at hl 1 rfl) ?_
    obtain ⟨hin7, v8, hv9, h⟩ := ld_b h
    refine x_lald X Z 0 rfl hin7 hv9 dX0_lengthenPaths_49 ?_
    refine lv_ladd hx hb dX0_lengthenPaths_50 ?_
    obtain ⟨hin10, longerPaths_11, hv12, h⟩ := st_b h
    refine x_last X Z 1 (RW_X0_lengthenPaths cy o d paths_ longerPaths_11) rfl hin10 hv12 rfl dX0_lengthenPaths_51 (fun H locs Z => ?_)
    refine lv_iinc (v := (x2 + (1 : Int32))) (lv' := [(2, .int (x2 + (1 : Int32))), (0, .ref o), (1, .int x1)]) hx hb dX0_lengthenPaths_52 hl (k := 2) rfl rfl (by decide) rfl (fun ls hl => ?_)
    refine lv_goto (tgt := 20) hx hb dX0_lengthenPaths_55 (by decide) ?_
    obtain rfl := Option.some.inj h
    exact sk_l K H locs ls Z (lv_sub hl [1, 2, 0] rfl)
set_option maxHeartbeats 4000000 in
set_option maxRecDepth 100000 in
theorem wl_X0_lengthenPaths_20 {p : Program} {l : Launch} {e : Env} {s : State} {m : MethodId} {args : Array Value} {below : List Frame} {meth : Method} {c : Code} {A : Nat → Prop} {Q : State → Prop} {D : va_G} {cy : Nat → ClassId} (o : Nat) (d : Nat → Nat) (letters_ : Int32) (states_ : Int32) (next_ : Nat → Int32) (paths_ : Nat → Int64) (x1 : Int32) (n : Nat) (v : (Nat → Int64) × Int32) (x : (Nat → Int64)) (X : Cx p m c cX0_lengthenPaths 3 s args wsX0_lengthenPaths RX0 A D cy (RO_X0_lengthenPaths cy o d letters_ states_ next_)) (h : loopN (fun v => b_X0_lengthenPaths_20 letters_ next_ paths_ x1 v.1 v.2) n v = some x) (K : ∀ (H : Heap) (locs : List Loc) (ls : Array Slot), St A D s (RW_X0_lengthenPaths cy o d paths_ x) H locs → lv_has ls 3 [(0, .ref o), (1, .int x1)] → W p l e rm_X0_lengthenPaths s m args below meth c H locs 0 0 Q (F0 m 58 ls [])) : ∀ (H : Heap) (locs : List Loc) (ls : Array Slot), St A D s (RW_X0_lengthenPaths cy o d paths_ v.1) H locs → lv_has ls 3 [(0, .ref o), (1, .int x1), (2, .int v.2)] → W p l e rm_X0_lengthenPaths s m args below meth c H locs 0 0 Q (F0 m 20 ls []) :=
  loop_gen (B := (fun v => b_X0_lengthenPaths_20 letters_ next_ paths_ x1 v.1 v.2)) (Head := fun v : (Nat → Int64) × Int32 => ∀ (H : Heap) (locs : List Loc) (ls : Array Slot), St A D s (RW_X0_lengthenPaths cy o d paths_ v.1) H locs → lv_has ls 3 [(0, .ref o), (1, .int x1), (2, .int v.2)] → W p l e rm_X0_lengthenPaths s m args below meth c H locs 0 0 Q (F0 m 20 ls [])) (Exit := fun v : (Nat → Int64) => ∀ (H : Heap) (locs : List Loc) (ls : Array Slot), St A D s (RW_X0_lengthenPaths cy o d paths_ v) H locs → lv_has ls 3 [(0, .ref o), (1, .int x1)] → W p l e rm_X0_lengthenPaths s m args below meth c H locs 0 0 Q (F0 m 58 ls [])) (fun v o9 hb1 K1 => wb_X0_lengthenPaths_20 o d letters_ states_ next_ paths_ x1 v.1 v.2 o9 X hb1 K1) n v x h K
def b_X0_lengthenPaths_10 (letters_ : Int32) (states_ : Int32) (next_ : Nat → Int32) (paths_ : Nat → Int64) (longerPaths_ : Nat → Int64) (x1 : Int32) : Option (((Nat → Int64) × Int32) ⊕ ((Nat → Int64))) :=
  if states_ ≤ x1 then
  (some (.inr longerPaths_))
  else
  ((loopN (fun v => b_X0_lengthenPaths_20 letters_ next_ paths_ x1 v.1 v.2) FU (longerPaths_, (0 : Int32))).bind (fun u13 =>
  some (.inl (u13, (x1 + (1 : Int32))))))
set_option maxHeartbeats 4000000 in
set_option maxRecDepth 100000 in
theorem wb_X0_lengthenPaths_10 {p : Program} {l : Launch} {e : Env} {s : State} {m : MethodId} {args : Array Value} {below : List Frame} {meth : Method} {c : Code} {A : Nat → Prop} {Q : State → Prop} {D : va_G} {cy : Nat → ClassId} (o : Nat) (d : Nat → Nat) (letters_ : Int32) (states_ : Int32) (next_ : Nat → Int32) (paths_ : Nat → Int64) (longerPaths_ : Nat → Int64) (x1 : Int32) (o1 : ((Nat → Int64) × Int32) ⊕ ((Nat → Int64))) (X : Cx p m c cX0_lengthenPaths 3 s args wsX0_lengthenPaths RX0 A D cy (RO_X0_lengthenPaths cy o d letters_ states_ next_)) (h : b_X0_lengthenPaths_10 letters_ states_ next_ paths_ longerPaths_ x1 = some o1) (K : Sum.elim (fun v : (Nat → Int64) × Int32 => ∀ (H : Heap) (locs : List Loc) (ls : Array Slot), St A D s (RW_X0_lengthenPaths cy o d paths_ v.1) H locs → lv_has ls 3 [(0, .ref o), (1, .int v.2)] → W p l e rm_X0_lengthenPaths s m args below meth c H locs 0 0 Q (F0 m 10 ls [])) (fun v : (Nat → Int64) => ∀ (H : Heap) (locs : List Loc) (ls : Array Slot), St A D s (RW_X0_lengthenPaths cy o d paths_ v) H locs → lv_has ls 3 [(0, .ref o)] → W p l e rm_X0_lengthenPaths s m args below meth c H locs 0 0 Q (F0 m 64 ls [])) o1) : ∀ (H : Heap) (locs : List Loc) (ls : Array Slot), St A D s (RW_X0_lengthenPaths cy o d paths_ longerPaths_) H locs → lv_has ls 3 [(0, .ref o), (1, .int x1)] → W p l e rm_X0_lengthenPaths s m args below meth c H locs 0 0 Q (F0 m 10 ls []) := by
  intro H locs ls Z hl
  have hx := X.1.1
  have hb := X.1.2.1
  unfold b_X0_lengthenPaths_10 at h
  refine lv_iload_n hx hb dX0_lengthenPaths_10 rfl (lv_at hl 1 rfl) ?_
  refine lv_aload_n hx hb dX0_lengthenPaths_11 rfl (lv_at hl 0 rfl) ?_
  refine x_getO X Z 0 2 (v := .int states_) rfl rfl lk_X0_lengthenPaths_X0_states dX0_lengthenPaths_12 ?_
  refine lv_icmp_ge (tgt := 64) hx hb dX0_lengthenPaths_15 (by decide) (fun cnd => ?_) (fun cnd => ?_)
  · replace h := ifp h cnd
    obtain rfl := Option.some.inj h
    exact (sk_r K) H locs ls Z (lv_sub hl [0] rfl)
  · replace h := ifn h cnd
    refine lv_iconst (v := (0 : Int32)) hx hb dX0_lengthenPaths_18 (by decide) ?_
    refine lv_istore_n (lv' := [(2, .int (0 : Int32)), (0, .ref o), (1, .int x1)]) hx hb dX0_lengthenPaths_19 rfl hl (by decide) rfl (fun ls hl => ?_)
    obtain ⟨u13, hL14, h⟩ := ob_some h
    refine wl_X0_lengthenPaths_20 o d letters_ states_ next_ paths_ x1 FU (longerPaths_, (0 : Int32)) u13 X hL14 (fun H locs ls Z hl => ?_) H locs ls Z (lv_sub hl [1, 2, 0] rfl)
    refine lv_iinc (v := (x1 + (1 : Int32))) (lv' := [(1, .int (x1 + (1 : Int32))), (0, .ref o)]) hx hb dX0_lengthenPaths_58 hl (k := 1) rfl rfl (by decide) rfl (fun ls hl => ?_)
    refine lv_goto (tgt := 10) hx hb dX0_lengthenPaths_61 (by decide) ?_
    obtain rfl := Option.some.inj h
    exact sk_l K H locs ls Z (lv_sub hl [1, 0] rfl)
set_option maxHeartbeats 4000000 in
set_option maxRecDepth 100000 in
theorem wl_X0_lengthenPaths_10 {p : Program} {l : Launch} {e : Env} {s : State} {m : MethodId} {args : Array Value} {below : List Frame} {meth : Method} {c : Code} {A : Nat → Prop} {Q : State → Prop} {D : va_G} {cy : Nat → ClassId} (o : Nat) (d : Nat → Nat) (letters_ : Int32) (states_ : Int32) (next_ : Nat → Int32) (paths_ : Nat → Int64) (n : Nat) (v : (Nat → Int64) × Int32) (x : (Nat → Int64)) (X : Cx p m c cX0_lengthenPaths 3 s args wsX0_lengthenPaths RX0 A D cy (RO_X0_lengthenPaths cy o d letters_ states_ next_)) (h : loopN (fun v => b_X0_lengthenPaths_10 letters_ states_ next_ paths_ v.1 v.2) n v = some x) (K : ∀ (H : Heap) (locs : List Loc) (ls : Array Slot), St A D s (RW_X0_lengthenPaths cy o d paths_ x) H locs → lv_has ls 3 [(0, .ref o)] → W p l e rm_X0_lengthenPaths s m args below meth c H locs 0 0 Q (F0 m 64 ls [])) : ∀ (H : Heap) (locs : List Loc) (ls : Array Slot), St A D s (RW_X0_lengthenPaths cy o d paths_ v.1) H locs → lv_has ls 3 [(0, .ref o), (1, .int v.2)] → W p l e rm_X0_lengthenPaths s m args below meth c H locs 0 0 Q (F0 m 10 ls []) :=
  loop_gen (B := (fun v => b_X0_lengthenPaths_10 letters_ states_ next_ paths_ v.1 v.2)) (Head := fun v : (Nat → Int64) × Int32 => ∀ (H : Heap) (locs : List Loc) (ls : Array Slot), St A D s (RW_X0_lengthenPaths cy o d paths_ v.1) H locs → lv_has ls 3 [(0, .ref o), (1, .int v.2)] → W p l e rm_X0_lengthenPaths s m args below meth c H locs 0 0 Q (F0 m 10 ls [])) (Exit := fun v : (Nat → Int64) => ∀ (H : Heap) (locs : List Loc) (ls : Array Slot), St A D s (RW_X0_lengthenPaths cy o d paths_ v) H locs → lv_has ls 3 [(0, .ref o)] → W p l e rm_X0_lengthenPaths s m args below meth c H locs 0 0 Q (F0 m 64 ls [])) (fun v o9 hb1 K1 => wb_X0_lengthenPaths_10 o d letters_ states_ next_ paths_ v.1 v.2 o9 X hb1 K1) n v x h K
def f_X0_lengthenPaths (letters_ : Int32) (states_ : Int32) (next_ : Nat → Int32) (paths_ : Nat → Int64) (longerPaths_ : Nat → Int64) : Option ((Nat → Int64) × (Nat → Int64)) :=
  (f_X0_clearPaths 2000 states_ longerPaths_).bind (fun u15 =>
  (loopN (fun v => b_X0_lengthenPaths_10 letters_ states_ next_ paths_ v.1 v.2) FU (u15, (0 : Int32))).bind (fun u17 =>
  cpA u17 paths_ 2000 2000 (0 : Int32) (0 : Int32) states_ (fun paths_19 =>
  some (paths_19, u17))))
set_option maxHeartbeats 4000000 in
set_option maxRecDepth 100000 in
theorem wt_X0_lengthenPaths {p : Program} {l : Launch} {e : Env} {s : State} {m : MethodId} {args : Array Value} {below : List Frame} {meth : Method} {c : Code} {A : Nat → Prop} {Q : State → Prop} {D : va_G} {cy : Nat → ClassId} (o : Nat) (d : Nat → Nat) (letters_ : Int32) (states_ : Int32) (next_ : Nat → Int32) (paths_ : Nat → Int64) (longerPaths_ : Nat → Int64) (out : (Nat → Int64) × (Nat → Int64)) (X : Cx p m c cX0_lengthenPaths 3 s args wsX0_lengthenPaths RX0 A D cy (RO_X0_lengthenPaths cy o d letters_ states_ next_)) (h : f_X0_lengthenPaths letters_ states_ next_ paths_ longerPaths_ = some out) (K : ∀ (H : Heap) (locs : List Loc) (ls : Array Slot) (pc : Nat), decode cX0_lengthenPaths pc = .ok (.return_, 1) → St A D s (RW_X0_lengthenPaths cy o d out.1 out.2) H locs → W p l e rm_X0_lengthenPaths s m args below meth c H locs 0 0 Q (F0 m pc ls [])) : ∀ (H : Heap) (locs : List Loc) (ls : Array Slot), St A D s (RW_X0_lengthenPaths cy o d paths_ longerPaths_) H locs → lv_has ls 3 [(0, .ref o)] → W p l e rm_X0_lengthenPaths s m args below meth c H locs 0 0 Q (F0 m 0 ls []) := by
  intro H locs ls Z hl
  have hx := X.1.1
  have hb := X.1.2.1
  unfold f_X0_lengthenPaths at h
  refine lv_aload_n hx hb dX0_lengthenPaths_0 rfl (lv_at hl 0 rfl) ?_
  refine lv_aload_n hx hb dX0_lengthenPaths_1 rfl (lv_at hl 0 rfl) ?_
  refine x_getO X Z 0 12 (v := .ref (d 12)) rfl rfl lk_X0_lengthenPaths_X0_longerPaths dX0_lengthenPaths_2 ?_
  obtain ⟨u15, hc16, h⟩ := ob_some h
  refine x_runVv (RW' := (RW_X0_lengthenPaths cy o d paths_ u15)) (wr := [((d 11), aJ cy 2000 paths_)]) (isC := [1]) (isR := [0]) (isF := [0, 1]) (rest := []) (As := [.ref (d 12)]) (n := 1) X Z (c_X0_clearPaths l D cy o (d 12) 2000 d letters_ states_ longerPaths_ u15 hc16) gX0_lengthenPaths_X0_clearPaths rfl (by decide +kernel) ⟨Nat.le_of_ble_eq_true rfl, Nat.le_of_ble_eq_true rfl⟩ ⟨rfl, rfl⟩ ⟨Nat.le_of_ble_eq_true rfl, Nat.le_of_ble_eq_true rfl⟩ (x_rvO X Z 0 rfl rfl) ⟨rfl, rfl, (roC (Or.inr (mem_at 0 rfl)) roN), rfl, rfl, by decide⟩ ⟨rfl, rfl⟩ rfl hl.1 rfl (Nat.le_of_ble_eq_true rfl) dX0_lengthenPaths_5 (fun H locs Z => ?_)
  refine lv_iconst (v := (0 : Int32)) hx hb dX0_lengthenPaths_8 (by decide) ?_
  refine lv_istore_n (lv' := [(1, .int (0 : Int32)), (0, .ref o)]) hx hb dX0_lengthenPaths_9 rfl hl (by decide) rfl (fun ls hl => ?_)
  obtain ⟨u17, hL18, h⟩ := ob_some h
  refine wl_X0_lengthenPaths_10 o d letters_ states_ next_ paths_ FU (u15, (0 : Int32)) u17 X hL18 (fun H locs ls Z hl => ?_) H locs ls Z (lv_sub hl [1, 0] rfl)
  refine lv_aload_n hx hb dX0_lengthenPaths_64 rfl (lv_at hl 0 rfl) ?_
  refine x_getO X Z 0 12 (v := .ref (d 12)) rfl rfl lk_X0_lengthenPaths_X0_longerPaths dX0_lengthenPaths_65 ?_
  refine lv_iconst (v := (0 : Int32)) hx hb dX0_lengthenPaths_68 (by decide) ?_
  refine lv_aload_n hx hb dX0_lengthenPaths_69 rfl (lv_at hl 0 rfl) ?_
  refine x_getO X Z 0 11 (v := .ref (d 11)) rfl rfl lk_X0_lengthenPaths_X0_paths dX0_lengthenPaths_70 ?_
  refine lv_iconst (v := (0 : Int32)) hx hb dX0_lengthenPaths_73 (by decide) ?_
  refine lv_aload_n hx hb dX0_lengthenPaths_74 rfl (lv_at hl 0 rfl) ?_
  refine x_getO X Z 0 2 (v := .int states_) rfl rfl lk_X0_lengthenPaths_X0_states dX0_lengthenPaths_75 ?_
  obtain ⟨hcx21, paths_19, hv20, h⟩ := cp_b h
  refine x_cpyJ X Z hl 1 0 (RW_X0_lengthenPaths cy o d paths_19 u17) lc_X0_lengthenPaths_120 rfl rfl hcx21 hv20 rfl (Nat.le_of_ble_eq_true rfl) (Nat.le_of_ble_eq_true rfl) dX0_lengthenPaths_78 (fun H locs Z => ?_)
  obtain rfl := Option.some.inj h
  exact K H locs ls _ dX0_lengthenPaths_81 Z
theorem c_X0_lengthenPaths (l : Launch) (D : va_G) (cy : Nat → ClassId) (o : Nat) (d : Nat → Nat) (letters_ : Int32) (states_ : Int32) (next_ : Nat → Int32) (paths_ : Nat → Int64) (longerPaths_ : Nat → Int64) (out : (Nat → Int64) × (Nat → Int64)) (h : f_X0_lengthenPaths letters_ states_ next_ paths_ longerPaths_ = some out) : CtV l yX0_lengthenPaths wsX0_lengthenPaths rm_X0_lengthenPaths D cy [.ref o] (RW_X0_lengthenPaths cy o d paths_ longerPaths_) (RO_X0_lengthenPaths cy o d letters_ states_ next_) (RW_X0_lengthenPaths cy o d out.1 out.2) :=
  mk_v (by decide) rfl (Nat.le_of_ble_eq_true rfl) (fun p e s m args below meth c A Q X K H locs ls Z hl => wt_X0_lengthenPaths o d letters_ states_ next_ paths_ longerPaths_ out X h K H locs ls Z hl)
/-! SubwordCounter$Automaton markedPaths ()J -/
abbrev rm_X0_markedPaths : Room := { frames := 0, cells := 0, slots := 0, locals := 0 }
def RW_X0_markedPaths (cy : Nat → ClassId) (o : Nat) (d : Nat → Nat)  : va_W := []
def RO_X0_markedPaths (cy : Nat → ClassId) (o : Nat) (d : Nat → Nat) (letters_ : Int32) (states_ : Int32) (marks_ : Nat → Int32) (paths_ : Nat → Int64) : va_W := [(o, ob 0 (oX0 d letters_ states_)), ((d 4), aI cy 2000 marks_), ((d 11), aJ cy 2000 paths_)]
theorem in_X0_markedPaths_X0 : ∀ w ∈ u_ws RX0 TX0 13, w ∈ wsX0_markedPaths := fun w h => (List.mem_cons_of_mem _ (List.mem_append_right _ h))
theorem lk_X0_markedPaths_X0_states : Lk wsX0_markedPaths RX0 22 0 2 := ⟨RX0, TX0, 13, rfl, by decide, in_X0_markedPaths_X0, mem_at 1 rfl⟩
theorem lk_X0_markedPaths_X0_marks : Lk wsX0_markedPaths RX0 29 0 4 := ⟨RX0, TX0, 13, rfl, by decide, in_X0_markedPaths_X0, mem_at 2 rfl⟩
theorem lk_X0_markedPaths_X0_paths : Lk wsX0_markedPaths RX0 51 0 11 := ⟨RX0, TX0, 13, rfl, by decide, in_X0_markedPaths_X0, mem_at 3 rfl⟩
def b_X0_markedPaths_4 (states_ : Int32) (marks_ : Nat → Int32) (paths_ : Nat → Int64)  (x1 : Int64) (x3 : Int32) : Option ((Int64 × Int32) ⊕ (Int64)) :=
  if states_ ≤ x3 then
  (some (.inr x1))
  else
  (ldA marks_ 2000 x3 (fun v2 =>
  if v2 = (1 : Int32) then
  (ldA paths_ 2000 x3 (fun v5 =>
  some (.inl ((x1 + v5), (x3 + (1 : Int32))))))
  else
  (some (.inl (x1, (x3 + (1 : Int32)))))))
set_option maxHeartbeats 4000000 in
set_option maxRecDepth 100000 in
theorem wb_X0_markedPaths_4 {p : Program} {l : Launch} {e : Env} {s : State} {m : MethodId} {args : Array Value} {below : List Frame} {meth : Method} {c : Code} {A : Nat → Prop} {Q : State → Prop} {D : va_G} {cy : Nat → ClassId} (o : Nat) (d : Nat → Nat) (letters_ : Int32) (states_ : Int32) (marks_ : Nat → Int32) (paths_ : Nat → Int64)   (x1 : Int64) (x3 : Int32) (o1 : (Int64 × Int32) ⊕ (Int64)) (X : Cx p m c cX0_markedPaths 4 s args wsX0_markedPaths RX0 A D cy (RO_X0_markedPaths cy o d letters_ states_ marks_ paths_)) (h : b_X0_markedPaths_4 states_ marks_ paths_ x1 x3 = some o1) (K : Sum.elim (fun v : Int64 × Int32 => ∀ (H : Heap) (locs : List Loc) (ls : Array Slot), St A D s (RW_X0_markedPaths cy o d) H locs → lv_has ls 4 [(0, .ref o), (1, .long v.1), (3, .int v.2)] → W p l e rm_X0_markedPaths s m args below meth c H locs 0 0 Q (F0 m 4 ls [])) (fun v : Int64 => ∀ (H : Heap) (locs : List Loc) (ls : Array Slot), St A D s (RW_X0_markedPaths cy o d) H locs → lv_has ls 4 [(1, .long v)] → W p l e rm_X0_markedPaths s m args below meth c H locs 0 0 Q (F0 m 37 ls [])) o1) : ∀ (H : Heap) (locs : List Loc) (ls : Array Slot), St A D s (RW_X0_markedPaths cy o d) H locs → lv_has ls 4 [(0, .ref o), (1, .long x1), (3, .int x3)] → W p l e rm_X0_markedPaths s m args below meth c H locs 0 0 Q (F0 m 4 ls []) := by
  intro H locs ls Z hl
  have hx := X.1.1
  have hb := X.1.2.1
  unfold b_X0_markedPaths_4 at h
  refine lv_iload_n hx hb dX0_markedPaths_4 rfl (lv_at hl 2 rfl) ?_
  refine lv_aload_n hx hb dX0_markedPaths_5 rfl (lv_at hl 0 rfl) ?_
  refine x_getO X Z 0 2 (v := .int states_) rfl rfl lk_X0_markedPaths_X0_states dX0_markedPaths_6 ?_
  refine lv_icmp_ge (tgt := 37) hx hb dX0_markedPaths_9 (by decide) (fun cnd => ?_) (fun cnd => ?_)
  · replace h := ifp h cnd
    obtain rfl := Option.some.inj h
    exact (sk_r K) H locs ls Z (lv_sub hl [1] rfl)
  · replace h := ifn h cnd
    refine lv_aload_n hx hb dX0_markedPaths_12 rfl (lv_at hl 0 rfl) ?_
    refine x_getO X Z 0 4 (v := .ref (d 4)) rfl rfl lk_X0_markedPaths_X0_marks dX0_markedPaths_13 ?_
    refine lv_iload_n hx hb dX0_markedPaths_16 rfl (lv_at hl 2 rfl) ?_
    obtain ⟨hin1, v2, hv3, h⟩ := ld_b h
    refine x_ialdO X Z 1 rfl hin1 hv3 dX0_markedPaths_17 ?_
    refine lv_iconst (v := (1 : Int32)) hx hb dX0_markedPaths_18 (by decide) ?_
    refine lv_icmp_ne (tgt := 31) hx hb dX0_markedPaths_19 (by decide) (fun cnd => ?_) (fun cnd => ?_)
    · replace h := ifn h cnd
      refine lv_iinc (v := (x3 + (1 : Int32))) (lv' := [(3, .int (x3 + (1 : Int32))), (0, .ref o), (1, .long x1)]) hx hb dX0_markedPaths_31 hl (k := 2) rfl rfl (by decide) rfl (fun ls hl => ?_)
      refine lv_goto (tgt := 4) hx hb dX0_markedPaths_34 (by decide) ?_
      obtain rfl := Option.some.inj h
      exact sk_l K H locs ls Z (lv_sub hl [1, 2, 0] rfl)
    · replace h := ifp h cnd
      refine lv_lload_n hx hb dX0_markedPaths_22 rfl (lv_at hl 1 rfl) ?_
      refine lv_aload_n hx hb dX0_markedPaths_23 rfl (lv_at hl 0 rfl) ?_
      refine x_getO X Z 0 11 (v := .ref (d 11)) rfl rfl lk_X0_markedPaths_X0_paths dX0_markedPaths_24 ?_
      refine lv_iload_n hx hb dX0_markedPaths_27 rfl (lv_at hl 2 rfl) ?_
      obtain ⟨hin4, v5, hv6, h⟩ := ld_b h
      refine x_laldO X Z 2 rfl hin4 hv6 dX0_markedPaths_28 ?_
      refine lv_ladd hx hb dX0_markedPaths_29 ?_
      refine lv_lstore_n (lv' := [(1, .long (x1 + v5)), (0, .ref o), (3, .int x3)]) hx hb dX0_markedPaths_30 rfl hl (by decide) rfl (fun ls hl => ?_)
      refine lv_iinc (v := (x3 + (1 : Int32))) (lv' := [(3, .int (x3 + (1 : Int32))), (1, .long (x1 + v5)), (0, .ref o)]) hx hb dX0_markedPaths_31 hl (k := 2) rfl rfl (by decide) rfl (fun ls hl => ?_)
      refine lv_goto (tgt := 4) hx hb dX0_markedPaths_34 (by decide) ?_
      obtain rfl := Option.some.inj h
      exact sk_l K H locs ls Z (lv_sub hl [2, 1, 0] rfl)
set_option maxHeartbeats 4000000 in
set_option maxRecDepth 100000 in
theorem wl_X0_markedPaths_4 {p : Program} {l : Launch} {e : Env} {s : State} {m : MethodId} {args : Array Value} {below : List Frame} {meth : Method} {c : Code} {A : Nat → Prop} {Q : State → Prop} {D : va_G} {cy : Nat → ClassId} (o : Nat) (d : Nat → Nat) (letters_ : Int32) (states_ : Int32) (marks_ : Nat → Int32) (paths_ : Nat → Int64)  (n : Nat) (v : Int64 × Int32) (x : Int64) (X : Cx p m c cX0_markedPaths 4 s args wsX0_markedPaths RX0 A D cy (RO_X0_markedPaths cy o d letters_ states_ marks_ paths_)) (h : loopN (fun v => b_X0_markedPaths_4 states_ marks_ paths_ v.1 v.2) n v = some x) (K : ∀ (H : Heap) (locs : List Loc) (ls : Array Slot), St A D s (RW_X0_markedPaths cy o d) H locs → lv_has ls 4 [(1, .long x)] → W p l e rm_X0_markedPaths s m args below meth c H locs 0 0 Q (F0 m 37 ls [])) : ∀ (H : Heap) (locs : List Loc) (ls : Array Slot), St A D s (RW_X0_markedPaths cy o d) H locs → lv_has ls 4 [(0, .ref o), (1, .long v.1), (3, .int v.2)] → W p l e rm_X0_markedPaths s m args below meth c H locs 0 0 Q (F0 m 4 ls []) :=
  loop_gen (B := (fun v => b_X0_markedPaths_4 states_ marks_ paths_ v.1 v.2)) (Head := fun v : Int64 × Int32 => ∀ (H : Heap) (locs : List Loc) (ls : Array Slot), St A D s (RW_X0_markedPaths cy o d) H locs → lv_has ls 4 [(0, .ref o), (1, .long v.1), (3, .int v.2)] → W p l e rm_X0_markedPaths s m args below meth c H locs 0 0 Q (F0 m 4 ls [])) (Exit := fun v : Int64 => ∀ (H : Heap) (locs : List Loc) (ls : Array Slot), St A D s (RW_X0_markedPaths cy o d) H locs → lv_has ls 4 [(1, .long v)] → W p l e rm_X0_markedPaths s m args below meth c H locs 0 0 Q (F0 m 37 ls [])) (fun v o9 hb1 K1 => wb_X0_markedPaths_4 o d letters_ states_ marks_ paths_ v.1 v.2 o9 X hb1 K1) n v x h K
def f_X0_markedPaths (states_ : Int32) (marks_ : Nat → Int32) (paths_ : Nat → Int64) : Option (Int64) :=
  (loopN (fun v => b_X0_markedPaths_4 states_ marks_ paths_ v.1 v.2) FU ((0 : Int64), (0 : Int32))).bind (fun u7 =>
  some u7)
set_option maxHeartbeats 4000000 in
set_option maxRecDepth 100000 in
theorem wt_X0_markedPaths {p : Program} {l : Launch} {e : Env} {s : State} {m : MethodId} {args : Array Value} {below : List Frame} {meth : Method} {c : Code} {A : Nat → Prop} {Q : State → Prop} {D : va_G} {cy : Nat → ClassId} (o : Nat) (d : Nat → Nat) (letters_ : Int32) (states_ : Int32) (marks_ : Nat → Int32) (paths_ : Nat → Int64)  (out : Int64) (X : Cx p m c cX0_markedPaths 4 s args wsX0_markedPaths RX0 A D cy (RO_X0_markedPaths cy o d letters_ states_ marks_ paths_)) (h : f_X0_markedPaths states_ marks_ paths_ = some out) (K : ∀ (H : Heap) (locs : List Loc) (ls : Array Slot) (pc : Nat), decode cX0_markedPaths pc = .ok (.lreturn, 1) → St A D s (RW_X0_markedPaths cy o d) H locs → W p l e rm_X0_markedPaths s m args below meth c H locs 0 0 Q (F0 m pc ls [.long out])) : ∀ (H : Heap) (locs : List Loc) (ls : Array Slot), St A D s (RW_X0_markedPaths cy o d) H locs → lv_has ls 4 [(0, .ref o)] → W p l e rm_X0_markedPaths s m args below meth c H locs 0 0 Q (F0 m 0 ls []) := by
  intro H locs ls Z hl
  have hx := X.1.1
  have hb := X.1.2.1
  unfold f_X0_markedPaths at h
  refine lv_lconst (v := (0 : Int64)) hx hb dX0_markedPaths_0 (by decide) ?_
  refine lv_lstore_n (lv' := [(1, .long (0 : Int64)), (0, .ref o)]) hx hb dX0_markedPaths_1 rfl hl (by decide) rfl (fun ls hl => ?_)
  refine lv_iconst (v := (0 : Int32)) hx hb dX0_markedPaths_2 (by decide) ?_
  refine lv_istore_n (lv' := [(3, .int (0 : Int32)), (1, .long (0 : Int64)), (0, .ref o)]) hx hb dX0_markedPaths_3 rfl hl (by decide) rfl (fun ls hl => ?_)
  obtain ⟨u7, hL8, h⟩ := ob_some h
  refine wl_X0_markedPaths_4 o d letters_ states_ marks_ paths_ FU ((0 : Int64), (0 : Int32)) u7 X hL8 (fun H locs ls Z hl => ?_) H locs ls Z (lv_sub hl [2, 1, 0] rfl)
  refine lv_lload_n hx hb dX0_markedPaths_37 rfl (lv_at hl 0 rfl) ?_
  obtain rfl := Option.some.inj h
  exact K H locs ls _ dX0_markedPaths_38 Z
theorem c_X0_markedPaths (l : Launch) (D : va_G) (cy : Nat → ClassId) (o : Nat) (d : Nat → Nat) (letters_ : Int32) (states_ : Int32) (marks_ : Nat → Int32) (paths_ : Nat → Int64)  (out : Int64) (h : f_X0_markedPaths states_ marks_ paths_ = some out) : CtL l yX0_markedPaths wsX0_markedPaths rm_X0_markedPaths D cy [.ref o] (RW_X0_markedPaths cy o d) (RO_X0_markedPaths cy o d letters_ states_ marks_ paths_) (RW_X0_markedPaths cy o d) out :=
  mk_l (by decide) rfl (Nat.le_of_ble_eq_true rfl) (fun p e s m args below meth c A Q X K H locs ls Z hl => wt_X0_markedPaths o d letters_ states_ marks_ paths_ out X h K H locs ls Z hl)
/-! SubwordCounter$Automaton countByLength ([JI)V -/
abbrev rm_X0_countByLength : Room := { frames := 2, cells := 0, slots := 0, locals := 48 }
def RW_X0_countByLength (cy : Nat → ClassId) (o : Nat) (q_p1 : Nat) (n_p1 : Nat) (d : Nat → Nat) (p1_ : Nat → Int64) (paths_ : Nat → Int64) (longerPaths_ : Nat → Int64) : va_W := [(q_p1, aJ cy n_p1 p1_), ((d 11), aJ cy 2000 paths_), ((d 12), aJ cy 2000 longerPaths_)]
def RO_X0_countByLength (cy : Nat → ClassId) (o : Nat) (q_p1 : Nat) (n_p1 : Nat) (d : Nat → Nat) (letters_ : Int32) (states_ : Int32) (next_ : Nat → Int32) (marks_ : Nat → Int32) : va_W := [(o, ob 0 (oX0 d letters_ states_)), ((d 3), aI cy 6000 next_), ((d 4), aI cy 2000 marks_)]
theorem in_X0_countByLength_X0 : ∀ w ∈ u_ws RX0 TX0 13, w ∈ wsX0_countByLength := fun w h => (List.mem_cons_of_mem _ (List.mem_append_right _ h))
theorem lk_X0_countByLength_X0_paths : Lk wsX0_countByLength RX0 51 0 11 := ⟨RX0, TX0, 13, rfl, by decide, in_X0_countByLength_X0, mem_at 1 rfl⟩
def b_X0_countByLength_17 (n_p1 : Nat) (letters_ : Int32) (states_ : Int32) (next_ : Nat → Int32) (marks_ : Nat → Int32) (x2 : Int32) (p1_ : Nat → Int64) (paths_ : Nat → Int64) (longerPaths_ : Nat → Int64) (x3 : Int32) : Option (((Nat → Int64) × (Nat → Int64) × (Nat → Int64) × Int32) ⊕ ((Nat → Int64) × (Nat → Int64) × (Nat → Int64))) :=
  if x2 < x3 then
  (some (.inr (p1_, paths_, longerPaths_)))
  else
  (if (Int32.ofNat n_p1) ≤ x3 then
  (some (.inr (p1_, paths_, longerPaths_)))
  else
  ((f_X0_markedPaths states_ marks_ paths_).bind (fun u1 =>
  stA p1_ n_p1 x3 u1 (fun p1_4 =>
  (f_X0_lengthenPaths letters_ states_ next_ paths_ longerPaths_).bind (fun u6 =>
  some (.inl (p1_4, u6.1, u6.2, (x3 + (1 : Int32)))))))))
set_option maxHeartbeats 4000000 in
set_option maxRecDepth 100000 in
theorem wb_X0_countByLength_17 {p : Program} {l : Launch} {e : Env} {s : State} {m : MethodId} {args : Array Value} {below : List Frame} {meth : Method} {c : Code} {A : Nat → Prop} {Q : State → Prop} {D : va_G} {cy : Nat → ClassId} (o : Nat) (q_p1 : Nat) (n_p1 : Nat) (d : Nat → Nat) (letters_ : Int32) (states_ : Int32) (next_ : Nat → Int32) (marks_ : Nat → Int32)  (x2 : Int32) (p1_ : Nat → Int64) (paths_ : Nat → Int64) (longerPaths_ : Nat → Int64) (x3 : Int32) (o1 : ((Nat → Int64) × (Nat → Int64) × (Nat → Int64) × Int32) ⊕ ((Nat → Int64) × (Nat → Int64) × (Nat → Int64))) (X : Cx p m c cX0_countByLength 4 s args wsX0_countByLength RX0 A D cy (RO_X0_countByLength cy o q_p1 n_p1 d letters_ states_ next_ marks_)) (h : b_X0_countByLength_17 n_p1 letters_ states_ next_ marks_ x2 p1_ paths_ longerPaths_ x3 = some o1) (K : Sum.elim (fun v : (Nat → Int64) × (Nat → Int64) × (Nat → Int64) × Int32 => ∀ (H : Heap) (locs : List Loc) (ls : Array Slot), St A D s (RW_X0_countByLength cy o q_p1 n_p1 d v.1 v.2.1 v.2.2.1) H locs → lv_has ls 4 [(0, .ref o), (1, .ref q_p1), (2, .int x2), (3, .int v.2.2.2)] → W p l e rm_X0_countByLength s m args below meth c H locs 0 0 Q (F0 m 17 ls [])) (fun v : (Nat → Int64) × (Nat → Int64) × (Nat → Int64) => ∀ (H : Heap) (locs : List Loc) (ls : Array Slot), St A D s (RW_X0_countByLength cy o q_p1 n_p1 d v.1 v.2.1 v.2.2) H locs → lv_has ls 4 [] → W p l e rm_X0_countByLength s m args below meth c H locs 0 0 Q (F0 m 45 ls [])) o1) : ∀ (H : Heap) (locs : List Loc) (ls : Array Slot), St A D s (RW_X0_countByLength cy o q_p1 n_p1 d p1_ paths_ longerPaths_) H locs → lv_has ls 4 [(0, .ref o), (1, .ref q_p1), (2, .int x2), (3, .int x3)] → W p l e rm_X0_countByLength s m args below meth c H locs 0 0 Q (F0 m 17 ls []) := by
  intro H locs ls Z hl
  have hx := X.1.1
  have hb := X.1.2.1
  unfold b_X0_countByLength_17 at h
  refine lv_iload_n hx hb dX0_countByLength_17 rfl (lv_at hl 3 rfl) ?_
  refine lv_iload_n hx hb dX0_countByLength_18 rfl (lv_at hl 2 rfl) ?_
  refine lv_icmp_gt (tgt := 45) hx hb dX0_countByLength_19 (by decide) (fun cnd => ?_) (fun cnd => ?_)
  · replace h := ifp h cnd
    obtain rfl := Option.some.inj h
    exact (sk_r K) H locs ls Z (lv_sub hl [] rfl)
  · replace h := ifn h cnd
    refine lv_iload_n hx hb dX0_countByLength_22 rfl (lv_at hl 3 rfl) ?_
    refine lv_aload_n hx hb dX0_countByLength_23 rfl (lv_at hl 1 rfl) ?_
    refine x_alenJ X Z 0 rfl dX0_countByLength_24 ?_
    refine lv_icmp_ge (tgt := 45) hx hb dX0_countByLength_25 (by decide) (fun cnd => ?_) (fun cnd => ?_)
    · replace h := ifp h cnd
      obtain rfl := Option.some.inj h
      exact (sk_r K) H locs ls Z (lv_sub hl [] rfl)
    · replace h := ifn h cnd
      refine lv_aload_n hx hb dX0_countByLength_28 rfl (lv_at hl 1 rfl) ?_
      refine lv_iload_n hx hb dX0_countByLength_29 rfl (lv_at hl 3 rfl) ?_
      refine lv_aload_n hx hb dX0_countByLength_30 rfl (lv_at hl 0 rfl) ?_
      obtain ⟨u1, hc2, h⟩ := ob_some h
      refine x_runVl (RW' := (RW_X0_countByLength cy o q_p1 n_p1 d p1_ paths_ longerPaths_)) (wr := [(q_p1, aJ cy n_p1 p1_), ((d 11), aJ cy 2000 paths_), ((d 12), aJ cy 2000 longerPaths_)]) (isC := []) (isR := [0, 1, 2]) (isF := [0, 1, 2]) (rest := [.int x3, .ref q_p1]) (As := []) (n := 0) X Z (c_X0_markedPaths l D cy o d letters_ states_ marks_ paths_ u1 hc2) gX0_countByLength_X0_markedPaths rfl (by decide +kernel) ⟨Nat.le_of_ble_eq_true rfl, Nat.le_of_ble_eq_true rfl⟩ ⟨rfl, rfl⟩ ⟨Nat.le_of_ble_eq_true rfl, Nat.le_of_ble_eq_true rfl⟩ (x_rvO X Z 0 rfl rfl) ⟨rfl, rfl, (roC (Or.inr (mem_at 0 rfl)) (roC (Or.inr (mem_at 2 rfl)) (roC (Or.inl (mem_at 1 rfl)) roN))), rfl, rfl, by decide⟩ ⟨rfl, rfl⟩ rfl hl.1 rfl (Nat.le_of_ble_eq_true rfl) dX0_countByLength_31 (fun H locs Z => ?_)
      obtain ⟨hin3, p1_4, hv5, h⟩ := st_b h
      refine x_last X Z 0 (RW_X0_countByLength cy o q_p1 n_p1 d p1_4 paths_ longerPaths_) rfl hin3 hv5 rfl dX0_countByLength_34 (fun H locs Z => ?_)
      refine lv_aload_n hx hb dX0_countByLength_35 rfl (lv_at hl 0 rfl) ?_
      obtain ⟨u6, hc7, h⟩ := ob_some h
      refine x_runVv (RW' := (RW_X0_countByLength cy o q_p1 n_p1 d p1_4 u6.1 u6.2)) (wr := [(q_p1, aJ cy n_p1 p1_4)]) (isC := [1, 2]) (isR := [0]) (isF := [0, 1, 2]) (rest := []) (As := []) (n := 0) X Z (c_X0_lengthenPaths l D cy o d letters_ states_ next_ paths_ longerPaths_ u6 hc7) gX0_countByLength_X0_lengthenPaths rfl (by decide +kernel) ⟨Nat.le_of_ble_eq_true rfl, Nat.le_of_ble_eq_true rfl⟩ ⟨rfl, rfl⟩ ⟨Nat.le_of_ble_eq_true rfl, Nat.le_of_ble_eq_true rfl⟩ (x_rvO X Z 0 rfl rfl) ⟨rfl, rfl, (roC (Or.inr (mem_at 0 rfl)) (roC (Or.inr (mem_at 1 rfl)) roN)), rfl, rfl, by decide⟩ ⟨rfl, rfl⟩ rfl hl.1 rfl (Nat.le_of_ble_eq_true rfl) dX0_countByLength_36 (fun H locs Z => ?_)
      refine lv_iinc (v := (x3 + (1 : Int32))) (lv' := [(3, .int (x3 + (1 : Int32))), (0, .ref o), (1, .ref q_p1), (2, .int x2)]) hx hb dX0_countByLength_39 hl (k := 3) rfl rfl (by decide) rfl (fun ls hl => ?_)
      refine lv_goto (tgt := 17) hx hb dX0_countByLength_42 (by decide) ?_
      obtain rfl := Option.some.inj h
      exact sk_l K H locs ls Z (lv_sub hl [1, 2, 3, 0] rfl)
set_option maxHeartbeats 4000000 in
set_option maxRecDepth 100000 in
theorem wl_X0_countByLength_17 {p : Program} {l : Launch} {e : Env} {s : State} {m : MethodId} {args : Array Value} {below : List Frame} {meth : Method} {c : Code} {A : Nat → Prop} {Q : State → Prop} {D : va_G} {cy : Nat → ClassId} (o : Nat) (q_p1 : Nat) (n_p1 : Nat) (d : Nat → Nat) (letters_ : Int32) (states_ : Int32) (next_ : Nat → Int32) (marks_ : Nat → Int32)  (x2 : Int32) (n : Nat) (v : (Nat → Int64) × (Nat → Int64) × (Nat → Int64) × Int32) (x : (Nat → Int64) × (Nat → Int64) × (Nat → Int64)) (X : Cx p m c cX0_countByLength 4 s args wsX0_countByLength RX0 A D cy (RO_X0_countByLength cy o q_p1 n_p1 d letters_ states_ next_ marks_)) (h : loopN (fun v => b_X0_countByLength_17 n_p1 letters_ states_ next_ marks_ x2 v.1 v.2.1 v.2.2.1 v.2.2.2) n v = some x) (K : ∀ (H : Heap) (locs : List Loc) (ls : Array Slot), St A D s (RW_X0_countByLength cy o q_p1 n_p1 d x.1 x.2.1 x.2.2) H locs → lv_has ls 4 [] → W p l e rm_X0_countByLength s m args below meth c H locs 0 0 Q (F0 m 45 ls [])) : ∀ (H : Heap) (locs : List Loc) (ls : Array Slot), St A D s (RW_X0_countByLength cy o q_p1 n_p1 d v.1 v.2.1 v.2.2.1) H locs → lv_has ls 4 [(0, .ref o), (1, .ref q_p1), (2, .int x2), (3, .int v.2.2.2)] → W p l e rm_X0_countByLength s m args below meth c H locs 0 0 Q (F0 m 17 ls []) :=
  loop_gen (B := (fun v => b_X0_countByLength_17 n_p1 letters_ states_ next_ marks_ x2 v.1 v.2.1 v.2.2.1 v.2.2.2)) (Head := fun v : (Nat → Int64) × (Nat → Int64) × (Nat → Int64) × Int32 => ∀ (H : Heap) (locs : List Loc) (ls : Array Slot), St A D s (RW_X0_countByLength cy o q_p1 n_p1 d v.1 v.2.1 v.2.2.1) H locs → lv_has ls 4 [(0, .ref o), (1, .ref q_p1), (2, .int x2), (3, .int v.2.2.2)] → W p l e rm_X0_countByLength s m args below meth c H locs 0 0 Q (F0 m 17 ls [])) (Exit := fun v : (Nat → Int64) × (Nat → Int64) × (Nat → Int64) => ∀ (H : Heap) (locs : List Loc) (ls : Array Slot), St A D s (RW_X0_countByLength cy o q_p1 n_p1 d v.1 v.2.1 v.2.2) H locs → lv_has ls 4 [] → W p l e rm_X0_countByLength s m args below meth c H locs 0 0 Q (F0 m 45 ls [])) (fun v o9 hb1 K1 => wb_X0_countByLength_17 o q_p1 n_p1 d letters_ states_ next_ marks_ x2 v.1 v.2.1 v.2.2.1 v.2.2.2 o9 X hb1 K1) n v x h K
def f_X0_countByLength (x2 : Int32) (n_p1 : Nat) (letters_ : Int32) (states_ : Int32) (next_ : Nat → Int32) (marks_ : Nat → Int32) (p1_ : Nat → Int64) (paths_ : Nat → Int64) (longerPaths_ : Nat → Int64) : Option ((Nat → Int64) × (Nat → Int64) × (Nat → Int64)) :=
  (f_X0_clearPaths 2000 states_ paths_).bind (fun u8 =>
  stA u8 2000 (0 : Int32) (1 : Int64) (fun paths_11 =>
  (loopN (fun v => b_X0_countByLength_17 n_p1 letters_ states_ next_ marks_ x2 v.1 v.2.1 v.2.2.1 v.2.2.2) FU (p1_, paths_11, longerPaths_, (0 : Int32))).bind (fun u13 =>
  some (u13.1, u13.2.1, u13.2.2))))
set_option maxHeartbeats 4000000 in
set_option maxRecDepth 100000 in
theorem wt_X0_countByLength {p : Program} {l : Launch} {e : Env} {s : State} {m : MethodId} {args : Array Value} {below : List Frame} {meth : Method} {c : Code} {A : Nat → Prop} {Q : State → Prop} {D : va_G} {cy : Nat → ClassId} (o : Nat) (q_p1 : Nat) (n_p1 : Nat) (d : Nat → Nat) (letters_ : Int32) (states_ : Int32) (next_ : Nat → Int32) (marks_ : Nat → Int32) (p1_ : Nat → Int64) (paths_ : Nat → Int64) (longerPaths_ : Nat → Int64) (x2 : Int32) (out : (Nat → Int64) × (Nat → Int64) × (Nat → Int64)) (X : Cx p m c cX0_countByLength 4 s args wsX0_countByLength RX0 A D cy (RO_X0_countByLength cy o q_p1 n_p1 d letters_ states_ next_ marks_)) (h : f_X0_countByLength x2 n_p1 letters_ states_ next_ marks_ p1_ paths_ longerPaths_ = some out) (K : ∀ (H : Heap) (locs : List Loc) (ls : Array Slot) (pc : Nat), decode cX0_countByLength pc = .ok (.return_, 1) → St A D s (RW_X0_countByLength cy o q_p1 n_p1 d out.1 out.2.1 out.2.2) H locs → W p l e rm_X0_countByLength s m args below meth c H locs 0 0 Q (F0 m pc ls [])) : ∀ (H : Heap) (locs : List Loc) (ls : Array Slot), St A D s (RW_X0_countByLength cy o q_p1 n_p1 d p1_ paths_ longerPaths_) H locs → lv_has ls 4 [(0, .ref o), (1, .ref q_p1), (2, .int x2)] → W p l e rm_X0_countByLength s m args below meth c H locs 0 0 Q (F0 m 0 ls []) := by
  intro H locs ls Z hl
  have hx := X.1.1
  have hb := X.1.2.1
  unfold f_X0_countByLength at h
  refine lv_aload_n hx hb dX0_countByLength_0 rfl (lv_at hl 0 rfl) ?_
  refine lv_aload_n hx hb dX0_countByLength_1 rfl (lv_at hl 0 rfl) ?_
  refine x_getO X Z 0 11 (v := .ref (d 11)) rfl rfl lk_X0_countByLength_X0_paths dX0_countByLength_2 ?_
  obtain ⟨u8, hc9, h⟩ := ob_some h
  refine x_runVv (RW' := (RW_X0_countByLength cy o q_p1 n_p1 d p1_ u8 longerPaths_)) (wr := [(q_p1, aJ cy n_p1 p1_), ((d 12), aJ cy 2000 longerPaths_)]) (isC := [1]) (isR := [0, 2]) (isF := [0, 2, 1]) (rest := []) (As := [.ref (d 11)]) (n := 1) X Z (c_X0_clearPaths l D cy o (d 11) 2000 d letters_ states_ paths_ u8 hc9) gX0_countByLength_X0_clearPaths rfl (by decide +kernel) ⟨Nat.le_of_ble_eq_true rfl, Nat.le_of_ble_eq_true rfl⟩ ⟨rfl, rfl⟩ ⟨Nat.le_of_ble_eq_true rfl, Nat.le_of_ble_eq_true rfl⟩ (x_rvO X Z 0 rfl rfl) ⟨rfl, rfl, (roC (Or.inr (mem_at 0 rfl)) roN), rfl, rfl, by decide⟩ ⟨rfl, rfl⟩ rfl hl.1 rfl (Nat.le_of_ble_eq_true rfl) dX0_countByLength_5 (fun H locs Z => ?_)
  refine lv_aload_n hx hb dX0_countByLength_8 rfl (lv_at hl 0 rfl) ?_
  refine x_getO X Z 0 11 (v := .ref (d 11)) rfl rfl lk_X0_countByLength_X0_paths dX0_countByLength_9 ?_
  refine lv_iconst (v := (0 : Int32)) hx hb dX0_countByLength_12 (by decide) ?_
  refine lv_lconst (v := (1 : Int64)) hx hb dX0_countByLength_13 (by decide) ?_
  obtain ⟨hin10, paths_11, hv12, h⟩ := st_b h
  refine x_last X Z 1 (RW_X0_countByLength cy o q_p1 n_p1 d p1_ paths_11 longerPaths_) rfl hin10 hv12 rfl dX0_countByLength_14 (fun H locs Z => ?_)
  refine lv_iconst (v := (0 : Int32)) hx hb dX0_countByLength_15 (by decide) ?_
  refine lv_istore_n (lv' := [(3, .int (0 : Int32)), (0, .ref o), (1, .ref q_p1), (2, .int x2)]) hx hb dX0_countByLength_16 rfl hl (by decide) rfl (fun ls hl => ?_)
  obtain ⟨u13, hL14, h⟩ := ob_some h
  refine wl_X0_countByLength_17 o q_p1 n_p1 d letters_ states_ next_ marks_ x2 FU (p1_, paths_11, longerPaths_, (0 : Int32)) u13 X hL14 (fun H locs ls Z hl => ?_) H locs ls Z (lv_sub hl [1, 2, 3, 0] rfl)
  obtain rfl := Option.some.inj h
  exact K H locs ls _ dX0_countByLength_45 Z
theorem c_X0_countByLength (l : Launch) (D : va_G) (cy : Nat → ClassId) (o : Nat) (q_p1 : Nat) (n_p1 : Nat) (d : Nat → Nat) (letters_ : Int32) (states_ : Int32) (next_ : Nat → Int32) (marks_ : Nat → Int32) (p1_ : Nat → Int64) (paths_ : Nat → Int64) (longerPaths_ : Nat → Int64) (x2 : Int32) (out : (Nat → Int64) × (Nat → Int64) × (Nat → Int64)) (h : f_X0_countByLength x2 n_p1 letters_ states_ next_ marks_ p1_ paths_ longerPaths_ = some out) : CtV l yX0_countByLength wsX0_countByLength rm_X0_countByLength D cy [.ref o, .ref q_p1, .int x2] (RW_X0_countByLength cy o q_p1 n_p1 d p1_ paths_ longerPaths_) (RO_X0_countByLength cy o q_p1 n_p1 d letters_ states_ next_ marks_) (RW_X0_countByLength cy o q_p1 n_p1 d out.1 out.2.1 out.2.2) :=
  mk_v (by decide) rfl (Nat.le_of_ble_eq_true rfl) (fun p e s m args below meth c A Q X K H locs ls Z hl => wt_X0_countByLength o q_p1 n_p1 d letters_ states_ next_ marks_ p1_ paths_ longerPaths_ x2 out X h K H locs ls Z hl)
/-! SubwordCounter countWords (II)J -/
abbrev rm_X11_countWords : Room := { frames := 6, cells := 0, slots := 0, locals := 143 }
def RW_X11_countWords (cy : Nat → ClassId) (o : Nat) (q_now_languages_L1 : Nat) (n_now_languages_L1_tests : Nat) (n_now_languages_L1_values : Nat) (d : Nat → Nat) (d_now_languages_L1 : Nat → Nat) (d_now : Nat → Nat) (d_automaton : Nat → Nat) (d_automaton_tests : Nat → Nat) (mono : Value) (PT : va_W) (automaton_letters_ : Int32) (automaton_states_ : Int32) (lengthCounts_ : Nat → Int64) (automaton_tests_count_ : Int32) (automaton_next_ : Nat → Int32) (automaton_marks_ : Nat → Int32) (automaton_depth_ : Nat → Int32) (automaton_low_ : Nat → Int64) (automaton_high_ : Nat → Int64) (automaton_parent_ : Nat → Int32) (automaton_lastLetter_ : Nat → Int32) (automaton_slots_ : Nat → Int32) (automaton_paths_ : Nat → Int64) (automaton_longerPaths_ : Nat → Int64) (automaton_tests_members_ : Nat → Option Nat) : va_W := [((d 8), ob 0 (oX0 d_automaton automaton_letters_ automaton_states_)), ((d 11), aJ cy 21 lengthCounts_), ((d_automaton 0), ob 1 (oX1 d_automaton_tests automaton_tests_count_)), ((d_automaton 3), aI cy 6000 automaton_next_), ((d_automaton 4), aI cy 2000 automaton_marks_), ((d_automaton 5), aI cy 2000 automaton_depth_), ((d_automaton 6), aJ cy 2000 automaton_low_), ((d_automaton 7), aJ cy 2000 automaton_high_), ((d_automaton 8), aI cy 2000 automaton_parent_), ((d_automaton 9), aI cy 2000 automaton_lastLetter_), ((d_automaton 10), aI cy 4096 automaton_slots_), ((d_automaton 11), aJ cy 2000 automaton_paths_), ((d_automaton 12), aJ cy 2000 automaton_longerPaths_), ((d_automaton_tests 0), aR cy 4 8 automaton_tests_members_)]
def RO_X11_countWords (cy : Nat → ClassId) (o : Nat) (q_now_languages_L1 : Nat) (n_now_languages_L1_tests : Nat) (n_now_languages_L1_values : Nat) (d : Nat → Nat) (d_now_languages_L1 : Nat → Nat) (d_now : Nat → Nat) (d_automaton : Nat → Nat) (d_automaton_tests : Nat → Nat) (mono : Value) (PT : va_W) (snapshotTaken_ : Int32) (inputLength_ : Int32) (now_languages_L1_form_ : Int32) (now_languages_L1_basics_ : Int32) (now_languages_L1_table_ : Int32) (now_letters_ : Int32) (now_languages_L1_tests_ : Nat → Option Nat) (now_languages_L1_values_ : Nat → Int32) (now_languages_ : Nat → Option Nat) : va_W := [(o, ob 10 (oX11 d mono snapshotTaken_ inputLength_)), (q_now_languages_L1, ob 2 (oX2 d_now_languages_L1 now_languages_L1_form_ now_languages_L1_basics_ now_languages_L1_table_)), ((d 0), ob 5 (oX5 d_now now_letters_)), ((d_now_languages_L1 3), aR cy 4 n_now_languages_L1_tests now_languages_L1_tests_), ((d_now_languages_L1 4), aI cy n_now_languages_L1_values now_languages_L1_values_), ((d_now 3), aR cy 2 4 now_languages_)] ++ PT
theorem in_X11_countWords_X11 : ∀ w ∈ u_ws RX11 TX11 12, w ∈ wsX11_countWords := fun w h => (List.mem_cons_of_mem _ (List.mem_append_left _ (List.mem_append_left _ (List.mem_append_left _ (List.mem_append_left _ (List.mem_append_left _ (List.mem_append_right _ h)))))))
theorem lk_X11_countWords_X11_now : Lk wsX11_countWords RX11 10 10 0 := ⟨RX11, TX11, 12, rfl, by decide, in_X11_countWords_X11, mem_at 2 rfl⟩
theorem in_X11_countWords_X5 : ∀ w ∈ u_ws RX5 TX5 4, w ∈ wsX11_countWords := fun w h => (List.mem_cons_of_mem _ (List.mem_append_left _ (List.mem_append_left _ (List.mem_append_left _ (List.mem_append_left _ (List.mem_append_right _ h))))))
theorem lk_X11_countWords_X5_languages : Lk wsX11_countWords RX11 232 5 3 := ⟨RX5, TX5, 4, rfl, by decide, in_X11_countWords_X5, mem_at 3 rfl⟩
theorem lk_X11_countWords_X11_automaton : Lk wsX11_countWords RX11 54 10 8 := ⟨RX11, TX11, 12, rfl, by decide, in_X11_countWords_X11, mem_at 6 rfl⟩
theorem lk_X11_countWords_X11_lengthCounts : Lk wsX11_countWords RX11 69 10 11 := ⟨RX11, TX11, 12, rfl, by decide, in_X11_countWords_X11, mem_at 7 rfl⟩
def f_X11_countWords (x1 : Int32) (x2 : Int32) (n_now_languages_L1_tests : Nat) (n_now_languages_L1_values : Nat) (q_now_languages_L1 : Nat) (tq : Nat → Option TV) (now_languages_L1_basics_ : Int32) (now_languages_L1_table_ : Int32) (now_letters_ : Int32) (now_languages_L1_tests_ : Nat → Option Nat) (now_languages_L1_values_ : Nat → Int32) (now_languages_ : Nat → Option Nat) (automaton_letters_ : Int32) (automaton_states_ : Int32) (lengthCounts_ : Nat → Int64) (automaton_tests_count_ : Int32) (automaton_next_ : Nat → Int32) (automaton_marks_ : Nat → Int32) (automaton_depth_ : Nat → Int32) (automaton_low_ : Nat → Int64) (automaton_high_ : Nat → Int64) (automaton_parent_ : Nat → Int32) (automaton_lastLetter_ : Nat → Int32) (automaton_slots_ : Nat → Int32) (automaton_paths_ : Nat → Int64) (automaton_longerPaths_ : Nat → Int64) (automaton_tests_members_ : Nat → Option Nat) : Option (Int64 × Int32 × Int32 × (Nat → Int64) × Int32 × (Nat → Int32) × (Nat → Int32) × (Nat → Int32) × (Nat → Int64) × (Nat → Int64) × (Nat → Int32) × (Nat → Int32) × (Nat → Int32) × (Nat → Int64) × (Nat → Int64) × (Nat → Option Nat)) :=
  (f_X11_isLanguage x1).bind (fun u1 =>
  if u1 = 0 then
  (some ((-1 : Int64), automaton_letters_, automaton_states_, lengthCounts_, automaton_tests_count_, automaton_next_, automaton_marks_, automaton_depth_, automaton_low_, automaton_high_, automaton_parent_, automaton_lastLetter_, automaton_slots_, automaton_paths_, automaton_longerPaths_, automaton_tests_members_))
  else
  (if x2 < 0 then
  (some ((-1 : Int64), automaton_letters_, automaton_states_, lengthCounts_, automaton_tests_count_, automaton_next_, automaton_marks_, automaton_depth_, automaton_low_, automaton_high_, automaton_parent_, automaton_lastLetter_, automaton_slots_, automaton_paths_, automaton_longerPaths_, automaton_tests_members_))
  else
  (if x2 ≤ (20 : Int32) then
  (ldA now_languages_ 4 x1 (fun r4 =>
  nlA r4 (
  some ((-5 : Int64), automaton_letters_, automaton_states_, lengthCounts_, automaton_tests_count_, automaton_next_, automaton_marks_, automaton_depth_, automaton_low_, automaton_high_, automaton_parent_, automaton_lastLetter_, automaton_slots_, automaton_paths_, automaton_longerPaths_, automaton_tests_members_)) (
  asR r4 q_now_languages_L1 (
  (f_X11_exploreLanguage n_now_languages_L1_tests n_now_languages_L1_values tq now_languages_L1_basics_ now_languages_L1_table_ now_letters_ now_languages_L1_tests_ now_languages_L1_values_ automaton_letters_ automaton_states_ automaton_tests_count_ automaton_next_ automaton_marks_ automaton_depth_ automaton_low_ automaton_high_ automaton_parent_ automaton_lastLetter_ automaton_slots_ automaton_tests_members_).bind (fun u9 =>
  if u9.1 = 0 then
  (some ((-4 : Int64), u9.2.1, u9.2.2.1, lengthCounts_, u9.2.2.2.1, u9.2.2.2.2.1, u9.2.2.2.2.2.1, u9.2.2.2.2.2.2.1, u9.2.2.2.2.2.2.2.1, u9.2.2.2.2.2.2.2.2.1, u9.2.2.2.2.2.2.2.2.2.1, u9.2.2.2.2.2.2.2.2.2.2.1, u9.2.2.2.2.2.2.2.2.2.2.2.1, automaton_paths_, automaton_longerPaths_, u9.2.2.2.2.2.2.2.2.2.2.2.2))
  else
  ((f_X0_countByLength x2 21 u9.2.1 u9.2.2.1 u9.2.2.2.2.1 u9.2.2.2.2.2.1 lengthCounts_ automaton_paths_ automaton_longerPaths_).bind (fun u11 =>
  ldA u11.1 21 x2 (fun v14 =>
  some (v14, u9.2.1, u9.2.2.1, u11.1, u9.2.2.2.1, u9.2.2.2.2.1, u9.2.2.2.2.2.1, u9.2.2.2.2.2.2.1, u9.2.2.2.2.2.2.2.1, u9.2.2.2.2.2.2.2.2.1, u9.2.2.2.2.2.2.2.2.2.1, u9.2.2.2.2.2.2.2.2.2.2.1, u9.2.2.2.2.2.2.2.2.2.2.2.1, u11.2.1, u11.2.2, u9.2.2.2.2.2.2.2.2.2.2.2.2)))))))))
  else
  (some ((-1 : Int64), automaton_letters_, automaton_states_, lengthCounts_, automaton_tests_count_, automaton_next_, automaton_marks_, automaton_depth_, automaton_low_, automaton_high_, automaton_parent_, automaton_lastLetter_, automaton_slots_, automaton_paths_, automaton_longerPaths_, automaton_tests_members_)))))
set_option maxHeartbeats 4000000 in
set_option maxRecDepth 100000 in
theorem wt_X11_countWords {p : Program} {l : Launch} {e : Env} {s : State} {m : MethodId} {args : Array Value} {below : List Frame} {meth : Method} {c : Code} {A : Nat → Prop} {Q : State → Prop} {D : va_G} {cy : Nat → ClassId} (o : Nat) (q_now_languages_L1 : Nat) (n_now_languages_L1_tests : Nat) (n_now_languages_L1_values : Nat) (d : Nat → Nat) (d_now_languages_L1 : Nat → Nat) (d_now : Nat → Nat) (d_automaton : Nat → Nat) (d_automaton_tests : Nat → Nat) (mono : Value) (PT : va_W) (tq : Nat → Option TV) (snapshotTaken_ : Int32) (inputLength_ : Int32) (now_languages_L1_form_ : Int32) (now_languages_L1_basics_ : Int32) (now_languages_L1_table_ : Int32) (now_letters_ : Int32) (now_languages_L1_tests_ : Nat → Option Nat) (now_languages_L1_values_ : Nat → Int32) (now_languages_ : Nat → Option Nat) (automaton_letters_ : Int32) (automaton_states_ : Int32) (lengthCounts_ : Nat → Int64) (automaton_tests_count_ : Int32) (automaton_next_ : Nat → Int32) (automaton_marks_ : Nat → Int32) (automaton_depth_ : Nat → Int32) (automaton_low_ : Nat → Int64) (automaton_high_ : Nat → Int64) (automaton_parent_ : Nat → Int32) (automaton_lastLetter_ : Nat → Int32) (automaton_slots_ : Nat → Int32) (automaton_paths_ : Nat → Int64) (automaton_longerPaths_ : Nat → Int64) (automaton_tests_members_ : Nat → Option Nat) (x1 : Int32) (x2 : Int32) (out : Int64 × Int32 × Int32 × (Nat → Int64) × Int32 × (Nat → Int32) × (Nat → Int32) × (Nat → Int32) × (Nat → Int64) × (Nat → Int64) × (Nat → Int32) × (Nat → Int32) × (Nat → Int32) × (Nat → Int64) × (Nat → Int64) × (Nat → Option Nat)) (hT : TP cy PT tq) (X : Cx p m c cX11_countWords 4 s args wsX11_countWords RX11 A D cy (RO_X11_countWords cy o q_now_languages_L1 n_now_languages_L1_tests n_now_languages_L1_values d d_now_languages_L1 d_now d_automaton d_automaton_tests mono PT snapshotTaken_ inputLength_ now_languages_L1_form_ now_languages_L1_basics_ now_languages_L1_table_ now_letters_ now_languages_L1_tests_ now_languages_L1_values_ now_languages_)) (h : f_X11_countWords x1 x2 n_now_languages_L1_tests n_now_languages_L1_values q_now_languages_L1 tq now_languages_L1_basics_ now_languages_L1_table_ now_letters_ now_languages_L1_tests_ now_languages_L1_values_ now_languages_ automaton_letters_ automaton_states_ lengthCounts_ automaton_tests_count_ automaton_next_ automaton_marks_ automaton_depth_ automaton_low_ automaton_high_ automaton_parent_ automaton_lastLetter_ automaton_slots_ automaton_paths_ automaton_longerPaths_ automaton_tests_members_ = some out) (K : ∀ (H : Heap) (locs : List Loc) (ls : Array Slot) (pc : Nat), decode cX11_countWords pc = .ok (.lreturn, 1) → St A D s (RW_X11_countWords cy o q_now_languages_L1 n_now_languages_L1_tests n_now_languages_L1_values d d_now_languages_L1 d_now d_automaton d_automaton_tests mono PT out.2.1 out.2.2.1 out.2.2.2.1 out.2.2.2.2.1 out.2.2.2.2.2.1 out.2.2.2.2.2.2.1 out.2.2.2.2.2.2.2.1 out.2.2.2.2.2.2.2.2.1 out.2.2.2.2.2.2.2.2.2.1 out.2.2.2.2.2.2.2.2.2.2.1 out.2.2.2.2.2.2.2.2.2.2.2.1 out.2.2.2.2.2.2.2.2.2.2.2.2.1 out.2.2.2.2.2.2.2.2.2.2.2.2.2.1 out.2.2.2.2.2.2.2.2.2.2.2.2.2.2.1 out.2.2.2.2.2.2.2.2.2.2.2.2.2.2.2) H locs → W p l e rm_X11_countWords s m args below meth c H locs 0 0 Q (F0 m pc ls [.long out.1])) : ∀ (H : Heap) (locs : List Loc) (ls : Array Slot), St A D s (RW_X11_countWords cy o q_now_languages_L1 n_now_languages_L1_tests n_now_languages_L1_values d d_now_languages_L1 d_now d_automaton d_automaton_tests mono PT automaton_letters_ automaton_states_ lengthCounts_ automaton_tests_count_ automaton_next_ automaton_marks_ automaton_depth_ automaton_low_ automaton_high_ automaton_parent_ automaton_lastLetter_ automaton_slots_ automaton_paths_ automaton_longerPaths_ automaton_tests_members_) H locs → lv_has ls 4 [(0, .ref o), (1, .int x1), (2, .int x2)] → W p l e rm_X11_countWords s m args below meth c H locs 0 0 Q (F0 m 0 ls []) := by
  intro H locs ls Z hl
  have hx := X.1.1
  have hb := X.1.2.1
  unfold f_X11_countWords at h
  refine lv_iload_n hx hb dX11_countWords_0 rfl (lv_at hl 1 rfl) ?_
  obtain ⟨u1, hc2, h⟩ := ob_some h
  refine x_runSi (RW' := (RW_X11_countWords cy o q_now_languages_L1 n_now_languages_L1_tests n_now_languages_L1_values d d_now_languages_L1 d_now d_automaton d_automaton_tests mono PT automaton_letters_ automaton_states_ lengthCounts_ automaton_tests_count_ automaton_next_ automaton_marks_ automaton_depth_ automaton_low_ automaton_high_ automaton_parent_ automaton_lastLetter_ automaton_slots_ automaton_paths_ automaton_longerPaths_ automaton_tests_members_)) (wr := [((d 8), ob 0 (oX0 d_automaton automaton_letters_ automaton_states_)), ((d 11), aJ cy 21 lengthCounts_), ((d_automaton 0), ob 1 (oX1 d_automaton_tests automaton_tests_count_)), ((d_automaton 3), aI cy 6000 automaton_next_), ((d_automaton 4), aI cy 2000 automaton_marks_), ((d_automaton 5), aI cy 2000 automaton_depth_), ((d_automaton 6), aJ cy 2000 automaton_low_), ((d_automaton 7), aJ cy 2000 automaton_high_), ((d_automaton 8), aI cy 2000 automaton_parent_), ((d_automaton 9), aI cy 2000 automaton_lastLetter_), ((d_automaton 10), aI cy 4096 automaton_slots_), ((d_automaton 11), aJ cy 2000 automaton_paths_), ((d_automaton 12), aJ cy 2000 automaton_longerPaths_), ((d_automaton_tests 0), aR cy 4 8 automaton_tests_members_)]) (isC := []) (isR := [0, 1, 2, 3, 4, 5, 6, 7, 8, 9, 10, 11, 12, 13]) (isF := [0, 1, 2, 3, 4, 5, 6, 7, 8, 9, 10, 11, 12, 13]) (rest := []) (As := [.int x1]) (n := 1) X Z (c_X11_isLanguage l D cy x1 u1 hc2) gX11_countWords_X11_isLanguage rfl (by decide +kernel) ⟨Nat.le_of_ble_eq_true rfl, Nat.le_of_ble_eq_true rfl⟩ ⟨rfl, rfl⟩ ⟨Nat.le_of_ble_eq_true rfl, Nat.le_of_ble_eq_true rfl⟩ ⟨rfl, rfl, roN, rfl, rfl, by decide⟩ ⟨rfl, rfl⟩ rfl hl.1 rfl (Nat.le_of_ble_eq_true rfl) dX11_countWords_1 (fun H locs Z => ?_)
  refine lv_if_eq (tgt := 17) hx hb dX11_countWords_4 (by decide) (fun cnd => ?_) (fun cnd => ?_)
  · replace h := ifp h cnd
    refine lv_ldc2 (v := (-1 : Int64)) hx hb X.1.2.2.2.1 (X.1.2.2.2.2 _ (mem_at 1 rfl)) dX11_countWords_17 ?_
    obtain rfl := Option.some.inj h
    exact K H locs ls _ dX11_countWords_20 Z
  · replace h := ifn h cnd
    refine lv_iload_n hx hb dX11_countWords_7 rfl (lv_at hl 2 rfl) ?_
    refine lv_if_lt (tgt := 17) hx hb dX11_countWords_8 (by decide) (fun cnd => ?_) (fun cnd => ?_)
    · replace h := ifp h cnd
      refine lv_ldc2 (v := (-1 : Int64)) hx hb X.1.2.2.2.1 (X.1.2.2.2.2 _ (mem_at 1 rfl)) dX11_countWords_17 ?_
      obtain rfl := Option.some.inj h
      exact K H locs ls _ dX11_countWords_20 Z
    · replace h := ifn h cnd
      refine lv_iload_n hx hb dX11_countWords_11 rfl (lv_at hl 2 rfl) ?_
      refine lv_bipush (v := (20 : Int32)) hx hb dX11_countWords_12 (by decide) ?_
      refine lv_icmp_le (tgt := 21) hx hb dX11_countWords_14 (by decide) (fun cnd => ?_) (fun cnd => ?_)
      · replace h := ifp h cnd
        refine lv_aload_n hx hb dX11_countWords_21 rfl (lv_at hl 0 rfl) ?_
        refine x_getO X Z 0 0 (v := .ref (d 0)) rfl rfl lk_X11_countWords_X11_now dX11_countWords_22 ?_
        refine x_getO X Z 2 3 (v := .ref (d_now 3)) rfl rfl lk_X11_countWords_X5_languages dX11_countWords_25 ?_
        refine lv_iload_n hx hb dX11_countWords_28 rfl (lv_at hl 1 rfl) ?_
        obtain ⟨hin3, r4, hv5, h⟩ := ld_b h
        refine x_raldqO X Z 5 2 rfl rfl hin3 hv5 dX11_countWords_29 (fun hr6 => ?_) (fun b7 hr6 => ?_)
        · replace h := nl_n h hr6
          refine lv_astore_nN (lv' := [(3, .null), (0, .ref o), (1, .int x1), (2, .int x2)]) hx hb dX11_countWords_30 rfl hl (by decide) rfl (fun ls hl => ?_)
          refine lv_aload_nN hx hb dX11_countWords_31 rfl (lv_at hl 0 rfl) ?_
          refine lv_ifnonnullN hx hb dX11_countWords_32 ?_
          refine lv_ldc2 (v := (-5 : Int64)) hx hb X.1.2.2.2.1 (X.1.2.2.2.2 _ (mem_at 4 rfl)) dX11_countWords_35 ?_
          obtain rfl := Option.some.inj h
          exact K H locs ls _ dX11_countWords_38 Z
        · replace h := nl_s h hr6
          obtain ⟨ha8, h⟩ := as_b h
          obtain rfl : q_now_languages_L1 = b7 := Option.some.inj (ha8.symm.trans hr6)
          refine lv_astore_n (lv' := [(3, .ref q_now_languages_L1), (0, .ref o), (1, .int x1), (2, .int x2)]) hx hb dX11_countWords_30 rfl hl (by decide) rfl (fun ls hl => ?_)
          refine lv_aload_n hx hb dX11_countWords_31 rfl (lv_at hl 0 rfl) ?_
          refine lv_ifnonnull (tgt := 39) hx hb dX11_countWords_32 (by decide) ?_
          refine lv_aload_n hx hb dX11_countWords_39 rfl (lv_at hl 1 rfl) ?_
          refine lv_aload_n hx hb dX11_countWords_40 rfl (lv_at hl 0 rfl) ?_
          obtain ⟨u9, hc10, h⟩ := ob_some h
          refine x_runVi (RW' := (RW_X11_countWords cy o q_now_languages_L1 n_now_languages_L1_tests n_now_languages_L1_values d d_now_languages_L1 d_now d_automaton d_automaton_tests mono PT u9.2.1 u9.2.2.1 lengthCounts_ u9.2.2.2.1 u9.2.2.2.2.1 u9.2.2.2.2.2.1 u9.2.2.2.2.2.2.1 u9.2.2.2.2.2.2.2.1 u9.2.2.2.2.2.2.2.2.1 u9.2.2.2.2.2.2.2.2.2.1 u9.2.2.2.2.2.2.2.2.2.2.1 u9.2.2.2.2.2.2.2.2.2.2.2.1 automaton_paths_ automaton_longerPaths_ u9.2.2.2.2.2.2.2.2.2.2.2.2)) (wr := [((d 11), aJ cy 21 lengthCounts_), ((d_automaton 11), aJ cy 2000 automaton_paths_), ((d_automaton 12), aJ cy 2000 automaton_longerPaths_)]) (isC := [0, 2, 3, 4, 5, 6, 7, 8, 9, 10, 13]) (isR := [1, 11, 12]) (isF := [3, 0, 4, 5, 6, 7, 8, 9, 10, 11, 12, 1, 2, 13]) (rest := []) (As := [.ref q_now_languages_L1]) (n := 1) X Z (c_X11_exploreLanguage l D cy o q_now_languages_L1 n_now_languages_L1_tests n_now_languages_L1_values d d_now_languages_L1 d_now d_automaton d_automaton_tests mono PT tq snapshotTaken_ inputLength_ now_languages_L1_form_ now_languages_L1_basics_ now_languages_L1_table_ now_letters_ now_languages_L1_tests_ now_languages_L1_values_ automaton_letters_ automaton_states_ automaton_tests_count_ automaton_next_ automaton_marks_ automaton_depth_ automaton_low_ automaton_high_ automaton_parent_ automaton_lastLetter_ automaton_slots_ automaton_tests_members_ u9 hT hc10) gX11_countWords_X11_exploreLanguage rfl (by decide +kernel) ⟨Nat.le_of_ble_eq_true rfl, Nat.le_of_ble_eq_true rfl⟩ ⟨rfl, rfl⟩ ⟨Nat.le_of_ble_eq_true rfl, Nat.le_of_ble_eq_true rfl⟩ (x_rvO X Z 0 rfl rfl) ⟨rfl, rfl, (roC (Or.inr (mem_at 0 rfl)) (roC (Or.inr (mem_at 1 rfl)) (roC (Or.inr (mem_at 2 rfl)) (roC (Or.inr (mem_at 3 rfl)) (roC (Or.inr (mem_at 4 rfl)) (fun q hq => Or.inr (List.mem_append_right _ hq))))))), rfl, rfl, by decide⟩ ⟨rfl, rfl⟩ rfl hl.1 rfl (Nat.le_of_ble_eq_true rfl) dX11_countWords_41 (fun H locs Z => ?_)
          refine lv_if_ne (tgt := 51) hx hb dX11_countWords_44 (by decide) (fun cnd => ?_) (fun cnd => ?_)
          · replace h := ifn h cnd
            refine lv_aload_n hx hb dX11_countWords_51 rfl (lv_at hl 1 rfl) ?_
            refine x_getO X Z 0 8 (v := .ref (d 8)) rfl rfl lk_X11_countWords_X11_automaton dX11_countWords_52 ?_
            refine lv_aload_n hx hb dX11_countWords_55 rfl (lv_at hl 1 rfl) ?_
            refine x_getO X Z 0 11 (v := .ref (d 11)) rfl rfl lk_X11_countWords_X11_lengthCounts dX11_countWords_56 ?_
            refine lv_iload_n hx hb dX11_countWords_59 rfl (lv_at hl 3 rfl) ?_
            obtain ⟨u11, hc12, h⟩ := ob_some h
            refine x_runVv (RW' := (RW_X11_countWords cy o q_now_languages_L1 n_now_languages_L1_tests n_now_languages_L1_values d d_now_languages_L1 d_now d_automaton d_automaton_tests mono PT u9.2.1 u9.2.2.1 u11.1 u9.2.2.2.1 u9.2.2.2.2.1 u9.2.2.2.2.2.1 u9.2.2.2.2.2.2.1 u9.2.2.2.2.2.2.2.1 u9.2.2.2.2.2.2.2.2.1 u9.2.2.2.2.2.2.2.2.2.1 u9.2.2.2.2.2.2.2.2.2.2.1 u9.2.2.2.2.2.2.2.2.2.2.2.1 u11.2.1 u11.2.2 u9.2.2.2.2.2.2.2.2.2.2.2.2)) (wr := [((d 8), ob 0 (oX0 d_automaton u9.2.1 u9.2.2.1)), ((d_automaton 0), ob 1 (oX1 d_automaton_tests u9.2.2.2.1)), ((d_automaton 3), aI cy 6000 u9.2.2.2.2.1), ((d_automaton 4), aI cy 2000 u9.2.2.2.2.2.1), ((d_automaton 5), aI cy 2000 u9.2.2.2.2.2.2.1), ((d_automaton 6), aJ cy 2000 u9.2.2.2.2.2.2.2.1), ((d_automaton 7), aJ cy 2000 u9.2.2.2.2.2.2.2.2.1), ((d_automaton 8), aI cy 2000 u9.2.2.2.2.2.2.2.2.2.1), ((d_automaton 9), aI cy 2000 u9.2.2.2.2.2.2.2.2.2.2.1), ((d_automaton 10), aI cy 4096 u9.2.2.2.2.2.2.2.2.2.2.2.1), ((d_automaton_tests 0), aR cy 4 8 u9.2.2.2.2.2.2.2.2.2.2.2.2)]) (isC := [1, 11, 12]) (isR := [0, 2, 3, 4, 5, 6, 7, 8, 9, 10, 13]) (isF := [0, 11, 1, 2, 3, 4, 5, 6, 7, 8, 9, 12, 13, 10]) (rest := []) (As := [.ref (d 11), .int x2]) (n := 2) X Z (c_X0_countByLength l D cy (d 8) (d 11) 21 d_automaton u9.2.1 u9.2.2.1 u9.2.2.2.2.1 u9.2.2.2.2.2.1 lengthCounts_ automaton_paths_ automaton_longerPaths_ x2 u11 hc12) gX11_countWords_X0_countByLength rfl (by decide +kernel) ⟨Nat.le_of_ble_eq_true rfl, Nat.le_of_ble_eq_true rfl⟩ ⟨rfl, rfl⟩ ⟨Nat.le_of_ble_eq_true rfl, Nat.le_of_ble_eq_true rfl⟩ (x_rv X Z 0 rfl rfl) ⟨rfl, rfl, (roC (Or.inl (mem_at 0 rfl)) (roC (Or.inl (mem_at 2 rfl)) (roC (Or.inl (mem_at 3 rfl)) roN))), rfl, rfl, by decide⟩ ⟨rfl, rfl⟩ rfl hl.1 rfl (Nat.le_of_ble_eq_true rfl) dX11_countWords_60 (fun H locs Z => ?_)
            refine lv_aload_n hx hb dX11_countWords_63 rfl (lv_at hl 1 rfl) ?_
            refine x_getO X Z 0 11 (v := .ref (d 11)) rfl rfl lk_X11_countWords_X11_lengthCounts dX11_countWords_64 ?_
            refine lv_iload_n hx hb dX11_countWords_67 rfl (lv_at hl 3 rfl) ?_
            obtain ⟨hin13, v14, hv15, h⟩ := ld_b h
            refine x_lald X Z 1 rfl hin13 hv15 dX11_countWords_68 ?_
            obtain rfl := Option.some.inj h
            exact K H locs ls _ dX11_countWords_69 Z
          · replace h := ifp h cnd
            refine lv_ldc2 (v := (-4 : Int64)) hx hb X.1.2.2.2.1 (X.1.2.2.2.2 _ (mem_at 5 rfl)) dX11_countWords_47 ?_
            obtain rfl := Option.some.inj h
            exact K H locs ls _ dX11_countWords_50 Z
      · replace h := ifn h cnd
        refine lv_ldc2 (v := (-1 : Int64)) hx hb X.1.2.2.2.1 (X.1.2.2.2.2 _ (mem_at 1 rfl)) dX11_countWords_17 ?_
        obtain rfl := Option.some.inj h
        exact K H locs ls _ dX11_countWords_20 Z
theorem c_X11_countWords (l : Launch) (D : va_G) (cy : Nat → ClassId) (o : Nat) (q_now_languages_L1 : Nat) (n_now_languages_L1_tests : Nat) (n_now_languages_L1_values : Nat) (d : Nat → Nat) (d_now_languages_L1 : Nat → Nat) (d_now : Nat → Nat) (d_automaton : Nat → Nat) (d_automaton_tests : Nat → Nat) (mono : Value) (PT : va_W) (tq : Nat → Option TV) (snapshotTaken_ : Int32) (inputLength_ : Int32) (now_languages_L1_form_ : Int32) (now_languages_L1_basics_ : Int32) (now_languages_L1_table_ : Int32) (now_letters_ : Int32) (now_languages_L1_tests_ : Nat → Option Nat) (now_languages_L1_values_ : Nat → Int32) (now_languages_ : Nat → Option Nat) (automaton_letters_ : Int32) (automaton_states_ : Int32) (lengthCounts_ : Nat → Int64) (automaton_tests_count_ : Int32) (automaton_next_ : Nat → Int32) (automaton_marks_ : Nat → Int32) (automaton_depth_ : Nat → Int32) (automaton_low_ : Nat → Int64) (automaton_high_ : Nat → Int64) (automaton_parent_ : Nat → Int32) (automaton_lastLetter_ : Nat → Int32) (automaton_slots_ : Nat → Int32) (automaton_paths_ : Nat → Int64) (automaton_longerPaths_ : Nat → Int64) (automaton_tests_members_ : Nat → Option Nat) (x1 : Int32) (x2 : Int32) (out : Int64 × Int32 × Int32 × (Nat → Int64) × Int32 × (Nat → Int32) × (Nat → Int32) × (Nat → Int32) × (Nat → Int64) × (Nat → Int64) × (Nat → Int32) × (Nat → Int32) × (Nat → Int32) × (Nat → Int64) × (Nat → Int64) × (Nat → Option Nat)) (hT : TP cy PT tq) (h : f_X11_countWords x1 x2 n_now_languages_L1_tests n_now_languages_L1_values q_now_languages_L1 tq now_languages_L1_basics_ now_languages_L1_table_ now_letters_ now_languages_L1_tests_ now_languages_L1_values_ now_languages_ automaton_letters_ automaton_states_ lengthCounts_ automaton_tests_count_ automaton_next_ automaton_marks_ automaton_depth_ automaton_low_ automaton_high_ automaton_parent_ automaton_lastLetter_ automaton_slots_ automaton_paths_ automaton_longerPaths_ automaton_tests_members_ = some out) : CtL l yX11_countWords wsX11_countWords rm_X11_countWords D cy [.ref o, .int x1, .int x2] (RW_X11_countWords cy o q_now_languages_L1 n_now_languages_L1_tests n_now_languages_L1_values d d_now_languages_L1 d_now d_automaton d_automaton_tests mono PT automaton_letters_ automaton_states_ lengthCounts_ automaton_tests_count_ automaton_next_ automaton_marks_ automaton_depth_ automaton_low_ automaton_high_ automaton_parent_ automaton_lastLetter_ automaton_slots_ automaton_paths_ automaton_longerPaths_ automaton_tests_members_) (RO_X11_countWords cy o q_now_languages_L1 n_now_languages_L1_tests n_now_languages_L1_values d d_now_languages_L1 d_now d_automaton d_automaton_tests mono PT snapshotTaken_ inputLength_ now_languages_L1_form_ now_languages_L1_basics_ now_languages_L1_table_ now_letters_ now_languages_L1_tests_ now_languages_L1_values_ now_languages_) (RW_X11_countWords cy o q_now_languages_L1 n_now_languages_L1_tests n_now_languages_L1_values d d_now_languages_L1 d_now d_automaton d_automaton_tests mono PT out.2.1 out.2.2.1 out.2.2.2.1 out.2.2.2.2.1 out.2.2.2.2.2.1 out.2.2.2.2.2.2.1 out.2.2.2.2.2.2.2.1 out.2.2.2.2.2.2.2.2.1 out.2.2.2.2.2.2.2.2.2.1 out.2.2.2.2.2.2.2.2.2.2.1 out.2.2.2.2.2.2.2.2.2.2.2.1 out.2.2.2.2.2.2.2.2.2.2.2.2.1 out.2.2.2.2.2.2.2.2.2.2.2.2.2.1 out.2.2.2.2.2.2.2.2.2.2.2.2.2.2.1 out.2.2.2.2.2.2.2.2.2.2.2.2.2.2.2) out.1 :=
  mk_l (by decide) rfl (Nat.le_of_ble_eq_true rfl) (fun p e s m args below meth c A Q X K H locs ls Z hl => wt_X11_countWords o q_now_languages_L1 n_now_languages_L1_tests n_now_languages_L1_values d d_now_languages_L1 d_now d_automaton d_automaton_tests mono PT tq snapshotTaken_ inputLength_ now_languages_L1_form_ now_languages_L1_basics_ now_languages_L1_table_ now_letters_ now_languages_L1_tests_ now_languages_L1_values_ now_languages_ automaton_letters_ automaton_states_ lengthCounts_ automaton_tests_count_ automaton_next_ automaton_marks_ automaton_depth_ automaton_low_ automaton_high_ automaton_parent_ automaton_lastLetter_ automaton_slots_ automaton_paths_ automaton_longerPaths_ automaton_tests_members_ x1 x2 out hT X h K H locs ls Z hl)
/-! SubwordCounter$Automaton firstMarked ()I -/
abbrev rm_X0_firstMarked : Room := { frames := 0, cells := 0, slots := 0, locals := 0 }
def RW_X0_firstMarked (cy : Nat → ClassId) (o : Nat) (d : Nat → Nat)  : va_W := []
def RO_X0_firstMarked (cy : Nat → ClassId) (o : Nat) (d : Nat → Nat) (letters_ : Int32) (states_ : Int32) (marks_ : Nat → Int32) : va_W := [(o, ob 0 (oX0 d letters_ states_)), ((d 4), aI cy 2000 marks_)]
theorem in_X0_firstMarked_X0 : ∀ w ∈ u_ws RX0 TX0 13, w ∈ wsX0_firstMarked := fun w h => (List.mem_cons_of_mem _ (List.mem_append_right _ h))
theorem lk_X0_firstMarked_X0_states : Lk wsX0_firstMarked RX0 22 0 2 := ⟨RX0, TX0, 13, rfl, by decide, in_X0_firstMarked_X0, mem_at 1 rfl⟩
theorem lk_X0_firstMarked_X0_marks : Lk wsX0_firstMarked RX0 29 0 4 := ⟨RX0, TX0, 13, rfl, by decide, in_X0_firstMarked_X0, mem_at 2 rfl⟩
def b_X0_firstMarked_2 (states_ : Int32) (marks_ : Nat → Int32)  (x1 : Int32) : Option ((Int32) ⊕ ((Int32) ⊕ (Unit))) :=
  if states_ ≤ x1 then
  (some (.inr (.inr ())))
  else
  (ldA marks_ 2000 x1 (fun v2 =>
  if v2 = (1 : Int32) then
  (some (.inr (.inl x1)))
  else
  (some (.inl (x1 + (1 : Int32))))))
set_option maxHeartbeats 4000000 in
set_option maxRecDepth 100000 in
theorem wb_X0_firstMarked_2 {p : Program} {l : Launch} {e : Env} {s : State} {m : MethodId} {args : Array Value} {below : List Frame} {meth : Method} {c : Code} {A : Nat → Prop} {Q : State → Prop} {D : va_G} {cy : Nat → ClassId} (o : Nat) (d : Nat → Nat) (letters_ : Int32) (states_ : Int32) (marks_ : Nat → Int32)   (x1 : Int32) (o1 : (Int32) ⊕ ((Int32) ⊕ (Unit))) (X : Cx p m c cX0_firstMarked 2 s args wsX0_firstMarked RX0 A D cy (RO_X0_firstMarked cy o d letters_ states_ marks_)) (h : b_X0_firstMarked_2 states_ marks_ x1 = some o1) (K : Sum.elim (fun v : Int32 => ∀ (H : Heap) (locs : List Loc) (ls : Array Slot), St A D s (RW_X0_firstMarked cy o d) H locs → lv_has ls 2 [(0, .ref o), (1, .int v)] → W p l e rm_X0_firstMarked s m args below meth c H locs 0 0 Q (F0 m 2 ls [])) (fun v : (Int32) ⊕ (Unit) => Sum.elim (fun w : Int32 => ∀ (H : Heap) (locs : List Loc) (ls : Array Slot), St A D s (RW_X0_firstMarked cy o d) H locs → lv_has ls 2 [(1, .int w)] → W p l e rm_X0_firstMarked s m args below meth c H locs 0 0 Q (F0 m 20 ls [])) (fun w => ∀ (H : Heap) (locs : List Loc) (ls : Array Slot), St A D s (RW_X0_firstMarked cy o d) H locs → lv_has ls 2 [] → W p l e rm_X0_firstMarked s m args below meth c H locs 0 0 Q (F0 m 28 ls [])) v) o1) : ∀ (H : Heap) (locs : List Loc) (ls : Array Slot), St A D s (RW_X0_firstMarked cy o d) H locs → lv_has ls 2 [(0, .ref o), (1, .int x1)] → W p l e rm_X0_firstMarked s m args below meth c H locs 0 0 Q (F0 m 2 ls []) := by
  intro H locs ls Z hl
  have hx := X.1.1
  have hb := X.1.2.1
  unfold b_X0_firstMarked_2 at h
  refine lv_iload_n hx hb dX0_firstMarked_2 rfl (lv_at hl 1 rfl) ?_
  refine lv_aload_n hx hb dX0_firstMarked_3 rfl (lv_at hl 0 rfl) ?_
  refine x_getO X Z 0 2 (v := .int states_) rfl rfl lk_X0_firstMarked_X0_states dX0_firstMarked_4 ?_
  refine lv_icmp_ge (tgt := 28) hx hb dX0_firstMarked_7 (by decide) (fun cnd => ?_) (fun cnd => ?_)
  · replace h := ifp h cnd
    obtain rfl := Option.some.inj h
    exact (sk_r (sk_r K)) H locs ls Z (lv_sub hl [] rfl)
  · replace h := ifn h cnd
    refine lv_aload_n hx hb dX0_firstMarked_10 rfl (lv_at hl 0 rfl) ?_
    refine x_getO X Z 0 4 (v := .ref (d 4)) rfl rfl lk_X0_firstMarked_X0_marks dX0_firstMarked_11 ?_
    refine lv_iload_n hx hb dX0_firstMarked_14 rfl (lv_at hl 1 rfl) ?_
    obtain ⟨hin1, v2, hv3, h⟩ := ld_b h
    refine x_ialdO X Z 1 rfl hin1 hv3 dX0_firstMarked_15 ?_
    refine lv_iconst (v := (1 : Int32)) hx hb dX0_firstMarked_16 (by decide) ?_
    refine lv_icmp_ne (tgt := 22) hx hb dX0_firstMarked_17 (by decide) (fun cnd => ?_) (fun cnd => ?_)
    · replace h := ifn h cnd
      refine lv_iinc (v := (x1 + (1 : Int32))) (lv' := [(1, .int (x1 + (1 : Int32))), (0, .ref o)]) hx hb dX0_firstMarked_22 hl (k := 1) rfl rfl (by decide) rfl (fun ls hl => ?_)
      refine lv_goto (tgt := 2) hx hb dX0_firstMarked_25 (by decide) ?_
      obtain rfl := Option.some.inj h
      exact sk_l K H locs ls Z (lv_sub hl [1, 0] rfl)
    · replace h := ifp h cnd
      obtain rfl := Option.some.inj h
      exact (sk_l (sk_r K)) H locs ls Z (lv_sub hl [1] rfl)
set_option maxHeartbeats 4000000 in
set_option maxRecDepth 100000 in
theorem wl_X0_firstMarked_2 {p : Program} {l : Launch} {e : Env} {s : State} {m : MethodId} {args : Array Value} {below : List Frame} {meth : Method} {c : Code} {A : Nat → Prop} {Q : State → Prop} {D : va_G} {cy : Nat → ClassId} (o : Nat) (d : Nat → Nat) (letters_ : Int32) (states_ : Int32) (marks_ : Nat → Int32)  (n : Nat) (v : Int32) (x : (Int32) ⊕ (Unit)) (X : Cx p m c cX0_firstMarked 2 s args wsX0_firstMarked RX0 A D cy (RO_X0_firstMarked cy o d letters_ states_ marks_)) (h : loopN (fun v => b_X0_firstMarked_2 states_ marks_ v) n v = some x) (K : Sum.elim (fun w : Int32 => ∀ (H : Heap) (locs : List Loc) (ls : Array Slot), St A D s (RW_X0_firstMarked cy o d) H locs → lv_has ls 2 [(1, .int w)] → W p l e rm_X0_firstMarked s m args below meth c H locs 0 0 Q (F0 m 20 ls [])) (fun w => ∀ (H : Heap) (locs : List Loc) (ls : Array Slot), St A D s (RW_X0_firstMarked cy o d) H locs → lv_has ls 2 [] → W p l e rm_X0_firstMarked s m args below meth c H locs 0 0 Q (F0 m 28 ls [])) x) : ∀ (H : Heap) (locs : List Loc) (ls : Array Slot), St A D s (RW_X0_firstMarked cy o d) H locs → lv_has ls 2 [(0, .ref o), (1, .int v)] → W p l e rm_X0_firstMarked s m args below meth c H locs 0 0 Q (F0 m 2 ls []) :=
  loop_gen (B := (fun v => b_X0_firstMarked_2 states_ marks_ v)) (Head := fun v : Int32 => ∀ (H : Heap) (locs : List Loc) (ls : Array Slot), St A D s (RW_X0_firstMarked cy o d) H locs → lv_has ls 2 [(0, .ref o), (1, .int v)] → W p l e rm_X0_firstMarked s m args below meth c H locs 0 0 Q (F0 m 2 ls [])) (Exit := fun v : (Int32) ⊕ (Unit) => Sum.elim (fun w : Int32 => ∀ (H : Heap) (locs : List Loc) (ls : Array Slot), St A D s (RW_X0_firstMarked cy o d) H locs → lv_has ls 2 [(1, .int w)] → W p l e rm_X0_firstMarked s m args below meth c H locs 0 0 Q (F0 m 20 ls [])) (fun w => ∀ (H : Heap) (locs : List Loc) (ls : Array Slot), St A D s (RW_X0_firstMarked cy o d) H locs → lv_has ls 2 [] → W p l e rm_X0_firstMarked s m args below meth c H locs 0 0 Q (F0 m 28 ls [])) v) (fun v o9 hb1 K1 => wb_X0_firstMarked_2 o d letters_ states_ marks_ v o9 X hb1 K1) n v x h K
def f_X0_firstMarked (states_ : Int32) (marks_ : Nat → Int32) : Option (Int32) :=
  (loopN (fun v => b_X0_firstMarked_2 states_ marks_ v) FU (0 : Int32)).bind (fun u4 =>
  Sum.elim (fun u4 =>
  some u4) (fun u4 =>
  some (-1 : Int32)) u4)
set_option maxHeartbeats 4000000 in
set_option maxRecDepth 100000 in
theorem wt_X0_firstMarked {p : Program} {l : Launch} {e : Env} {s : State} {m : MethodId} {args : Array Value} {below : List Frame} {meth : Method} {c : Code} {A : Nat → Prop} {Q : State → Prop} {D : va_G} {cy : Nat → ClassId} (o : Nat) (d : Nat → Nat) (letters_ : Int32) (states_ : Int32) (marks_ : Nat → Int32)  (out : Int32) (X : Cx p m c cX0_firstMarked 2 s args wsX0_firstMarked RX0 A D cy (RO_X0_firstMarked cy o d letters_ states_ marks_)) (h : f_X0_firstMarked states_ marks_ = some out) (K : ∀ (H : Heap) (locs : List Loc) (ls : Array Slot) (pc : Nat), decode cX0_firstMarked pc = .ok (.ireturn, 1) → St A D s (RW_X0_firstMarked cy o d) H locs → W p l e rm_X0_firstMarked s m args below meth c H locs 0 0 Q (F0 m pc ls [.int out])) : ∀ (H : Heap) (locs : List Loc) (ls : Array Slot), St A D s (RW_X0_firstMarked cy o d) H locs → lv_has ls 2 [(0, .ref o)] → W p l e rm_X0_firstMarked s m args below meth c H locs 0 0 Q (F0 m 0 ls []) := by
  intro H locs ls Z hl
  have hx := X.1.1
  have hb := X.1.2.1
  unfold f_X0_firstMarked at h
  refine lv_iconst (v := (0 : Int32)) hx hb dX0_firstMarked_0 (by decide) ?_
  refine lv_istore_n (lv' := [(1, .int (0 : Int32)), (0, .ref o)]) hx hb dX0_firstMarked_1 rfl hl (by decide) rfl (fun ls hl => ?_)
  obtain ⟨u4, hL5, h⟩ := ob_some h
  rcases u4 with u4 | u4
  · replace h := se_l h
    refine wl_X0_firstMarked_2 o d letters_ states_ marks_ FU (0 : Int32) (.inl u4) X hL5 (sk_li (fun H locs ls Z hl => ?_)) H locs ls Z (lv_sub hl [1, 0] rfl)
    refine lv_iload_n hx hb dX0_firstMarked_20 rfl (lv_at hl 0 rfl) ?_
    obtain rfl := Option.some.inj h
    exact K H locs ls _ dX0_firstMarked_21 Z
  · replace h := se_r h
    refine wl_X0_firstMarked_2 o d letters_ states_ marks_ FU (0 : Int32) (.inr u4) X hL5 (sk_ri (fun H locs ls Z hl => ?_)) H locs ls Z (lv_sub hl [1, 0] rfl)
    refine lv_iconst (v := (-1 : Int32)) hx hb dX0_firstMarked_28 (by decide) ?_
    obtain rfl := Option.some.inj h
    exact K H locs ls _ dX0_firstMarked_29 Z
theorem c_X0_firstMarked (l : Launch) (D : va_G) (cy : Nat → ClassId) (o : Nat) (d : Nat → Nat) (letters_ : Int32) (states_ : Int32) (marks_ : Nat → Int32)  (out : Int32) (h : f_X0_firstMarked states_ marks_ = some out) : CtI l yX0_firstMarked wsX0_firstMarked rm_X0_firstMarked D cy [.ref o] (RW_X0_firstMarked cy o d) (RO_X0_firstMarked cy o d letters_ states_ marks_) (RW_X0_firstMarked cy o d) out :=
  mk_i (ty := .int) (by decide) rfl rfl (Nat.le_of_ble_eq_true rfl) (fun p e s m args below meth c A Q X K H locs ls Z hl => wt_X0_firstMarked o d letters_ states_ marks_ out X h K H locs ls Z hl)
