set_option linter.unusedVariables false
/-! SubwordCounter$Automaton spell (ILSubwordCounter$Word;)V -/
abbrev rm_X0_spell : Room := { frames := 1, cells := 0, slots := 0, locals := 21 }
def RW_X0_spell (cy : Nat → ClassId) (o : Nat) (q_p2 : Nat) (d : Nat → Nat) (d_p2 : Nat → Nat) (p2_size_ : Int32) (p2_letters_ : Nat → Int32) : va_W := [(q_p2, ob 8 (oX9 d_p2 p2_size_)), ((d_p2 0), aI cy 12 p2_letters_)]
def RO_X0_spell (cy : Nat → ClassId) (o : Nat) (q_p2 : Nat) (d : Nat → Nat) (d_p2 : Nat → Nat) (letters_ : Int32) (states_ : Int32) (depth_ : Nat → Int32) (parent_ : Nat → Int32) (lastLetter_ : Nat → Int32) : va_W := [(o, ob 0 (oX0 d letters_ states_)), ((d 5), aI cy 2000 depth_), ((d 8), aI cy 2000 parent_), ((d 9), aI cy 2000 lastLetter_)]
theorem in_X0_spell_X9 : ∀ w ∈ u_ws RX9 TX9 3, w ∈ wsX0_spell := fun w h => (List.mem_cons_of_mem _ (List.mem_append_right _ h))
theorem lk_X0_spell_X9_letters : Lk wsX0_spell RX0 107 8 0 := ⟨RX9, TX9, 3, rfl, by decide, in_X0_spell_X9, mem_at 7 rfl⟩
theorem in_X0_spell_X0 : ∀ w ∈ u_ws RX0 TX0 13, w ∈ wsX0_spell := fun w h => (List.mem_cons_of_mem _ (List.mem_append_left _ (List.mem_append_right _ h)))
theorem lk_X0_spell_X0_lastLetter : Lk wsX0_spell RX0 45 0 9 := ⟨RX0, TX0, 13, rfl, by decide, in_X0_spell_X0, mem_at 8 rfl⟩
theorem lk_X0_spell_X0_parent : Lk wsX0_spell RX0 42 0 8 := ⟨RX0, TX0, 13, rfl, by decide, in_X0_spell_X0, mem_at 9 rfl⟩
theorem lk_X0_spell_X0_depth : Lk wsX0_spell RX0 32 0 5 := ⟨RX0, TX0, 13, rfl, by decide, in_X0_spell_X0, mem_at 1 rfl⟩
theorem lp_X0_spell_X9_size : Lp wsX0_spell RX0 102 8 1 .int := ⟨RX9, TX9, 3, tyX9, rfl, by decide, in_X0_spell_X9, mem_at 6 rfl, tyX9_ok, nmX9, rfl, by decide +kernel⟩
theorem lk_X0_spell_X9_size : Lk wsX0_spell RX0 102 8 1 := ⟨RX9, TX9, 3, rfl, by decide, in_X0_spell_X9, mem_at 6 rfl⟩
def b_X0_spell_25 (parent_ : Nat → Int32) (lastLetter_ : Nat → Int32) (p2_letters_ : Nat → Int32) (x3 : Int32) (x4 : Int32) : Option (((Nat → Int32) × Int32 × Int32) ⊕ ((Nat → Int32))) :=
  if x4 < 0 then
  (some (.inr p2_letters_))
  else
  (ldA lastLetter_ 2000 x3 (fun v2 =>
  stA p2_letters_ 12 x4 v2 (fun p2_letters_5 =>
  ldA parent_ 2000 x3 (fun v8 =>
  some (.inl (p2_letters_5, v8, (x4 + (-1 : Int32))))))))
set_option maxHeartbeats 4000000 in
set_option maxRecDepth 100000 in
theorem wb_X0_spell_25 {p : Program} {l : Launch} {e : Env} {s : State} {m : MethodId} {args : Array Value} {below : List Frame} {meth : Method} {c : Code} {A : Nat → Prop} {Q : State → Prop} {D : va_G} {cy : Nat → ClassId} (o : Nat) (q_p2 : Nat) (d : Nat → Nat) (d_p2 : Nat → Nat) (letters_ : Int32) (states_ : Int32) (depth_ : Nat → Int32) (parent_ : Nat → Int32) (lastLetter_ : Nat → Int32) (p2_size_ : Int32) (p2_letters_ : Nat → Int32) (x3 : Int32) (x4 : Int32) (o1 : ((Nat → Int32) × Int32 × Int32) ⊕ ((Nat → Int32))) (X : Cx p m c cX0_spell 5 s args wsX0_spell RX0 A D cy (RO_X0_spell cy o q_p2 d d_p2 letters_ states_ depth_ parent_ lastLetter_)) (h : b_X0_spell_25 parent_ lastLetter_ p2_letters_ x3 x4 = some o1) (K : Sum.elim (fun v : (Nat → Int32) × Int32 × Int32 => ∀ (H : Heap) (locs : List Loc) (ls : Array Slot), St A D s (RW_X0_spell cy o q_p2 d d_p2 p2_size_ v.1) H locs → lv_has ls 5 [(0, .ref o), (2, .ref q_p2), (3, .int v.2.1), (4, .int v.2.2)] → W p l e rm_X0_spell s m args below meth c H locs 0 0 Q (F0 m 25 ls [])) (fun v : (Nat → Int32) => ∀ (H : Heap) (locs : List Loc) (ls : Array Slot), St A D s (RW_X0_spell cy o q_p2 d d_p2 p2_size_ v) H locs → lv_has ls 5 [] → W p l e rm_X0_spell s m args below meth c H locs 0 0 Q (F0 m 56 ls [])) o1) : ∀ (H : Heap) (locs : List Loc) (ls : Array Slot), St A D s (RW_X0_spell cy o q_p2 d d_p2 p2_size_ p2_letters_) H locs → lv_has ls 5 [(0, .ref o), (2, .ref q_p2), (3, .int x3), (4, .int x4)] → W p l e rm_X0_spell s m args below meth c H locs 0 0 Q (F0 m 25 ls []) := by
  intro H locs ls Z hl
  have hx := X.1.1
  have hb := X.1.2.1
  unfold b_X0_spell_25 at h
  refine lv_iload hx hb dX0_spell_25 (lv_at hl 3 rfl) ?_
  refine lv_if_lt (tgt := 56) hx hb dX0_spell_27 (by decide) (fun cnd => ?_) (fun cnd => ?_)
  · replace h := ifp h cnd
    obtain rfl := Option.some.inj h
    exact (sk_r K) H locs ls Z (lv_sub hl [] rfl)
  · replace h := ifn h cnd
    refine lv_aload_n hx hb dX0_spell_30 rfl (lv_at hl 1 rfl) ?_
    refine x_get X Z 0 0 (v := .ref (d_p2 0)) rfl rfl lk_X0_spell_X9_letters dX0_spell_31 ?_
    refine lv_iload hx hb dX0_spell_34 (lv_at hl 3 rfl) ?_
    refine lv_aload_n hx hb dX0_spell_36 rfl (lv_at hl 0 rfl) ?_
    refine x_getO X Z 0 9 (v := .ref (d 9)) rfl rfl lk_X0_spell_X0_lastLetter dX0_spell_37 ?_
    refine lv_iload_n hx hb dX0_spell_40 rfl (lv_at hl 2 rfl) ?_
    obtain ⟨hin1, v2, hv3, h⟩ := ld_b h
    refine x_ialdO X Z 3 rfl hin1 hv3 dX0_spell_41 ?_
    obtain ⟨hin4, p2_letters_5, hv6, h⟩ := st_b h
    refine x_iast X Z 1 (RW_X0_spell cy o q_p2 d d_p2 p2_size_ p2_letters_5) rfl hin4 hv6 rfl dX0_spell_42 (fun H locs Z => ?_)
    refine lv_aload_n hx hb dX0_spell_43 rfl (lv_at hl 0 rfl) ?_
    refine x_getO X Z 0 8 (v := .ref (d 8)) rfl rfl lk_X0_spell_X0_parent dX0_spell_44 ?_
    refine lv_iload_n hx hb dX0_spell_47 rfl (lv_at hl 2 rfl) ?_
    obtain ⟨hin7, v8, hv9, h⟩ := ld_b h
    refine x_ialdO X Z 2 rfl hin7 hv9 dX0_spell_48 ?_
    refine lv_istore_n (lv' := [(3, .int v8), (0, .ref o), (2, .ref q_p2), (4, .int x4)]) hx hb dX0_spell_49 rfl hl (by decide) rfl (fun ls hl => ?_)
    refine lv_iinc (v := (x4 + (-1 : Int32))) (lv' := [(4, .int (x4 + (-1 : Int32))), (3, .int v8), (0, .ref o), (2, .ref q_p2)]) hx hb dX0_spell_50 hl (k := 3) rfl rfl (by decide) rfl (fun ls hl => ?_)
    refine lv_goto (tgt := 25) hx hb dX0_spell_53 (by decide) ?_
    obtain rfl := Option.some.inj h
    exact sk_l K H locs ls Z (lv_sub hl [2, 3, 1, 0] rfl)
set_option maxHeartbeats 4000000 in
set_option maxRecDepth 100000 in
theorem wl_X0_spell_25 {p : Program} {l : Launch} {e : Env} {s : State} {m : MethodId} {args : Array Value} {below : List Frame} {meth : Method} {c : Code} {A : Nat → Prop} {Q : State → Prop} {D : va_G} {cy : Nat → ClassId} (o : Nat) (q_p2 : Nat) (d : Nat → Nat) (d_p2 : Nat → Nat) (letters_ : Int32) (states_ : Int32) (depth_ : Nat → Int32) (parent_ : Nat → Int32) (lastLetter_ : Nat → Int32) (p2_size_ : Int32) (n : Nat) (v : (Nat → Int32) × Int32 × Int32) (x : (Nat → Int32)) (X : Cx p m c cX0_spell 5 s args wsX0_spell RX0 A D cy (RO_X0_spell cy o q_p2 d d_p2 letters_ states_ depth_ parent_ lastLetter_)) (h : loopN (fun v => b_X0_spell_25 parent_ lastLetter_ v.1 v.2.1 v.2.2) n v = some x) (K : ∀ (H : Heap) (locs : List Loc) (ls : Array Slot), St A D s (RW_X0_spell cy o q_p2 d d_p2 p2_size_ x) H locs → lv_has ls 5 [] → W p l e rm_X0_spell s m args below meth c H locs 0 0 Q (F0 m 56 ls [])) : ∀ (H : Heap) (locs : List Loc) (ls : Array Slot), St A D s (RW_X0_spell cy o q_p2 d d_p2 p2_size_ v.1) H locs → lv_has ls 5 [(0, .ref o), (2, .ref q_p2), (3, .int v.2.1), (4, .int v.2.2)] → W p l e rm_X0_spell s m args below meth c H locs 0 0 Q (F0 m 25 ls []) :=
  loop_gen (B := (fun v => b_X0_spell_25 parent_ lastLetter_ v.1 v.2.1 v.2.2)) (Head := fun v : (Nat → Int32) × Int32 × Int32 => ∀ (H : Heap) (locs : List Loc) (ls : Array Slot), St A D s (RW_X0_spell cy o q_p2 d d_p2 p2_size_ v.1) H locs → lv_has ls 5 [(0, .ref o), (2, .ref q_p2), (3, .int v.2.1), (4, .int v.2.2)] → W p l e rm_X0_spell s m args below meth c H locs 0 0 Q (F0 m 25 ls [])) (Exit := fun v : (Nat → Int32) => ∀ (H : Heap) (locs : List Loc) (ls : Array Slot), St A D s (RW_X0_spell cy o q_p2 d d_p2 p2_size_ v) H locs → lv_has ls 5 [] → W p l e rm_X0_spell s m args below meth c H locs 0 0 Q (F0 m 56 ls [])) (fun v o9 hb1 K1 => wb_X0_spell_25 o q_p2 d d_p2 letters_ states_ depth_ parent_ lastLetter_ p2_size_ v.1 v.2.1 v.2.2 o9 X hb1 K1) n v x h K
def f_X0_spell (x1 : Int32) (depth_ : Nat → Int32) (parent_ : Nat → Int32) (lastLetter_ : Nat → Int32) (p2_size_ : Int32) (p2_letters_ : Nat → Int32) : Option (Int32 × (Nat → Int32)) :=
  ldA depth_ 2000 x1 (fun v11 =>
  (loopN (fun v => b_X0_spell_25 parent_ lastLetter_ v.1 v.2.1 v.2.2) FU (p2_letters_, x1, ((mnI v11 (12 : Int32)) - (1 : Int32)))).bind (fun u13 =>
  some ((mnI v11 (12 : Int32)), u13)))
set_option maxHeartbeats 4000000 in
set_option maxRecDepth 100000 in
theorem wt_X0_spell {p : Program} {l : Launch} {e : Env} {s : State} {m : MethodId} {args : Array Value} {below : List Frame} {meth : Method} {c : Code} {A : Nat → Prop} {Q : State → Prop} {D : va_G} {cy : Nat → ClassId} (o : Nat) (q_p2 : Nat) (d : Nat → Nat) (d_p2 : Nat → Nat) (letters_ : Int32) (states_ : Int32) (depth_ : Nat → Int32) (parent_ : Nat → Int32) (lastLetter_ : Nat → Int32) (p2_size_ : Int32) (p2_letters_ : Nat → Int32) (x1 : Int32) (out : Int32 × (Nat → Int32)) (X : Cx p m c cX0_spell 5 s args wsX0_spell RX0 A D cy (RO_X0_spell cy o q_p2 d d_p2 letters_ states_ depth_ parent_ lastLetter_)) (h : f_X0_spell x1 depth_ parent_ lastLetter_ p2_size_ p2_letters_ = some out) (K : ∀ (H : Heap) (locs : List Loc) (ls : Array Slot) (pc : Nat), decode cX0_spell pc = .ok (.return_, 1) → St A D s (RW_X0_spell cy o q_p2 d d_p2 out.1 out.2) H locs → W p l e rm_X0_spell s m args below meth c H locs 0 0 Q (F0 m pc ls [])) : ∀ (H : Heap) (locs : List Loc) (ls : Array Slot), St A D s (RW_X0_spell cy o q_p2 d d_p2 p2_size_ p2_letters_) H locs → lv_has ls 5 [(0, .ref o), (1, .int x1), (2, .ref q_p2)] → W p l e rm_X0_spell s m args below meth c H locs 0 0 Q (F0 m 0 ls []) := by
  intro H locs ls Z hl
  have hx := X.1.1
  have hb := X.1.2.1
  unfold f_X0_spell at h
  refine lv_iload_n hx hb dX0_spell_0 rfl (lv_at hl 1 rfl) ?_
  refine lv_istore_n (lv' := [(3, .int x1), (0, .ref o), (1, .int x1), (2, .ref q_p2)]) hx hb dX0_spell_1 rfl hl (by decide) rfl (fun ls hl => ?_)
  refine lv_aload_n hx hb dX0_spell_2 rfl (lv_at hl 3 rfl) ?_
  refine lv_aload_n hx hb dX0_spell_3 rfl (lv_at hl 1 rfl) ?_
  refine x_getO X Z 0 5 (v := .ref (d 5)) rfl rfl lk_X0_spell_X0_depth dX0_spell_4 ?_
  refine lv_iload_n hx hb dX0_spell_7 rfl (lv_at hl 2 rfl) ?_
  obtain ⟨hin10, v11, hv12, h⟩ := ld_b h
  refine x_ialdO X Z 1 rfl hin10 hv12 dX0_spell_8 ?_
  refine lv_bipush (v := (12 : Int32)) hx hb dX0_spell_9 (by decide) ?_
  refine x_mmin X Z hl (mem_at 2 rfl) (mem_at 3 rfl) (mem_at 4 rfl) (mem_at 5 rfl) (Nat.le_of_ble_eq_true rfl) (Nat.le_of_ble_eq_true rfl) (Nat.le_of_ble_eq_true rfl) (Nat.le_of_ble_eq_true rfl) dX0_spell_11 ?_
  refine x_put X Z 0 1 (RW_X0_spell cy o q_p2 d d_p2 (mnI v11 (12 : Int32)) p2_letters_) rfl lp_X0_spell_X9_size (Nat.le_of_ble_eq_true rfl) rfl dX0_spell_14 (fun H locs Z => ?_)
  refine lv_aload_n hx hb dX0_spell_17 rfl (lv_at hl 3 rfl) ?_
  refine x_get X Z 0 1 (v := .int (mnI v11 (12 : Int32))) rfl rfl lk_X0_spell_X9_size dX0_spell_18 ?_
  refine lv_iconst (v := (1 : Int32)) hx hb dX0_spell_21 (by decide) ?_
  refine lv_isub hx hb dX0_spell_22 ?_
  refine lv_istore (lv' := [(4, .int ((mnI v11 (12 : Int32)) - (1 : Int32))), (3, .int x1), (0, .ref o), (1, .int x1), (2, .ref q_p2)]) hx hb dX0_spell_23 hl (by decide) rfl (fun ls hl => ?_)
  obtain ⟨u13, hL14, h⟩ := ob_some h
  refine wl_X0_spell_25 o q_p2 d d_p2 letters_ states_ depth_ parent_ lastLetter_ (mnI v11 (12 : Int32)) FU (p2_letters_, x1, ((mnI v11 (12 : Int32)) - (1 : Int32))) u13 X hL14 (fun H locs ls Z hl => ?_) H locs ls Z (lv_sub hl [2, 4, 1, 0] rfl)
  obtain rfl := Option.some.inj h
  exact K H locs ls _ dX0_spell_56 Z
theorem c_X0_spell (l : Launch) (D : va_G) (cy : Nat → ClassId) (o : Nat) (q_p2 : Nat) (d : Nat → Nat) (d_p2 : Nat → Nat) (letters_ : Int32) (states_ : Int32) (depth_ : Nat → Int32) (parent_ : Nat → Int32) (lastLetter_ : Nat → Int32) (p2_size_ : Int32) (p2_letters_ : Nat → Int32) (x1 : Int32) (out : Int32 × (Nat → Int32)) (h : f_X0_spell x1 depth_ parent_ lastLetter_ p2_size_ p2_letters_ = some out) : CtV l yX0_spell wsX0_spell rm_X0_spell D cy [.ref o, .int x1, .ref q_p2] (RW_X0_spell cy o q_p2 d d_p2 p2_size_ p2_letters_) (RO_X0_spell cy o q_p2 d d_p2 letters_ states_ depth_ parent_ lastLetter_) (RW_X0_spell cy o q_p2 d d_p2 out.1 out.2) :=
  mk_v (by decide) rfl (Nat.le_of_ble_eq_true rfl) (fun p e s m args below meth c A Q X K H locs ls Z hl => wt_X0_spell o q_p2 d d_p2 letters_ states_ depth_ parent_ lastLetter_ p2_size_ p2_letters_ x1 out X h K H locs ls Z hl)
/-! SubwordCounter takeFirst (LSubwordCounter$Word;)I -/
abbrev rm_X11_takeFirst : Room := { frames := 2, cells := 0, slots := 0, locals := 45 }
def RW_X11_takeFirst (cy : Nat → ClassId) (o : Nat) (q_p1 : Nat) (d : Nat → Nat) (d_p1 : Nat → Nat) (d_automaton : Nat → Nat) (mono : Value) (p1_size_ : Int32) (p1_letters_ : Nat → Int32) : va_W := [(q_p1, ob 8 (oX9 d_p1 p1_size_)), ((d_p1 0), aI cy 12 p1_letters_)]
def RO_X11_takeFirst (cy : Nat → ClassId) (o : Nat) (q_p1 : Nat) (d : Nat → Nat) (d_p1 : Nat → Nat) (d_automaton : Nat → Nat) (mono : Value) (snapshotTaken_ : Int32) (inputLength_ : Int32) (automaton_letters_ : Int32) (automaton_states_ : Int32) (automaton_marks_ : Nat → Int32) (automaton_depth_ : Nat → Int32) (automaton_parent_ : Nat → Int32) (automaton_lastLetter_ : Nat → Int32) : va_W := [(o, ob 10 (oX11 d mono snapshotTaken_ inputLength_)), ((d 8), ob 0 (oX0 d_automaton automaton_letters_ automaton_states_)), ((d_automaton 4), aI cy 2000 automaton_marks_), ((d_automaton 5), aI cy 2000 automaton_depth_), ((d_automaton 8), aI cy 2000 automaton_parent_), ((d_automaton 9), aI cy 2000 automaton_lastLetter_)]
theorem in_X11_takeFirst_X11 : ∀ w ∈ u_ws RX11 TX11 12, w ∈ wsX11_takeFirst := fun w h => (List.mem_cons_of_mem _ (List.mem_append_left _ (List.mem_append_left _ (List.mem_append_right _ h))))
theorem lk_X11_takeFirst_X11_automaton : Lk wsX11_takeFirst RX11 54 10 8 := ⟨RX11, TX11, 12, rfl, by decide, in_X11_takeFirst_X11, mem_at 1 rfl⟩
theorem in_X11_takeFirst_X0 : ∀ w ∈ u_ws RX0 TX0 13, w ∈ wsX11_takeFirst := fun w h => (List.mem_cons_of_mem _ (List.mem_append_left _ (List.mem_append_right _ h)))
theorem lk_X11_takeFirst_X0_depth : Lk wsX11_takeFirst RX11 341 0 5 := ⟨RX0, TX0, 13, rfl, by decide, in_X11_takeFirst_X0, mem_at 2 rfl⟩
def f_X11_takeFirst (automaton_states_ : Int32) (automaton_marks_ : Nat → Int32) (automaton_depth_ : Nat → Int32) (automaton_parent_ : Nat → Int32) (automaton_lastLetter_ : Nat → Int32) (p1_size_ : Int32) (p1_letters_ : Nat → Int32) : Option (Int32 × Int32 × (Nat → Int32)) :=
  (f_X0_firstMarked automaton_states_ automaton_marks_).bind (fun u1 =>
  if 0 ≤ u1 then
  (ldA automaton_depth_ 2000 u1 (fun v4 =>
  if (12 : Int32) < v4 then
  (some (v4, p1_size_, p1_letters_))
  else
  ((f_X0_spell u1 automaton_depth_ automaton_parent_ automaton_lastLetter_ p1_size_ p1_letters_).bind (fun u6 =>
  some (v4, u6.1, u6.2)))))
  else
  (some ((-2 : Int32), p1_size_, p1_letters_)))
set_option maxHeartbeats 4000000 in
set_option maxRecDepth 100000 in
theorem wt_X11_takeFirst {p : Program} {l : Launch} {e : Env} {s : State} {m : MethodId} {args : Array Value} {below : List Frame} {meth : Method} {c : Code} {A : Nat → Prop} {Q : State → Prop} {D : va_G} {cy : Nat → ClassId} (o : Nat) (q_p1 : Nat) (d : Nat → Nat) (d_p1 : Nat → Nat) (d_automaton : Nat → Nat) (mono : Value) (snapshotTaken_ : Int32) (inputLength_ : Int32) (automaton_letters_ : Int32) (automaton_states_ : Int32) (automaton_marks_ : Nat → Int32) (automaton_depth_ : Nat → Int32) (automaton_parent_ : Nat → Int32) (automaton_lastLetter_ : Nat → Int32) (p1_size_ : Int32) (p1_letters_ : Nat → Int32) (out : Int32 × Int32 × (Nat → Int32)) (X : Cx p m c cX11_takeFirst 4 s args wsX11_takeFirst RX11 A D cy (RO_X11_takeFirst cy o q_p1 d d_p1 d_automaton mono snapshotTaken_ inputLength_ automaton_letters_ automaton_states_ automaton_marks_ automaton_depth_ automaton_parent_ automaton_lastLetter_)) (h : f_X11_takeFirst automaton_states_ automaton_marks_ automaton_depth_ automaton_parent_ automaton_lastLetter_ p1_size_ p1_letters_ = some out) (K : ∀ (H : Heap) (locs : List Loc) (ls : Array Slot) (pc : Nat), decode cX11_takeFirst pc = .ok (.ireturn, 1) → St A D s (RW_X11_takeFirst cy o q_p1 d d_p1 d_automaton mono out.2.1 out.2.2) H locs → W p l e rm_X11_takeFirst s m args below meth c H locs 0 0 Q (F0 m pc ls [.int out.1])) : ∀ (H : Heap) (locs : List Loc) (ls : Array Slot), St A D s (RW_X11_takeFirst cy o q_p1 d d_p1 d_automaton mono p1_size_ p1_letters_) H locs → lv_has ls 4 [(0, .ref o), (1, .ref q_p1)] → W p l e rm_X11_takeFirst s m args below meth c H locs 0 0 Q (F0 m 0 ls []) := by
  intro H locs ls Z hl
  have hx := X.1.1
  have hb := X.1.2.1
  unfold f_X11_takeFirst at h
  refine lv_aload_n hx hb dX11_takeFirst_0 rfl (lv_at hl 0 rfl) ?_
  refine x_getO X Z 0 8 (v := .ref (d 8)) rfl rfl lk_X11_takeFirst_X11_automaton dX11_takeFirst_1 ?_
  obtain ⟨u1, hc2, h⟩ := ob_some h
  refine x_runVi (RW' := (RW_X11_takeFirst cy o q_p1 d d_p1 d_automaton mono p1_size_ p1_letters_)) (wr := [(q_p1, ob 8 (oX9 d_p1 p1_size_)), ((d_p1 0), aI cy 12 p1_letters_)]) (isC := []) (isR := [0, 1]) (isF := [0, 1]) (rest := []) (As := []) (n := 0) X Z (c_X0_firstMarked l D cy (d 8) d_automaton automaton_letters_ automaton_states_ automaton_marks_ u1 hc2) gX11_takeFirst_X0_firstMarked rfl (by decide +kernel) ⟨Nat.le_of_ble_eq_true rfl, Nat.le_of_ble_eq_true rfl⟩ ⟨rfl, rfl⟩ ⟨Nat.le_of_ble_eq_true rfl, Nat.le_of_ble_eq_true rfl⟩ (x_rvO X Z 1 rfl rfl) ⟨rfl, rfl, (roC (Or.inr (mem_at 1 rfl)) (roC (Or.inr (mem_at 2 rfl)) roN)), rfl, rfl, by decide⟩ ⟨rfl, rfl⟩ rfl hl.1 rfl (Nat.le_of_ble_eq_true rfl) dX11_takeFirst_4 (fun H locs Z => ?_)
  refine lv_istore_n (lv' := [(2, .int u1), (0, .ref o), (1, .ref q_p1)]) hx hb dX11_takeFirst_7 rfl hl (by decide) rfl (fun ls hl => ?_)
  refine lv_iload_n hx hb dX11_takeFirst_8 rfl (lv_at hl 0 rfl) ?_
  refine lv_if_ge (tgt := 15) hx hb dX11_takeFirst_9 (by decide) (fun cnd => ?_) (fun cnd => ?_)
  · replace h := ifp h cnd
    refine lv_aload_n hx hb dX11_takeFirst_15 rfl (lv_at hl 1 rfl) ?_
    refine x_getO X Z 0 8 (v := .ref (d 8)) rfl rfl lk_X11_takeFirst_X11_automaton dX11_takeFirst_16 ?_
    refine x_getO X Z 1 5 (v := .ref (d_automaton 5)) rfl rfl lk_X11_takeFirst_X0_depth dX11_takeFirst_19 ?_
    refine lv_iload_n hx hb dX11_takeFirst_22 rfl (lv_at hl 0 rfl) ?_
    obtain ⟨hin3, v4, hv5, h⟩ := ld_b h
    refine x_ialdO X Z 3 rfl hin3 hv5 dX11_takeFirst_23 ?_
    refine lv_istore_n (lv' := [(3, .int v4), (2, .int u1), (0, .ref o), (1, .ref q_p1)]) hx hb dX11_takeFirst_24 rfl hl (by decide) rfl (fun ls hl => ?_)
    refine lv_iload_n hx hb dX11_takeFirst_25 rfl (lv_at hl 0 rfl) ?_
    refine lv_bipush (v := (12 : Int32)) hx hb dX11_takeFirst_26 (by decide) ?_
    refine lv_icmp_gt (tgt := 40) hx hb dX11_takeFirst_28 (by decide) (fun cnd => ?_) (fun cnd => ?_)
    · replace h := ifp h cnd
      refine lv_iload_n hx hb dX11_takeFirst_40 rfl (lv_at hl 0 rfl) ?_
      obtain rfl := Option.some.inj h
      exact K H locs ls _ dX11_takeFirst_41 Z
    · replace h := ifn h cnd
      refine lv_aload_n hx hb dX11_takeFirst_31 rfl (lv_at hl 2 rfl) ?_
      refine x_getO X Z 0 8 (v := .ref (d 8)) rfl rfl lk_X11_takeFirst_X11_automaton dX11_takeFirst_32 ?_
      refine lv_iload_n hx hb dX11_takeFirst_35 rfl (lv_at hl 1 rfl) ?_
      refine lv_aload_n hx hb dX11_takeFirst_36 rfl (lv_at hl 3 rfl) ?_
      obtain ⟨u6, hc7, h⟩ := ob_some h
      refine x_runVv (RW' := (RW_X11_takeFirst cy o q_p1 d d_p1 d_automaton mono u6.1 u6.2)) (wr := []) (isC := [0, 1]) (isR := []) (isF := [0, 1]) (rest := []) (As := [.int u1, .ref q_p1]) (n := 2) X Z (c_X0_spell l D cy (d 8) q_p1 d_automaton d_p1 automaton_letters_ automaton_states_ automaton_depth_ automaton_parent_ automaton_lastLetter_ p1_size_ p1_letters_ u1 u6 hc7) gX11_takeFirst_X0_spell rfl (by decide +kernel) ⟨Nat.le_of_ble_eq_true rfl, Nat.le_of_ble_eq_true rfl⟩ ⟨rfl, rfl⟩ ⟨Nat.le_of_ble_eq_true rfl, Nat.le_of_ble_eq_true rfl⟩ (x_rvO X Z 1 rfl rfl) ⟨rfl, rfl, (roC (Or.inr (mem_at 1 rfl)) (roC (Or.inr (mem_at 3 rfl)) (roC (Or.inr (mem_at 4 rfl)) (roC (Or.inr (mem_at 5 rfl)) roN)))), rfl, rfl, by decide⟩ ⟨rfl, rfl⟩ rfl hl.1 rfl (Nat.le_of_ble_eq_true rfl) dX11_takeFirst_37 (fun H locs Z => ?_)
      refine lv_iload_n hx hb dX11_takeFirst_40 rfl (lv_at hl 0 rfl) ?_
      obtain rfl := Option.some.inj h
      exact K H locs ls _ dX11_takeFirst_41 Z
  · replace h := ifn h cnd
    refine lv_bipush (v := (-2 : Int32)) hx hb dX11_takeFirst_12 (by decide) ?_
    obtain rfl := Option.some.inj h
    exact K H locs ls _ dX11_takeFirst_14 Z
theorem c_X11_takeFirst (l : Launch) (D : va_G) (cy : Nat → ClassId) (o : Nat) (q_p1 : Nat) (d : Nat → Nat) (d_p1 : Nat → Nat) (d_automaton : Nat → Nat) (mono : Value) (snapshotTaken_ : Int32) (inputLength_ : Int32) (automaton_letters_ : Int32) (automaton_states_ : Int32) (automaton_marks_ : Nat → Int32) (automaton_depth_ : Nat → Int32) (automaton_parent_ : Nat → Int32) (automaton_lastLetter_ : Nat → Int32) (p1_size_ : Int32) (p1_letters_ : Nat → Int32) (out : Int32 × Int32 × (Nat → Int32)) (h : f_X11_takeFirst automaton_states_ automaton_marks_ automaton_depth_ automaton_parent_ automaton_lastLetter_ p1_size_ p1_letters_ = some out) : CtI l yX11_takeFirst wsX11_takeFirst rm_X11_takeFirst D cy [.ref o, .ref q_p1] (RW_X11_takeFirst cy o q_p1 d d_p1 d_automaton mono p1_size_ p1_letters_) (RO_X11_takeFirst cy o q_p1 d d_p1 d_automaton mono snapshotTaken_ inputLength_ automaton_letters_ automaton_states_ automaton_marks_ automaton_depth_ automaton_parent_ automaton_lastLetter_) (RW_X11_takeFirst cy o q_p1 d d_p1 d_automaton mono out.2.1 out.2.2) out.1 :=
  mk_i (ty := .int) (by decide) rfl rfl (Nat.le_of_ble_eq_true rfl) (fun p e s m args below meth c A Q X K H locs ls Z hl => wt_X11_takeFirst o q_p1 d d_p1 d_automaton mono snapshotTaken_ inputLength_ automaton_letters_ automaton_states_ automaton_marks_ automaton_depth_ automaton_parent_ automaton_lastLetter_ p1_size_ p1_letters_ out X h K H locs ls Z hl)
/-! SubwordCounter firstWord (II)I -/
abbrev rm_X11_firstWord : Room := { frames := 6, cells := 0, slots := 0, locals := 143 }
def RW_X11_firstWord (cy : Nat → ClassId) (o : Nat) (q_now_languages_L1 : Nat) (q_now_words_L2 : Nat) (n_now_languages_L1_tests : Nat) (n_now_languages_L1_values : Nat) (d : Nat → Nat) (d_now_languages_L1 : Nat → Nat) (d_now_words_L2 : Nat → Nat) (d_now : Nat → Nat) (d_automaton : Nat → Nat) (d_automaton_tests : Nat → Nat) (mono : Value) (PT : va_W) (now_words_L2_size_ : Int32) (automaton_letters_ : Int32) (automaton_states_ : Int32) (now_words_L2_letters_ : Nat → Int32) (automaton_tests_count_ : Int32) (automaton_next_ : Nat → Int32) (automaton_marks_ : Nat → Int32) (automaton_depth_ : Nat → Int32) (automaton_low_ : Nat → Int64) (automaton_high_ : Nat → Int64) (automaton_parent_ : Nat → Int32) (automaton_lastLetter_ : Nat → Int32) (automaton_slots_ : Nat → Int32) (automaton_tests_members_ : Nat → Option Nat) : va_W := [(q_now_words_L2, ob 8 (oX9 d_now_words_L2 now_words_L2_size_)), ((d 8), ob 0 (oX0 d_automaton automaton_letters_ automaton_states_)), ((d_now_words_L2 0), aI cy 12 now_words_L2_letters_), ((d_automaton 0), ob 1 (oX1 d_automaton_tests automaton_tests_count_)), ((d_automaton 3), aI cy 6000 automaton_next_), ((d_automaton 4), aI cy 2000 automaton_marks_), ((d_automaton 5), aI cy 2000 automaton_depth_), ((d_automaton 6), aJ cy 2000 automaton_low_), ((d_automaton 7), aJ cy 2000 automaton_high_), ((d_automaton 8), aI cy 2000 automaton_parent_), ((d_automaton 9), aI cy 2000 automaton_lastLetter_), ((d_automaton 10), aI cy 4096 automaton_slots_), ((d_automaton_tests 0), aR cy 4 8 automaton_tests_members_)]
def RO_X11_firstWord (cy : Nat → ClassId) (o : Nat) (q_now_languages_L1 : Nat) (q_now_words_L2 : Nat) (n_now_languages_L1_tests : Nat) (n_now_languages_L1_values : Nat) (d : Nat → Nat) (d_now_languages_L1 : Nat → Nat) (d_now_words_L2 : Nat → Nat) (d_now : Nat → Nat) (d_automaton : Nat → Nat) (d_automaton_tests : Nat → Nat) (mono : Value) (PT : va_W) (snapshotTaken_ : Int32) (inputLength_ : Int32) (now_languages_L1_form_ : Int32) (now_languages_L1_basics_ : Int32) (now_languages_L1_table_ : Int32) (now_letters_ : Int32) (now_languages_L1_tests_ : Nat → Option Nat) (now_languages_L1_values_ : Nat → Int32) (now_words_ : Nat → Option Nat) (now_languages_ : Nat → Option Nat) : va_W := [(o, ob 10 (oX11 d mono snapshotTaken_ inputLength_)), (q_now_languages_L1, ob 2 (oX2 d_now_languages_L1 now_languages_L1_form_ now_languages_L1_basics_ now_languages_L1_table_)), ((d 0), ob 5 (oX5 d_now now_letters_)), ((d_now_languages_L1 3), aR cy 4 n_now_languages_L1_tests now_languages_L1_tests_), ((d_now_languages_L1 4), aI cy n_now_languages_L1_values now_languages_L1_values_), ((d_now 1), aR cy 5 3 now_words_), ((d_now 3), aR cy 2 4 now_languages_)] ++ PT
theorem in_X11_firstWord_X11 : ∀ w ∈ u_ws RX11 TX11 12, w ∈ wsX11_firstWord := fun w h => (List.mem_cons_of_mem _ (List.mem_append_left _ (List.mem_append_left _ (List.mem_append_left _ (List.mem_append_left _ (List.mem_append_left _ (List.mem_append_left _ (List.mem_append_right _ h))))))))
theorem lk_X11_firstWord_X11_now : Lk wsX11_firstWord RX11 10 10 0 := ⟨RX11, TX11, 12, rfl, by decide, in_X11_firstWord_X11, mem_at 1 rfl⟩
theorem in_X11_firstWord_X5 : ∀ w ∈ u_ws RX5 TX5 4, w ∈ wsX11_firstWord := fun w h => (List.mem_cons_of_mem _ (List.mem_append_left _ (List.mem_append_left _ (List.mem_append_left _ (List.mem_append_left _ (List.mem_append_left _ (List.mem_append_right _ h)))))))
theorem lk_X11_firstWord_X5_languages : Lk wsX11_firstWord RX11 232 5 3 := ⟨RX5, TX5, 4, rfl, by decide, in_X11_firstWord_X5, mem_at 2 rfl⟩
theorem lk_X11_firstWord_X5_words : Lk wsX11_firstWord RX11 85 5 1 := ⟨RX5, TX5, 4, rfl, by decide, in_X11_firstWord_X5, mem_at 3 rfl⟩
def f_X11_firstWord (x1 : Int32) (x2 : Int32) (n_now_languages_L1_tests : Nat) (n_now_languages_L1_values : Nat) (q_now_languages_L1 : Nat) (q_now_words_L2 : Nat) (tq : Nat → Option TV) (now_languages_L1_basics_ : Int32) (now_languages_L1_table_ : Int32) (now_letters_ : Int32) (now_languages_L1_tests_ : Nat → Option Nat) (now_languages_L1_values_ : Nat → Int32) (now_words_ : Nat → Option Nat) (now_languages_ : Nat → Option Nat) (now_words_L2_size_ : Int32) (automaton_letters_ : Int32) (automaton_states_ : Int32) (now_words_L2_letters_ : Nat → Int32) (automaton_tests_count_ : Int32) (automaton_next_ : Nat → Int32) (automaton_marks_ : Nat → Int32) (automaton_depth_ : Nat → Int32) (automaton_low_ : Nat → Int64) (automaton_high_ : Nat → Int64) (automaton_parent_ : Nat → Int32) (automaton_lastLetter_ : Nat → Int32) (automaton_slots_ : Nat → Int32) (automaton_tests_members_ : Nat → Option Nat) : Option (Int32 × Int32 × Int32 × Int32 × (Nat → Int32) × Int32 × (Nat → Int32) × (Nat → Int32) × (Nat → Int32) × (Nat → Int64) × (Nat → Int64) × (Nat → Int32) × (Nat → Int32) × (Nat → Int32) × (Nat → Option Nat)) :=
  (f_X11_isLanguage x1).bind (fun u1 =>
  if u1 = 0 then
  (some ((-1 : Int32), now_words_L2_size_, automaton_letters_, automaton_states_, now_words_L2_letters_, automaton_tests_count_, automaton_next_, automaton_marks_, automaton_depth_, automaton_low_, automaton_high_, automaton_parent_, automaton_lastLetter_, automaton_slots_, automaton_tests_members_))
  else
  ((f_X11_isWord x2).bind (fun u3 =>
  if u3 = 0 then
  (some ((-1 : Int32), now_words_L2_size_, automaton_letters_, automaton_states_, now_words_L2_letters_, automaton_tests_count_, automaton_next_, automaton_marks_, automaton_depth_, automaton_low_, automaton_high_, automaton_parent_, automaton_lastLetter_, automaton_slots_, automaton_tests_members_))
  else
  (ldA now_languages_ 4 x1 (fun r6 =>
  nlA r6 (
  some ((-5 : Int32), now_words_L2_size_, automaton_letters_, automaton_states_, now_words_L2_letters_, automaton_tests_count_, automaton_next_, automaton_marks_, automaton_depth_, automaton_low_, automaton_high_, automaton_parent_, automaton_lastLetter_, automaton_slots_, automaton_tests_members_)) (
  asR r6 q_now_languages_L1 (
  (f_X11_exploreLanguage n_now_languages_L1_tests n_now_languages_L1_values tq now_languages_L1_basics_ now_languages_L1_table_ now_letters_ now_languages_L1_tests_ now_languages_L1_values_ automaton_letters_ automaton_states_ automaton_tests_count_ automaton_next_ automaton_marks_ automaton_depth_ automaton_low_ automaton_high_ automaton_parent_ automaton_lastLetter_ automaton_slots_ automaton_tests_members_).bind (fun u11 =>
  if u11.1 = 0 then
  (some ((-4 : Int32), now_words_L2_size_, u11.2.1, u11.2.2.1, now_words_L2_letters_, u11.2.2.2.1, u11.2.2.2.2.1, u11.2.2.2.2.2.1, u11.2.2.2.2.2.2.1, u11.2.2.2.2.2.2.2.1, u11.2.2.2.2.2.2.2.2.1, u11.2.2.2.2.2.2.2.2.2.1, u11.2.2.2.2.2.2.2.2.2.2.1, u11.2.2.2.2.2.2.2.2.2.2.2.1, u11.2.2.2.2.2.2.2.2.2.2.2.2))
  else
  (ldA now_words_ 3 x2 (fun r14 =>
  asR r14 q_now_words_L2 (
  (f_X11_takeFirst u11.2.2.1 u11.2.2.2.2.2.1 u11.2.2.2.2.2.2.1 u11.2.2.2.2.2.2.2.2.2.1 u11.2.2.2.2.2.2.2.2.2.2.1 now_words_L2_size_ now_words_L2_letters_).bind (fun u17 =>
  some (u17.1, u17.2.1, u11.2.1, u11.2.2.1, u17.2.2, u11.2.2.2.1, u11.2.2.2.2.1, u11.2.2.2.2.2.1, u11.2.2.2.2.2.2.1, u11.2.2.2.2.2.2.2.1, u11.2.2.2.2.2.2.2.2.1, u11.2.2.2.2.2.2.2.2.2.1, u11.2.2.2.2.2.2.2.2.2.2.1, u11.2.2.2.2.2.2.2.2.2.2.2.1, u11.2.2.2.2.2.2.2.2.2.2.2.2)))))))))))))
set_option maxHeartbeats 4000000 in
set_option maxRecDepth 100000 in
theorem wt_X11_firstWord {p : Program} {l : Launch} {e : Env} {s : State} {m : MethodId} {args : Array Value} {below : List Frame} {meth : Method} {c : Code} {A : Nat → Prop} {Q : State → Prop} {D : va_G} {cy : Nat → ClassId} (o : Nat) (q_now_languages_L1 : Nat) (q_now_words_L2 : Nat) (n_now_languages_L1_tests : Nat) (n_now_languages_L1_values : Nat) (d : Nat → Nat) (d_now_languages_L1 : Nat → Nat) (d_now_words_L2 : Nat → Nat) (d_now : Nat → Nat) (d_automaton : Nat → Nat) (d_automaton_tests : Nat → Nat) (mono : Value) (PT : va_W) (tq : Nat → Option TV) (snapshotTaken_ : Int32) (inputLength_ : Int32) (now_languages_L1_form_ : Int32) (now_languages_L1_basics_ : Int32) (now_languages_L1_table_ : Int32) (now_letters_ : Int32) (now_languages_L1_tests_ : Nat → Option Nat) (now_languages_L1_values_ : Nat → Int32) (now_words_ : Nat → Option Nat) (now_languages_ : Nat → Option Nat) (now_words_L2_size_ : Int32) (automaton_letters_ : Int32) (automaton_states_ : Int32) (now_words_L2_letters_ : Nat → Int32) (automaton_tests_count_ : Int32) (automaton_next_ : Nat → Int32) (automaton_marks_ : Nat → Int32) (automaton_depth_ : Nat → Int32) (automaton_low_ : Nat → Int64) (automaton_high_ : Nat → Int64) (automaton_parent_ : Nat → Int32) (automaton_lastLetter_ : Nat → Int32) (automaton_slots_ : Nat → Int32) (automaton_tests_members_ : Nat → Option Nat) (x1 : Int32) (x2 : Int32) (out : Int32 × Int32 × Int32 × Int32 × (Nat → Int32) × Int32 × (Nat → Int32) × (Nat → Int32) × (Nat → Int32) × (Nat → Int64) × (Nat → Int64) × (Nat → Int32) × (Nat → Int32) × (Nat → Int32) × (Nat → Option Nat)) (hT : TP cy PT tq) (X : Cx p m c cX11_firstWord 4 s args wsX11_firstWord RX11 A D cy (RO_X11_firstWord cy o q_now_languages_L1 q_now_words_L2 n_now_languages_L1_tests n_now_languages_L1_values d d_now_languages_L1 d_now_words_L2 d_now d_automaton d_automaton_tests mono PT snapshotTaken_ inputLength_ now_languages_L1_form_ now_languages_L1_basics_ now_languages_L1_table_ now_letters_ now_languages_L1_tests_ now_languages_L1_values_ now_words_ now_languages_)) (h : f_X11_firstWord x1 x2 n_now_languages_L1_tests n_now_languages_L1_values q_now_languages_L1 q_now_words_L2 tq now_languages_L1_basics_ now_languages_L1_table_ now_letters_ now_languages_L1_tests_ now_languages_L1_values_ now_words_ now_languages_ now_words_L2_size_ automaton_letters_ automaton_states_ now_words_L2_letters_ automaton_tests_count_ automaton_next_ automaton_marks_ automaton_depth_ automaton_low_ automaton_high_ automaton_parent_ automaton_lastLetter_ automaton_slots_ automaton_tests_members_ = some out) (K : ∀ (H : Heap) (locs : List Loc) (ls : Array Slot) (pc : Nat), decode cX11_firstWord pc = .ok (.ireturn, 1) → St A D s (RW_X11_firstWord cy o q_now_languages_L1 q_now_words_L2 n_now_languages_L1_tests n_now_languages_L1_values d d_now_languages_L1 d_now_words_L2 d_now d_automaton d_automaton_tests mono PT out.2.1 out.2.2.1 out.2.2.2.1 out.2.2.2.2.1 out.2.2.2.2.2.1 out.2.2.2.2.2.2.1 out.2.2.2.2.2.2.2.1 out.2.2.2.2.2.2.2.2.1 out.2.2.2.2.2.2.2.2.2.1 out.2.2.2.2.2.2.2.2.2.2.1 out.2.2.2.2.2.2.2.2.2.2.2.1 out.2.2.2.2.2.2.2.2.2.2.2.2.1 out.2.2.2.2.2.2.2.2.2.2.2.2.2.1 out.2.2.2.2.2.2.2.2.2.2.2.2.2.2) H locs → W p l e rm_X11_firstWord s m args below meth c H locs 0 0 Q (F0 m pc ls [.int out.1])) : ∀ (H : Heap) (locs : List Loc) (ls : Array Slot), St A D s (RW_X11_firstWord cy o q_now_languages_L1 q_now_words_L2 n_now_languages_L1_tests n_now_languages_L1_values d d_now_languages_L1 d_now_words_L2 d_now d_automaton d_automaton_tests mono PT now_words_L2_size_ automaton_letters_ automaton_states_ now_words_L2_letters_ automaton_tests_count_ automaton_next_ automaton_marks_ automaton_depth_ automaton_low_ automaton_high_ automaton_parent_ automaton_lastLetter_ automaton_slots_ automaton_tests_members_) H locs → lv_has ls 4 [(0, .ref o), (1, .int x1), (2, .int x2)] → W p l e rm_X11_firstWord s m args below meth c H locs 0 0 Q (F0 m 0 ls []) := by
  intro H locs ls Z hl
  have hx := X.1.1
  have hb := X.1.2.1
  unfold f_X11_firstWord at h
  refine lv_iload_n hx hb dX11_firstWord_0 rfl (lv_at hl 1 rfl) ?_
  obtain ⟨u1, hc2, h⟩ := ob_some h
  refine x_runSi (RW' := (RW_X11_firstWord cy o q_now_languages_L1 q_now_words_L2 n_now_languages_L1_tests n_now_languages_L1_values d d_now_languages_L1 d_now_words_L2 d_now d_automaton d_automaton_tests mono PT now_words_L2_size_ automaton_letters_ automaton_states_ now_words_L2_letters_ automaton_tests_count_ automaton_next_ automaton_marks_ automaton_depth_ automaton_low_ automaton_high_ automaton_parent_ automaton_lastLetter_ automaton_slots_ automaton_tests_members_)) (wr := [(q_now_words_L2, ob 8 (oX9 d_now_words_L2 now_words_L2_size_)), ((d 8), ob 0 (oX0 d_automaton automaton_letters_ automaton_states_)), ((d_now_words_L2 0), aI cy 12 now_words_L2_letters_), ((d_automaton 0), ob 1 (oX1 d_automaton_tests automaton_tests_count_)), ((d_automaton 3), aI cy 6000 automaton_next_), ((d_automaton 4), aI cy 2000 automaton_marks_), ((d_automaton 5), aI cy 2000 automaton_depth_), ((d_automaton 6), aJ cy 2000 automaton_low_), ((d_automaton 7), aJ cy 2000 automaton_high_), ((d_automaton 8), aI cy 2000 automaton_parent_), ((d_automaton 9), aI cy 2000 automaton_lastLetter_), ((d_automaton 10), aI cy 4096 automaton_slots_), ((d_automaton_tests 0), aR cy 4 8 automaton_tests_members_)]) (isC := []) (isR := [0, 1, 2, 3, 4, 5, 6, 7, 8, 9, 10, 11, 12]) (isF := [0, 1, 2, 3, 4, 5, 6, 7, 8, 9, 10, 11, 12]) (rest := []) (As := [.int x1]) (n := 1) X Z (c_X11_isLanguage l D cy x1 u1 hc2) gX11_firstWord_X11_isLanguage rfl (by decide +kernel) ⟨Nat.le_of_ble_eq_true rfl, Nat.le_of_ble_eq_true rfl⟩ ⟨rfl, rfl⟩ ⟨Nat.le_of_ble_eq_true rfl, Nat.le_of_ble_eq_true rfl⟩ ⟨rfl, rfl, roN, rfl, rfl, by decide⟩ ⟨rfl, rfl⟩ rfl hl.1 rfl (Nat.le_of_ble_eq_true rfl) dX11_firstWord_1 (fun H locs Z => ?_)
  refine lv_if_eq (tgt := 14) hx hb dX11_firstWord_4 (by decide) (fun cnd => ?_) (fun cnd => ?_)
  · replace h := ifp h cnd
    refine lv_iconst (v := (-1 : Int32)) hx hb dX11_firstWord_14 (by decide) ?_
    obtain rfl := Option.some.inj h
    exact K H locs ls _ dX11_firstWord_15 Z
  · replace h := ifn h cnd
    refine lv_iload_n hx hb dX11_firstWord_7 rfl (lv_at hl 2 rfl) ?_
    obtain ⟨u3, hc4, h⟩ := ob_some h
    refine x_runSi (RW' := (RW_X11_firstWord cy o q_now_languages_L1 q_now_words_L2 n_now_languages_L1_tests n_now_languages_L1_values d d_now_languages_L1 d_now_words_L2 d_now d_automaton d_automaton_tests mono PT now_words_L2_size_ automaton_letters_ automaton_states_ now_words_L2_letters_ automaton_tests_count_ automaton_next_ automaton_marks_ automaton_depth_ automaton_low_ automaton_high_ automaton_parent_ automaton_lastLetter_ automaton_slots_ automaton_tests_members_)) (wr := [(q_now_words_L2, ob 8 (oX9 d_now_words_L2 now_words_L2_size_)), ((d 8), ob 0 (oX0 d_automaton automaton_letters_ automaton_states_)), ((d_now_words_L2 0), aI cy 12 now_words_L2_letters_), ((d_automaton 0), ob 1 (oX1 d_automaton_tests automaton_tests_count_)), ((d_automaton 3), aI cy 6000 automaton_next_), ((d_automaton 4), aI cy 2000 automaton_marks_), ((d_automaton 5), aI cy 2000 automaton_depth_), ((d_automaton 6), aJ cy 2000 automaton_low_), ((d_automaton 7), aJ cy 2000 automaton_high_), ((d_automaton 8), aI cy 2000 automaton_parent_), ((d_automaton 9), aI cy 2000 automaton_lastLetter_), ((d_automaton 10), aI cy 4096 automaton_slots_), ((d_automaton_tests 0), aR cy 4 8 automaton_tests_members_)]) (isC := []) (isR := [0, 1, 2, 3, 4, 5, 6, 7, 8, 9, 10, 11, 12]) (isF := [0, 1, 2, 3, 4, 5, 6, 7, 8, 9, 10, 11, 12]) (rest := []) (As := [.int x2]) (n := 1) X Z (c_X11_isWord l D cy x2 u3 hc4) gX11_firstWord_X11_isWord rfl (by decide +kernel) ⟨Nat.le_of_ble_eq_true rfl, Nat.le_of_ble_eq_true rfl⟩ ⟨rfl, rfl⟩ ⟨Nat.le_of_ble_eq_true rfl, Nat.le_of_ble_eq_true rfl⟩ ⟨rfl, rfl, roN, rfl, rfl, by decide⟩ ⟨rfl, rfl⟩ rfl hl.1 rfl (Nat.le_of_ble_eq_true rfl) dX11_firstWord_8 (fun H locs Z => ?_)
    refine lv_if_ne (tgt := 16) hx hb dX11_firstWord_11 (by decide) (fun cnd => ?_) (fun cnd => ?_)
    · replace h := ifn h cnd
      refine lv_aload_n hx hb dX11_firstWord_16 rfl (lv_at hl 0 rfl) ?_
      refine x_getO X Z 0 0 (v := .ref (d 0)) rfl rfl lk_X11_firstWord_X11_now dX11_firstWord_17 ?_
      refine x_getO X Z 2 3 (v := .ref (d_now 3)) rfl rfl lk_X11_firstWord_X5_languages dX11_firstWord_20 ?_
      refine lv_iload_n hx hb dX11_firstWord_23 rfl (lv_at hl 1 rfl) ?_
      obtain ⟨hin5, r6, hv7, h⟩ := ld_b h
      refine x_raldqO X Z 6 2 rfl rfl hin5 hv7 dX11_firstWord_24 (fun hr8 => ?_) (fun b9 hr8 => ?_)
      · replace h := nl_n h hr8
        refine lv_astore_nN (lv' := [(3, .null), (0, .ref o), (1, .int x1), (2, .int x2)]) hx hb dX11_firstWord_25 rfl hl (by decide) rfl (fun ls hl => ?_)
        refine lv_aload_nN hx hb dX11_firstWord_26 rfl (lv_at hl 0 rfl) ?_
        refine lv_ifnonnullN hx hb dX11_firstWord_27 ?_
        refine lv_bipush (v := (-5 : Int32)) hx hb dX11_firstWord_30 (by decide) ?_
        obtain rfl := Option.some.inj h
        exact K H locs ls _ dX11_firstWord_32 Z
      · replace h := nl_s h hr8
        obtain ⟨ha10, h⟩ := as_b h
        obtain rfl : q_now_languages_L1 = b9 := Option.some.inj (ha10.symm.trans hr8)
        refine lv_astore_n (lv' := [(3, .ref q_now_languages_L1), (0, .ref o), (1, .int x1), (2, .int x2)]) hx hb dX11_firstWord_25 rfl hl (by decide) rfl (fun ls hl => ?_)
        refine lv_aload_n hx hb dX11_firstWord_26 rfl (lv_at hl 0 rfl) ?_
        refine lv_ifnonnull (tgt := 33) hx hb dX11_firstWord_27 (by decide) ?_
        refine lv_aload_n hx hb dX11_firstWord_33 rfl (lv_at hl 1 rfl) ?_
        refine lv_aload_n hx hb dX11_firstWord_34 rfl (lv_at hl 0 rfl) ?_
        obtain ⟨u11, hc12, h⟩ := ob_some h
        refine x_runVi (RW' := (RW_X11_firstWord cy o q_now_languages_L1 q_now_words_L2 n_now_languages_L1_tests n_now_languages_L1_values d d_now_languages_L1 d_now_words_L2 d_now d_automaton d_automaton_tests mono PT now_words_L2_size_ u11.2.1 u11.2.2.1 now_words_L2_letters_ u11.2.2.2.1 u11.2.2.2.2.1 u11.2.2.2.2.2.1 u11.2.2.2.2.2.2.1 u11.2.2.2.2.2.2.2.1 u11.2.2.2.2.2.2.2.2.1 u11.2.2.2.2.2.2.2.2.2.1 u11.2.2.2.2.2.2.2.2.2.2.1 u11.2.2.2.2.2.2.2.2.2.2.2.1 u11.2.2.2.2.2.2.2.2.2.2.2.2)) (wr := [(q_now_words_L2, ob 8 (oX9 d_now_words_L2 now_words_L2_size_)), ((d_now_words_L2 0), aI cy 12 now_words_L2_letters_)]) (isC := [1, 3, 4, 5, 6, 7, 8, 9, 10, 11, 12]) (isR := [0, 2]) (isF := [0, 2, 1, 3, 4, 5, 6, 7, 8, 9, 10, 11, 12]) (rest := []) (As := [.ref q_now_languages_L1]) (n := 1) X Z (c_X11_exploreLanguage l D cy o q_now_languages_L1 n_now_languages_L1_tests n_now_languages_L1_values d d_now_languages_L1 d_now d_automaton d_automaton_tests mono PT tq snapshotTaken_ inputLength_ now_languages_L1_form_ now_languages_L1_basics_ now_languages_L1_table_ now_letters_ now_languages_L1_tests_ now_languages_L1_values_ automaton_letters_ automaton_states_ automaton_tests_count_ automaton_next_ automaton_marks_ automaton_depth_ automaton_low_ automaton_high_ automaton_parent_ automaton_lastLetter_ automaton_slots_ automaton_tests_members_ u11 hT hc12) gX11_firstWord_X11_exploreLanguage rfl (by decide +kernel) ⟨Nat.le_of_ble_eq_true rfl, Nat.le_of_ble_eq_true rfl⟩ ⟨rfl, rfl⟩ ⟨Nat.le_of_ble_eq_true rfl, Nat.le_of_ble_eq_true rfl⟩ (x_rvO X Z 0 rfl rfl) ⟨rfl, rfl, (roC (Or.inr (mem_at 0 rfl)) (roC (Or.inr (mem_at 1 rfl)) (roC (Or.inr (mem_at 2 rfl)) (roC (Or.inr (mem_at 3 rfl)) (roC (Or.inr (mem_at 4 rfl)) (fun q hq => Or.inr (List.mem_append_right _ hq))))))), rfl, rfl, by decide⟩ ⟨rfl, rfl⟩ rfl hl.1 rfl (Nat.le_of_ble_eq_true rfl) dX11_firstWord_35 (fun H locs Z => ?_)
        refine lv_if_ne (tgt := 44) hx hb dX11_firstWord_38 (by decide) (fun cnd => ?_) (fun cnd => ?_)
        · replace h := ifn h cnd
          refine lv_aload_n hx hb dX11_firstWord_44 rfl (lv_at hl 1 rfl) ?_
          refine lv_aload_n hx hb dX11_firstWord_45 rfl (lv_at hl 1 rfl) ?_
          refine x_getO X Z 0 0 (v := .ref (d 0)) rfl rfl lk_X11_firstWord_X11_now dX11_firstWord_46 ?_
          refine x_getO X Z 2 1 (v := .ref (d_now 1)) rfl rfl lk_X11_firstWord_X5_words dX11_firstWord_49 ?_
          refine lv_iload_n hx hb dX11_firstWord_52 rfl (lv_at hl 3 rfl) ?_
          obtain ⟨hin13, r14, hv15, h⟩ := ld_b h
          obtain ⟨ha16, h⟩ := as_b h
          refine x_raldO X Z 5 5 rfl rfl hin13 hv15 ha16 dX11_firstWord_53 ?_
          obtain ⟨u17, hc18, h⟩ := ob_some h
          refine x_runVi (RW' := (RW_X11_firstWord cy o q_now_languages_L1 q_now_words_L2 n_now_languages_L1_tests n_now_languages_L1_values d d_now_languages_L1 d_now_words_L2 d_now d_automaton d_automaton_tests mono PT u17.2.1 u11.2.1 u11.2.2.1 u17.2.2 u11.2.2.2.1 u11.2.2.2.2.1 u11.2.2.2.2.2.1 u11.2.2.2.2.2.2.1 u11.2.2.2.2.2.2.2.1 u11.2.2.2.2.2.2.2.2.1 u11.2.2.2.2.2.2.2.2.2.1 u11.2.2.2.2.2.2.2.2.2.2.1 u11.2.2.2.2.2.2.2.2.2.2.2.1 u11.2.2.2.2.2.2.2.2.2.2.2.2)) (wr := [((d 8), ob 0 (oX0 d_automaton u11.2.1 u11.2.2.1)), ((d_automaton 0), ob 1 (oX1 d_automaton_tests u11.2.2.2.1)), ((d_automaton 3), aI cy 6000 u11.2.2.2.2.1), ((d_automaton 4), aI cy 2000 u11.2.2.2.2.2.1), ((d_automaton 5), aI cy 2000 u11.2.2.2.2.2.2.1), ((d_automaton 6), aJ cy 2000 u11.2.2.2.2.2.2.2.1), ((d_automaton 7), aJ cy 2000 u11.2.2.2.2.2.2.2.2.1), ((d_automaton 8), aI cy 2000 u11.2.2.2.2.2.2.2.2.2.1), ((d_automaton 9), aI cy 2000 u11.2.2.2.2.2.2.2.2.2.2.1), ((d_automaton 10), aI cy 4096 u11.2.2.2.2.2.2.2.2.2.2.2.1), ((d_automaton_tests 0), aR cy 4 8 u11.2.2.2.2.2.2.2.2.2.2.2.2)]) (isC := [0, 2]) (isR := [1, 3, 4, 5, 6, 7, 8, 9, 10, 11, 12]) (isF := [11, 0, 12, 1, 2, 3, 4, 5, 6, 7, 8, 9, 10]) (rest := []) (As := [.ref q_now_words_L2]) (n := 1) X Z (c_X11_takeFirst l D cy o q_now_words_L2 d d_now_words_L2 d_automaton mono snapshotTaken_ inputLength_ u11.2.1 u11.2.2.1 u11.2.2.2.2.2.1 u11.2.2.2.2.2.2.1 u11.2.2.2.2.2.2.2.2.2.1 u11.2.2.2.2.2.2.2.2.2.2.1 now_words_L2_size_ now_words_L2_letters_ u17 hc18) gX11_firstWord_X11_takeFirst rfl (by decide +kernel) ⟨Nat.le_of_ble_eq_true rfl, Nat.le_of_ble_eq_true rfl⟩ ⟨rfl, rfl⟩ ⟨Nat.le_of_ble_eq_true rfl, Nat.le_of_ble_eq_true rfl⟩ (x_rvO X Z 0 rfl rfl) ⟨rfl, rfl, (roC (Or.inr (mem_at 0 rfl)) (roC (Or.inl (mem_at 0 rfl)) (roC (Or.inl (mem_at 3 rfl)) (roC (Or.inl (mem_at 4 rfl)) (roC (Or.inl (mem_at 7 rfl)) (roC (Or.inl (mem_at 8 rfl)) roN)))))), rfl, rfl, by decide⟩ ⟨rfl, rfl⟩ rfl hl.1 rfl (Nat.le_of_ble_eq_true rfl) dX11_firstWord_54 (fun H locs Z => ?_)
          obtain rfl := Option.some.inj h
          exact K H locs ls _ dX11_firstWord_57 Z
        · replace h := ifp h cnd
          refine lv_bipush (v := (-4 : Int32)) hx hb dX11_firstWord_41 (by decide) ?_
          obtain rfl := Option.some.inj h
          exact K H locs ls _ dX11_firstWord_43 Z
    · replace h := ifp h cnd
      refine lv_iconst (v := (-1 : Int32)) hx hb dX11_firstWord_14 (by decide) ?_
      obtain rfl := Option.some.inj h
      exact K H locs ls _ dX11_firstWord_15 Z
theorem c_X11_firstWord (l : Launch) (D : va_G) (cy : Nat → ClassId) (o : Nat) (q_now_languages_L1 : Nat) (q_now_words_L2 : Nat) (n_now_languages_L1_tests : Nat) (n_now_languages_L1_values : Nat) (d : Nat → Nat) (d_now_languages_L1 : Nat → Nat) (d_now_words_L2 : Nat → Nat) (d_now : Nat → Nat) (d_automaton : Nat → Nat) (d_automaton_tests : Nat → Nat) (mono : Value) (PT : va_W) (tq : Nat → Option TV) (snapshotTaken_ : Int32) (inputLength_ : Int32) (now_languages_L1_form_ : Int32) (now_languages_L1_basics_ : Int32) (now_languages_L1_table_ : Int32) (now_letters_ : Int32) (now_languages_L1_tests_ : Nat → Option Nat) (now_languages_L1_values_ : Nat → Int32) (now_words_ : Nat → Option Nat) (now_languages_ : Nat → Option Nat) (now_words_L2_size_ : Int32) (automaton_letters_ : Int32) (automaton_states_ : Int32) (now_words_L2_letters_ : Nat → Int32) (automaton_tests_count_ : Int32) (automaton_next_ : Nat → Int32) (automaton_marks_ : Nat → Int32) (automaton_depth_ : Nat → Int32) (automaton_low_ : Nat → Int64) (automaton_high_ : Nat → Int64) (automaton_parent_ : Nat → Int32) (automaton_lastLetter_ : Nat → Int32) (automaton_slots_ : Nat → Int32) (automaton_tests_members_ : Nat → Option Nat) (x1 : Int32) (x2 : Int32) (out : Int32 × Int32 × Int32 × Int32 × (Nat → Int32) × Int32 × (Nat → Int32) × (Nat → Int32) × (Nat → Int32) × (Nat → Int64) × (Nat → Int64) × (Nat → Int32) × (Nat → Int32) × (Nat → Int32) × (Nat → Option Nat)) (hT : TP cy PT tq) (h : f_X11_firstWord x1 x2 n_now_languages_L1_tests n_now_languages_L1_values q_now_languages_L1 q_now_words_L2 tq now_languages_L1_basics_ now_languages_L1_table_ now_letters_ now_languages_L1_tests_ now_languages_L1_values_ now_words_ now_languages_ now_words_L2_size_ automaton_letters_ automaton_states_ now_words_L2_letters_ automaton_tests_count_ automaton_next_ automaton_marks_ automaton_depth_ automaton_low_ automaton_high_ automaton_parent_ automaton_lastLetter_ automaton_slots_ automaton_tests_members_ = some out) : CtI l yX11_firstWord wsX11_firstWord rm_X11_firstWord D cy [.ref o, .int x1, .int x2] (RW_X11_firstWord cy o q_now_languages_L1 q_now_words_L2 n_now_languages_L1_tests n_now_languages_L1_values d d_now_languages_L1 d_now_words_L2 d_now d_automaton d_automaton_tests mono PT now_words_L2_size_ automaton_letters_ automaton_states_ now_words_L2_letters_ automaton_tests_count_ automaton_next_ automaton_marks_ automaton_depth_ automaton_low_ automaton_high_ automaton_parent_ automaton_lastLetter_ automaton_slots_ automaton_tests_members_) (RO_X11_firstWord cy o q_now_languages_L1 q_now_words_L2 n_now_languages_L1_tests n_now_languages_L1_values d d_now_languages_L1 d_now_words_L2 d_now d_automaton d_automaton_tests mono PT snapshotTaken_ inputLength_ now_languages_L1_form_ now_languages_L1_basics_ now_languages_L1_table_ now_letters_ now_languages_L1_tests_ now_languages_L1_values_ now_words_ now_languages_) (RW_X11_firstWord cy o q_now_languages_L1 q_now_words_L2 n_now_languages_L1_tests n_now_languages_L1_values d d_now_languages_L1 d_now_words_L2 d_now d_automaton d_automaton_tests mono PT out.2.1 out.2.2.1 out.2.2.2.1 out.2.2.2.2.1 out.2.2.2.2.2.1 out.2.2.2.2.2.2.1 out.2.2.2.2.2.2.2.1 out.2.2.2.2.2.2.2.2.1 out.2.2.2.2.2.2.2.2.2.1 out.2.2.2.2.2.2.2.2.2.2.1 out.2.2.2.2.2.2.2.2.2.2.2.1 out.2.2.2.2.2.2.2.2.2.2.2.2.1 out.2.2.2.2.2.2.2.2.2.2.2.2.2.1 out.2.2.2.2.2.2.2.2.2.2.2.2.2.2) out.1 :=
  mk_i (ty := .int) (by decide) rfl rfl (Nat.le_of_ble_eq_true rfl) (fun p e s m args below meth c A Q X K H locs ls Z hl => wt_X11_firstWord o q_now_languages_L1 q_now_words_L2 n_now_languages_L1_tests n_now_languages_L1_values d d_now_languages_L1 d_now_words_L2 d_now d_automaton d_automaton_tests mono PT tq snapshotTaken_ inputLength_ now_languages_L1_form_ now_languages_L1_basics_ now_languages_L1_table_ now_letters_ now_languages_L1_tests_ now_languages_L1_values_ now_words_ now_languages_ now_words_L2_size_ automaton_letters_ automaton_states_ now_words_L2_letters_ automaton_tests_count_ automaton_next_ automaton_marks_ automaton_depth_ automaton_low_ automaton_high_ automaton_parent_ automaton_lastLetter_ automaton_slots_ automaton_tests_members_ x1 x2 out hT X h K H locs ls Z hl)
/-! SubwordCounter$Automaton markDifference (LSubwordCounter$Language;LSubwordCounter$Language;)V -/
abbrev rm_X0_markDifference : Room := { frames := 3, cells := 0, slots := 0, locals := 76 }
def RW_X0_markDifference (cy : Nat → ClassId) (o : Nat) (q_p1 : Nat) (q_p2 : Nat) (n_p1_values : Nat) (n_p2_values : Nat) (d : Nat → Nat) (d_p1 : Nat → Nat) (d_p2 : Nat → Nat) (d_tests : Nat → Nat) (PT : va_W) (marks_ : Nat → Int32) : va_W := [((d 4), aI cy 2000 marks_)]
def RO_X0_markDifference (cy : Nat → ClassId) (o : Nat) (q_p1 : Nat) (q_p2 : Nat) (n_p1_values : Nat) (n_p2_values : Nat) (d : Nat → Nat) (d_p1 : Nat → Nat) (d_p2 : Nat → Nat) (d_tests : Nat → Nat) (PT : va_W) (letters_ : Int32) (states_ : Int32) (p1_form_ : Int32) (p1_basics_ : Int32) (p1_table_ : Int32) (p2_form_ : Int32) (p2_basics_ : Int32) (p2_table_ : Int32) (tests_count_ : Int32) (low_ : Nat → Int64) (high_ : Nat → Int64) (p1_values_ : Nat → Int32) (p2_values_ : Nat → Int32) (tests_members_ : Nat → Option Nat) : va_W := [(o, ob 0 (oX0 d letters_ states_)), (q_p1, ob 2 (oX2 d_p1 p1_form_ p1_basics_ p1_table_)), (q_p2, ob 2 (oX2 d_p2 p2_form_ p2_basics_ p2_table_)), ((d 0), ob 1 (oX1 d_tests tests_count_)), ((d 6), aJ cy 2000 low_), ((d 7), aJ cy 2000 high_), ((d_p1 4), aI cy n_p1_values p1_values_), ((d_p2 4), aI cy n_p2_values p2_values_), ((d_tests 0), aR cy 4 8 tests_members_)] ++ PT
theorem in_X0_markDifference_X0 : ∀ w ∈ u_ws RX0 TX0 13, w ∈ wsX0_markDifference := fun w h => (List.mem_cons_of_mem _ (List.mem_append_left _ (List.mem_append_left _ (List.mem_append_left _ (List.mem_append_right _ h)))))
theorem lk_X0_markDifference_X0_states : Lk wsX0_markDifference RX0 22 0 2 := ⟨RX0, TX0, 13, rfl, by decide, in_X0_markDifference_X0, mem_at 1 rfl⟩
theorem lk_X0_markDifference_X0_tests : Lk wsX0_markDifference RX0 12 0 0 := ⟨RX0, TX0, 13, rfl, by decide, in_X0_markDifference_X0, mem_at 2 rfl⟩
theorem lk_X0_markDifference_X0_low : Lk wsX0_markDifference RX0 35 0 6 := ⟨RX0, TX0, 13, rfl, by decide, in_X0_markDifference_X0, mem_at 3 rfl⟩
theorem lk_X0_markDifference_X0_high : Lk wsX0_markDifference RX0 39 0 7 := ⟨RX0, TX0, 13, rfl, by decide, in_X0_markDifference_X0, mem_at 4 rfl⟩
theorem in_X0_markDifference_X2 : ∀ w ∈ u_ws RX2 TX2 5, w ∈ wsX0_markDifference := fun w h => (List.mem_cons_of_mem _ (List.mem_append_left _ (List.mem_append_left _ (List.mem_append_right _ h))))
theorem lk_X0_markDifference_X2_basics : Lk wsX0_markDifference RX0 93 2 1 := ⟨RX2, TX2, 5, rfl, by decide, in_X0_markDifference_X2, mem_at 5 rfl⟩
theorem lk_X0_markDifference_X0_marks : Lk wsX0_markDifference RX0 29 0 4 := ⟨RX0, TX0, 13, rfl, by decide, in_X0_markDifference_X0, mem_at 6 rfl⟩
def b_X0_markDifference_2 (n_p1_values : Nat) (n_p2_values : Nat) (tq : Nat → Option TV) (states_ : Int32) (p1_basics_ : Int32) (p1_table_ : Int32) (p2_basics_ : Int32) (p2_table_ : Int32) (low_ : Nat → Int64) (high_ : Nat → Int64) (p1_values_ : Nat → Int32) (p2_values_ : Nat → Int32) (tests_members_ : Nat → Option Nat) (marks_ : Nat → Int32) (x3 : Int32) : Option (((Nat → Int32) × Int32) ⊕ ((Nat → Int32))) :=
  if states_ ≤ x3 then
  (some (.inr marks_))
  else
  (ldA low_ 2000 x3 (fun v2 =>
  ldA high_ 2000 x3 (fun v5 =>
  (f_X2_holdsAt (0 : Int32) v2 v5 n_p1_values tq p1_basics_ p1_table_ p1_values_ tests_members_).bind (fun u7 =>
  ldA low_ 2000 x3 (fun v10 =>
  ldA high_ 2000 x3 (fun v13 =>
  (f_X2_holdsAt p1_basics_ v10 v13 n_p2_values tq p2_basics_ p2_table_ p2_values_ tests_members_).bind (fun u15 =>
  if u7 = u15 then
  (stA marks_ 2000 x3 (0 : Int32) (fun marks_18 =>
  some (.inl (marks_18, (x3 + (1 : Int32))))))
  else
  (stA marks_ 2000 x3 (1 : Int32) (fun marks_21 =>
  some (.inl (marks_21, (x3 + (1 : Int32)))))))))))))
set_option maxHeartbeats 4000000 in
set_option maxRecDepth 100000 in
theorem wb_X0_markDifference_2 {p : Program} {l : Launch} {e : Env} {s : State} {m : MethodId} {args : Array Value} {below : List Frame} {meth : Method} {c : Code} {A : Nat → Prop} {Q : State → Prop} {D : va_G} {cy : Nat → ClassId} (o : Nat) (q_p1 : Nat) (q_p2 : Nat) (n_p1_values : Nat) (n_p2_values : Nat) (d : Nat → Nat) (d_p1 : Nat → Nat) (d_p2 : Nat → Nat) (d_tests : Nat → Nat) (PT : va_W) (tq : Nat → Option TV) (letters_ : Int32) (states_ : Int32) (p1_form_ : Int32) (p1_basics_ : Int32) (p1_table_ : Int32) (p2_form_ : Int32) (p2_basics_ : Int32) (p2_table_ : Int32) (tests_count_ : Int32) (low_ : Nat → Int64) (high_ : Nat → Int64) (p1_values_ : Nat → Int32) (p2_values_ : Nat → Int32) (tests_members_ : Nat → Option Nat)  (marks_ : Nat → Int32) (x3 : Int32) (o1 : ((Nat → Int32) × Int32) ⊕ ((Nat → Int32))) (hT : TP cy PT tq) (X : Cx p m c cX0_markDifference 6 s args wsX0_markDifference RX0 A D cy (RO_X0_markDifference cy o q_p1 q_p2 n_p1_values n_p2_values d d_p1 d_p2 d_tests PT letters_ states_ p1_form_ p1_basics_ p1_table_ p2_form_ p2_basics_ p2_table_ tests_count_ low_ high_ p1_values_ p2_values_ tests_members_)) (h : b_X0_markDifference_2 n_p1_values n_p2_values tq states_ p1_basics_ p1_table_ p2_basics_ p2_table_ low_ high_ p1_values_ p2_values_ tests_members_ marks_ x3 = some o1) (K : Sum.elim (fun v : (Nat → Int32) × Int32 => ∀ (H : Heap) (locs : List Loc) (ls : Array Slot), St A D s (RW_X0_markDifference cy o q_p1 q_p2 n_p1_values n_p2_values d d_p1 d_p2 d_tests PT v.1) H locs → lv_has ls 6 [(0, .ref o), (1, .ref q_p1), (2, .ref q_p2), (3, .int v.2)] → W p l e rm_X0_markDifference s m args below meth c H locs 0 0 Q (F0 m 2 ls [])) (fun v : (Nat → Int32) => ∀ (H : Heap) (locs : List Loc) (ls : Array Slot), St A D s (RW_X0_markDifference cy o q_p1 q_p2 n_p1_values n_p2_values d d_p1 d_p2 d_tests PT v) H locs → lv_has ls 6 [] → W p l e rm_X0_markDifference s m args below meth c H locs 0 0 Q (F0 m 83 ls [])) o1) : ∀ (H : Heap) (locs : List Loc) (ls : Array Slot), St A D s (RW_X0_markDifference cy o q_p1 q_p2 n_p1_values n_p2_values d d_p1 d_p2 d_tests PT marks_) H locs → lv_has ls 6 [(0, .ref o), (1, .ref q_p1), (2, .ref q_p2), (3, .int x3)] → W p l e rm_X0_markDifference s m args below meth c H locs 0 0 Q (F0 m 2 ls []) := by
  intro H locs ls Z hl
  have hx := X.1.1
  have hb := X.1.2.1
  unfold b_X0_markDifference_2 at h
  refine lv_iload_n hx hb dX0_markDifference_2 rfl (lv_at hl 3 rfl) ?_
  refine lv_aload_n hx hb dX0_markDifference_3 rfl (lv_at hl 0 rfl) ?_
  refine x_getO X Z 0 2 (v := .int states_) rfl rfl lk_X0_markDifference_X0_states dX0_markDifference_4 ?_
  refine lv_icmp_ge (tgt := 83) hx hb dX0_markDifference_7 (by decide) (fun cnd => ?_) (fun cnd => ?_)
  · replace h := ifp h cnd
    obtain rfl := Option.some.inj h
    exact (sk_r K) H locs ls Z (lv_sub hl [] rfl)
  · replace h := ifn h cnd
    refine lv_aload_n hx hb dX0_markDifference_10 rfl (lv_at hl 1 rfl) ?_
    refine lv_aload_n hx hb dX0_markDifference_11 rfl (lv_at hl 0 rfl) ?_
    refine x_getO X Z 0 0 (v := .ref (d 0)) rfl rfl lk_X0_markDifference_X0_tests dX0_markDifference_12 ?_
    refine lv_iconst (v := (0 : Int32)) hx hb dX0_markDifference_15 (by decide) ?_
    refine lv_aload_n hx hb dX0_markDifference_16 rfl (lv_at hl 0 rfl) ?_
    refine x_getO X Z 0 6 (v := .ref (d 6)) rfl rfl lk_X0_markDifference_X0_low dX0_markDifference_17 ?_
    refine lv_iload_n hx hb dX0_markDifference_20 rfl (lv_at hl 3 rfl) ?_
    obtain ⟨hin1, v2, hv3, h⟩ := ld_b h
    refine x_laldO X Z 4 rfl hin1 hv3 dX0_markDifference_21 ?_
    refine lv_aload_n hx hb dX0_markDifference_22 rfl (lv_at hl 0 rfl) ?_
    refine x_getO X Z 0 7 (v := .ref (d 7)) rfl rfl lk_X0_markDifference_X0_high dX0_markDifference_23 ?_
    refine lv_iload_n hx hb dX0_markDifference_26 rfl (lv_at hl 3 rfl) ?_
    obtain ⟨hin4, v5, hv6, h⟩ := ld_b h
    refine x_laldO X Z 5 rfl hin4 hv6 dX0_markDifference_27 ?_
    obtain ⟨u7, hc8, h⟩ := ob_some h
    refine x_runVi (RW' := (RW_X0_markDifference cy o q_p1 q_p2 n_p1_values n_p2_values d d_p1 d_p2 d_tests PT marks_)) (wr := [((d 4), aI cy 2000 marks_)]) (isC := []) (isR := [0]) (isF := [0]) (rest := []) (As := [.ref (d 0), .int (0 : Int32), .long v2, .long v5]) (n := 4) X Z (c_X2_holdsAt l D cy q_p1 (d 0) n_p1_values d_p1 d_tests PT tq p1_form_ p1_basics_ p1_table_ tests_count_ p1_values_ tests_members_ (0 : Int32) v2 v5 u7 hT hc8) gX0_markDifference_X2_holdsAt rfl (by decide +kernel) ⟨Nat.le_of_ble_eq_true rfl, Nat.le_of_ble_eq_true rfl⟩ ⟨rfl, rfl⟩ ⟨Nat.le_of_ble_eq_true rfl, Nat.le_of_ble_eq_true rfl⟩ (x_rvO X Z 1 rfl rfl) ⟨rfl, rfl, (roC (Or.inr (mem_at 1 rfl)) (roC (Or.inr (mem_at 3 rfl)) (roC (Or.inr (mem_at 6 rfl)) (roC (Or.inr (mem_at 8 rfl)) (fun q hq => Or.inr (List.mem_append_right _ hq)))))), rfl, rfl, by decide⟩ ⟨rfl, rfl⟩ rfl hl.1 rfl (Nat.le_of_ble_eq_true rfl) dX0_markDifference_28 (fun H locs Z => ?_)
    refine lv_istore (lv' := [(4, .int u7), (0, .ref o), (1, .ref q_p1), (2, .ref q_p2), (3, .int x3)]) hx hb dX0_markDifference_31 hl (by decide) rfl (fun ls hl => ?_)
    refine lv_aload_n hx hb dX0_markDifference_33 rfl (lv_at hl 3 rfl) ?_
    refine lv_aload_n hx hb dX0_markDifference_34 rfl (lv_at hl 1 rfl) ?_
    refine x_getO X Z 0 0 (v := .ref (d 0)) rfl rfl lk_X0_markDifference_X0_tests dX0_markDifference_35 ?_
    refine lv_aload_n hx hb dX0_markDifference_38 rfl (lv_at hl 2 rfl) ?_
    refine x_getO X Z 1 1 (v := .int p1_basics_) rfl rfl lk_X0_markDifference_X2_basics dX0_markDifference_39 ?_
    refine lv_aload_n hx hb dX0_markDifference_42 rfl (lv_at hl 1 rfl) ?_
    refine x_getO X Z 0 6 (v := .ref (d 6)) rfl rfl lk_X0_markDifference_X0_low dX0_markDifference_43 ?_
    refine lv_iload_n hx hb dX0_markDifference_46 rfl (lv_at hl 4 rfl) ?_
    obtain ⟨hin9, v10, hv11, h⟩ := ld_b h
    refine x_laldO X Z 4 rfl hin9 hv11 dX0_markDifference_47 ?_
    refine lv_aload_n hx hb dX0_markDifference_48 rfl (lv_at hl 1 rfl) ?_
    refine x_getO X Z 0 7 (v := .ref (d 7)) rfl rfl lk_X0_markDifference_X0_high dX0_markDifference_49 ?_
    refine lv_iload_n hx hb dX0_markDifference_52 rfl (lv_at hl 4 rfl) ?_
    obtain ⟨hin12, v13, hv14, h⟩ := ld_b h
    refine x_laldO X Z 5 rfl hin12 hv14 dX0_markDifference_53 ?_
    obtain ⟨u15, hc16, h⟩ := ob_some h
    refine x_runVi (RW' := (RW_X0_markDifference cy o q_p1 q_p2 n_p1_values n_p2_values d d_p1 d_p2 d_tests PT marks_)) (wr := [((d 4), aI cy 2000 marks_)]) (isC := []) (isR := [0]) (isF := [0]) (rest := []) (As := [.ref (d 0), .int p1_basics_, .long v10, .long v13]) (n := 4) X Z (c_X2_holdsAt l D cy q_p2 (d 0) n_p2_values d_p2 d_tests PT tq p2_form_ p2_basics_ p2_table_ tests_count_ p2_values_ tests_members_ p1_basics_ v10 v13 u15 hT hc16) gX0_markDifference_X2_holdsAt rfl (by decide +kernel) ⟨Nat.le_of_ble_eq_true rfl, Nat.le_of_ble_eq_true rfl⟩ ⟨rfl, rfl⟩ ⟨Nat.le_of_ble_eq_true rfl, Nat.le_of_ble_eq_true rfl⟩ (x_rvO X Z 2 rfl rfl) ⟨rfl, rfl, (roC (Or.inr (mem_at 2 rfl)) (roC (Or.inr (mem_at 3 rfl)) (roC (Or.inr (mem_at 7 rfl)) (roC (Or.inr (mem_at 8 rfl)) (fun q hq => Or.inr (List.mem_append_right _ hq)))))), rfl, rfl, by decide⟩ ⟨rfl, rfl⟩ rfl hl.1 rfl (Nat.le_of_ble_eq_true rfl) dX0_markDifference_54 (fun H locs Z => ?_)
    refine lv_istore (lv' := [(5, .int u15), (4, .int u7), (0, .ref o), (1, .ref q_p1), (2, .ref q_p2), (3, .int x3)]) hx hb dX0_markDifference_57 hl (by decide) rfl (fun ls hl => ?_)
    refine lv_aload_n hx hb dX0_markDifference_59 rfl (lv_at hl 2 rfl) ?_
    refine x_getO X Z 0 4 (v := .ref (d 4)) rfl rfl lk_X0_markDifference_X0_marks dX0_markDifference_60 ?_
    refine lv_iload_n hx hb dX0_markDifference_63 rfl (lv_at hl 5 rfl) ?_
    refine lv_iload hx hb dX0_markDifference_64 (lv_at hl 1 rfl) ?_
    refine lv_iload hx hb dX0_markDifference_66 (lv_at hl 0 rfl) ?_
    refine lv_icmp_eq (tgt := 75) hx hb dX0_markDifference_68 (by decide) (fun cnd => ?_) (fun cnd => ?_)
    · replace h := ifp h cnd
      refine lv_iconst (v := (0 : Int32)) hx hb dX0_markDifference_75 (by decide) ?_
      obtain ⟨hin17, marks_18, hv19, h⟩ := st_b h
      refine x_iast X Z 0 (RW_X0_markDifference cy o q_p1 q_p2 n_p1_values n_p2_values d d_p1 d_p2 d_tests PT marks_18) rfl hin17 hv19 rfl dX0_markDifference_76 (fun H locs Z => ?_)
      refine lv_iinc (v := (x3 + (1 : Int32))) (lv' := [(3, .int (x3 + (1 : Int32))), (5, .int u15), (4, .int u7), (0, .ref o), (1, .ref q_p1), (2, .ref q_p2)]) hx hb dX0_markDifference_77 hl (k := 5) rfl rfl (by decide) rfl (fun ls hl => ?_)
      refine lv_goto (tgt := 2) hx hb dX0_markDifference_80 (by decide) ?_
      obtain rfl := Option.some.inj h
      exact sk_l K H locs ls Z (lv_sub hl [3, 4, 5, 0] rfl)
    · replace h := ifn h cnd
      refine lv_iconst (v := (1 : Int32)) hx hb dX0_markDifference_71 (by decide) ?_
      refine lv_goto (tgt := 76) hx hb dX0_markDifference_72 (by decide) ?_
      obtain ⟨hin20, marks_21, hv22, h⟩ := st_b h
      refine x_iast X Z 0 (RW_X0_markDifference cy o q_p1 q_p2 n_p1_values n_p2_values d d_p1 d_p2 d_tests PT marks_21) rfl hin20 hv22 rfl dX0_markDifference_76 (fun H locs Z => ?_)
      refine lv_iinc (v := (x3 + (1 : Int32))) (lv' := [(3, .int (x3 + (1 : Int32))), (5, .int u15), (4, .int u7), (0, .ref o), (1, .ref q_p1), (2, .ref q_p2)]) hx hb dX0_markDifference_77 hl (k := 5) rfl rfl (by decide) rfl (fun ls hl => ?_)
      refine lv_goto (tgt := 2) hx hb dX0_markDifference_80 (by decide) ?_
      obtain rfl := Option.some.inj h
      exact sk_l K H locs ls Z (lv_sub hl [3, 4, 5, 0] rfl)
set_option maxHeartbeats 4000000 in
set_option maxRecDepth 100000 in
theorem wl_X0_markDifference_2 {p : Program} {l : Launch} {e : Env} {s : State} {m : MethodId} {args : Array Value} {below : List Frame} {meth : Method} {c : Code} {A : Nat → Prop} {Q : State → Prop} {D : va_G} {cy : Nat → ClassId} (o : Nat) (q_p1 : Nat) (q_p2 : Nat) (n_p1_values : Nat) (n_p2_values : Nat) (d : Nat → Nat) (d_p1 : Nat → Nat) (d_p2 : Nat → Nat) (d_tests : Nat → Nat) (PT : va_W) (tq : Nat → Option TV) (letters_ : Int32) (states_ : Int32) (p1_form_ : Int32) (p1_basics_ : Int32) (p1_table_ : Int32) (p2_form_ : Int32) (p2_basics_ : Int32) (p2_table_ : Int32) (tests_count_ : Int32) (low_ : Nat → Int64) (high_ : Nat → Int64) (p1_values_ : Nat → Int32) (p2_values_ : Nat → Int32) (tests_members_ : Nat → Option Nat)  (n : Nat) (v : (Nat → Int32) × Int32) (x : (Nat → Int32)) (hT : TP cy PT tq) (X : Cx p m c cX0_markDifference 6 s args wsX0_markDifference RX0 A D cy (RO_X0_markDifference cy o q_p1 q_p2 n_p1_values n_p2_values d d_p1 d_p2 d_tests PT letters_ states_ p1_form_ p1_basics_ p1_table_ p2_form_ p2_basics_ p2_table_ tests_count_ low_ high_ p1_values_ p2_values_ tests_members_)) (h : loopN (fun v => b_X0_markDifference_2 n_p1_values n_p2_values tq states_ p1_basics_ p1_table_ p2_basics_ p2_table_ low_ high_ p1_values_ p2_values_ tests_members_ v.1 v.2) n v = some x) (K : ∀ (H : Heap) (locs : List Loc) (ls : Array Slot), St A D s (RW_X0_markDifference cy o q_p1 q_p2 n_p1_values n_p2_values d d_p1 d_p2 d_tests PT x) H locs → lv_has ls 6 [] → W p l e rm_X0_markDifference s m args below meth c H locs 0 0 Q (F0 m 83 ls [])) : ∀ (H : Heap) (locs : List Loc) (ls : Array Slot), St A D s (RW_X0_markDifference cy o q_p1 q_p2 n_p1_values n_p2_values d d_p1 d_p2 d_tests PT v.1) H locs → lv_has ls 6 [(0, .ref o), (1, .ref q_p1), (2, .ref q_p2), (3, .int v.2)] → W p l e rm_X0_markDifference s m args below meth c H locs 0 0 Q (F0 m 2 ls []) :=
  loop_gen (B := (fun v => b_X0_markDifference_2 n_p1_values n_p2_values tq states_ p1_basics_ p1_table_ p2_basics_ p2_table_ low_ high_ p1_values_ p2_values_ tests_members_ v.1 v.2)) (Head := fun v : (Nat → Int32) × Int32 => ∀ (H : Heap) (locs : List Loc) (ls : Array Slot), St A D s (RW_X0_markDifference cy o q_p1 q_p2 n_p1_values n_p2_values d d_p1 d_p2 d_tests PT v.1) H locs → lv_has ls 6 [(0, .ref o), (1, .ref q_p1), (2, .ref q_p2), (3, .int v.2)] → W p l e rm_X0_markDifference s m args below meth c H locs 0 0 Q (F0 m 2 ls [])) (Exit := fun v : (Nat → Int32) => ∀ (H : Heap) (locs : List Loc) (ls : Array Slot), St A D s (RW_X0_markDifference cy o q_p1 q_p2 n_p1_values n_p2_values d d_p1 d_p2 d_tests PT v) H locs → lv_has ls 6 [] → W p l e rm_X0_markDifference s m args below meth c H locs 0 0 Q (F0 m 83 ls [])) (fun v o9 hb1 K1 => wb_X0_markDifference_2 o q_p1 q_p2 n_p1_values n_p2_values d d_p1 d_p2 d_tests PT tq letters_ states_ p1_form_ p1_basics_ p1_table_ p2_form_ p2_basics_ p2_table_ tests_count_ low_ high_ p1_values_ p2_values_ tests_members_ v.1 v.2 o9 hT X hb1 K1) n v x h K
def f_X0_markDifference (n_p1_values : Nat) (n_p2_values : Nat) (tq : Nat → Option TV) (states_ : Int32) (p1_basics_ : Int32) (p1_table_ : Int32) (p2_basics_ : Int32) (p2_table_ : Int32) (low_ : Nat → Int64) (high_ : Nat → Int64) (p1_values_ : Nat → Int32) (p2_values_ : Nat → Int32) (tests_members_ : Nat → Option Nat) (marks_ : Nat → Int32) : Option ((Nat → Int32)) :=
  (loopN (fun v => b_X0_markDifference_2 n_p1_values n_p2_values tq states_ p1_basics_ p1_table_ p2_basics_ p2_table_ low_ high_ p1_values_ p2_values_ tests_members_ v.1 v.2) FU (marks_, (0 : Int32))).bind (fun u23 =>
  some u23)
set_option maxHeartbeats 4000000 in
set_option maxRecDepth 100000 in
theorem wt_X0_markDifference {p : Program} {l : Launch} {e : Env} {s : State} {m : MethodId} {args : Array Value} {below : List Frame} {meth : Method} {c : Code} {A : Nat → Prop} {Q : State → Prop} {D : va_G} {cy : Nat → ClassId} (o : Nat) (q_p1 : Nat) (q_p2 : Nat) (n_p1_values : Nat) (n_p2_values : Nat) (d : Nat → Nat) (d_p1 : Nat → Nat) (d_p2 : Nat → Nat) (d_tests : Nat → Nat) (PT : va_W) (tq : Nat → Option TV) (letters_ : Int32) (states_ : Int32) (p1_form_ : Int32) (p1_basics_ : Int32) (p1_table_ : Int32) (p2_form_ : Int32) (p2_basics_ : Int32) (p2_table_ : Int32) (tests_count_ : Int32) (low_ : Nat → Int64) (high_ : Nat → Int64) (p1_values_ : Nat → Int32) (p2_values_ : Nat → Int32) (tests_members_ : Nat → Option Nat) (marks_ : Nat → Int32) (out : (Nat → Int32)) (hT : TP cy PT tq) (X : Cx p m c cX0_markDifference 6 s args wsX0_markDifference RX0 A D cy (RO_X0_markDifference cy o q_p1 q_p2 n_p1_values n_p2_values d d_p1 d_p2 d_tests PT letters_ states_ p1_form_ p1_basics_ p1_table_ p2_form_ p2_basics_ p2_table_ tests_count_ low_ high_ p1_values_ p2_values_ tests_members_)) (h : f_X0_markDifference n_p1_values n_p2_values tq states_ p1_basics_ p1_table_ p2_basics_ p2_table_ low_ high_ p1_values_ p2_values_ tests_members_ marks_ = some out) (K : ∀ (H : Heap) (locs : List Loc) (ls : Array Slot) (pc : Nat), decode cX0_markDifference pc = .ok (.return_, 1) → St A D s (RW_X0_markDifference cy o q_p1 q_p2 n_p1_values n_p2_values d d_p1 d_p2 d_tests PT out) H locs → W p l e rm_X0_markDifference s m args below meth c H locs 0 0 Q (F0 m pc ls [])) : ∀ (H : Heap) (locs : List Loc) (ls : Array Slot), St A D s (RW_X0_markDifference cy o q_p1 q_p2 n_p1_values n_p2_values d d_p1 d_p2 d_tests PT marks_) H locs → lv_has ls 6 [(0, .ref o), (1, .ref q_p1), (2, .ref q_p2)] → W p l e rm_X0_markDifference s m args below meth c H locs 0 0 Q (F0 m 0 ls []) := by
  intro H locs ls Z hl
  have hx := X.1.1
  have hb := X.1.2.1
  unfold f_X0_markDifference at h
  refine lv_iconst (v := (0 : Int32)) hx hb dX0_markDifference_0 (by decide) ?_
  refine lv_istore_n (lv' := [(3, .int (0 : Int32)), (0, .ref o), (1, .ref q_p1), (2, .ref q_p2)]) hx hb dX0_markDifference_1 rfl hl (by decide) rfl (fun ls hl => ?_)
  obtain ⟨u23, hL24, h⟩ := ob_some h
  refine wl_X0_markDifference_2 o q_p1 q_p2 n_p1_values n_p2_values d d_p1 d_p2 d_tests PT tq letters_ states_ p1_form_ p1_basics_ p1_table_ p2_form_ p2_basics_ p2_table_ tests_count_ low_ high_ p1_values_ p2_values_ tests_members_ FU (marks_, (0 : Int32)) u23 hT X hL24 (fun H locs ls Z hl => ?_) H locs ls Z (lv_sub hl [1, 2, 3, 0] rfl)
  obtain rfl := Option.some.inj h
  exact K H locs ls _ dX0_markDifference_83 Z
theorem c_X0_markDifference (l : Launch) (D : va_G) (cy : Nat → ClassId) (o : Nat) (q_p1 : Nat) (q_p2 : Nat) (n_p1_values : Nat) (n_p2_values : Nat) (d : Nat → Nat) (d_p1 : Nat → Nat) (d_p2 : Nat → Nat) (d_tests : Nat → Nat) (PT : va_W) (tq : Nat → Option TV) (letters_ : Int32) (states_ : Int32) (p1_form_ : Int32) (p1_basics_ : Int32) (p1_table_ : Int32) (p2_form_ : Int32) (p2_basics_ : Int32) (p2_table_ : Int32) (tests_count_ : Int32) (low_ : Nat → Int64) (high_ : Nat → Int64) (p1_values_ : Nat → Int32) (p2_values_ : Nat → Int32) (tests_members_ : Nat → Option Nat) (marks_ : Nat → Int32) (out : (Nat → Int32)) (hT : TP cy PT tq) (h : f_X0_markDifference n_p1_values n_p2_values tq states_ p1_basics_ p1_table_ p2_basics_ p2_table_ low_ high_ p1_values_ p2_values_ tests_members_ marks_ = some out) : CtV l yX0_markDifference wsX0_markDifference rm_X0_markDifference D cy [.ref o, .ref q_p1, .ref q_p2] (RW_X0_markDifference cy o q_p1 q_p2 n_p1_values n_p2_values d d_p1 d_p2 d_tests PT marks_) (RO_X0_markDifference cy o q_p1 q_p2 n_p1_values n_p2_values d d_p1 d_p2 d_tests PT letters_ states_ p1_form_ p1_basics_ p1_table_ p2_form_ p2_basics_ p2_table_ tests_count_ low_ high_ p1_values_ p2_values_ tests_members_) (RW_X0_markDifference cy o q_p1 q_p2 n_p1_values n_p2_values d d_p1 d_p2 d_tests PT out) :=
  mk_v (by decide) rfl (Nat.le_of_ble_eq_true rfl) (fun p e s m args below meth c A Q X K H locs ls Z hl => wt_X0_markDifference o q_p1 q_p2 n_p1_values n_p2_values d d_p1 d_p2 d_tests PT tq letters_ states_ p1_form_ p1_basics_ p1_table_ p2_form_ p2_basics_ p2_table_ tests_count_ low_ high_ p1_values_ p2_values_ tests_members_ marks_ out hT X h K H locs ls Z hl)
/-! SubwordCounter exploreDifference (LSubwordCounter$Language;LSubwordCounter$Language;)Z -/
abbrev rm_X11_exploreDifference : Room := { frames := 5, cells := 0, slots := 0, locals := 122 }
def RW_X11_exploreDifference (cy : Nat → ClassId) (o : Nat) (q_p1 : Nat) (q_p2 : Nat) (n_p1_tests : Nat) (n_p1_values : Nat) (n_p2_tests : Nat) (n_p2_values : Nat) (d : Nat → Nat) (d_p1 : Nat → Nat) (d_p2 : Nat → Nat) (d_now : Nat → Nat) (d_automaton : Nat → Nat) (d_automaton_tests : Nat → Nat) (mono : Value) (PT : va_W) (automaton_letters_ : Int32) (automaton_states_ : Int32) (automaton_tests_count_ : Int32) (automaton_next_ : Nat → Int32) (automaton_marks_ : Nat → Int32) (automaton_depth_ : Nat → Int32) (automaton_low_ : Nat → Int64) (automaton_high_ : Nat → Int64) (automaton_parent_ : Nat → Int32) (automaton_lastLetter_ : Nat → Int32) (automaton_slots_ : Nat → Int32) (automaton_tests_members_ : Nat → Option Nat) : va_W := [((d 8), ob 0 (oX0 d_automaton automaton_letters_ automaton_states_)), ((d_automaton 0), ob 1 (oX1 d_automaton_tests automaton_tests_count_)), ((d_automaton 3), aI cy 6000 automaton_next_), ((d_automaton 4), aI cy 2000 automaton_marks_), ((d_automaton 5), aI cy 2000 automaton_depth_), ((d_automaton 6), aJ cy 2000 automaton_low_), ((d_automaton 7), aJ cy 2000 automaton_high_), ((d_automaton 8), aI cy 2000 automaton_parent_), ((d_automaton 9), aI cy 2000 automaton_lastLetter_), ((d_automaton 10), aI cy 4096 automaton_slots_), ((d_automaton_tests 0), aR cy 4 8 automaton_tests_members_)]
def RO_X11_exploreDifference (cy : Nat → ClassId) (o : Nat) (q_p1 : Nat) (q_p2 : Nat) (n_p1_tests : Nat) (n_p1_values : Nat) (n_p2_tests : Nat) (n_p2_values : Nat) (d : Nat → Nat) (d_p1 : Nat → Nat) (d_p2 : Nat → Nat) (d_now : Nat → Nat) (d_automaton : Nat → Nat) (d_automaton_tests : Nat → Nat) (mono : Value) (PT : va_W) (snapshotTaken_ : Int32) (inputLength_ : Int32) (p1_form_ : Int32) (p1_basics_ : Int32) (p1_table_ : Int32) (p2_form_ : Int32) (p2_basics_ : Int32) (p2_table_ : Int32) (now_letters_ : Int32) (p1_tests_ : Nat → Option Nat) (p1_values_ : Nat → Int32) (p2_tests_ : Nat → Option Nat) (p2_values_ : Nat → Int32) : va_W := [(o, ob 10 (oX11 d mono snapshotTaken_ inputLength_)), (q_p1, ob 2 (oX2 d_p1 p1_form_ p1_basics_ p1_table_)), (q_p2, ob 2 (oX2 d_p2 p2_form_ p2_basics_ p2_table_)), ((d 0), ob 5 (oX5 d_now now_letters_)), ((d_p1 3), aR cy 4 n_p1_tests p1_tests_), ((d_p1 4), aI cy n_p1_values p1_values_), ((d_p2 3), aR cy 4 n_p2_tests p2_tests_), ((d_p2 4), aI cy n_p2_values p2_values_)] ++ PT
theorem in_X11_exploreDifference_X11 : ∀ w ∈ u_ws RX11 TX11 12, w ∈ wsX11_exploreDifference := fun w h => (List.mem_cons_of_mem _ (List.mem_append_left _ (List.mem_append_left _ (List.mem_append_left _ (List.mem_append_left _ (List.mem_append_left _ (List.mem_append_right _ h)))))))
theorem lk_X11_exploreDifference_X11_automaton : Lk wsX11_exploreDifference RX11 54 10 8 := ⟨RX11, TX11, 12, rfl, by decide, in_X11_exploreDifference_X11, mem_at 1 rfl⟩
theorem lk_X11_exploreDifference_X11_now : Lk wsX11_exploreDifference RX11 10 10 0 := ⟨RX11, TX11, 12, rfl, by decide, in_X11_exploreDifference_X11, mem_at 2 rfl⟩
theorem in_X11_exploreDifference_X5 : ∀ w ∈ u_ws RX5 TX5 4, w ∈ wsX11_exploreDifference := fun w h => (List.mem_cons_of_mem _ (List.mem_append_left _ (List.mem_append_left _ (List.mem_append_left _ (List.mem_append_left _ (List.mem_append_right _ h))))))
theorem lk_X11_exploreDifference_X5_letters : Lk wsX11_exploreDifference RX11 74 5 0 := ⟨RX5, TX5, 4, rfl, by decide, in_X11_exploreDifference_X5, mem_at 3 rfl⟩
theorem in_X11_exploreDifference_X0 : ∀ w ∈ u_ws RX0 TX0 13, w ∈ wsX11_exploreDifference := fun w h => (List.mem_cons_of_mem _ (List.mem_append_left _ (List.mem_append_left _ (List.mem_append_left _ (List.mem_append_right _ h)))))
theorem lk_X11_exploreDifference_X0_tests : Lk wsX11_exploreDifference RX11 320 0 0 := ⟨RX0, TX0, 13, rfl, by decide, in_X11_exploreDifference_X0, mem_at 4 rfl⟩
def f_X11_exploreDifference (n_p1_tests : Nat) (n_p1_values : Nat) (n_p2_tests : Nat) (n_p2_values : Nat) (tq : Nat → Option TV) (p1_basics_ : Int32) (p1_table_ : Int32) (p2_basics_ : Int32) (p2_table_ : Int32) (now_letters_ : Int32) (p1_tests_ : Nat → Option Nat) (p1_values_ : Nat → Int32) (p2_tests_ : Nat → Option Nat) (p2_values_ : Nat → Int32) (automaton_letters_ : Int32) (automaton_states_ : Int32) (automaton_tests_count_ : Int32) (automaton_next_ : Nat → Int32) (automaton_marks_ : Nat → Int32) (automaton_depth_ : Nat → Int32) (automaton_low_ : Nat → Int64) (automaton_high_ : Nat → Int64) (automaton_parent_ : Nat → Int32) (automaton_lastLetter_ : Nat → Int32) (automaton_slots_ : Nat → Int32) (automaton_tests_members_ : Nat → Option Nat) : Option (Int32 × Int32 × Int32 × Int32 × (Nat → Int32) × (Nat → Int32) × (Nat → Int32) × (Nat → Int64) × (Nat → Int64) × (Nat → Int32) × (Nat → Int32) × (Nat → Int32) × (Nat → Option Nat)) :=
  (f_X0_restart now_letters_ automaton_letters_ automaton_states_ automaton_tests_count_).bind (fun u1 =>
  (f_X2_addTestsTo n_p1_tests tq p1_basics_ p1_tests_ u1.2.2 automaton_tests_members_).bind (fun u3 =>
  (f_X2_addTestsTo n_p2_tests tq p2_basics_ p2_tests_ u3.1 u3.2).bind (fun u5 =>
  (f_X0_explore tq u5.1 u5.2 u1.1 u1.2.1 automaton_next_ automaton_depth_ automaton_low_ automaton_high_ automaton_parent_ automaton_lastLetter_ automaton_slots_).bind (fun u7 =>
  if u7.1 = 0 then
  (some ((0 : Int32), u1.1, u7.2.1, u5.1, u7.2.2.1, automaton_marks_, u7.2.2.2.1, u7.2.2.2.2.1, u7.2.2.2.2.2.1, u7.2.2.2.2.2.2.1, u7.2.2.2.2.2.2.2.1, u7.2.2.2.2.2.2.2.2, u5.2))
  else
  ((f_X0_markDifference n_p1_values n_p2_values tq u7.2.1 p1_basics_ p1_table_ p2_basics_ p2_table_ u7.2.2.2.2.1 u7.2.2.2.2.2.1 p1_values_ p2_values_ u5.2 automaton_marks_).bind (fun u9 =>
  some ((1 : Int32), u1.1, u7.2.1, u5.1, u7.2.2.1, u9, u7.2.2.2.1, u7.2.2.2.2.1, u7.2.2.2.2.2.1, u7.2.2.2.2.2.2.1, u7.2.2.2.2.2.2.2.1, u7.2.2.2.2.2.2.2.2, u5.2)))))))
set_option maxHeartbeats 4000000 in
set_option maxRecDepth 100000 in
theorem wt_X11_exploreDifference {p : Program} {l : Launch} {e : Env} {s : State} {m : MethodId} {args : Array Value} {below : List Frame} {meth : Method} {c : Code} {A : Nat → Prop} {Q : State → Prop} {D : va_G} {cy : Nat → ClassId} (o : Nat) (q_p1 : Nat) (q_p2 : Nat) (n_p1_tests : Nat) (n_p1_values : Nat) (n_p2_tests : Nat) (n_p2_values : Nat) (d : Nat → Nat) (d_p1 : Nat → Nat) (d_p2 : Nat → Nat) (d_now : Nat → Nat) (d_automaton : Nat → Nat) (d_automaton_tests : Nat → Nat) (mono : Value) (PT : va_W) (tq : Nat → Option TV) (snapshotTaken_ : Int32) (inputLength_ : Int32) (p1_form_ : Int32) (p1_basics_ : Int32) (p1_table_ : Int32) (p2_form_ : Int32) (p2_basics_ : Int32) (p2_table_ : Int32) (now_letters_ : Int32) (p1_tests_ : Nat → Option Nat) (p1_values_ : Nat → Int32) (p2_tests_ : Nat → Option Nat) (p2_values_ : Nat → Int32) (automaton_letters_ : Int32) (automaton_states_ : Int32) (automaton_tests_count_ : Int32) (automaton_next_ : Nat → Int32) (automaton_marks_ : Nat → Int32) (automaton_depth_ : Nat → Int32) (automaton_low_ : Nat → Int64) (automaton_high_ : Nat → Int64) (automaton_parent_ : Nat → Int32) (automaton_lastLetter_ : Nat → Int32) (automaton_slots_ : Nat → Int32) (automaton_tests_members_ : Nat → Option Nat) (out : Int32 × Int32 × Int32 × Int32 × (Nat → Int32) × (Nat → Int32) × (Nat → Int32) × (Nat → Int64) × (Nat → Int64) × (Nat → Int32) × (Nat → Int32) × (Nat → Int32) × (Nat → Option Nat)) (hT : TP cy PT tq) (X : Cx p m c cX11_exploreDifference 3 s args wsX11_exploreDifference RX11 A D cy (RO_X11_exploreDifference cy o q_p1 q_p2 n_p1_tests n_p1_values n_p2_tests n_p2_values d d_p1 d_p2 d_now d_automaton d_automaton_tests mono PT snapshotTaken_ inputLength_ p1_form_ p1_basics_ p1_table_ p2_form_ p2_basics_ p2_table_ now_letters_ p1_tests_ p1_values_ p2_tests_ p2_values_)) (h : f_X11_exploreDifference n_p1_tests n_p1_values n_p2_tests n_p2_values tq p1_basics_ p1_table_ p2_basics_ p2_table_ now_letters_ p1_tests_ p1_values_ p2_tests_ p2_values_ automaton_letters_ automaton_states_ automaton_tests_count_ automaton_next_ automaton_marks_ automaton_depth_ automaton_low_ automaton_high_ automaton_parent_ automaton_lastLetter_ automaton_slots_ automaton_tests_members_ = some out) (K : ∀ (H : Heap) (locs : List Loc) (ls : Array Slot) (pc : Nat), decode cX11_exploreDifference pc = .ok (.ireturn, 1) → (out.1 = 0 ∨ out.1 = 1) → St A D s (RW_X11_exploreDifference cy o q_p1 q_p2 n_p1_tests n_p1_values n_p2_tests n_p2_values d d_p1 d_p2 d_now d_automaton d_automaton_tests mono PT out.2.1 out.2.2.1 out.2.2.2.1 out.2.2.2.2.1 out.2.2.2.2.2.1 out.2.2.2.2.2.2.1 out.2.2.2.2.2.2.2.1 out.2.2.2.2.2.2.2.2.1 out.2.2.2.2.2.2.2.2.2.1 out.2.2.2.2.2.2.2.2.2.2.1 out.2.2.2.2.2.2.2.2.2.2.2.1 out.2.2.2.2.2.2.2.2.2.2.2.2) H locs → W p l e rm_X11_exploreDifference s m args below meth c H locs 0 0 Q (F0 m pc ls [.int out.1])) : ∀ (H : Heap) (locs : List Loc) (ls : Array Slot), St A D s (RW_X11_exploreDifference cy o q_p1 q_p2 n_p1_tests n_p1_values n_p2_tests n_p2_values d d_p1 d_p2 d_now d_automaton d_automaton_tests mono PT automaton_letters_ automaton_states_ automaton_tests_count_ automaton_next_ automaton_marks_ automaton_depth_ automaton_low_ automaton_high_ automaton_parent_ automaton_lastLetter_ automaton_slots_ automaton_tests_members_) H locs → lv_has ls 3 [(0, .ref o), (1, .ref q_p1), (2, .ref q_p2)] → W p l e rm_X11_exploreDifference s m args below meth c H locs 0 0 Q (F0 m 0 ls []) := by
  intro H locs ls Z hl
  have hx := X.1.1
  have hb := X.1.2.1
  unfold f_X11_exploreDifference at h
  refine lv_aload_n hx hb dX11_exploreDifference_0 rfl (lv_at hl 0 rfl) ?_
  refine x_getO X Z 0 8 (v := .ref (d 8)) rfl rfl lk_X11_exploreDifference_X11_automaton dX11_exploreDifference_1 ?_
  refine lv_aload_n hx hb dX11_exploreDifference_4 rfl (lv_at hl 0 rfl) ?_
  refine x_getO X Z 0 0 (v := .ref (d 0)) rfl rfl lk_X11_exploreDifference_X11_now dX11_exploreDifference_5 ?_
  refine x_getO X Z 3 0 (v := .int now_letters_) rfl rfl lk_X11_exploreDifference_X5_letters dX11_exploreDifference_8 ?_
  obtain ⟨u1, hc2, h⟩ := ob_some h
  refine x_runVv (RW' := (RW_X11_exploreDifference cy o q_p1 q_p2 n_p1_tests n_p1_values n_p2_tests n_p2_values d d_p1 d_p2 d_now d_automaton d_automaton_tests mono PT u1.1 u1.2.1 u1.2.2 automaton_next_ automaton_marks_ automaton_depth_ automaton_low_ automaton_high_ automaton_parent_ automaton_lastLetter_ automaton_slots_ automaton_tests_members_)) (wr := [((d_automaton 3), aI cy 6000 automaton_next_), ((d_automaton 4), aI cy 2000 automaton_marks_), ((d_automaton 5), aI cy 2000 automaton_depth_), ((d_automaton 6), aJ cy 2000 automaton_low_), ((d_automaton 7), aJ cy 2000 automaton_high_), ((d_automaton 8), aI cy 2000 automaton_parent_), ((d_automaton 9), aI cy 2000 automaton_lastLetter_), ((d_automaton 10), aI cy 4096 automaton_slots_), ((d_automaton_tests 0), aR cy 4 8 automaton_tests_members_)]) (isC := [0, 1]) (isR := [2, 3, 4, 5, 6, 7, 8, 9, 10]) (isF := [9, 10, 0, 1, 2, 3, 4, 5, 6, 7, 8]) (rest := []) (As := [.int now_letters_]) (n := 1) X Z (c_X0_restart l D cy (d 8) d_automaton d_automaton_tests automaton_letters_ automaton_states_ automaton_tests_count_ now_letters_ u1 hc2) gX11_exploreDifference_X0_restart rfl (by decide +kernel) ⟨Nat.le_of_ble_eq_true rfl, Nat.le_of_ble_eq_true rfl⟩ ⟨rfl, rfl⟩ ⟨Nat.le_of_ble_eq_true rfl, Nat.le_of_ble_eq_true rfl⟩ (x_rv X Z 0 rfl rfl) ⟨rfl, rfl, roN, rfl, rfl, by decide⟩ ⟨rfl, rfl⟩ rfl hl.1 rfl (Nat.le_of_ble_eq_true rfl) dX11_exploreDifference_11 (fun H locs Z => ?_)
  refine lv_aload_n hx hb dX11_exploreDifference_14 rfl (lv_at hl 1 rfl) ?_
  refine lv_aload_n hx hb dX11_exploreDifference_15 rfl (lv_at hl 0 rfl) ?_
  refine x_getO X Z 0 8 (v := .ref (d 8)) rfl rfl lk_X11_exploreDifference_X11_automaton dX11_exploreDifference_16 ?_
  refine x_get X Z 0 0 (v := .ref (d_automaton 0)) rfl rfl lk_X11_exploreDifference_X0_tests dX11_exploreDifference_19 ?_
  obtain ⟨u3, hc4, h⟩ := ob_some h
  refine x_runVv (RW' := (RW_X11_exploreDifference cy o q_p1 q_p2 n_p1_tests n_p1_values n_p2_tests n_p2_values d d_p1 d_p2 d_now d_automaton d_automaton_tests mono PT u1.1 u1.2.1 u3.1 automaton_next_ automaton_marks_ automaton_depth_ automaton_low_ automaton_high_ automaton_parent_ automaton_lastLetter_ automaton_slots_ u3.2)) (wr := [((d 8), ob 0 (oX0 d_automaton u1.1 u1.2.1)), ((d_automaton 3), aI cy 6000 automaton_next_), ((d_automaton 4), aI cy 2000 automaton_marks_), ((d_automaton 5), aI cy 2000 automaton_depth_), ((d_automaton 6), aJ cy 2000 automaton_low_), ((d_automaton 7), aJ cy 2000 automaton_high_), ((d_automaton 8), aI cy 2000 automaton_parent_), ((d_automaton 9), aI cy 2000 automaton_lastLetter_), ((d_automaton 10), aI cy 4096 automaton_slots_)]) (isC := [1, 10]) (isR := [0, 2, 3, 4, 5, 6, 7, 8, 9]) (isF := [0, 9, 1, 2, 3, 4, 5, 6, 7, 8, 10]) (rest := []) (As := [.ref (d_automaton 0)]) (n := 1) X Z (c_X2_addTestsTo l D cy q_p1 (d_automaton 0) n_p1_tests d_p1 d_automaton_tests PT tq p1_form_ p1_basics_ p1_table_ p1_tests_ u1.2.2 automaton_tests_members_ u3 hT hc4) gX11_exploreDifference_X2_addTestsTo rfl (by decide +kernel) ⟨Nat.le_of_ble_eq_true rfl, Nat.le_of_ble_eq_true rfl⟩ ⟨rfl, rfl⟩ ⟨Nat.le_of_ble_eq_true rfl, Nat.le_of_ble_eq_true rfl⟩ (x_rvO X Z 1 rfl rfl) ⟨rfl, rfl, (roC (Or.inr (mem_at 1 rfl)) (roC (Or.inr (mem_at 4 rfl)) (fun q hq => Or.inr (List.mem_append_right _ hq)))), rfl, rfl, by decide⟩ ⟨rfl, rfl⟩ rfl hl.1 rfl (Nat.le_of_ble_eq_true rfl) dX11_exploreDifference_22 (fun H locs Z => ?_)
  refine lv_aload_n hx hb dX11_exploreDifference_25 rfl (lv_at hl 2 rfl) ?_
  refine lv_aload_n hx hb dX11_exploreDifference_26 rfl (lv_at hl 0 rfl) ?_
  refine x_getO X Z 0 8 (v := .ref (d 8)) rfl rfl lk_X11_exploreDifference_X11_automaton dX11_exploreDifference_27 ?_
  refine x_get X Z 0 0 (v := .ref (d_automaton 0)) rfl rfl lk_X11_exploreDifference_X0_tests dX11_exploreDifference_30 ?_
  obtain ⟨u5, hc6, h⟩ := ob_some h
  refine x_runVv (RW' := (RW_X11_exploreDifference cy o q_p1 q_p2 n_p1_tests n_p1_values n_p2_tests n_p2_values d d_p1 d_p2 d_now d_automaton d_automaton_tests mono PT u1.1 u1.2.1 u5.1 automaton_next_ automaton_marks_ automaton_depth_ automaton_low_ automaton_high_ automaton_parent_ automaton_lastLetter_ automaton_slots_ u5.2)) (wr := [((d 8), ob 0 (oX0 d_automaton u1.1 u1.2.1)), ((d_automaton 3), aI cy 6000 automaton_next_), ((d_automaton 4), aI cy 2000 automaton_marks_), ((d_automaton 5), aI cy 2000 automaton_depth_), ((d_automaton 6), aJ cy 2000 automaton_low_), ((d_automaton 7), aJ cy 2000 automaton_high_), ((d_automaton 8), aI cy 2000 automaton_parent_), ((d_automaton 9), aI cy 2000 automaton_lastLetter_), ((d_automaton 10), aI cy 4096 automaton_slots_)]) (isC := [1, 10]) (isR := [0, 2, 3, 4, 5, 6, 7, 8, 9]) (isF := [0, 9, 1, 2, 3, 4, 5, 6, 7, 8, 10]) (rest := []) (As := [.ref (d_automaton 0)]) (n := 1) X Z (c_X2_addTestsTo l D cy q_p2 (d_automaton 0) n_p2_tests d_p2 d_automaton_tests PT tq p2_form_ p2_basics_ p2_table_ p2_tests_ u3.1 u3.2 u5 hT hc6) gX11_exploreDifference_X2_addTestsTo rfl (by decide +kernel) ⟨Nat.le_of_ble_eq_true rfl, Nat.le_of_ble_eq_true rfl⟩ ⟨rfl, rfl⟩ ⟨Nat.le_of_ble_eq_true rfl, Nat.le_of_ble_eq_true rfl⟩ (x_rvO X Z 2 rfl rfl) ⟨rfl, rfl, (roC (Or.inr (mem_at 2 rfl)) (roC (Or.inr (mem_at 6 rfl)) (fun q hq => Or.inr (List.mem_append_right _ hq)))), rfl, rfl, by decide⟩ ⟨rfl, rfl⟩ rfl hl.1 rfl (Nat.le_of_ble_eq_true rfl) dX11_exploreDifference_33 (fun H locs Z => ?_)
  refine lv_aload_n hx hb dX11_exploreDifference_36 rfl (lv_at hl 0 rfl) ?_
  refine x_getO X Z 0 8 (v := .ref (d 8)) rfl rfl lk_X11_exploreDifference_X11_automaton dX11_exploreDifference_37 ?_
  obtain ⟨u7, hc8, h⟩ := ob_some h
  refine x_runVi (RW' := (RW_X11_exploreDifference cy o q_p1 q_p2 n_p1_tests n_p1_values n_p2_tests n_p2_values d d_p1 d_p2 d_now d_automaton d_automaton_tests mono PT u1.1 u7.2.1 u5.1 u7.2.2.1 automaton_marks_ u7.2.2.2.1 u7.2.2.2.2.1 u7.2.2.2.2.2.1 u7.2.2.2.2.2.2.1 u7.2.2.2.2.2.2.2.1 u7.2.2.2.2.2.2.2.2 u5.2)) (wr := [((d_automaton 0), ob 1 (oX1 d_automaton_tests u5.1)), ((d_automaton 4), aI cy 2000 automaton_marks_), ((d_automaton_tests 0), aR cy 4 8 u5.2)]) (isC := [0, 2, 4, 5, 6, 7, 8, 9]) (isR := [1, 3, 10]) (isF := [3, 0, 4, 1, 5, 6, 7, 8, 9, 10, 2]) (rest := []) (As := []) (n := 0) X Z (c_X0_explore l D cy (d 8) d_automaton d_automaton_tests PT tq u5.1 u5.2 u1.1 u1.2.1 automaton_next_ automaton_depth_ automaton_low_ automaton_high_ automaton_parent_ automaton_lastLetter_ automaton_slots_ u7 hT hc8) gX11_exploreDifference_X0_explore rfl (by decide +kernel) ⟨Nat.le_of_ble_eq_true rfl, Nat.le_of_ble_eq_true rfl⟩ ⟨rfl, rfl⟩ ⟨Nat.le_of_ble_eq_true rfl, Nat.le_of_ble_eq_true rfl⟩ (x_rv X Z 0 rfl rfl) ⟨rfl, rfl, (roC (Or.inl (mem_at 0 rfl)) (roC (Or.inl (mem_at 2 rfl)) (fun q hq => Or.inr (List.mem_append_right _ hq)))), rfl, rfl, by decide⟩ ⟨rfl, rfl⟩ rfl hl.1 rfl (Nat.le_of_ble_eq_true rfl) dX11_exploreDifference_40 (fun H locs Z => ?_)
  refine lv_if_ne (tgt := 48) hx hb dX11_exploreDifference_43 (by decide) (fun cnd => ?_) (fun cnd => ?_)
  · replace h := ifn h cnd
    refine lv_aload_n hx hb dX11_exploreDifference_48 rfl (lv_at hl 0 rfl) ?_
    refine x_getO X Z 0 8 (v := .ref (d 8)) rfl rfl lk_X11_exploreDifference_X11_automaton dX11_exploreDifference_49 ?_
    refine lv_aload_n hx hb dX11_exploreDifference_52 rfl (lv_at hl 1 rfl) ?_
    refine lv_aload_n hx hb dX11_exploreDifference_53 rfl (lv_at hl 2 rfl) ?_
    obtain ⟨u9, hc10, h⟩ := ob_some h
    refine x_runVv (RW' := (RW_X11_exploreDifference cy o q_p1 q_p2 n_p1_tests n_p1_values n_p2_tests n_p2_values d d_p1 d_p2 d_now d_automaton d_automaton_tests mono PT u1.1 u7.2.1 u5.1 u7.2.2.1 u9 u7.2.2.2.1 u7.2.2.2.2.1 u7.2.2.2.2.2.1 u7.2.2.2.2.2.2.1 u7.2.2.2.2.2.2.2.1 u7.2.2.2.2.2.2.2.2 u5.2)) (wr := [((d 8), ob 0 (oX0 d_automaton u1.1 u7.2.1)), ((d_automaton 0), ob 1 (oX1 d_automaton_tests u5.1)), ((d_automaton 3), aI cy 6000 u7.2.2.1), ((d_automaton 5), aI cy 2000 u7.2.2.2.1), ((d_automaton 6), aJ cy 2000 u7.2.2.2.2.1), ((d_automaton 7), aJ cy 2000 u7.2.2.2.2.2.1), ((d_automaton 8), aI cy 2000 u7.2.2.2.2.2.2.1), ((d_automaton 9), aI cy 2000 u7.2.2.2.2.2.2.2.1), ((d_automaton 10), aI cy 4096 u7.2.2.2.2.2.2.2.2), ((d_automaton_tests 0), aR cy 4 8 u5.2)]) (isC := [3]) (isR := [0, 1, 2, 4, 5, 6, 7, 8, 9, 10]) (isF := [0, 1, 2, 10, 3, 4, 5, 6, 7, 8, 9]) (rest := []) (As := [.ref q_p1, .ref q_p2]) (n := 2) X Z (c_X0_markDifference l D cy (d 8) q_p1 q_p2 n_p1_values n_p2_values d_automaton d_p1 d_p2 d_automaton_tests PT tq u1.1 u7.2.1 p1_form_ p1_basics_ p1_table_ p2_form_ p2_basics_ p2_table_ u5.1 u7.2.2.2.2.1 u7.2.2.2.2.2.1 p1_values_ p2_values_ u5.2 automaton_marks_ u9 hT hc10) gX11_exploreDifference_X0_markDifference rfl (by decide +kernel) ⟨Nat.le_of_ble_eq_true rfl, Nat.le_of_ble_eq_true rfl⟩ ⟨rfl, rfl⟩ ⟨Nat.le_of_ble_eq_true rfl, Nat.le_of_ble_eq_true rfl⟩ (x_rv X Z 0 rfl rfl) ⟨rfl, rfl, (roC (Or.inl (mem_at 0 rfl)) (roC (Or.inr (mem_at 1 rfl)) (roC (Or.inr (mem_at 2 rfl)) (roC (Or.inl (mem_at 1 rfl)) (roC (Or.inl (mem_at 4 rfl)) (roC (Or.inl (mem_at 5 rfl)) (roC (Or.inr (mem_at 5 rfl)) (roC (Or.inr (mem_at 7 rfl)) (roC (Or.inl (mem_at 9 rfl)) (fun q hq => Or.inr (List.mem_append_right _ hq))))))))))), rfl, rfl, by decide⟩ ⟨rfl, rfl⟩ rfl hl.1 rfl (Nat.le_of_ble_eq_true rfl) dX11_exploreDifference_54 (fun H locs Z => ?_)
    refine lv_iconst (v := (1 : Int32)) hx hb dX11_exploreDifference_57 (by decide) ?_
    obtain rfl := Option.some.inj h
    exact K H locs ls _ dX11_exploreDifference_58 (Or.inr rfl) Z
  · replace h := ifp h cnd
    refine lv_iconst (v := (0 : Int32)) hx hb dX11_exploreDifference_46 (by decide) ?_
    obtain rfl := Option.some.inj h
    exact K H locs ls _ dX11_exploreDifference_47 (Or.inl rfl) Z
theorem c_X11_exploreDifference (l : Launch) (D : va_G) (cy : Nat → ClassId) (o : Nat) (q_p1 : Nat) (q_p2 : Nat) (n_p1_tests : Nat) (n_p1_values : Nat) (n_p2_tests : Nat) (n_p2_values : Nat) (d : Nat → Nat) (d_p1 : Nat → Nat) (d_p2 : Nat → Nat) (d_now : Nat → Nat) (d_automaton : Nat → Nat) (d_automaton_tests : Nat → Nat) (mono : Value) (PT : va_W) (tq : Nat → Option TV) (snapshotTaken_ : Int32) (inputLength_ : Int32) (p1_form_ : Int32) (p1_basics_ : Int32) (p1_table_ : Int32) (p2_form_ : Int32) (p2_basics_ : Int32) (p2_table_ : Int32) (now_letters_ : Int32) (p1_tests_ : Nat → Option Nat) (p1_values_ : Nat → Int32) (p2_tests_ : Nat → Option Nat) (p2_values_ : Nat → Int32) (automaton_letters_ : Int32) (automaton_states_ : Int32) (automaton_tests_count_ : Int32) (automaton_next_ : Nat → Int32) (automaton_marks_ : Nat → Int32) (automaton_depth_ : Nat → Int32) (automaton_low_ : Nat → Int64) (automaton_high_ : Nat → Int64) (automaton_parent_ : Nat → Int32) (automaton_lastLetter_ : Nat → Int32) (automaton_slots_ : Nat → Int32) (automaton_tests_members_ : Nat → Option Nat) (out : Int32 × Int32 × Int32 × Int32 × (Nat → Int32) × (Nat → Int32) × (Nat → Int32) × (Nat → Int64) × (Nat → Int64) × (Nat → Int32) × (Nat → Int32) × (Nat → Int32) × (Nat → Option Nat)) (hT : TP cy PT tq) (h : f_X11_exploreDifference n_p1_tests n_p1_values n_p2_tests n_p2_values tq p1_basics_ p1_table_ p2_basics_ p2_table_ now_letters_ p1_tests_ p1_values_ p2_tests_ p2_values_ automaton_letters_ automaton_states_ automaton_tests_count_ automaton_next_ automaton_marks_ automaton_depth_ automaton_low_ automaton_high_ automaton_parent_ automaton_lastLetter_ automaton_slots_ automaton_tests_members_ = some out) : CtI l yX11_exploreDifference wsX11_exploreDifference rm_X11_exploreDifference D cy [.ref o, .ref q_p1, .ref q_p2] (RW_X11_exploreDifference cy o q_p1 q_p2 n_p1_tests n_p1_values n_p2_tests n_p2_values d d_p1 d_p2 d_now d_automaton d_automaton_tests mono PT automaton_letters_ automaton_states_ automaton_tests_count_ automaton_next_ automaton_marks_ automaton_depth_ automaton_low_ automaton_high_ automaton_parent_ automaton_lastLetter_ automaton_slots_ automaton_tests_members_) (RO_X11_exploreDifference cy o q_p1 q_p2 n_p1_tests n_p1_values n_p2_tests n_p2_values d d_p1 d_p2 d_now d_automaton d_automaton_tests mono PT snapshotTaken_ inputLength_ p1_form_ p1_basics_ p1_table_ p2_form_ p2_basics_ p2_table_ now_letters_ p1_tests_ p1_values_ p2_tests_ p2_values_) (RW_X11_exploreDifference cy o q_p1 q_p2 n_p1_tests n_p1_values n_p2_tests n_p2_values d d_p1 d_p2 d_now d_automaton d_automaton_tests mono PT out.2.1 out.2.2.1 out.2.2.2.1 out.2.2.2.2.1 out.2.2.2.2.2.1 out.2.2.2.2.2.2.1 out.2.2.2.2.2.2.2.1 out.2.2.2.2.2.2.2.2.1 out.2.2.2.2.2.2.2.2.2.1 out.2.2.2.2.2.2.2.2.2.2.1 out.2.2.2.2.2.2.2.2.2.2.2.1 out.2.2.2.2.2.2.2.2.2.2.2.2) out.1 :=
  mk_z (by decide) rfl (Nat.le_of_ble_eq_true rfl) (fun p e s m args below meth c A Q X K H locs ls Z hl => wt_X11_exploreDifference o q_p1 q_p2 n_p1_tests n_p1_values n_p2_tests n_p2_values d d_p1 d_p2 d_now d_automaton d_automaton_tests mono PT tq snapshotTaken_ inputLength_ p1_form_ p1_basics_ p1_table_ p2_form_ p2_basics_ p2_table_ now_letters_ p1_tests_ p1_values_ p2_tests_ p2_values_ automaton_letters_ automaton_states_ automaton_tests_count_ automaton_next_ automaton_marks_ automaton_depth_ automaton_low_ automaton_high_ automaton_parent_ automaton_lastLetter_ automaton_slots_ automaton_tests_members_ out hT X h K H locs ls Z hl)
/-! SubwordCounter firstDifference (III)I -/
abbrev rm_X11_firstDifference : Room := { frames := 6, cells := 0, slots := 0, locals := 144 }
def RW_X11_firstDifference (cy : Nat → ClassId) (o : Nat) (q_now_languages_L1 : Nat) (q_now_languages_L2 : Nat) (q_now_words_L3 : Nat) (n_now_languages_L1_tests : Nat) (n_now_languages_L1_values : Nat) (n_now_languages_L2_tests : Nat) (n_now_languages_L2_values : Nat) (d : Nat → Nat) (d_now_languages_L1 : Nat → Nat) (d_now_languages_L2 : Nat → Nat) (d_now_words_L3 : Nat → Nat) (d_now : Nat → Nat) (d_automaton : Nat → Nat) (d_automaton_tests : Nat → Nat) (mono : Value) (PT : va_W) (now_words_L3_size_ : Int32) (automaton_letters_ : Int32) (automaton_states_ : Int32) (now_words_L3_letters_ : Nat → Int32) (automaton_tests_count_ : Int32) (automaton_next_ : Nat → Int32) (automaton_marks_ : Nat → Int32) (automaton_depth_ : Nat → Int32) (automaton_low_ : Nat → Int64) (automaton_high_ : Nat → Int64) (automaton_parent_ : Nat → Int32) (automaton_lastLetter_ : Nat → Int32) (automaton_slots_ : Nat → Int32) (automaton_tests_members_ : Nat → Option Nat) : va_W := [(q_now_words_L3, ob 8 (oX9 d_now_words_L3 now_words_L3_size_)), ((d 8), ob 0 (oX0 d_automaton automaton_letters_ automaton_states_)), ((d_now_words_L3 0), aI cy 12 now_words_L3_letters_), ((d_automaton 0), ob 1 (oX1 d_automaton_tests automaton_tests_count_)), ((d_automaton 3), aI cy 6000 automaton_next_), ((d_automaton 4), aI cy 2000 automaton_marks_), ((d_automaton 5), aI cy 2000 automaton_depth_), ((d_automaton 6), aJ cy 2000 automaton_low_), ((d_automaton 7), aJ cy 2000 automaton_high_), ((d_automaton 8), aI cy 2000 automaton_parent_), ((d_automaton 9), aI cy 2000 automaton_lastLetter_), ((d_automaton 10), aI cy 4096 automaton_slots_), ((d_automaton_tests 0), aR cy 4 8 automaton_tests_members_)]
def RO_X11_firstDifference (cy : Nat → ClassId) (o : Nat) (q_now_languages_L1 : Nat) (q_now_languages_L2 : Nat) (q_now_words_L3 : Nat) (n_now_languages_L1_tests : Nat) (n_now_languages_L1_values : Nat) (n_now_languages_L2_tests : Nat) (n_now_languages_L2_values : Nat) (d : Nat → Nat) (d_now_languages_L1 : Nat → Nat) (d_now_languages_L2 : Nat → Nat) (d_now_words_L3 : Nat → Nat) (d_now : Nat → Nat) (d_automaton : Nat → Nat) (d_automaton_tests : Nat → Nat) (mono : Value) (PT : va_W) (snapshotTaken_ : Int32) (inputLength_ : Int32) (now_languages_L1_form_ : Int32) (now_languages_L1_basics_ : Int32) (now_languages_L1_table_ : Int32) (now_languages_L2_form_ : Int32) (now_languages_L2_basics_ : Int32) (now_languages_L2_table_ : Int32) (now_letters_ : Int32) (now_languages_L1_tests_ : Nat → Option Nat) (now_languages_L1_values_ : Nat → Int32) (now_languages_L2_tests_ : Nat → Option Nat) (now_languages_L2_values_ : Nat → Int32) (now_words_ : Nat → Option Nat) (now_languages_ : Nat → Option Nat) : va_W := [(o, ob 10 (oX11 d mono snapshotTaken_ inputLength_)), (q_now_languages_L1, ob 2 (oX2 d_now_languages_L1 now_languages_L1_form_ now_languages_L1_basics_ now_languages_L1_table_)), (q_now_languages_L2, ob 2 (oX2 d_now_languages_L2 now_languages_L2_form_ now_languages_L2_basics_ now_languages_L2_table_)), ((d 0), ob 5 (oX5 d_now now_letters_)), ((d_now_languages_L1 3), aR cy 4 n_now_languages_L1_tests now_languages_L1_tests_), ((d_now_languages_L1 4), aI cy n_now_languages_L1_values now_languages_L1_values_), ((d_now_languages_L2 3), aR cy 4 n_now_languages_L2_tests now_languages_L2_tests_), ((d_now_languages_L2 4), aI cy n_now_languages_L2_values now_languages_L2_values_), ((d_now 1), aR cy 5 3 now_words_), ((d_now 3), aR cy 2 4 now_languages_)] ++ PT
theorem in_X11_firstDifference_X11 : ∀ w ∈ u_ws RX11 TX11 12, w ∈ wsX11_firstDifference := fun w h => (List.mem_cons_of_mem _ (List.mem_append_left _ (List.mem_append_left _ (List.mem_append_left _ (List.mem_append_left _ (List.mem_append_left _ (List.mem_append_left _ (List.mem_append_right _ h))))))))
theorem lk_X11_firstDifference_X11_now : Lk wsX11_firstDifference RX11 10 10 0 := ⟨RX11, TX11, 12, rfl, by decide, in_X11_firstDifference_X11, mem_at 1 rfl⟩
theorem in_X11_firstDifference_X5 : ∀ w ∈ u_ws RX5 TX5 4, w ∈ wsX11_firstDifference := fun w h => (List.mem_cons_of_mem _ (List.mem_append_left _ (List.mem_append_left _ (List.mem_append_left _ (List.mem_append_left _ (List.mem_append_left _ (List.mem_append_right _ h)))))))
theorem lk_X11_firstDifference_X5_languages : Lk wsX11_firstDifference RX11 232 5 3 := ⟨RX5, TX5, 4, rfl, by decide, in_X11_firstDifference_X5, mem_at 2 rfl⟩
theorem lk_X11_firstDifference_X5_words : Lk wsX11_firstDifference RX11 85 5 1 := ⟨RX5, TX5, 4, rfl, by decide, in_X11_firstDifference_X5, mem_at 3 rfl⟩
def f_X11_firstDifference (x1 : Int32) (x2 : Int32) (x3 : Int32) (n_now_languages_L1_tests : Nat) (n_now_languages_L1_values : Nat) (n_now_languages_L2_tests : Nat) (n_now_languages_L2_values : Nat) (q_now_languages_L1 : Nat) (q_now_languages_L2 : Nat) (q_now_words_L3 : Nat) (tq : Nat → Option TV) (now_languages_L1_basics_ : Int32) (now_languages_L1_table_ : Int32) (now_languages_L2_basics_ : Int32) (now_languages_L2_table_ : Int32) (now_letters_ : Int32) (now_languages_L1_tests_ : Nat → Option Nat) (now_languages_L1_values_ : Nat → Int32) (now_languages_L2_tests_ : Nat → Option Nat) (now_languages_L2_values_ : Nat → Int32) (now_words_ : Nat → Option Nat) (now_languages_ : Nat → Option Nat) (now_words_L3_size_ : Int32) (automaton_letters_ : Int32) (automaton_states_ : Int32) (now_words_L3_letters_ : Nat → Int32) (automaton_tests_count_ : Int32) (automaton_next_ : Nat → Int32) (automaton_marks_ : Nat → Int32) (automaton_depth_ : Nat → Int32) (automaton_low_ : Nat → Int64) (automaton_high_ : Nat → Int64) (automaton_parent_ : Nat → Int32) (automaton_lastLetter_ : Nat → Int32) (automaton_slots_ : Nat → Int32) (automaton_tests_members_ : Nat → Option Nat) : Option (Int32 × Int32 × Int32 × Int32 × (Nat → Int32) × Int32 × (Nat → Int32) × (Nat → Int32) × (Nat → Int32) × (Nat → Int64) × (Nat → Int64) × (Nat → Int32) × (Nat → Int32) × (Nat → Int32) × (Nat → Option Nat)) :=
  (f_X11_isLanguage x1).bind (fun u1 =>
  if u1 = 0 then
  (some ((-1 : Int32), now_words_L3_size_, automaton_letters_, automaton_states_, now_words_L3_letters_, automaton_tests_count_, automaton_next_, automaton_marks_, automaton_depth_, automaton_low_, automaton_high_, automaton_parent_, automaton_lastLetter_, automaton_slots_, automaton_tests_members_))
  else
  ((f_X11_isLanguage x2).bind (fun u3 =>
  if u3 = 0 then
  (some ((-1 : Int32), now_words_L3_size_, automaton_letters_, automaton_states_, now_words_L3_letters_, automaton_tests_count_, automaton_next_, automaton_marks_, automaton_depth_, automaton_low_, automaton_high_, automaton_parent_, automaton_lastLetter_, automaton_slots_, automaton_tests_members_))
  else
  ((f_X11_isWord x3).bind (fun u5 =>
  if u5 = 0 then
  (some ((-1 : Int32), now_words_L3_size_, automaton_letters_, automaton_states_, now_words_L3_letters_, automaton_tests_count_, automaton_next_, automaton_marks_, automaton_depth_, automaton_low_, automaton_high_, automaton_parent_, automaton_lastLetter_, automaton_slots_, automaton_tests_members_))
  else
  (ldA now_languages_ 4 x1 (fun r8 =>
  nlA r8 (
  ldA now_languages_ 4 x2 (fun r13 =>
  nlA r13 (
  some ((-5 : Int32), now_words_L3_size_, automaton_letters_, automaton_states_, now_words_L3_letters_, automaton_tests_count_, automaton_next_, automaton_marks_, automaton_depth_, automaton_low_, automaton_high_, automaton_parent_, automaton_lastLetter_, automaton_slots_, automaton_tests_members_)) (
  asR r13 q_now_languages_L2 (
  some ((-5 : Int32), now_words_L3_size_, automaton_letters_, automaton_states_, now_words_L3_letters_, automaton_tests_count_, automaton_next_, automaton_marks_, automaton_depth_, automaton_low_, automaton_high_, automaton_parent_, automaton_lastLetter_, automaton_slots_, automaton_tests_members_))))) (
  asR r8 q_now_languages_L1 (
  ldA now_languages_ 4 x2 (fun r20 =>
  nlA r20 (
  some ((-5 : Int32), now_words_L3_size_, automaton_letters_, automaton_states_, now_words_L3_letters_, automaton_tests_count_, automaton_next_, automaton_marks_, automaton_depth_, automaton_low_, automaton_high_, automaton_parent_, automaton_lastLetter_, automaton_slots_, automaton_tests_members_)) (
  asR r20 q_now_languages_L2 (
  (f_X11_exploreDifference n_now_languages_L1_tests n_now_languages_L1_values n_now_languages_L2_tests n_now_languages_L2_values tq now_languages_L1_basics_ now_languages_L1_table_ now_languages_L2_basics_ now_languages_L2_table_ now_letters_ now_languages_L1_tests_ now_languages_L1_values_ now_languages_L2_tests_ now_languages_L2_values_ automaton_letters_ automaton_states_ automaton_tests_count_ automaton_next_ automaton_marks_ automaton_depth_ automaton_low_ automaton_high_ automaton_parent_ automaton_lastLetter_ automaton_slots_ automaton_tests_members_).bind (fun u25 =>
  if u25.1 = 0 then
  (some ((-4 : Int32), now_words_L3_size_, u25.2.1, u25.2.2.1, now_words_L3_letters_, u25.2.2.2.1, u25.2.2.2.2.1, u25.2.2.2.2.2.1, u25.2.2.2.2.2.2.1, u25.2.2.2.2.2.2.2.1, u25.2.2.2.2.2.2.2.2.1, u25.2.2.2.2.2.2.2.2.2.1, u25.2.2.2.2.2.2.2.2.2.2.1, u25.2.2.2.2.2.2.2.2.2.2.2.1, u25.2.2.2.2.2.2.2.2.2.2.2.2))
  else
  (ldA now_words_ 3 x3 (fun r28 =>
  asR r28 q_now_words_L3 (
  (f_X11_takeFirst u25.2.2.1 u25.2.2.2.2.2.1 u25.2.2.2.2.2.2.1 u25.2.2.2.2.2.2.2.2.2.1 u25.2.2.2.2.2.2.2.2.2.2.1 now_words_L3_size_ now_words_L3_letters_).bind (fun u31 =>
  some (u31.1, u31.2.1, u25.2.1, u25.2.2.1, u31.2.2, u25.2.2.2.1, u25.2.2.2.2.1, u25.2.2.2.2.2.1, u25.2.2.2.2.2.2.1, u25.2.2.2.2.2.2.2.1, u25.2.2.2.2.2.2.2.2.1, u25.2.2.2.2.2.2.2.2.2.1, u25.2.2.2.2.2.2.2.2.2.2.1, u25.2.2.2.2.2.2.2.2.2.2.2.1, u25.2.2.2.2.2.2.2.2.2.2.2.2))))))))))))))))))
set_option maxHeartbeats 4000000 in
set_option maxRecDepth 100000 in
theorem wt_X11_firstDifference {p : Program} {l : Launch} {e : Env} {s : State} {m : MethodId} {args : Array Value} {below : List Frame} {meth : Method} {c : Code} {A : Nat → Prop} {Q : State → Prop} {D : va_G} {cy : Nat → ClassId} (o : Nat) (q_now_languages_L1 : Nat) (q_now_languages_L2 : Nat) (q_now_words_L3 : Nat) (n_now_languages_L1_tests : Nat) (n_now_languages_L1_values : Nat) (n_now_languages_L2_tests : Nat) (n_now_languages_L2_values : Nat) (d : Nat → Nat) (d_now_languages_L1 : Nat → Nat) (d_now_languages_L2 : Nat → Nat) (d_now_words_L3 : Nat → Nat) (d_now : Nat → Nat) (d_automaton : Nat → Nat) (d_automaton_tests : Nat → Nat) (mono : Value) (PT : va_W) (tq : Nat → Option TV) (snapshotTaken_ : Int32) (inputLength_ : Int32) (now_languages_L1_form_ : Int32) (now_languages_L1_basics_ : Int32) (now_languages_L1_table_ : Int32) (now_languages_L2_form_ : Int32) (now_languages_L2_basics_ : Int32) (now_languages_L2_table_ : Int32) (now_letters_ : Int32) (now_languages_L1_tests_ : Nat → Option Nat) (now_languages_L1_values_ : Nat → Int32) (now_languages_L2_tests_ : Nat → Option Nat) (now_languages_L2_values_ : Nat → Int32) (now_words_ : Nat → Option Nat) (now_languages_ : Nat → Option Nat) (now_words_L3_size_ : Int32) (automaton_letters_ : Int32) (automaton_states_ : Int32) (now_words_L3_letters_ : Nat → Int32) (automaton_tests_count_ : Int32) (automaton_next_ : Nat → Int32) (automaton_marks_ : Nat → Int32) (automaton_depth_ : Nat → Int32) (automaton_low_ : Nat → Int64) (automaton_high_ : Nat → Int64) (automaton_parent_ : Nat → Int32) (automaton_lastLetter_ : Nat → Int32) (automaton_slots_ : Nat → Int32) (automaton_tests_members_ : Nat → Option Nat) (x1 : Int32) (x2 : Int32) (x3 : Int32) (out : Int32 × Int32 × Int32 × Int32 × (Nat → Int32) × Int32 × (Nat → Int32) × (Nat → Int32) × (Nat → Int32) × (Nat → Int64) × (Nat → Int64) × (Nat → Int32) × (Nat → Int32) × (Nat → Int32) × (Nat → Option Nat)) (hT : TP cy PT tq) (X : Cx p m c cX11_firstDifference 6 s args wsX11_firstDifference RX11 A D cy (RO_X11_firstDifference cy o q_now_languages_L1 q_now_languages_L2 q_now_words_L3 n_now_languages_L1_tests n_now_languages_L1_values n_now_languages_L2_tests n_now_languages_L2_values d d_now_languages_L1 d_now_languages_L2 d_now_words_L3 d_now d_automaton d_automaton_tests mono PT snapshotTaken_ inputLength_ now_languages_L1_form_ now_languages_L1_basics_ now_languages_L1_table_ now_languages_L2_form_ now_languages_L2_basics_ now_languages_L2_table_ now_letters_ now_languages_L1_tests_ now_languages_L1_values_ now_languages_L2_tests_ now_languages_L2_values_ now_words_ now_languages_)) (h : f_X11_firstDifference x1 x2 x3 n_now_languages_L1_tests n_now_languages_L1_values n_now_languages_L2_tests n_now_languages_L2_values q_now_languages_L1 q_now_languages_L2 q_now_words_L3 tq now_languages_L1_basics_ now_languages_L1_table_ now_languages_L2_basics_ now_languages_L2_table_ now_letters_ now_languages_L1_tests_ now_languages_L1_values_ now_languages_L2_tests_ now_languages_L2_values_ now_words_ now_languages_ now_words_L3_size_ automaton_letters_ automaton_states_ now_words_L3_letters_ automaton_tests_count_ automaton_next_ automaton_marks_ automaton_depth_ automaton_low_ automaton_high_ automaton_parent_ automaton_lastLetter_ automaton_slots_ automaton_tests_members_ = some out) (K : ∀ (H : Heap) (locs : List Loc) (ls : Array Slot) (pc : Nat), decode cX11_firstDifference pc = .ok (.ireturn, 1) → St A D s (RW_X11_firstDifference cy o q_now_languages_L1 q_now_languages_L2 q_now_words_L3 n_now_languages_L1_tests n_now_languages_L1_values n_now_languages_L2_tests n_now_languages_L2_values d d_now_languages_L1 d_now_languages_L2 d_now_words_L3 d_now d_automaton d_automaton_tests mono PT out.2.1 out.2.2.1 out.2.2.2.1 out.2.2.2.2.1 out.2.2.2.2.2.1 out.2.2.2.2.2.2.1 out.2.2.2.2.2.2.2.1 out.2.2.2.2.2.2.2.2.1 out.2.2.2.2.2.2.2.2.2.1 out.2.2.2.2.2.2.2.2.2.2.1 out.2.2.2.2.2.2.2.2.2.2.2.1 out.2.2.2.2.2.2.2.2.2.2.2.2.1 out.2.2.2.2.2.2.2.2.2.2.2.2.2.1 out.2.2.2.2.2.2.2.2.2.2.2.2.2.2) H locs → W p l e rm_X11_firstDifference s m args below meth c H locs 0 0 Q (F0 m pc ls [.int out.1])) : ∀ (H : Heap) (locs : List Loc) (ls : Array Slot), St A D s (RW_X11_firstDifference cy o q_now_languages_L1 q_now_languages_L2 q_now_words_L3 n_now_languages_L1_tests n_now_languages_L1_values n_now_languages_L2_tests n_now_languages_L2_values d d_now_languages_L1 d_now_languages_L2 d_now_words_L3 d_now d_automaton d_automaton_tests mono PT now_words_L3_size_ automaton_letters_ automaton_states_ now_words_L3_letters_ automaton_tests_count_ automaton_next_ automaton_marks_ automaton_depth_ automaton_low_ automaton_high_ automaton_parent_ automaton_lastLetter_ automaton_slots_ automaton_tests_members_) H locs → lv_has ls 6 [(0, .ref o), (1, .int x1), (2, .int x2), (3, .int x3)] → W p l e rm_X11_firstDifference s m args below meth c H locs 0 0 Q (F0 m 0 ls []) := by
  intro H locs ls Z hl
  have hx := X.1.1
  have hb := X.1.2.1
  unfold f_X11_firstDifference at h
  refine lv_iload_n hx hb dX11_firstDifference_0 rfl (lv_at hl 1 rfl) ?_
  obtain ⟨u1, hc2, h⟩ := ob_some h
  refine x_runSi (RW' := (RW_X11_firstDifference cy o q_now_languages_L1 q_now_languages_L2 q_now_words_L3 n_now_languages_L1_tests n_now_languages_L1_values n_now_languages_L2_tests n_now_languages_L2_values d d_now_languages_L1 d_now_languages_L2 d_now_words_L3 d_now d_automaton d_automaton_tests mono PT now_words_L3_size_ automaton_letters_ automaton_states_ now_words_L3_letters_ automaton_tests_count_ automaton_next_ automaton_marks_ automaton_depth_ automaton_low_ automaton_high_ automaton_parent_ automaton_lastLetter_ automaton_slots_ automaton_tests_members_)) (wr := [(q_now_words_L3, ob 8 (oX9 d_now_words_L3 now_words_L3_size_)), ((d 8), ob 0 (oX0 d_automaton automaton_letters_ automaton_states_)), ((d_now_words_L3 0), aI cy 12 now_words_L3_letters_), ((d_automaton 0), ob 1 (oX1 d_automaton_tests automaton_tests_count_)), ((d_automaton 3), aI cy 6000 automaton_next_), ((d_automaton 4), aI cy 2000 automaton_marks_), ((d_automaton 5), aI cy 2000 automaton_depth_), ((d_automaton 6), aJ cy 2000 automaton_low_), ((d_automaton 7), aJ cy 2000 automaton_high_), ((d_automaton 8), aI cy 2000 automaton_parent_), ((d_automaton 9), aI cy 2000 automaton_lastLetter_), ((d_automaton 10), aI cy 4096 automaton_slots_), ((d_automaton_tests 0), aR cy 4 8 automaton_tests_members_)]) (isC := []) (isR := [0, 1, 2, 3, 4, 5, 6, 7, 8, 9, 10, 11, 12]) (isF := [0, 1, 2, 3, 4, 5, 6, 7, 8, 9, 10, 11, 12]) (rest := []) (As := [.int x1]) (n := 1) X Z (c_X11_isLanguage l D cy x1 u1 hc2) gX11_firstDifference_X11_isLanguage rfl (by decide +kernel) ⟨Nat.le_of_ble_eq_true rfl, Nat.le_of_ble_eq_true rfl⟩ ⟨rfl, rfl⟩ ⟨Nat.le_of_ble_eq_true rfl, Nat.le_of_ble_eq_true rfl⟩ ⟨rfl, rfl, roN, rfl, rfl, by decide⟩ ⟨rfl, rfl⟩ rfl hl.1 rfl (Nat.le_of_ble_eq_true rfl) dX11_firstDifference_1 (fun H locs Z => ?_)
  refine lv_if_eq (tgt := 21) hx hb dX11_firstDifference_4 (by decide) (fun cnd => ?_) (fun cnd => ?_)
  · replace h := ifp h cnd
    refine lv_iconst (v := (-1 : Int32)) hx hb dX11_firstDifference_21 (by decide) ?_
    obtain rfl := Option.some.inj h
    exact K H locs ls _ dX11_firstDifference_22 Z
  · replace h := ifn h cnd
    refine lv_iload_n hx hb dX11_firstDifference_7 rfl (lv_at hl 2 rfl) ?_
    obtain ⟨u3, hc4, h⟩ := ob_some h
    refine x_runSi (RW' := (RW_X11_firstDifference cy o q_now_languages_L1 q_now_languages_L2 q_now_words_L3 n_now_languages_L1_tests n_now_languages_L1_values n_now_languages_L2_tests n_now_languages_L2_values d d_now_languages_L1 d_now_languages_L2 d_now_words_L3 d_now d_automaton d_automaton_tests mono PT now_words_L3_size_ automaton_letters_ automaton_states_ now_words_L3_letters_ automaton_tests_count_ automaton_next_ automaton_marks_ automaton_depth_ automaton_low_ automaton_high_ automaton_parent_ automaton_lastLetter_ automaton_slots_ automaton_tests_members_)) (wr := [(q_now_words_L3, ob 8 (oX9 d_now_words_L3 now_words_L3_size_)), ((d 8), ob 0 (oX0 d_automaton automaton_letters_ automaton_states_)), ((d_now_words_L3 0), aI cy 12 now_words_L3_letters_), ((d_automaton 0), ob 1 (oX1 d_automaton_tests automaton_tests_count_)), ((d_automaton 3), aI cy 6000 automaton_next_), ((d_automaton 4), aI cy 2000 automaton_marks_), ((d_automaton 5), aI cy 2000 automaton_depth_), ((d_automaton 6), aJ cy 2000 automaton_low_), ((d_automaton 7), aJ cy 2000 automaton_high_), ((d_automaton 8), aI cy 2000 automaton_parent_), ((d_automaton 9), aI cy 2000 automaton_lastLetter_), ((d_automaton 10), aI cy 4096 automaton_slots_), ((d_automaton_tests 0), aR cy 4 8 automaton_tests_members_)]) (isC := []) (isR := [0, 1, 2, 3, 4, 5, 6, 7, 8, 9, 10, 11, 12]) (isF := [0, 1, 2, 3, 4, 5, 6, 7, 8, 9, 10, 11, 12]) (rest := []) (As := [.int x2]) (n := 1) X Z (c_X11_isLanguage l D cy x2 u3 hc4) gX11_firstDifference_X11_isLanguage rfl (by decide +kernel) ⟨Nat.le_of_ble_eq_true rfl, Nat.le_of_ble_eq_true rfl⟩ ⟨rfl, rfl⟩ ⟨Nat.le_of_ble_eq_true rfl, Nat.le_of_ble_eq_true rfl⟩ ⟨rfl, rfl, roN, rfl, rfl, by decide⟩ ⟨rfl, rfl⟩ rfl hl.1 rfl (Nat.le_of_ble_eq_true rfl) dX11_firstDifference_8 (fun H locs Z => ?_)
    refine lv_if_eq (tgt := 21) hx hb dX11_firstDifference_11 (by decide) (fun cnd => ?_) (fun cnd => ?_)
    · replace h := ifp h cnd
      refine lv_iconst (v := (-1 : Int32)) hx hb dX11_firstDifference_21 (by decide) ?_
      obtain rfl := Option.some.inj h
      exact K H locs ls _ dX11_firstDifference_22 Z
    · replace h := ifn h cnd
      refine lv_iload_n hx hb dX11_firstDifference_14 rfl (lv_at hl 3 rfl) ?_
      obtain ⟨u5, hc6, h⟩ := ob_some h
      refine x_runSi (RW' := (RW_X11_firstDifference cy o q_now_languages_L1 q_now_languages_L2 q_now_words_L3 n_now_languages_L1_tests n_now_languages_L1_values n_now_languages_L2_tests n_now_languages_L2_values d d_now_languages_L1 d_now_languages_L2 d_now_words_L3 d_now d_automaton d_automaton_tests mono PT now_words_L3_size_ automaton_letters_ automaton_states_ now_words_L3_letters_ automaton_tests_count_ automaton_next_ automaton_marks_ automaton_depth_ automaton_low_ automaton_high_ automaton_parent_ automaton_lastLetter_ automaton_slots_ automaton_tests_members_)) (wr := [(q_now_words_L3, ob 8 (oX9 d_now_words_L3 now_words_L3_size_)), ((d 8), ob 0 (oX0 d_automaton automaton_letters_ automaton_states_)), ((d_now_words_L3 0), aI cy 12 now_words_L3_letters_), ((d_automaton 0), ob 1 (oX1 d_automaton_tests automaton_tests_count_)), ((d_automaton 3), aI cy 6000 automaton_next_), ((d_automaton 4), aI cy 2000 automaton_marks_), ((d_automaton 5), aI cy 2000 automaton_depth_), ((d_automaton 6), aJ cy 2000 automaton_low_), ((d_automaton 7), aJ cy 2000 automaton_high_), ((d_automaton 8), aI cy 2000 automaton_parent_), ((d_automaton 9), aI cy 2000 automaton_lastLetter_), ((d_automaton 10), aI cy 4096 automaton_slots_), ((d_automaton_tests 0), aR cy 4 8 automaton_tests_members_)]) (isC := []) (isR := [0, 1, 2, 3, 4, 5, 6, 7, 8, 9, 10, 11, 12]) (isF := [0, 1, 2, 3, 4, 5, 6, 7, 8, 9, 10, 11, 12]) (rest := []) (As := [.int x3]) (n := 1) X Z (c_X11_isWord l D cy x3 u5 hc6) gX11_firstDifference_X11_isWord rfl (by decide +kernel) ⟨Nat.le_of_ble_eq_true rfl, Nat.le_of_ble_eq_true rfl⟩ ⟨rfl, rfl⟩ ⟨Nat.le_of_ble_eq_true rfl, Nat.le_of_ble_eq_true rfl⟩ ⟨rfl, rfl, roN, rfl, rfl, by decide⟩ ⟨rfl, rfl⟩ rfl hl.1 rfl (Nat.le_of_ble_eq_true rfl) dX11_firstDifference_15 (fun H locs Z => ?_)
      refine lv_if_ne (tgt := 23) hx hb dX11_firstDifference_18 (by decide) (fun cnd => ?_) (fun cnd => ?_)
      · replace h := ifn h cnd
        refine lv_aload_n hx hb dX11_firstDifference_23 rfl (lv_at hl 0 rfl) ?_
        refine x_getO X Z 0 0 (v := .ref (d 0)) rfl rfl lk_X11_firstDifference_X11_now dX11_firstDifference_24 ?_
        refine x_getO X Z 3 3 (v := .ref (d_now 3)) rfl rfl lk_X11_firstDifference_X5_languages dX11_firstDifference_27 ?_
        refine lv_iload_n hx hb dX11_firstDifference_30 rfl (lv_at hl 1 rfl) ?_
        obtain ⟨hin7, r8, hv9, h⟩ := ld_b h
        refine x_raldqO X Z 9 2 rfl rfl hin7 hv9 dX11_firstDifference_31 (fun hr10 => ?_) (fun b11 hr10 => ?_)
        · replace h := nl_n h hr10
          refine lv_astoreN (lv' := [(4, .null), (0, .ref o), (1, .int x1), (2, .int x2), (3, .int x3)]) hx hb dX11_firstDifference_32 hl (by decide) rfl (fun ls hl => ?_)
          refine lv_aload_n hx hb dX11_firstDifference_34 rfl (lv_at hl 1 rfl) ?_
          refine x_getO X Z 0 0 (v := .ref (d 0)) rfl rfl lk_X11_firstDifference_X11_now dX11_firstDifference_35 ?_
          refine x_getO X Z 3 3 (v := .ref (d_now 3)) rfl rfl lk_X11_firstDifference_X5_languages dX11_firstDifference_38 ?_
          refine lv_iload_n hx hb dX11_firstDifference_41 rfl (lv_at hl 3 rfl) ?_
          obtain ⟨hin12, r13, hv14, h⟩ := ld_b h
          refine x_raldqO X Z 9 2 rfl rfl hin12 hv14 dX11_firstDifference_42 (fun hr15 => ?_) (fun b16 hr15 => ?_)
          · replace h := nl_n h hr15
            refine lv_astoreN (lv' := [(5, .null), (4, .null), (0, .ref o), (1, .int x1), (2, .int x2), (3, .int x3)]) hx hb dX11_firstDifference_43 hl (by decide) rfl (fun ls hl => ?_)
            refine lv_aloadN hx hb dX11_firstDifference_45 (lv_at hl 1 rfl) ?_
            refine lv_ifnullN (tgt := 55) hx hb dX11_firstDifference_47 (by decide) ?_
            refine lv_bipush (v := (-5 : Int32)) hx hb dX11_firstDifference_55 (by decide) ?_
            obtain rfl := Option.some.inj h
            exact K H locs ls _ dX11_firstDifference_57 Z
          · replace h := nl_s h hr15
            obtain ⟨ha17, h⟩ := as_b h
            obtain rfl : q_now_languages_L2 = b16 := Option.some.inj (ha17.symm.trans hr15)
            refine lv_astore (lv' := [(5, .ref q_now_languages_L2), (4, .null), (0, .ref o), (1, .int x1), (2, .int x2), (3, .int x3)]) hx hb dX11_firstDifference_43 hl (by decide) rfl (fun ls hl => ?_)
            refine lv_aloadN hx hb dX11_firstDifference_45 (lv_at hl 1 rfl) ?_
            refine lv_ifnullN (tgt := 55) hx hb dX11_firstDifference_47 (by decide) ?_
            refine lv_bipush (v := (-5 : Int32)) hx hb dX11_firstDifference_55 (by decide) ?_
            obtain rfl := Option.some.inj h
            exact K H locs ls _ dX11_firstDifference_57 Z
        · replace h := nl_s h hr10
          obtain ⟨ha18, h⟩ := as_b h
          obtain rfl : q_now_languages_L1 = b11 := Option.some.inj (ha18.symm.trans hr10)
          refine lv_astore (lv' := [(4, .ref q_now_languages_L1), (0, .ref o), (1, .int x1), (2, .int x2), (3, .int x3)]) hx hb dX11_firstDifference_32 hl (by decide) rfl (fun ls hl => ?_)
          refine lv_aload_n hx hb dX11_firstDifference_34 rfl (lv_at hl 1 rfl) ?_
          refine x_getO X Z 0 0 (v := .ref (d 0)) rfl rfl lk_X11_firstDifference_X11_now dX11_firstDifference_35 ?_
          refine x_getO X Z 3 3 (v := .ref (d_now 3)) rfl rfl lk_X11_firstDifference_X5_languages dX11_firstDifference_38 ?_
          refine lv_iload_n hx hb dX11_firstDifference_41 rfl (lv_at hl 3 rfl) ?_
          obtain ⟨hin19, r20, hv21, h⟩ := ld_b h
          refine x_raldqO X Z 9 2 rfl rfl hin19 hv21 dX11_firstDifference_42 (fun hr22 => ?_) (fun b23 hr22 => ?_)
          · replace h := nl_n h hr22
            refine lv_astoreN (lv' := [(5, .null), (4, .ref q_now_languages_L1), (0, .ref o), (1, .int x1), (2, .int x2), (3, .int x3)]) hx hb dX11_firstDifference_43 hl (by decide) rfl (fun ls hl => ?_)
            refine lv_aload hx hb dX11_firstDifference_45 (lv_at hl 1 rfl) ?_
            refine lv_ifnull hx hb dX11_firstDifference_47 ?_
            refine lv_aloadN hx hb dX11_firstDifference_50 (lv_at hl 0 rfl) ?_
            refine lv_ifnonnullN hx hb dX11_firstDifference_52 ?_
            refine lv_bipush (v := (-5 : Int32)) hx hb dX11_firstDifference_55 (by decide) ?_
            obtain rfl := Option.some.inj h
            exact K H locs ls _ dX11_firstDifference_57 Z
          · replace h := nl_s h hr22
            obtain ⟨ha24, h⟩ := as_b h
            obtain rfl : q_now_languages_L2 = b23 := Option.some.inj (ha24.symm.trans hr22)
            refine lv_astore (lv' := [(5, .ref q_now_languages_L2), (4, .ref q_now_languages_L1), (0, .ref o), (1, .int x1), (2, .int x2), (3, .int x3)]) hx hb dX11_firstDifference_43 hl (by decide) rfl (fun ls hl => ?_)
            refine lv_aload hx hb dX11_firstDifference_45 (lv_at hl 1 rfl) ?_
            refine lv_ifnull hx hb dX11_firstDifference_47 ?_
            refine lv_aload hx hb dX11_firstDifference_50 (lv_at hl 0 rfl) ?_
            refine lv_ifnonnull (tgt := 58) hx hb dX11_firstDifference_52 (by decide) ?_
            refine lv_aload_n hx hb dX11_firstDifference_58 rfl (lv_at hl 2 rfl) ?_
            refine lv_aload hx hb dX11_firstDifference_59 (lv_at hl 1 rfl) ?_
            refine lv_aload hx hb dX11_firstDifference_61 (lv_at hl 0 rfl) ?_
            obtain ⟨u25, hc26, h⟩ := ob_some h
            refine x_runVi (RW' := (RW_X11_firstDifference cy o q_now_languages_L1 q_now_languages_L2 q_now_words_L3 n_now_languages_L1_tests n_now_languages_L1_values n_now_languages_L2_tests n_now_languages_L2_values d d_now_languages_L1 d_now_languages_L2 d_now_words_L3 d_now d_automaton d_automaton_tests mono PT now_words_L3_size_ u25.2.1 u25.2.2.1 now_words_L3_letters_ u25.2.2.2.1 u25.2.2.2.2.1 u25.2.2.2.2.2.1 u25.2.2.2.2.2.2.1 u25.2.2.2.2.2.2.2.1 u25.2.2.2.2.2.2.2.2.1 u25.2.2.2.2.2.2.2.2.2.1 u25.2.2.2.2.2.2.2.2.2.2.1 u25.2.2.2.2.2.2.2.2.2.2.2.1 u25.2.2.2.2.2.2.2.2.2.2.2.2)) (wr := [(q_now_words_L3, ob 8 (oX9 d_now_words_L3 now_words_L3_size_)), ((d_now_words_L3 0), aI cy 12 now_words_L3_letters_)]) (isC := [1, 3, 4, 5, 6, 7, 8, 9, 10, 11, 12]) (isR := [0, 2]) (isF := [0, 2, 1, 3, 4, 5, 6, 7, 8, 9, 10, 11, 12]) (rest := []) (As := [.ref q_now_languages_L1, .ref q_now_languages_L2]) (n := 2) X Z (c_X11_exploreDifference l D cy o q_now_languages_L1 q_now_languages_L2 n_now_languages_L1_tests n_now_languages_L1_values n_now_languages_L2_tests n_now_languages_L2_values d d_now_languages_L1 d_now_languages_L2 d_now d_automaton d_automaton_tests mono PT tq snapshotTaken_ inputLength_ now_languages_L1_form_ now_languages_L1_basics_ now_languages_L1_table_ now_languages_L2_form_ now_languages_L2_basics_ now_languages_L2_table_ now_letters_ now_languages_L1_tests_ now_languages_L1_values_ now_languages_L2_tests_ now_languages_L2_values_ automaton_letters_ automaton_states_ automaton_tests_count_ automaton_next_ automaton_marks_ automaton_depth_ automaton_low_ automaton_high_ automaton_parent_ automaton_lastLetter_ automaton_slots_ automaton_tests_members_ u25 hT hc26) gX11_firstDifference_X11_exploreDifference rfl (by decide +kernel) ⟨Nat.le_of_ble_eq_true rfl, Nat.le_of_ble_eq_true rfl⟩ ⟨rfl, rfl⟩ ⟨Nat.le_of_ble_eq_true rfl, Nat.le_of_ble_eq_true rfl⟩ (x_rvO X Z 0 rfl rfl) ⟨rfl, rfl, (roC (Or.inr (mem_at 0 rfl)) (roC (Or.inr (mem_at 1 rfl)) (roC (Or.inr (mem_at 2 rfl)) (roC (Or.inr (mem_at 3 rfl)) (roC (Or.inr (mem_at 4 rfl)) (roC (Or.inr (mem_at 5 rfl)) (roC (Or.inr (mem_at 6 rfl)) (roC (Or.inr (mem_at 7 rfl)) (fun q hq => Or.inr (List.mem_append_right _ hq)))))))))), rfl, rfl, by decide⟩ ⟨rfl, rfl⟩ rfl hl.1 rfl (Nat.le_of_ble_eq_true rfl) dX11_firstDifference_63 (fun H locs Z => ?_)
            refine lv_if_ne (tgt := 72) hx hb dX11_firstDifference_66 (by decide) (fun cnd => ?_) (fun cnd => ?_)
            · replace h := ifn h cnd
              refine lv_aload_n hx hb dX11_firstDifference_72 rfl (lv_at hl 2 rfl) ?_
              refine lv_aload_n hx hb dX11_firstDifference_73 rfl (lv_at hl 2 rfl) ?_
              refine x_getO X Z 0 0 (v := .ref (d 0)) rfl rfl lk_X11_firstDifference_X11_now dX11_firstDifference_74 ?_
              refine x_getO X Z 3 1 (v := .ref (d_now 1)) rfl rfl lk_X11_firstDifference_X5_words dX11_firstDifference_77 ?_
              refine lv_iload_n hx hb dX11_firstDifference_80 rfl (lv_at hl 5 rfl) ?_
              obtain ⟨hin27, r28, hv29, h⟩ := ld_b h
              obtain ⟨ha30, h⟩ := as_b h
              refine x_raldO X Z 8 5 rfl rfl hin27 hv29 ha30 dX11_firstDifference_81 ?_
              obtain ⟨u31, hc32, h⟩ := ob_some h
              refine x_runVi (RW' := (RW_X11_firstDifference cy o q_now_languages_L1 q_now_languages_L2 q_now_words_L3 n_now_languages_L1_tests n_now_languages_L1_values n_now_languages_L2_tests n_now_languages_L2_values d d_now_languages_L1 d_now_languages_L2 d_now_words_L3 d_now d_automaton d_automaton_tests mono PT u31.2.1 u25.2.1 u25.2.2.1 u31.2.2 u25.2.2.2.1 u25.2.2.2.2.1 u25.2.2.2.2.2.1 u25.2.2.2.2.2.2.1 u25.2.2.2.2.2.2.2.1 u25.2.2.2.2.2.2.2.2.1 u25.2.2.2.2.2.2.2.2.2.1 u25.2.2.2.2.2.2.2.2.2.2.1 u25.2.2.2.2.2.2.2.2.2.2.2.1 u25.2.2.2.2.2.2.2.2.2.2.2.2)) (wr := [((d 8), ob 0 (oX0 d_automaton u25.2.1 u25.2.2.1)), ((d_automaton 0), ob 1 (oX1 d_automaton_tests u25.2.2.2.1)), ((d_automaton 3), aI cy 6000 u25.2.2.2.2.1), ((d_automaton 4), aI cy 2000 u25.2.2.2.2.2.1), ((d_automaton 5), aI cy 2000 u25.2.2.2.2.2.2.1), ((d_automaton 6), aJ cy 2000 u25.2.2.2.2.2.2.2.1), ((d_automaton 7), aJ cy 2000 u25.2.2.2.2.2.2.2.2.1), ((d_automaton 8), aI cy 2000 u25.2.2.2.2.2.2.2.2.2.1), ((d_automaton 9), aI cy 2000 u25.2.2.2.2.2.2.2.2.2.2.1), ((d_automaton 10), aI cy 4096 u25.2.2.2.2.2.2.2.2.2.2.2.1), ((d_automaton_tests 0), aR cy 4 8 u25.2.2.2.2.2.2.2.2.2.2.2.2)]) (isC := [0, 2]) (isR := [1, 3, 4, 5, 6, 7, 8, 9, 10, 11, 12]) (isF := [11, 0, 12, 1, 2, 3, 4, 5, 6, 7, 8, 9, 10]) (rest := []) (As := [.ref q_now_words_L3]) (n := 1) X Z (c_X11_takeFirst l D cy o q_now_words_L3 d d_now_words_L3 d_automaton mono snapshotTaken_ inputLength_ u25.2.1 u25.2.2.1 u25.2.2.2.2.2.1 u25.2.2.2.2.2.2.1 u25.2.2.2.2.2.2.2.2.2.1 u25.2.2.2.2.2.2.2.2.2.2.1 now_words_L3_size_ now_words_L3_letters_ u31 hc32) gX11_firstDifference_X11_takeFirst rfl (by decide +kernel) ⟨Nat.le_of_ble_eq_true rfl, Nat.le_of_ble_eq_true rfl⟩ ⟨rfl, rfl⟩ ⟨Nat.le_of_ble_eq_true rfl, Nat.le_of_ble_eq_true rfl⟩ (x_rvO X Z 0 rfl rfl) ⟨rfl, rfl, (roC (Or.inr (mem_at 0 rfl)) (roC (Or.inl (mem_at 0 rfl)) (roC (Or.inl (mem_at 3 rfl)) (roC (Or.inl (mem_at 4 rfl)) (roC (Or.inl (mem_at 7 rfl)) (roC (Or.inl (mem_at 8 rfl)) roN)))))), rfl, rfl, by decide⟩ ⟨rfl, rfl⟩ rfl hl.1 rfl (Nat.le_of_ble_eq_true rfl) dX11_firstDifference_82 (fun H locs Z => ?_)
              obtain rfl := Option.some.inj h
              exact K H locs ls _ dX11_firstDifference_85 Z
            · replace h := ifp h cnd
              refine lv_bipush (v := (-4 : Int32)) hx hb dX11_firstDifference_69 (by decide) ?_
              obtain rfl := Option.some.inj h
              exact K H locs ls _ dX11_firstDifference_71 Z
      · replace h := ifp h cnd
        refine lv_iconst (v := (-1 : Int32)) hx hb dX11_firstDifference_21 (by decide) ?_
        obtain rfl := Option.some.inj h
        exact K H locs ls _ dX11_firstDifference_22 Z
theorem c_X11_firstDifference (l : Launch) (D : va_G) (cy : Nat → ClassId) (o : Nat) (q_now_languages_L1 : Nat) (q_now_languages_L2 : Nat) (q_now_words_L3 : Nat) (n_now_languages_L1_tests : Nat) (n_now_languages_L1_values : Nat) (n_now_languages_L2_tests : Nat) (n_now_languages_L2_values : Nat) (d : Nat → Nat) (d_now_languages_L1 : Nat → Nat) (d_now_languages_L2 : Nat → Nat) (d_now_words_L3 : Nat → Nat) (d_now : Nat → Nat) (d_automaton : Nat → Nat) (d_automaton_tests : Nat → Nat) (mono : Value) (PT : va_W) (tq : Nat → Option TV) (snapshotTaken_ : Int32) (inputLength_ : Int32) (now_languages_L1_form_ : Int32) (now_languages_L1_basics_ : Int32) (now_languages_L1_table_ : Int32) (now_languages_L2_form_ : Int32) (now_languages_L2_basics_ : Int32) (now_languages_L2_table_ : Int32) (now_letters_ : Int32) (now_languages_L1_tests_ : Nat → Option Nat) (now_languages_L1_values_ : Nat → Int32) (now_languages_L2_tests_ : Nat → Option Nat) (now_languages_L2_values_ : Nat → Int32) (now_words_ : Nat → Option Nat) (now_languages_ : Nat → Option Nat) (now_words_L3_size_ : Int32) (automaton_letters_ : Int32) (automaton_states_ : Int32) (now_words_L3_letters_ : Nat → Int32) (automaton_tests_count_ : Int32) (automaton_next_ : Nat → Int32) (automaton_marks_ : Nat → Int32) (automaton_depth_ : Nat → Int32) (automaton_low_ : Nat → Int64) (automaton_high_ : Nat → Int64) (automaton_parent_ : Nat → Int32) (automaton_lastLetter_ : Nat → Int32) (automaton_slots_ : Nat → Int32) (automaton_tests_members_ : Nat → Option Nat) (x1 : Int32) (x2 : Int32) (x3 : Int32) (out : Int32 × Int32 × Int32 × Int32 × (Nat → Int32) × Int32 × (Nat → Int32) × (Nat → Int32) × (Nat → Int32) × (Nat → Int64) × (Nat → Int64) × (Nat → Int32) × (Nat → Int32) × (Nat → Int32) × (Nat → Option Nat)) (hT : TP cy PT tq) (h : f_X11_firstDifference x1 x2 x3 n_now_languages_L1_tests n_now_languages_L1_values n_now_languages_L2_tests n_now_languages_L2_values q_now_languages_L1 q_now_languages_L2 q_now_words_L3 tq now_languages_L1_basics_ now_languages_L1_table_ now_languages_L2_basics_ now_languages_L2_table_ now_letters_ now_languages_L1_tests_ now_languages_L1_values_ now_languages_L2_tests_ now_languages_L2_values_ now_words_ now_languages_ now_words_L3_size_ automaton_letters_ automaton_states_ now_words_L3_letters_ automaton_tests_count_ automaton_next_ automaton_marks_ automaton_depth_ automaton_low_ automaton_high_ automaton_parent_ automaton_lastLetter_ automaton_slots_ automaton_tests_members_ = some out) : CtI l yX11_firstDifference wsX11_firstDifference rm_X11_firstDifference D cy [.ref o, .int x1, .int x2, .int x3] (RW_X11_firstDifference cy o q_now_languages_L1 q_now_languages_L2 q_now_words_L3 n_now_languages_L1_tests n_now_languages_L1_values n_now_languages_L2_tests n_now_languages_L2_values d d_now_languages_L1 d_now_languages_L2 d_now_words_L3 d_now d_automaton d_automaton_tests mono PT now_words_L3_size_ automaton_letters_ automaton_states_ now_words_L3_letters_ automaton_tests_count_ automaton_next_ automaton_marks_ automaton_depth_ automaton_low_ automaton_high_ automaton_parent_ automaton_lastLetter_ automaton_slots_ automaton_tests_members_) (RO_X11_firstDifference cy o q_now_languages_L1 q_now_languages_L2 q_now_words_L3 n_now_languages_L1_tests n_now_languages_L1_values n_now_languages_L2_tests n_now_languages_L2_values d d_now_languages_L1 d_now_languages_L2 d_now_words_L3 d_now d_automaton d_automaton_tests mono PT snapshotTaken_ inputLength_ now_languages_L1_form_ now_languages_L1_basics_ now_languages_L1_table_ now_languages_L2_form_ now_languages_L2_basics_ now_languages_L2_table_ now_letters_ now_languages_L1_tests_ now_languages_L1_values_ now_languages_L2_tests_ now_languages_L2_values_ now_words_ now_languages_) (RW_X11_firstDifference cy o q_now_languages_L1 q_now_languages_L2 q_now_words_L3 n_now_languages_L1_tests n_now_languages_L1_values n_now_languages_L2_tests n_now_languages_L2_values d d_now_languages_L1 d_now_languages_L2 d_now_words_L3 d_now d_automaton d_automaton_tests mono PT out.2.1 out.2.2.1 out.2.2.2.1 out.2.2.2.2.1 out.2.2.2.2.2.1 out.2.2.2.2.2.2.1 out.2.2.2.2.2.2.2.1 out.2.2.2.2.2.2.2.2.1 out.2.2.2.2.2.2.2.2.2.1 out.2.2.2.2.2.2.2.2.2.2.1 out.2.2.2.2.2.2.2.2.2.2.2.1 out.2.2.2.2.2.2.2.2.2.2.2.2.1 out.2.2.2.2.2.2.2.2.2.2.2.2.2.1 out.2.2.2.2.2.2.2.2.2.2.2.2.2.2) out.1 :=
  mk_i (ty := .int) (by decide) rfl rfl (Nat.le_of_ble_eq_true rfl) (fun p e s m args below meth c A Q X K H locs ls Z hl => wt_X11_firstDifference o q_now_languages_L1 q_now_languages_L2 q_now_words_L3 n_now_languages_L1_tests n_now_languages_L1_values n_now_languages_L2_tests n_now_languages_L2_values d d_now_languages_L1 d_now_languages_L2 d_now_words_L3 d_now d_automaton d_automaton_tests mono PT tq snapshotTaken_ inputLength_ now_languages_L1_form_ now_languages_L1_basics_ now_languages_L1_table_ now_languages_L2_form_ now_languages_L2_basics_ now_languages_L2_table_ now_letters_ now_languages_L1_tests_ now_languages_L1_values_ now_languages_L2_tests_ now_languages_L2_values_ now_words_ now_languages_ now_words_L3_size_ automaton_letters_ automaton_states_ now_words_L3_letters_ automaton_tests_count_ automaton_next_ automaton_marks_ automaton_depth_ automaton_low_ automaton_high_ automaton_parent_ automaton_lastLetter_ automaton_slots_ automaton_tests_members_ x1 x2 x3 out hT X h K H locs ls Z hl)
/-! SubwordCounter isRow (I)Z -/
abbrev rm_X11_isRow : Room := { frames := 0, cells := 0, slots := 0, locals := 0 }
def RW_X11_isRow (cy : Nat → ClassId)   : va_W := []
def RO_X11_isRow (cy : Nat → ClassId)   : va_W := []
def f_X11_isRow (x0 : Int32)  : Option (Int32) :=
  if x0 < 0 then
  (some (0 : Int32))
  else
  (if (3 : Int32) ≤ x0 then
  (some (0 : Int32))
  else
  (some (1 : Int32)))
set_option maxHeartbeats 4000000 in
set_option maxRecDepth 100000 in
theorem wt_X11_isRow {p : Program} {l : Launch} {e : Env} {s : State} {m : MethodId} {args : Array Value} {below : List Frame} {meth : Method} {c : Code} {A : Nat → Prop} {Q : State → Prop} {D : va_G} {cy : Nat → ClassId}    (x0 : Int32) (out : Int32) (X : Cx p m c cX11_isRow 1 s args wsX11_isRow RX11 A D cy (RO_X11_isRow cy )) (h : f_X11_isRow x0 = some out) (K : ∀ (H : Heap) (locs : List Loc) (ls : Array Slot) (pc : Nat), decode cX11_isRow pc = .ok (.ireturn, 1) → (out = 0 ∨ out = 1) → St A D s (RW_X11_isRow cy ) H locs → W p l e rm_X11_isRow s m args below meth c H locs 0 0 Q (F0 m pc ls [.int out])) : ∀ (H : Heap) (locs : List Loc) (ls : Array Slot), St A D s (RW_X11_isRow cy ) H locs → lv_has ls 1 [(0, .int x0)] → W p l e rm_X11_isRow s m args below meth c H locs 0 0 Q (F0 m 0 ls []) := by
  intro H locs ls Z hl
  have hx := X.1.1
  have hb := X.1.2.1
  unfold f_X11_isRow at h
  refine lv_iload_n hx hb dX11_isRow_0 rfl (lv_at hl 0 rfl) ?_
  refine lv_if_lt (tgt := 13) hx hb dX11_isRow_1 (by decide) (fun cnd => ?_) (fun cnd => ?_)
  · replace h := ifp h cnd
    refine lv_iconst (v := (0 : Int32)) hx hb dX11_isRow_13 (by decide) ?_
    obtain rfl := Option.some.inj h
    exact K H locs ls _ dX11_isRow_14 (Or.inl rfl) Z
  · replace h := ifn h cnd
    refine lv_iload_n hx hb dX11_isRow_4 rfl (lv_at hl 0 rfl) ?_
    refine lv_iconst (v := (3 : Int32)) hx hb dX11_isRow_5 (by decide) ?_
    refine lv_icmp_ge (tgt := 13) hx hb dX11_isRow_6 (by decide) (fun cnd => ?_) (fun cnd => ?_)
    · replace h := ifp h cnd
      refine lv_iconst (v := (0 : Int32)) hx hb dX11_isRow_13 (by decide) ?_
      obtain rfl := Option.some.inj h
      exact K H locs ls _ dX11_isRow_14 (Or.inl rfl) Z
    · replace h := ifn h cnd
      refine lv_iconst (v := (1 : Int32)) hx hb dX11_isRow_9 (by decide) ?_
      refine lv_goto (tgt := 14) hx hb dX11_isRow_10 (by decide) ?_
      obtain rfl := Option.some.inj h
      exact K H locs ls _ dX11_isRow_14 (Or.inr rfl) Z
theorem c_X11_isRow (l : Launch) (D : va_G) (cy : Nat → ClassId)    (x0 : Int32) (out : Int32) (h : f_X11_isRow x0 = some out) : CtI l yX11_isRow wsX11_isRow rm_X11_isRow D cy [.int x0] (RW_X11_isRow cy ) (RO_X11_isRow cy ) (RW_X11_isRow cy ) out :=
  mk_z (by decide) rfl (Nat.le_of_ble_eq_true rfl) (fun p e s m args below meth c A Q X K H locs ls Z hl => wt_X11_isRow  x0 out X h K H locs ls Z hl)
/-! SubwordCounter$Row restart (II)V -/
abbrev rm_X6_restart : Room := { frames := 1, cells := 0, slots := 0, locals := 23 }
def RW_X6_restart (cy : Nat → ClassId) (o : Nat) (d : Nat → Nat) (type_ : Int32) (size_ : Int32) (elements_ : Nat → Int32) : va_W := [(o, ob 6 (oX6 d type_ size_)), ((d 2), aI cy 21 elements_)]
def RO_X6_restart (cy : Nat → ClassId) (o : Nat) (d : Nat → Nat)  : va_W := []
theorem in_X6_restart_X6 : ∀ w ∈ u_ws RX6 TX6 3, w ∈ wsX6_restart := fun w h => (List.mem_cons_of_mem _ (List.mem_append_right _ h))
theorem lp_X6_restart_X6_type : Lp wsX6_restart RX6 9 6 0 .int := ⟨RX6, TX6, 3, tyX6, rfl, by decide, in_X6_restart_X6, mem_at 1 rfl, tyX6_ok, nmX6, rfl, by decide +kernel⟩
theorem lp_X6_restart_X6_size : Lp wsX6_restart RX6 15 6 1 .int := ⟨RX6, TX6, 3, tyX6, rfl, by decide, in_X6_restart_X6, mem_at 2 rfl, tyX6_ok, nmX6, rfl, by decide +kernel⟩
theorem lk_X6_restart_X6_elements : Lk wsX6_restart RX6 18 6 2 := ⟨RX6, TX6, 3, rfl, by decide, in_X6_restart_X6, mem_at 3 rfl⟩
def f_X6_restart (x1 : Int32) (x2 : Int32) (type_ : Int32) (size_ : Int32) (elements_ : Nat → Int32) : Option (Int32 × Int32 × (Nat → Int32)) :=
  (f_J7_fill_53178 (0 : Int32) 21 elements_).bind (fun u1 =>
  some (x1, x2, u1))
set_option maxHeartbeats 4000000 in
set_option maxRecDepth 100000 in
theorem wt_X6_restart {p : Program} {l : Launch} {e : Env} {s : State} {m : MethodId} {args : Array Value} {below : List Frame} {meth : Method} {c : Code} {A : Nat → Prop} {Q : State → Prop} {D : va_G} {cy : Nat → ClassId} (o : Nat) (d : Nat → Nat)  (type_ : Int32) (size_ : Int32) (elements_ : Nat → Int32) (x1 : Int32) (x2 : Int32) (out : Int32 × Int32 × (Nat → Int32)) (X : Cx p m c cX6_restart 3 s args wsX6_restart RX6 A D cy (RO_X6_restart cy o d)) (h : f_X6_restart x1 x2 type_ size_ elements_ = some out) (K : ∀ (H : Heap) (locs : List Loc) (ls : Array Slot) (pc : Nat), decode cX6_restart pc = .ok (.return_, 1) → St A D s (RW_X6_restart cy o d out.1 out.2.1 out.2.2) H locs → W p l e rm_X6_restart s m args below meth c H locs 0 0 Q (F0 m pc ls [])) : ∀ (H : Heap) (locs : List Loc) (ls : Array Slot), St A D s (RW_X6_restart cy o d type_ size_ elements_) H locs → lv_has ls 3 [(0, .ref o), (1, .int x1), (2, .int x2)] → W p l e rm_X6_restart s m args below meth c H locs 0 0 Q (F0 m 0 ls []) := by
  intro H locs ls Z hl
  have hx := X.1.1
  have hb := X.1.2.1
  unfold f_X6_restart at h
  refine lv_aload_n hx hb dX6_restart_0 rfl (lv_at hl 0 rfl) ?_
  refine lv_iload_n hx hb dX6_restart_1 rfl (lv_at hl 1 rfl) ?_
  refine x_put X Z 0 0 (RW_X6_restart cy o d x1 size_ elements_) rfl lp_X6_restart_X6_type (Nat.le_of_ble_eq_true rfl) rfl dX6_restart_2 (fun H locs Z => ?_)
  refine lv_aload_n hx hb dX6_restart_5 rfl (lv_at hl 0 rfl) ?_
  refine lv_iload_n hx hb dX6_restart_6 rfl (lv_at hl 2 rfl) ?_
  refine x_put X Z 0 1 (RW_X6_restart cy o d x1 x2 elements_) rfl lp_X6_restart_X6_size (Nat.le_of_ble_eq_true rfl) rfl dX6_restart_7 (fun H locs Z => ?_)
  refine lv_aload_n hx hb dX6_restart_10 rfl (lv_at hl 0 rfl) ?_
  refine x_get X Z 0 2 (v := .ref (d 2)) rfl rfl lk_X6_restart_X6_elements dX6_restart_11 ?_
  refine lv_iconst (v := (0 : Int32)) hx hb dX6_restart_14 (by decide) ?_
  obtain ⟨u1, hc2, h⟩ := ob_some h
  refine x_runSv (RW' := (RW_X6_restart cy o d x1 x2 u1)) (wr := [(o, ob 6 (oX6 d x1 x2))]) (isC := [1]) (isR := [0]) (isF := [0, 1]) (rest := []) (As := [.ref (d 2), .int (0 : Int32)]) (n := 2) X Z (c_J7_fill_53178 l D cy (d 2) 21 elements_ (0 : Int32) u1 hc2) gX6_restart_J7_fill_53178 rfl (by decide +kernel) ⟨Nat.le_of_ble_eq_true rfl, Nat.le_of_ble_eq_true rfl⟩ ⟨rfl, rfl⟩ ⟨Nat.le_of_ble_eq_true rfl, Nat.le_of_ble_eq_true rfl⟩ ⟨rfl, rfl, roN, rfl, rfl, by decide⟩ ⟨rfl, rfl⟩ rfl hl.1 rfl (Nat.le_of_ble_eq_true rfl) dX6_restart_15 (fun H locs Z => ?_)
  obtain rfl := Option.some.inj h
  exact K H locs ls _ dX6_restart_18 Z
theorem c_X6_restart (l : Launch) (D : va_G) (cy : Nat → ClassId) (o : Nat) (d : Nat → Nat)  (type_ : Int32) (size_ : Int32) (elements_ : Nat → Int32) (x1 : Int32) (x2 : Int32) (out : Int32 × Int32 × (Nat → Int32)) (h : f_X6_restart x1 x2 type_ size_ elements_ = some out) : CtV l yX6_restart wsX6_restart rm_X6_restart D cy [.ref o, .int x1, .int x2] (RW_X6_restart cy o d type_ size_ elements_) (RO_X6_restart cy o d) (RW_X6_restart cy o d out.1 out.2.1 out.2.2) :=
  mk_v (by decide) rfl (Nat.le_of_ble_eq_true rfl) (fun p e s m args below meth c A Q X K H locs ls Z hl => wt_X6_restart o d type_ size_ elements_ x1 x2 out X h K H locs ls Z hl)
/-! SubwordCounter newRow (III)I -/
abbrev rm_X11_newRow : Room := { frames := 2, cells := 0, slots := 0, locals := 45 }
def RW_X11_newRow (cy : Nat → ClassId) (o : Nat) (q_rows_L1 : Nat) (d : Nat → Nat) (d_rows_L1 : Nat → Nat) (mono : Value) (rows_L1_type_ : Int32) (rows_L1_size_ : Int32) (rows_L1_elements_ : Nat → Int32) : va_W := [(q_rows_L1, ob 6 (oX6 d_rows_L1 rows_L1_type_ rows_L1_size_)), ((d_rows_L1 2), aI cy 21 rows_L1_elements_)]
def RO_X11_newRow (cy : Nat → ClassId) (o : Nat) (q_rows_L1 : Nat) (d : Nat → Nat) (d_rows_L1 : Nat → Nat) (mono : Value) (snapshotTaken_ : Int32) (inputLength_ : Int32) (rows_ : Nat → Option Nat) : va_W := [(o, ob 10 (oX11 d mono snapshotTaken_ inputLength_)), ((d 5), aR cy 3 3 rows_)]
theorem in_X11_newRow_X11 : ∀ w ∈ u_ws RX11 TX11 12, w ∈ wsX11_newRow := fun w h => (List.mem_cons_of_mem _ (List.mem_append_left _ (List.mem_append_right _ h)))
theorem lk_X11_newRow_X11_rows : Lk wsX11_newRow RX11 33 10 5 := ⟨RX11, TX11, 12, rfl, by decide, in_X11_newRow_X11, mem_at 1 rfl⟩
def f_X11_newRow (x1 : Int32) (x2 : Int32) (x3 : Int32) (q_rows_L1 : Nat) (rows_ : Nat → Option Nat) (rows_L1_type_ : Int32) (rows_L1_size_ : Int32) (rows_L1_elements_ : Nat → Int32) : Option (Int32 × Int32 × Int32 × (Nat → Int32)) :=
  (f_X11_isRow x1).bind (fun u1 =>
  if u1 = 0 then
  (some ((-1 : Int32), rows_L1_type_, rows_L1_size_, rows_L1_elements_))
  else
  (if x2 < (-1 : Int32) then
  (some ((-1 : Int32), rows_L1_type_, rows_L1_size_, rows_L1_elements_))
  else
  (if x2 ≤ (1 : Int32) then
  (if x2 = (-1 : Int32) then
  (ldA rows_ 3 x1 (fun r10 =>
  asR r10 q_rows_L1 (
  (f_X6_restart (-1 : Int32) (0 : Int32) rows_L1_type_ rows_L1_size_ rows_L1_elements_).bind (fun u13 =>
  some ((1 : Int32), u13.1, u13.2.1, u13.2.2)))))
  else
  (if x3 ≤ (21 : Int32) then
  (if 0 ≤ x3 then
  (ldA rows_ 3 x1 (fun r4 =>
  asR r4 q_rows_L1 (
  (f_X6_restart x2 x3 rows_L1_type_ rows_L1_size_ rows_L1_elements_).bind (fun u7 =>
  some ((1 : Int32), u7.1, u7.2.1, u7.2.2)))))
  else
  (some ((-14 : Int32), rows_L1_type_, rows_L1_size_, rows_L1_elements_)))
  else
  (some ((-1 : Int32), rows_L1_type_, rows_L1_size_, rows_L1_elements_))))
  else
  (some ((-1 : Int32), rows_L1_type_, rows_L1_size_, rows_L1_elements_)))))
set_option maxHeartbeats 4000000 in
set_option maxRecDepth 100000 in
theorem wt_X11_newRow {p : Program} {l : Launch} {e : Env} {s : State} {m : MethodId} {args : Array Value} {below : List Frame} {meth : Method} {c : Code} {A : Nat → Prop} {Q : State → Prop} {D : va_G} {cy : Nat → ClassId} (o : Nat) (q_rows_L1 : Nat) (d : Nat → Nat) (d_rows_L1 : Nat → Nat) (mono : Value) (snapshotTaken_ : Int32) (inputLength_ : Int32) (rows_ : Nat → Option Nat) (rows_L1_type_ : Int32) (rows_L1_size_ : Int32) (rows_L1_elements_ : Nat → Int32) (x1 : Int32) (x2 : Int32) (x3 : Int32) (out : Int32 × Int32 × Int32 × (Nat → Int32)) (X : Cx p m c cX11_newRow 4 s args wsX11_newRow RX11 A D cy (RO_X11_newRow cy o q_rows_L1 d d_rows_L1 mono snapshotTaken_ inputLength_ rows_)) (h : f_X11_newRow x1 x2 x3 q_rows_L1 rows_ rows_L1_type_ rows_L1_size_ rows_L1_elements_ = some out) (K : ∀ (H : Heap) (locs : List Loc) (ls : Array Slot) (pc : Nat), decode cX11_newRow pc = .ok (.ireturn, 1) → St A D s (RW_X11_newRow cy o q_rows_L1 d d_rows_L1 mono out.2.1 out.2.2.1 out.2.2.2) H locs → W p l e rm_X11_newRow s m args below meth c H locs 0 0 Q (F0 m pc ls [.int out.1])) : ∀ (H : Heap) (locs : List Loc) (ls : Array Slot), St A D s (RW_X11_newRow cy o q_rows_L1 d d_rows_L1 mono rows_L1_type_ rows_L1_size_ rows_L1_elements_) H locs → lv_has ls 4 [(0, .ref o), (1, .int x1), (2, .int x2), (3, .int x3)] → W p l e rm_X11_newRow s m args below meth c H locs 0 0 Q (F0 m 0 ls []) := by
  intro H locs ls Z hl
  have hx := X.1.1
  have hb := X.1.2.1
  unfold f_X11_newRow at h
  refine lv_iload_n hx hb dX11_newRow_0 rfl (lv_at hl 1 rfl) ?_
  obtain ⟨u1, hc2, h⟩ := ob_some h
  refine x_runSi (RW' := (RW_X11_newRow cy o q_rows_L1 d d_rows_L1 mono rows_L1_type_ rows_L1_size_ rows_L1_elements_)) (wr := [(q_rows_L1, ob 6 (oX6 d_rows_L1 rows_L1_type_ rows_L1_size_)), ((d_rows_L1 2), aI cy 21 rows_L1_elements_)]) (isC := []) (isR := [0, 1]) (isF := [0, 1]) (rest := []) (As := [.int x1]) (n := 1) X Z (c_X11_isRow l D cy x1 u1 hc2) gX11_newRow_X11_isRow rfl (by decide +kernel) ⟨Nat.le_of_ble_eq_true rfl, Nat.le_of_ble_eq_true rfl⟩ ⟨rfl, rfl⟩ ⟨Nat.le_of_ble_eq_true rfl, Nat.le_of_ble_eq_true rfl⟩ ⟨rfl, rfl, roN, rfl, rfl, by decide⟩ ⟨rfl, rfl⟩ rfl hl.1 rfl (Nat.le_of_ble_eq_true rfl) dX11_newRow_1 (fun H locs Z => ?_)
  refine lv_if_eq (tgt := 17) hx hb dX11_newRow_4 (by decide) (fun cnd => ?_) (fun cnd => ?_)
  · replace h := ifp h cnd
    refine lv_iconst (v := (-1 : Int32)) hx hb dX11_newRow_17 (by decide) ?_
    obtain rfl := Option.some.inj h
    exact K H locs ls _ dX11_newRow_18 Z
  · replace h := ifn h cnd
    refine lv_iload_n hx hb dX11_newRow_7 rfl (lv_at hl 2 rfl) ?_
    refine lv_iconst (v := (-1 : Int32)) hx hb dX11_newRow_8 (by decide) ?_
    refine lv_icmp_lt (tgt := 17) hx hb dX11_newRow_9 (by decide) (fun cnd => ?_) (fun cnd => ?_)
    · replace h := ifp h cnd
      refine lv_iconst (v := (-1 : Int32)) hx hb dX11_newRow_17 (by decide) ?_
      obtain rfl := Option.some.inj h
      exact K H locs ls _ dX11_newRow_18 Z
    · replace h := ifn h cnd
      refine lv_iload_n hx hb dX11_newRow_12 rfl (lv_at hl 2 rfl) ?_
      refine lv_iconst (v := (1 : Int32)) hx hb dX11_newRow_13 (by decide) ?_
      refine lv_icmp_le (tgt := 19) hx hb dX11_newRow_14 (by decide) (fun cnd => ?_) (fun cnd => ?_)
      · replace h := ifp h cnd
        refine lv_iload_n hx hb dX11_newRow_19 rfl (lv_at hl 2 rfl) ?_
        refine lv_iconst (v := (-1 : Int32)) hx hb dX11_newRow_20 (by decide) ?_
        refine lv_icmp_ne (tgt := 37) hx hb dX11_newRow_21 (by decide) (fun cnd => ?_) (fun cnd => ?_)
        · replace h := ifn h cnd
          refine lv_iload_n hx hb dX11_newRow_37 rfl (lv_at hl 3 rfl) ?_
          refine lv_bipush (v := (21 : Int32)) hx hb dX11_newRow_38 (by decide) ?_
          refine lv_icmp_le (tgt := 45) hx hb dX11_newRow_40 (by decide) (fun cnd => ?_) (fun cnd => ?_)
          · replace h := ifp h cnd
            refine lv_iload_n hx hb dX11_newRow_45 rfl (lv_at hl 3 rfl) ?_
            refine lv_if_ge (tgt := 52) hx hb dX11_newRow_46 (by decide) (fun cnd => ?_) (fun cnd => ?_)
            · replace h := ifp h cnd
              refine lv_aload_n hx hb dX11_newRow_52 rfl (lv_at hl 0 rfl) ?_
              refine x_getO X Z 0 5 (v := .ref (d 5)) rfl rfl lk_X11_newRow_X11_rows dX11_newRow_53 ?_
              refine lv_iload_n hx hb dX11_newRow_56 rfl (lv_at hl 1 rfl) ?_
              obtain ⟨hin3, r4, hv5, h⟩ := ld_b h
              obtain ⟨ha6, h⟩ := as_b h
              refine x_raldO X Z 1 3 rfl rfl hin3 hv5 ha6 dX11_newRow_57 ?_
              refine lv_iload_n hx hb dX11_newRow_58 rfl (lv_at hl 2 rfl) ?_
              refine lv_iload_n hx hb dX11_newRow_59 rfl (lv_at hl 3 rfl) ?_
              obtain ⟨u7, hc8, h⟩ := ob_some h
              refine x_runVv (RW' := (RW_X11_newRow cy o q_rows_L1 d d_rows_L1 mono u7.1 u7.2.1 u7.2.2)) (wr := []) (isC := [0, 1]) (isR := []) (isF := [0, 1]) (rest := []) (As := [.int x2, .int x3]) (n := 2) X Z (c_X6_restart l D cy q_rows_L1 d_rows_L1 rows_L1_type_ rows_L1_size_ rows_L1_elements_ x2 x3 u7 hc8) gX11_newRow_X6_restart rfl (by decide +kernel) ⟨Nat.le_of_ble_eq_true rfl, Nat.le_of_ble_eq_true rfl⟩ ⟨rfl, rfl⟩ ⟨Nat.le_of_ble_eq_true rfl, Nat.le_of_ble_eq_true rfl⟩ (x_rv X Z 0 rfl rfl) ⟨rfl, rfl, roN, rfl, rfl, by decide⟩ ⟨rfl, rfl⟩ rfl hl.1 rfl (Nat.le_of_ble_eq_true rfl) dX11_newRow_60 (fun H locs Z => ?_)
              refine lv_iconst (v := (1 : Int32)) hx hb dX11_newRow_63 (by decide) ?_
              obtain rfl := Option.some.inj h
              exact K H locs ls _ dX11_newRow_64 Z
            · replace h := ifn h cnd
              refine lv_bipush (v := (-14 : Int32)) hx hb dX11_newRow_49 (by decide) ?_
              obtain rfl := Option.some.inj h
              exact K H locs ls _ dX11_newRow_51 Z
          · replace h := ifn h cnd
            refine lv_iconst (v := (-1 : Int32)) hx hb dX11_newRow_43 (by decide) ?_
            obtain rfl := Option.some.inj h
            exact K H locs ls _ dX11_newRow_44 Z
        · replace h := ifp h cnd
          refine lv_aload_n hx hb dX11_newRow_24 rfl (lv_at hl 0 rfl) ?_
          refine x_getO X Z 0 5 (v := .ref (d 5)) rfl rfl lk_X11_newRow_X11_rows dX11_newRow_25 ?_
          refine lv_iload_n hx hb dX11_newRow_28 rfl (lv_at hl 1 rfl) ?_
          obtain ⟨hin9, r10, hv11, h⟩ := ld_b h
          obtain ⟨ha12, h⟩ := as_b h
          refine x_raldO X Z 1 3 rfl rfl hin9 hv11 ha12 dX11_newRow_29 ?_
          refine lv_iconst (v := (-1 : Int32)) hx hb dX11_newRow_30 (by decide) ?_
          refine lv_iconst (v := (0 : Int32)) hx hb dX11_newRow_31 (by decide) ?_
          obtain ⟨u13, hc14, h⟩ := ob_some h
          refine x_runVv (RW' := (RW_X11_newRow cy o q_rows_L1 d d_rows_L1 mono u13.1 u13.2.1 u13.2.2)) (wr := []) (isC := [0, 1]) (isR := []) (isF := [0, 1]) (rest := []) (As := [.int (-1 : Int32), .int (0 : Int32)]) (n := 2) X Z (c_X6_restart l D cy q_rows_L1 d_rows_L1 rows_L1_type_ rows_L1_size_ rows_L1_elements_ (-1 : Int32) (0 : Int32) u13 hc14) gX11_newRow_X6_restart rfl (by decide +kernel) ⟨Nat.le_of_ble_eq_true rfl, Nat.le_of_ble_eq_true rfl⟩ ⟨rfl, rfl⟩ ⟨Nat.le_of_ble_eq_true rfl, Nat.le_of_ble_eq_true rfl⟩ (x_rv X Z 0 rfl rfl) ⟨rfl, rfl, roN, rfl, rfl, by decide⟩ ⟨rfl, rfl⟩ rfl hl.1 rfl (Nat.le_of_ble_eq_true rfl) dX11_newRow_32 (fun H locs Z => ?_)
          refine lv_iconst (v := (1 : Int32)) hx hb dX11_newRow_35 (by decide) ?_
          obtain rfl := Option.some.inj h
          exact K H locs ls _ dX11_newRow_36 Z
      · replace h := ifn h cnd
        refine lv_iconst (v := (-1 : Int32)) hx hb dX11_newRow_17 (by decide) ?_
        obtain rfl := Option.some.inj h
        exact K H locs ls _ dX11_newRow_18 Z
theorem c_X11_newRow (l : Launch) (D : va_G) (cy : Nat → ClassId) (o : Nat) (q_rows_L1 : Nat) (d : Nat → Nat) (d_rows_L1 : Nat → Nat) (mono : Value) (snapshotTaken_ : Int32) (inputLength_ : Int32) (rows_ : Nat → Option Nat) (rows_L1_type_ : Int32) (rows_L1_size_ : Int32) (rows_L1_elements_ : Nat → Int32) (x1 : Int32) (x2 : Int32) (x3 : Int32) (out : Int32 × Int32 × Int32 × (Nat → Int32)) (h : f_X11_newRow x1 x2 x3 q_rows_L1 rows_ rows_L1_type_ rows_L1_size_ rows_L1_elements_ = some out) : CtI l yX11_newRow wsX11_newRow rm_X11_newRow D cy [.ref o, .int x1, .int x2, .int x3] (RW_X11_newRow cy o q_rows_L1 d d_rows_L1 mono rows_L1_type_ rows_L1_size_ rows_L1_elements_) (RO_X11_newRow cy o q_rows_L1 d d_rows_L1 mono snapshotTaken_ inputLength_ rows_) (RW_X11_newRow cy o q_rows_L1 d d_rows_L1 mono out.2.1 out.2.2.1 out.2.2.2) out.1 :=
  mk_i (ty := .int) (by decide) rfl rfl (Nat.le_of_ble_eq_true rfl) (fun p e s m args below meth c A Q X K H locs ls Z hl => wt_X11_newRow o q_rows_L1 d d_rows_L1 mono snapshotTaken_ inputLength_ rows_ rows_L1_type_ rows_L1_size_ rows_L1_elements_ x1 x2 x3 out X h K H locs ls Z hl)
/-! SubwordCounter$Row put (II)V -/
abbrev rm_X6_put : Room := { frames := 0, cells := 0, slots := 0, locals := 0 }
def RW_X6_put (cy : Nat → ClassId) (o : Nat) (d : Nat → Nat) (elements_ : Nat → Int32) : va_W := [((d 2), aI cy 21 elements_)]
def RO_X6_put (cy : Nat → ClassId) (o : Nat) (d : Nat → Nat) (type_ : Int32) (size_ : Int32) : va_W := [(o, ob 6 (oX6 d type_ size_))]
theorem in_X6_put_X6 : ∀ w ∈ u_ws RX6 TX6 3, w ∈ wsX6_put := fun w h => (List.mem_cons_of_mem _ (List.mem_append_right _ h))
theorem lk_X6_put_X6_elements : Lk wsX6_put RX6 18 6 2 := ⟨RX6, TX6, 3, rfl, by decide, in_X6_put_X6, mem_at 1 rfl⟩
theorem lk_X6_put_X6_type : Lk wsX6_put RX6 9 6 0 := ⟨RX6, TX6, 3, rfl, by decide, in_X6_put_X6, mem_at 2 rfl⟩
def f_X6_put (x1 : Int32) (x2 : Int32) (type_ : Int32) (elements_ : Nat → Int32) : Option ((Nat → Int32)) :=
  if type_ = 0 then
  (stA elements_ 21 x1 (x2.toInt16.toInt32) (fun elements_5 =>
  some elements_5))
  else
  (stA elements_ 21 x1 x2 (fun elements_2 =>
  some elements_2))
set_option maxHeartbeats 4000000 in
set_option maxRecDepth 100000 in
theorem wt_X6_put {p : Program} {l : Launch} {e : Env} {s : State} {m : MethodId} {args : Array Value} {below : List Frame} {meth : Method} {c : Code} {A : Nat → Prop} {Q : State → Prop} {D : va_G} {cy : Nat → ClassId} (o : Nat) (d : Nat → Nat) (type_ : Int32) (size_ : Int32) (elements_ : Nat → Int32) (x1 : Int32) (x2 : Int32) (out : (Nat → Int32)) (X : Cx p m c cX6_put 3 s args wsX6_put RX6 A D cy (RO_X6_put cy o d type_ size_)) (h : f_X6_put x1 x2 type_ elements_ = some out) (K : ∀ (H : Heap) (locs : List Loc) (ls : Array Slot) (pc : Nat), decode cX6_put pc = .ok (.return_, 1) → St A D s (RW_X6_put cy o d out) H locs → W p l e rm_X6_put s m args below meth c H locs 0 0 Q (F0 m pc ls [])) : ∀ (H : Heap) (locs : List Loc) (ls : Array Slot), St A D s (RW_X6_put cy o d elements_) H locs → lv_has ls 3 [(0, .ref o), (1, .int x1), (2, .int x2)] → W p l e rm_X6_put s m args below meth c H locs 0 0 Q (F0 m 0 ls []) := by
  intro H locs ls Z hl
  have hx := X.1.1
  have hb := X.1.2.1
  unfold f_X6_put at h
  refine lv_aload_n hx hb dX6_put_0 rfl (lv_at hl 0 rfl) ?_
  refine x_getO X Z 0 2 (v := .ref (d 2)) rfl rfl lk_X6_put_X6_elements dX6_put_1 ?_
  refine lv_iload_n hx hb dX6_put_4 rfl (lv_at hl 1 rfl) ?_
  refine lv_aload_n hx hb dX6_put_5 rfl (lv_at hl 0 rfl) ?_
  refine x_getO X Z 0 0 (v := .int type_) rfl rfl lk_X6_put_X6_type dX6_put_6 ?_
  refine lv_if_ne (tgt := 17) hx hb dX6_put_9 (by decide) (fun cnd => ?_) (fun cnd => ?_)
  · replace h := ifn h cnd
    refine lv_iload_n hx hb dX6_put_17 rfl (lv_at hl 2 rfl) ?_
    obtain ⟨hin1, elements_2, hv3, h⟩ := st_b h
    refine x_iast X Z 0 (RW_X6_put cy o d elements_2) rfl hin1 hv3 rfl dX6_put_18 (fun H locs Z => ?_)
    obtain rfl := Option.some.inj h
    exact K H locs ls _ dX6_put_19 Z
  · replace h := ifp h cnd
    refine lv_iload_n hx hb dX6_put_12 rfl (lv_at hl 2 rfl) ?_
    refine lv_i2s (v := (x2.toInt16.toInt32)) hx hb dX6_put_13 rfl ?_
    refine lv_goto (tgt := 18) hx hb dX6_put_14 (by decide) ?_
    obtain ⟨hin4, elements_5, hv6, h⟩ := st_b h
    refine x_iast X Z 0 (RW_X6_put cy o d elements_5) rfl hin4 hv6 rfl dX6_put_18 (fun H locs Z => ?_)
    obtain rfl := Option.some.inj h
    exact K H locs ls _ dX6_put_19 Z
theorem c_X6_put (l : Launch) (D : va_G) (cy : Nat → ClassId) (o : Nat) (d : Nat → Nat) (type_ : Int32) (size_ : Int32) (elements_ : Nat → Int32) (x1 : Int32) (x2 : Int32) (out : (Nat → Int32)) (h : f_X6_put x1 x2 type_ elements_ = some out) : CtV l yX6_put wsX6_put rm_X6_put D cy [.ref o, .int x1, .int x2] (RW_X6_put cy o d elements_) (RO_X6_put cy o d type_ size_) (RW_X6_put cy o d out) :=
  mk_v (by decide) rfl (Nat.le_of_ble_eq_true rfl) (fun p e s m args below meth c A Q X K H locs ls Z hl => wt_X6_put o d type_ size_ elements_ x1 x2 out X h K H locs ls Z hl)
/-! SubwordCounter setElement (III)I -/
abbrev rm_X11_setElement : Room := { frames := 1, cells := 0, slots := 0, locals := 22 }
def RW_X11_setElement (cy : Nat → ClassId) (o : Nat) (q_rows_L1 : Nat) (d : Nat → Nat) (d_rows_L1 : Nat → Nat) (mono : Value) (rows_L1_elements_ : Nat → Int32) : va_W := [((d_rows_L1 2), aI cy 21 rows_L1_elements_)]
def RO_X11_setElement (cy : Nat → ClassId) (o : Nat) (q_rows_L1 : Nat) (d : Nat → Nat) (d_rows_L1 : Nat → Nat) (mono : Value) (snapshotTaken_ : Int32) (inputLength_ : Int32) (rows_L1_type_ : Int32) (rows_L1_size_ : Int32) (rows_ : Nat → Option Nat) : va_W := [(o, ob 10 (oX11 d mono snapshotTaken_ inputLength_)), (q_rows_L1, ob 6 (oX6 d_rows_L1 rows_L1_type_ rows_L1_size_)), ((d 5), aR cy 3 3 rows_)]
theorem in_X11_setElement_X11 : ∀ w ∈ u_ws RX11 TX11 12, w ∈ wsX11_setElement := fun w h => (List.mem_cons_of_mem _ (List.mem_append_left _ (List.mem_append_right _ h)))
theorem lk_X11_setElement_X11_rows : Lk wsX11_setElement RX11 33 10 5 := ⟨RX11, TX11, 12, rfl, by decide, in_X11_setElement_X11, mem_at 1 rfl⟩
theorem in_X11_setElement_X6 : ∀ w ∈ u_ws RX6 TX6 3, w ∈ wsX11_setElement := fun w h => (List.mem_cons_of_mem _ (List.mem_append_right _ h))
theorem lk_X11_setElement_X6_type : Lk wsX11_setElement RX11 287 6 0 := ⟨RX6, TX6, 3, rfl, by decide, in_X11_setElement_X6, mem_at 2 rfl⟩
theorem lk_X11_setElement_X6_size : Lk wsX11_setElement RX11 290 6 1 := ⟨RX6, TX6, 3, rfl, by decide, in_X11_setElement_X6, mem_at 3 rfl⟩
def f_X11_setElement (x1 : Int32) (x2 : Int32) (x3 : Int32) (q_rows_L1 : Nat) (rows_L1_type_ : Int32) (rows_L1_size_ : Int32) (rows_ : Nat → Option Nat) (rows_L1_elements_ : Nat → Int32) : Option (Int32 × (Nat → Int32)) :=
  (f_X11_isRow x1).bind (fun u1 =>
  if u1 = 0 then
  (some ((-1 : Int32), rows_L1_elements_))
  else
  (ldA rows_ 3 x1 (fun r4 =>
  asR r4 q_rows_L1 (
  if rows_L1_type_ = (-1 : Int32) then
  (some ((-11 : Int32), rows_L1_elements_))
  else
  (if x2 < 0 then
  (some ((-13 : Int32), rows_L1_elements_))
  else
  (if x2 < rows_L1_size_ then
  ((f_X6_put x2 x3 rows_L1_type_ rows_L1_elements_).bind (fun u7 =>
  some ((1 : Int32), u7)))
  else
  (some ((-13 : Int32), rows_L1_elements_))))))))
set_option maxHeartbeats 4000000 in
set_option maxRecDepth 100000 in
theorem wt_X11_setElement {p : Program} {l : Launch} {e : Env} {s : State} {m : MethodId} {args : Array Value} {below : List Frame} {meth : Method} {c : Code} {A : Nat → Prop} {Q : State → Prop} {D : va_G} {cy : Nat → ClassId} (o : Nat) (q_rows_L1 : Nat) (d : Nat → Nat) (d_rows_L1 : Nat → Nat) (mono : Value) (snapshotTaken_ : Int32) (inputLength_ : Int32) (rows_L1_type_ : Int32) (rows_L1_size_ : Int32) (rows_ : Nat → Option Nat) (rows_L1_elements_ : Nat → Int32) (x1 : Int32) (x2 : Int32) (x3 : Int32) (out : Int32 × (Nat → Int32)) (X : Cx p m c cX11_setElement 5 s args wsX11_setElement RX11 A D cy (RO_X11_setElement cy o q_rows_L1 d d_rows_L1 mono snapshotTaken_ inputLength_ rows_L1_type_ rows_L1_size_ rows_)) (h : f_X11_setElement x1 x2 x3 q_rows_L1 rows_L1_type_ rows_L1_size_ rows_ rows_L1_elements_ = some out) (K : ∀ (H : Heap) (locs : List Loc) (ls : Array Slot) (pc : Nat), decode cX11_setElement pc = .ok (.ireturn, 1) → St A D s (RW_X11_setElement cy o q_rows_L1 d d_rows_L1 mono out.2) H locs → W p l e rm_X11_setElement s m args below meth c H locs 0 0 Q (F0 m pc ls [.int out.1])) : ∀ (H : Heap) (locs : List Loc) (ls : Array Slot), St A D s (RW_X11_setElement cy o q_rows_L1 d d_rows_L1 mono rows_L1_elements_) H locs → lv_has ls 5 [(0, .ref o), (1, .int x1), (2, .int x2), (3, .int x3)] → W p l e rm_X11_setElement s m args below meth c H locs 0 0 Q (F0 m 0 ls []) := by
  intro H locs ls Z hl
  have hx := X.1.1
  have hb := X.1.2.1
  unfold f_X11_setElement at h
  refine lv_iload_n hx hb dX11_setElement_0 rfl (lv_at hl 1 rfl) ?_
  obtain ⟨u1, hc2, h⟩ := ob_some h
  refine x_runSi (RW' := (RW_X11_setElement cy o q_rows_L1 d d_rows_L1 mono rows_L1_elements_)) (wr := [((d_rows_L1 2), aI cy 21 rows_L1_elements_)]) (isC := []) (isR := [0]) (isF := [0]) (rest := []) (As := [.int x1]) (n := 1) X Z (c_X11_isRow l D cy x1 u1 hc2) gX11_setElement_X11_isRow rfl (by decide +kernel) ⟨Nat.le_of_ble_eq_true rfl, Nat.le_of_ble_eq_true rfl⟩ ⟨rfl, rfl⟩ ⟨Nat.le_of_ble_eq_true rfl, Nat.le_of_ble_eq_true rfl⟩ ⟨rfl, rfl, roN, rfl, rfl, by decide⟩ ⟨rfl, rfl⟩ rfl hl.1 rfl (Nat.le_of_ble_eq_true rfl) dX11_setElement_1 (fun H locs Z => ?_)
  refine lv_if_ne (tgt := 9) hx hb dX11_setElement_4 (by decide) (fun cnd => ?_) (fun cnd => ?_)
  · replace h := ifn h cnd
    refine lv_aload_n hx hb dX11_setElement_9 rfl (lv_at hl 0 rfl) ?_
    refine x_getO X Z 0 5 (v := .ref (d 5)) rfl rfl lk_X11_setElement_X11_rows dX11_setElement_10 ?_
    refine lv_iload_n hx hb dX11_setElement_13 rfl (lv_at hl 1 rfl) ?_
    obtain ⟨hin3, r4, hv5, h⟩ := ld_b h
    obtain ⟨ha6, h⟩ := as_b h
    refine x_raldO X Z 2 3 rfl rfl hin3 hv5 ha6 dX11_setElement_14 ?_
    refine lv_astore (lv' := [(4, .ref q_rows_L1), (0, .ref o), (1, .int x1), (2, .int x2), (3, .int x3)]) hx hb dX11_setElement_15 hl (by decide) rfl (fun ls hl => ?_)
    refine lv_aload hx hb dX11_setElement_17 (lv_at hl 0 rfl) ?_
    refine x_getO X Z 1 0 (v := .int rows_L1_type_) rfl rfl lk_X11_setElement_X6_type dX11_setElement_19 ?_
    refine lv_iconst (v := (-1 : Int32)) hx hb dX11_setElement_22 (by decide) ?_
    refine lv_icmp_ne (tgt := 29) hx hb dX11_setElement_23 (by decide) (fun cnd => ?_) (fun cnd => ?_)
    · replace h := ifn h cnd
      refine lv_iload_n hx hb dX11_setElement_29 rfl (lv_at hl 3 rfl) ?_
      refine lv_if_lt (tgt := 42) hx hb dX11_setElement_30 (by decide) (fun cnd => ?_) (fun cnd => ?_)
      · replace h := ifp h cnd
        refine lv_bipush (v := (-13 : Int32)) hx hb dX11_setElement_42 (by decide) ?_
        obtain rfl := Option.some.inj h
        exact K H locs ls _ dX11_setElement_44 Z
      · replace h := ifn h cnd
        refine lv_iload_n hx hb dX11_setElement_33 rfl (lv_at hl 3 rfl) ?_
        refine lv_aload hx hb dX11_setElement_34 (lv_at hl 0 rfl) ?_
        refine x_getO X Z 1 1 (v := .int rows_L1_size_) rfl rfl lk_X11_setElement_X6_size dX11_setElement_36 ?_
        refine lv_icmp_lt (tgt := 45) hx hb dX11_setElement_39 (by decide) (fun cnd => ?_) (fun cnd => ?_)
        · replace h := ifp h cnd
          refine lv_aload hx hb dX11_setElement_45 (lv_at hl 0 rfl) ?_
          refine lv_iload_n hx hb dX11_setElement_47 rfl (lv_at hl 3 rfl) ?_
          refine lv_iload_n hx hb dX11_setElement_48 rfl (lv_at hl 4 rfl) ?_
          obtain ⟨u7, hc8, h⟩ := ob_some h
          refine x_runVv (RW' := (RW_X11_setElement cy o q_rows_L1 d d_rows_L1 mono u7)) (wr := []) (isC := [0]) (isR := []) (isF := [0]) (rest := []) (As := [.int x2, .int x3]) (n := 2) X Z (c_X6_put l D cy q_rows_L1 d_rows_L1 rows_L1_type_ rows_L1_size_ rows_L1_elements_ x2 x3 u7 hc8) gX11_setElement_X6_put rfl (by decide +kernel) ⟨Nat.le_of_ble_eq_true rfl, Nat.le_of_ble_eq_true rfl⟩ ⟨rfl, rfl⟩ ⟨Nat.le_of_ble_eq_true rfl, Nat.le_of_ble_eq_true rfl⟩ (x_rvO X Z 1 rfl rfl) ⟨rfl, rfl, (roC (Or.inr (mem_at 1 rfl)) roN), rfl, rfl, by decide⟩ ⟨rfl, rfl⟩ rfl hl.1 rfl (Nat.le_of_ble_eq_true rfl) dX11_setElement_49 (fun H locs Z => ?_)
          refine lv_iconst (v := (1 : Int32)) hx hb dX11_setElement_52 (by decide) ?_
          obtain rfl := Option.some.inj h
          exact K H locs ls _ dX11_setElement_53 Z
        · replace h := ifn h cnd
          refine lv_bipush (v := (-13 : Int32)) hx hb dX11_setElement_42 (by decide) ?_
          obtain rfl := Option.some.inj h
          exact K H locs ls _ dX11_setElement_44 Z
    · replace h := ifp h cnd
      refine lv_bipush (v := (-11 : Int32)) hx hb dX11_setElement_26 (by decide) ?_
      obtain rfl := Option.some.inj h
      exact K H locs ls _ dX11_setElement_28 Z
  · replace h := ifp h cnd
    refine lv_iconst (v := (-1 : Int32)) hx hb dX11_setElement_7 (by decide) ?_
    obtain rfl := Option.some.inj h
    exact K H locs ls _ dX11_setElement_8 Z
theorem c_X11_setElement (l : Launch) (D : va_G) (cy : Nat → ClassId) (o : Nat) (q_rows_L1 : Nat) (d : Nat → Nat) (d_rows_L1 : Nat → Nat) (mono : Value) (snapshotTaken_ : Int32) (inputLength_ : Int32) (rows_L1_type_ : Int32) (rows_L1_size_ : Int32) (rows_ : Nat → Option Nat) (rows_L1_elements_ : Nat → Int32) (x1 : Int32) (x2 : Int32) (x3 : Int32) (out : Int32 × (Nat → Int32)) (h : f_X11_setElement x1 x2 x3 q_rows_L1 rows_L1_type_ rows_L1_size_ rows_ rows_L1_elements_ = some out) : CtI l yX11_setElement wsX11_setElement rm_X11_setElement D cy [.ref o, .int x1, .int x2, .int x3] (RW_X11_setElement cy o q_rows_L1 d d_rows_L1 mono rows_L1_elements_) (RO_X11_setElement cy o q_rows_L1 d d_rows_L1 mono snapshotTaken_ inputLength_ rows_L1_type_ rows_L1_size_ rows_) (RW_X11_setElement cy o q_rows_L1 d d_rows_L1 mono out.2) out.1 :=
  mk_i (ty := .int) (by decide) rfl rfl (Nat.le_of_ble_eq_true rfl) (fun p e s m args below meth c A Q X K H locs ls Z hl => wt_X11_setElement o q_rows_L1 d d_rows_L1 mono snapshotTaken_ inputLength_ rows_L1_type_ rows_L1_size_ rows_ rows_L1_elements_ x1 x2 x3 out X h K H locs ls Z hl)
/-! SubwordCounter element (II)J -/
abbrev rm_X11_element : Room := { frames := 1, cells := 0, slots := 0, locals := 20 }
def RW_X11_element (cy : Nat → ClassId) (o : Nat) (q_rows_L1 : Nat) (d : Nat → Nat) (d_rows_L1 : Nat → Nat) (mono : Value)  : va_W := []
def RO_X11_element (cy : Nat → ClassId) (o : Nat) (q_rows_L1 : Nat) (d : Nat → Nat) (d_rows_L1 : Nat → Nat) (mono : Value) (snapshotTaken_ : Int32) (inputLength_ : Int32) (rows_L1_type_ : Int32) (rows_L1_size_ : Int32) (rows_ : Nat → Option Nat) (rows_L1_elements_ : Nat → Int32) : va_W := [(o, ob 10 (oX11 d mono snapshotTaken_ inputLength_)), (q_rows_L1, ob 6 (oX6 d_rows_L1 rows_L1_type_ rows_L1_size_)), ((d 5), aR cy 3 3 rows_), ((d_rows_L1 2), aI cy 21 rows_L1_elements_)]
theorem in_X11_element_X11 : ∀ w ∈ u_ws RX11 TX11 12, w ∈ wsX11_element := fun w h => (List.mem_cons_of_mem _ (List.mem_append_left _ (List.mem_append_right _ h)))
theorem lk_X11_element_X11_rows : Lk wsX11_element RX11 33 10 5 := ⟨RX11, TX11, 12, rfl, by decide, in_X11_element_X11, mem_at 1 rfl⟩
theorem in_X11_element_X6 : ∀ w ∈ u_ws RX6 TX6 3, w ∈ wsX11_element := fun w h => (List.mem_cons_of_mem _ (List.mem_append_right _ h))
theorem lk_X11_element_X6_size : Lk wsX11_element RX11 290 6 1 := ⟨RX6, TX6, 3, rfl, by decide, in_X11_element_X6, mem_at 2 rfl⟩
theorem lk_X11_element_X6_elements : Lk wsX11_element RX11 296 6 2 := ⟨RX6, TX6, 3, rfl, by decide, in_X11_element_X6, mem_at 4 rfl⟩
def f_X11_element (x1 : Int32) (x2 : Int32) (q_rows_L1 : Nat) (rows_L1_size_ : Int32) (rows_ : Nat → Option Nat) (rows_L1_elements_ : Nat → Int32) : Option (Int64) :=
  (f_X11_isRow x1).bind (fun u1 =>
  if u1 = 0 then
  (some (-9223372036854775808 : Int64))
  else
  (if x2 < 0 then
  (some (-9223372036854775808 : Int64))
  else
  (ldA rows_ 3 x1 (fun r4 =>
  asR r4 q_rows_L1 (
  if x2 < rows_L1_size_ then
  (ldA rows_ 3 x1 (fun r8 =>
  asR r8 q_rows_L1 (
  ldA rows_L1_elements_ 21 x2 (fun v12 =>
  some (v12.toInt64)))))
  else
  (some (-9223372036854775808 : Int64)))))))
set_option maxHeartbeats 4000000 in
set_option maxRecDepth 100000 in
theorem wt_X11_element {p : Program} {l : Launch} {e : Env} {s : State} {m : MethodId} {args : Array Value} {below : List Frame} {meth : Method} {c : Code} {A : Nat → Prop} {Q : State → Prop} {D : va_G} {cy : Nat → ClassId} (o : Nat) (q_rows_L1 : Nat) (d : Nat → Nat) (d_rows_L1 : Nat → Nat) (mono : Value) (snapshotTaken_ : Int32) (inputLength_ : Int32) (rows_L1_type_ : Int32) (rows_L1_size_ : Int32) (rows_ : Nat → Option Nat) (rows_L1_elements_ : Nat → Int32)  (x1 : Int32) (x2 : Int32) (out : Int64) (X : Cx p m c cX11_element 3 s args wsX11_element RX11 A D cy (RO_X11_element cy o q_rows_L1 d d_rows_L1 mono snapshotTaken_ inputLength_ rows_L1_type_ rows_L1_size_ rows_ rows_L1_elements_)) (h : f_X11_element x1 x2 q_rows_L1 rows_L1_size_ rows_ rows_L1_elements_ = some out) (K : ∀ (H : Heap) (locs : List Loc) (ls : Array Slot) (pc : Nat), decode cX11_element pc = .ok (.lreturn, 1) → St A D s (RW_X11_element cy o q_rows_L1 d d_rows_L1 mono) H locs → W p l e rm_X11_element s m args below meth c H locs 0 0 Q (F0 m pc ls [.long out])) : ∀ (H : Heap) (locs : List Loc) (ls : Array Slot), St A D s (RW_X11_element cy o q_rows_L1 d d_rows_L1 mono) H locs → lv_has ls 3 [(0, .ref o), (1, .int x1), (2, .int x2)] → W p l e rm_X11_element s m args below meth c H locs 0 0 Q (F0 m 0 ls []) := by
  intro H locs ls Z hl
  have hx := X.1.1
  have hb := X.1.2.1
  unfold f_X11_element at h
  refine lv_iload_n hx hb dX11_element_0 rfl (lv_at hl 1 rfl) ?_
  obtain ⟨u1, hc2, h⟩ := ob_some h
  refine x_runSi (RW' := (RW_X11_element cy o q_rows_L1 d d_rows_L1 mono)) (wr := []) (isC := []) (isR := []) (isF := []) (rest := []) (As := [.int x1]) (n := 1) X Z (c_X11_isRow l D cy x1 u1 hc2) gX11_element_X11_isRow rfl (by decide +kernel) ⟨Nat.le_of_ble_eq_true rfl, Nat.le_of_ble_eq_true rfl⟩ ⟨rfl, rfl⟩ ⟨Nat.le_of_ble_eq_true rfl, Nat.le_of_ble_eq_true rfl⟩ ⟨rfl, rfl, roN, rfl, rfl, by decide⟩ ⟨rfl, rfl⟩ rfl hl.1 rfl (Nat.le_of_ble_eq_true rfl) dX11_element_1 (fun H locs Z => ?_)
  refine lv_if_eq (tgt := 24) hx hb dX11_element_4 (by decide) (fun cnd => ?_) (fun cnd => ?_)
  · replace h := ifp h cnd
    refine lv_ldc2 (v := (-9223372036854775808 : Int64)) hx hb X.1.2.2.2.1 (X.1.2.2.2.2 _ (mem_at 3 rfl)) dX11_element_24 ?_
    obtain rfl := Option.some.inj h
    exact K H locs ls _ dX11_element_27 Z
  · replace h := ifn h cnd
    refine lv_iload_n hx hb dX11_element_7 rfl (lv_at hl 2 rfl) ?_
    refine lv_if_lt (tgt := 24) hx hb dX11_element_8 (by decide) (fun cnd => ?_) (fun cnd => ?_)
    · replace h := ifp h cnd
      refine lv_ldc2 (v := (-9223372036854775808 : Int64)) hx hb X.1.2.2.2.1 (X.1.2.2.2.2 _ (mem_at 3 rfl)) dX11_element_24 ?_
      obtain rfl := Option.some.inj h
      exact K H locs ls _ dX11_element_27 Z
    · replace h := ifn h cnd
      refine lv_iload_n hx hb dX11_element_11 rfl (lv_at hl 2 rfl) ?_
      refine lv_aload_n hx hb dX11_element_12 rfl (lv_at hl 0 rfl) ?_
      refine x_getO X Z 0 5 (v := .ref (d 5)) rfl rfl lk_X11_element_X11_rows dX11_element_13 ?_
      refine lv_iload_n hx hb dX11_element_16 rfl (lv_at hl 1 rfl) ?_
      obtain ⟨hin3, r4, hv5, h⟩ := ld_b h
      obtain ⟨ha6, h⟩ := as_b h
      refine x_raldO X Z 2 3 rfl rfl hin3 hv5 ha6 dX11_element_17 ?_
      refine x_getO X Z 1 1 (v := .int rows_L1_size_) rfl rfl lk_X11_element_X6_size dX11_element_18 ?_
      refine lv_icmp_lt (tgt := 28) hx hb dX11_element_21 (by decide) (fun cnd => ?_) (fun cnd => ?_)
      · replace h := ifp h cnd
        refine lv_aload_n hx hb dX11_element_28 rfl (lv_at hl 0 rfl) ?_
        refine x_getO X Z 0 5 (v := .ref (d 5)) rfl rfl lk_X11_element_X11_rows dX11_element_29 ?_
        refine lv_iload_n hx hb dX11_element_32 rfl (lv_at hl 1 rfl) ?_
        obtain ⟨hin7, r8, hv9, h⟩ := ld_b h
        obtain ⟨ha10, h⟩ := as_b h
        refine x_raldO X Z 2 3 rfl rfl hin7 hv9 ha10 dX11_element_33 ?_
        refine x_getO X Z 1 2 (v := .ref (d_rows_L1 2)) rfl rfl lk_X11_element_X6_elements dX11_element_34 ?_
        refine lv_iload_n hx hb dX11_element_37 rfl (lv_at hl 2 rfl) ?_
        obtain ⟨hin11, v12, hv13, h⟩ := ld_b h
        refine x_ialdO X Z 3 rfl hin11 hv13 dX11_element_38 ?_
        refine lv_i2l (v := (v12.toInt64)) hx hb dX11_element_39 rfl ?_
        obtain rfl := Option.some.inj h
        exact K H locs ls _ dX11_element_40 Z
      · replace h := ifn h cnd
        refine lv_ldc2 (v := (-9223372036854775808 : Int64)) hx hb X.1.2.2.2.1 (X.1.2.2.2.2 _ (mem_at 3 rfl)) dX11_element_24 ?_
        obtain rfl := Option.some.inj h
        exact K H locs ls _ dX11_element_27 Z
theorem c_X11_element (l : Launch) (D : va_G) (cy : Nat → ClassId) (o : Nat) (q_rows_L1 : Nat) (d : Nat → Nat) (d_rows_L1 : Nat → Nat) (mono : Value) (snapshotTaken_ : Int32) (inputLength_ : Int32) (rows_L1_type_ : Int32) (rows_L1_size_ : Int32) (rows_ : Nat → Option Nat) (rows_L1_elements_ : Nat → Int32)  (x1 : Int32) (x2 : Int32) (out : Int64) (h : f_X11_element x1 x2 q_rows_L1 rows_L1_size_ rows_ rows_L1_elements_ = some out) : CtL l yX11_element wsX11_element rm_X11_element D cy [.ref o, .int x1, .int x2] (RW_X11_element cy o q_rows_L1 d d_rows_L1 mono) (RO_X11_element cy o q_rows_L1 d d_rows_L1 mono snapshotTaken_ inputLength_ rows_L1_type_ rows_L1_size_ rows_ rows_L1_elements_) (RW_X11_element cy o q_rows_L1 d d_rows_L1 mono) out :=
  mk_l (by decide) rfl (Nat.le_of_ble_eq_true rfl) (fun p e s m args below meth c A Q X K H locs ls Z hl => wt_X11_element o q_rows_L1 d d_rows_L1 mono snapshotTaken_ inputLength_ rows_L1_type_ rows_L1_size_ rows_ rows_L1_elements_ x1 x2 out X h K H locs ls Z hl)
/-! SubwordCounter$Row hasRange (II)Z -/
abbrev rm_X6_hasRange : Room := { frames := 0, cells := 0, slots := 0, locals := 0 }
def RW_X6_hasRange (cy : Nat → ClassId) (o : Nat) (d : Nat → Nat)  : va_W := []
def RO_X6_hasRange (cy : Nat → ClassId) (o : Nat) (d : Nat → Nat) (type_ : Int32) (size_ : Int32) : va_W := [(o, ob 6 (oX6 d type_ size_))]
theorem in_X6_hasRange_X6 : ∀ w ∈ u_ws RX6 TX6 3, w ∈ wsX6_hasRange := fun w h => (List.mem_cons_of_mem _ (List.mem_append_right _ h))
theorem lk_X6_hasRange_X6_size : Lk wsX6_hasRange RX6 15 6 1 := ⟨RX6, TX6, 3, rfl, by decide, in_X6_hasRange_X6, mem_at 1 rfl⟩
def f_X6_hasRange (x1 : Int32) (x2 : Int32) (size_ : Int32) : Option (Int32) :=
  if x2 < 0 then
  (some (0 : Int32))
  else
  (if size_ < x2 then
  (some (0 : Int32))
  else
  (if x1 < 0 then
  (some (0 : Int32))
  else
  (if (size_ - x2) < x1 then
  (some (0 : Int32))
  else
  (some (1 : Int32)))))
set_option maxHeartbeats 4000000 in
set_option maxRecDepth 100000 in
theorem wt_X6_hasRange {p : Program} {l : Launch} {e : Env} {s : State} {m : MethodId} {args : Array Value} {below : List Frame} {meth : Method} {c : Code} {A : Nat → Prop} {Q : State → Prop} {D : va_G} {cy : Nat → ClassId} (o : Nat) (d : Nat → Nat) (type_ : Int32) (size_ : Int32)  (x1 : Int32) (x2 : Int32) (out : Int32) (X : Cx p m c cX6_hasRange 3 s args wsX6_hasRange RX6 A D cy (RO_X6_hasRange cy o d type_ size_)) (h : f_X6_hasRange x1 x2 size_ = some out) (K : ∀ (H : Heap) (locs : List Loc) (ls : Array Slot) (pc : Nat), decode cX6_hasRange pc = .ok (.ireturn, 1) → (out = 0 ∨ out = 1) → St A D s (RW_X6_hasRange cy o d) H locs → W p l e rm_X6_hasRange s m args below meth c H locs 0 0 Q (F0 m pc ls [.int out])) : ∀ (H : Heap) (locs : List Loc) (ls : Array Slot), St A D s (RW_X6_hasRange cy o d) H locs → lv_has ls 3 [(0, .ref o), (1, .int x1), (2, .int x2)] → W p l e rm_X6_hasRange s m args below meth c H locs 0 0 Q (F0 m 0 ls []) := by
  intro H locs ls Z hl
  have hx := X.1.1
  have hb := X.1.2.1
  unfold f_X6_hasRange at h
  refine lv_iload_n hx hb dX6_hasRange_0 rfl (lv_at hl 2 rfl) ?_
  refine lv_if_lt (tgt := 30) hx hb dX6_hasRange_1 (by decide) (fun cnd => ?_) (fun cnd => ?_)
  · replace h := ifp h cnd
    refine lv_iconst (v := (0 : Int32)) hx hb dX6_hasRange_30 (by decide) ?_
    obtain rfl := Option.some.inj h
    exact K H locs ls _ dX6_hasRange_31 (Or.inl rfl) Z
  · replace h := ifn h cnd
    refine lv_iload_n hx hb dX6_hasRange_4 rfl (lv_at hl 2 rfl) ?_
    refine lv_aload_n hx hb dX6_hasRange_5 rfl (lv_at hl 0 rfl) ?_
    refine x_getO X Z 0 1 (v := .int size_) rfl rfl lk_X6_hasRange_X6_size dX6_hasRange_6 ?_
    refine lv_icmp_gt (tgt := 30) hx hb dX6_hasRange_9 (by decide) (fun cnd => ?_) (fun cnd => ?_)
    · replace h := ifp h cnd
      refine lv_iconst (v := (0 : Int32)) hx hb dX6_hasRange_30 (by decide) ?_
      obtain rfl := Option.some.inj h
      exact K H locs ls _ dX6_hasRange_31 (Or.inl rfl) Z
    · replace h := ifn h cnd
      refine lv_iload_n hx hb dX6_hasRange_12 rfl (lv_at hl 1 rfl) ?_
      refine lv_if_lt (tgt := 30) hx hb dX6_hasRange_13 (by decide) (fun cnd => ?_) (fun cnd => ?_)
      · replace h := ifp h cnd
        refine lv_iconst (v := (0 : Int32)) hx hb dX6_hasRange_30 (by decide) ?_
        obtain rfl := Option.some.inj h
        exact K H locs ls _ dX6_hasRange_31 (Or.inl rfl) Z
      · replace h := ifn h cnd
        refine lv_iload_n hx hb dX6_hasRange_16 rfl (lv_at hl 1 rfl) ?_
        refine lv_aload_n hx hb dX6_hasRange_17 rfl (lv_at hl 0 rfl) ?_
        refine x_getO X Z 0 1 (v := .int size_) rfl rfl lk_X6_hasRange_X6_size dX6_hasRange_18 ?_
        refine lv_iload_n hx hb dX6_hasRange_21 rfl (lv_at hl 2 rfl) ?_
        refine lv_isub hx hb dX6_hasRange_22 ?_
        refine lv_icmp_gt (tgt := 30) hx hb dX6_hasRange_23 (by decide) (fun cnd => ?_) (fun cnd => ?_)
        · replace h := ifp h cnd
          refine lv_iconst (v := (0 : Int32)) hx hb dX6_hasRange_30 (by decide) ?_
          obtain rfl := Option.some.inj h
          exact K H locs ls _ dX6_hasRange_31 (Or.inl rfl) Z
        · replace h := ifn h cnd
          refine lv_iconst (v := (1 : Int32)) hx hb dX6_hasRange_26 (by decide) ?_
          refine lv_goto (tgt := 31) hx hb dX6_hasRange_27 (by decide) ?_
          obtain rfl := Option.some.inj h
          exact K H locs ls _ dX6_hasRange_31 (Or.inr rfl) Z
theorem c_X6_hasRange (l : Launch) (D : va_G) (cy : Nat → ClassId) (o : Nat) (d : Nat → Nat) (type_ : Int32) (size_ : Int32)  (x1 : Int32) (x2 : Int32) (out : Int32) (h : f_X6_hasRange x1 x2 size_ = some out) : CtI l yX6_hasRange wsX6_hasRange rm_X6_hasRange D cy [.ref o, .int x1, .int x2] (RW_X6_hasRange cy o d) (RO_X6_hasRange cy o d type_ size_) (RW_X6_hasRange cy o d) out :=
  mk_z (by decide) rfl (Nat.le_of_ble_eq_true rfl) (fun p e s m args below meth c A Q X K H locs ls Z hl => wt_X6_hasRange o d type_ size_ x1 x2 out X h K H locs ls Z hl)
/-! SubwordCounter copyElements (IIIII)I -/
abbrev rm_X11_copyElements : Room := { frames := 1, cells := 0, slots := 0, locals := 26 }
def RW_X11_copyElements (cy : Nat → ClassId) (o : Nat) (q_rows_L1 : Nat) (q_rows_L3 : Nat) (d : Nat → Nat) (d_rows_L1 : Nat → Nat) (d_rows_L3 : Nat → Nat) (mono : Value) (rows_L1_elements_ : Nat → Int32) (rows_L3_elements_ : Nat → Int32) : va_W := [((d_rows_L1 2), aI cy 21 rows_L1_elements_), ((d_rows_L3 2), aI cy 21 rows_L3_elements_)]
def RO_X11_copyElements (cy : Nat → ClassId) (o : Nat) (q_rows_L1 : Nat) (q_rows_L3 : Nat) (d : Nat → Nat) (d_rows_L1 : Nat → Nat) (d_rows_L3 : Nat → Nat) (mono : Value) (snapshotTaken_ : Int32) (inputLength_ : Int32) (rows_L1_type_ : Int32) (rows_L1_size_ : Int32) (rows_L3_type_ : Int32) (rows_L3_size_ : Int32) (rows_ : Nat → Option Nat) : va_W := [(o, ob 10 (oX11 d mono snapshotTaken_ inputLength_)), (q_rows_L1, ob 6 (oX6 d_rows_L1 rows_L1_type_ rows_L1_size_)), (q_rows_L3, ob 6 (oX6 d_rows_L3 rows_L3_type_ rows_L3_size_)), ((d 5), aR cy 3 3 rows_)]
theorem in_X11_copyElements_X11 : ∀ w ∈ u_ws RX11 TX11 12, w ∈ wsX11_copyElements := fun w h => (List.mem_cons_of_mem _ (List.mem_append_left _ (List.mem_append_right _ h)))
theorem lk_X11_copyElements_X11_rows : Lk wsX11_copyElements RX11 33 10 5 := ⟨RX11, TX11, 12, rfl, by decide, in_X11_copyElements_X11, mem_at 1 rfl⟩
theorem in_X11_copyElements_X6 : ∀ w ∈ u_ws RX6 TX6 3, w ∈ wsX11_copyElements := fun w h => (List.mem_cons_of_mem _ (List.mem_append_right _ h))
theorem lk_X11_copyElements_X6_type : Lk wsX11_copyElements RX11 287 6 0 := ⟨RX6, TX6, 3, rfl, by decide, in_X11_copyElements_X6, mem_at 2 rfl⟩
theorem lk_X11_copyElements_X6_elements : Lk wsX11_copyElements RX11 296 6 2 := ⟨RX6, TX6, 3, rfl, by decide, in_X11_copyElements_X6, mem_at 3 rfl⟩
theorem lc_X11_copyElements_303 : Lc wsX11_copyElements RX11 303 := ⟨mem_at 4 rfl, mem_at 5 rfl, mem_at 6 rfl, mem_at 7 rfl⟩
def f_X11_copyElements (x1 : Int32) (x2 : Int32) (x3 : Int32) (x4 : Int32) (x5 : Int32) (q_rows_L1 : Nat) (q_rows_L3 : Nat) (rows_L1_type_ : Int32) (rows_L1_size_ : Int32) (rows_L3_type_ : Int32) (rows_L3_size_ : Int32) (rows_ : Nat → Option Nat) (rows_L1_elements_ : Nat → Int32) (rows_L3_elements_ : Nat → Int32) : Option (Int32 × (Nat → Int32)) :=
  (f_X11_isRow x1).bind (fun u1 =>
  if u1 = 0 then
  (some ((-1 : Int32), rows_L3_elements_))
  else
  ((f_X11_isRow x3).bind (fun u3 =>
  if u3 = 0 then
  (some ((-1 : Int32), rows_L3_elements_))
  else
  (ldA rows_ 3 x1 (fun r6 =>
  asR r6 q_rows_L1 (
  ldA rows_ 3 x3 (fun r10 =>
  asR r10 q_rows_L3 (
  if rows_L1_type_ = (-1 : Int32) then
  (some ((-11 : Int32), rows_L3_elements_))
  else
  (if rows_L3_type_ = (-1 : Int32) then
  (some ((-11 : Int32), rows_L3_elements_))
  else
  (if rows_L1_type_ = rows_L3_type_ then
  ((f_X6_hasRange x2 x5 rows_L1_size_).bind (fun u13 =>
  if u13 = 0 then
  (some ((-13 : Int32), rows_L3_elements_))
  else
  ((f_X6_hasRange x4 x5 rows_L3_size_).bind (fun u15 =>
  if u15 = 0 then
  (some ((-13 : Int32), rows_L3_elements_))
  else
  (cpA rows_L1_elements_ rows_L3_elements_ 21 21 x2 x4 x5 (fun rows_L3_elements_17 =>
  some (x5, rows_L3_elements_17)))))))
  else
  (some ((-6 : Int32), rows_L3_elements_))))))))))))
set_option maxHeartbeats 4000000 in
set_option maxRecDepth 100000 in
theorem wt_X11_copyElements {p : Program} {l : Launch} {e : Env} {s : State} {m : MethodId} {args : Array Value} {below : List Frame} {meth : Method} {c : Code} {A : Nat → Prop} {Q : State → Prop} {D : va_G} {cy : Nat → ClassId} (o : Nat) (q_rows_L1 : Nat) (q_rows_L3 : Nat) (d : Nat → Nat) (d_rows_L1 : Nat → Nat) (d_rows_L3 : Nat → Nat) (mono : Value) (snapshotTaken_ : Int32) (inputLength_ : Int32) (rows_L1_type_ : Int32) (rows_L1_size_ : Int32) (rows_L3_type_ : Int32) (rows_L3_size_ : Int32) (rows_ : Nat → Option Nat) (rows_L1_elements_ : Nat → Int32) (rows_L3_elements_ : Nat → Int32) (x1 : Int32) (x2 : Int32) (x3 : Int32) (x4 : Int32) (x5 : Int32) (out : Int32 × (Nat → Int32)) (X : Cx p m c cX11_copyElements 8 s args wsX11_copyElements RX11 A D cy (RO_X11_copyElements cy o q_rows_L1 q_rows_L3 d d_rows_L1 d_rows_L3 mono snapshotTaken_ inputLength_ rows_L1_type_ rows_L1_size_ rows_L3_type_ rows_L3_size_ rows_)) (h : f_X11_copyElements x1 x2 x3 x4 x5 q_rows_L1 q_rows_L3 rows_L1_type_ rows_L1_size_ rows_L3_type_ rows_L3_size_ rows_ rows_L1_elements_ rows_L3_elements_ = some out) (K : ∀ (H : Heap) (locs : List Loc) (ls : Array Slot) (pc : Nat), decode cX11_copyElements pc = .ok (.ireturn, 1) → St A D s (RW_X11_copyElements cy o q_rows_L1 q_rows_L3 d d_rows_L1 d_rows_L3 mono rows_L1_elements_ out.2) H locs → W p l e rm_X11_copyElements s m args below meth c H locs 0 0 Q (F0 m pc ls [.int out.1])) : ∀ (H : Heap) (locs : List Loc) (ls : Array Slot), St A D s (RW_X11_copyElements cy o q_rows_L1 q_rows_L3 d d_rows_L1 d_rows_L3 mono rows_L1_elements_ rows_L3_elements_) H locs → lv_has ls 8 [(0, .ref o), (1, .int x1), (2, .int x2), (3, .int x3), (4, .int x4), (5, .int x5)] → W p l e rm_X11_copyElements s m args below meth c H locs 0 0 Q (F0 m 0 ls []) := by
  intro H locs ls Z hl
  have hx := X.1.1
  have hb := X.1.2.1
  unfold f_X11_copyElements at h
  refine lv_iload_n hx hb dX11_copyElements_0 rfl (lv_at hl 1 rfl) ?_
  obtain ⟨u1, hc2, h⟩ := ob_some h
  refine x_runSi (RW' := (RW_X11_copyElements cy o q_rows_L1 q_rows_L3 d d_rows_L1 d_rows_L3 mono rows_L1_elements_ rows_L3_elements_)) (wr := [((d_rows_L1 2), aI cy 21 rows_L1_elements_), ((d_rows_L3 2), aI cy 21 rows_L3_elements_)]) (isC := []) (isR := [0, 1]) (isF := [0, 1]) (rest := []) (As := [.int x1]) (n := 1) X Z (c_X11_isRow l D cy x1 u1 hc2) gX11_copyElements_X11_isRow rfl (by decide +kernel) ⟨Nat.le_of_ble_eq_true rfl, Nat.le_of_ble_eq_true rfl⟩ ⟨rfl, rfl⟩ ⟨Nat.le_of_ble_eq_true rfl, Nat.le_of_ble_eq_true rfl⟩ ⟨rfl, rfl, roN, rfl, rfl, by decide⟩ ⟨rfl, rfl⟩ rfl hl.1 rfl (Nat.le_of_ble_eq_true rfl) dX11_copyElements_1 (fun H locs Z => ?_)
  refine lv_if_eq (tgt := 14) hx hb dX11_copyElements_4 (by decide) (fun cnd => ?_) (fun cnd => ?_)
  · replace h := ifp h cnd
    refine lv_iconst (v := (-1 : Int32)) hx hb dX11_copyElements_14 (by decide) ?_
    obtain rfl := Option.some.inj h
    exact K H locs ls _ dX11_copyElements_15 Z
  · replace h := ifn h cnd
    refine lv_iload_n hx hb dX11_copyElements_7 rfl (lv_at hl 3 rfl) ?_
    obtain ⟨u3, hc4, h⟩ := ob_some h
    refine x_runSi (RW' := (RW_X11_copyElements cy o q_rows_L1 q_rows_L3 d d_rows_L1 d_rows_L3 mono rows_L1_elements_ rows_L3_elements_)) (wr := [((d_rows_L1 2), aI cy 21 rows_L1_elements_), ((d_rows_L3 2), aI cy 21 rows_L3_elements_)]) (isC := []) (isR := [0, 1]) (isF := [0, 1]) (rest := []) (As := [.int x3]) (n := 1) X Z (c_X11_isRow l D cy x3 u3 hc4) gX11_copyElements_X11_isRow rfl (by decide +kernel) ⟨Nat.le_of_ble_eq_true rfl, Nat.le_of_ble_eq_true rfl⟩ ⟨rfl, rfl⟩ ⟨Nat.le_of_ble_eq_true rfl, Nat.le_of_ble_eq_true rfl⟩ ⟨rfl, rfl, roN, rfl, rfl, by decide⟩ ⟨rfl, rfl⟩ rfl hl.1 rfl (Nat.le_of_ble_eq_true rfl) dX11_copyElements_8 (fun H locs Z => ?_)
    refine lv_if_ne (tgt := 16) hx hb dX11_copyElements_11 (by decide) (fun cnd => ?_) (fun cnd => ?_)
    · replace h := ifn h cnd
      refine lv_aload_n hx hb dX11_copyElements_16 rfl (lv_at hl 0 rfl) ?_
      refine x_getO X Z 0 5 (v := .ref (d 5)) rfl rfl lk_X11_copyElements_X11_rows dX11_copyElements_17 ?_
      refine lv_iload_n hx hb dX11_copyElements_20 rfl (lv_at hl 1 rfl) ?_
      obtain ⟨hin5, r6, hv7, h⟩ := ld_b h
      obtain ⟨ha8, h⟩ := as_b h
      refine x_raldO X Z 3 3 rfl rfl hin5 hv7 ha8 dX11_copyElements_21 ?_
      refine lv_astore (lv' := [(6, .ref q_rows_L1), (0, .ref o), (1, .int x1), (2, .int x2), (3, .int x3), (4, .int x4), (5, .int x5)]) hx hb dX11_copyElements_22 hl (by decide) rfl (fun ls hl => ?_)
      refine lv_aload_n hx hb dX11_copyElements_24 rfl (lv_at hl 1 rfl) ?_
      refine x_getO X Z 0 5 (v := .ref (d 5)) rfl rfl lk_X11_copyElements_X11_rows dX11_copyElements_25 ?_
      refine lv_iload_n hx hb dX11_copyElements_28 rfl (lv_at hl 4 rfl) ?_
      obtain ⟨hin9, r10, hv11, h⟩ := ld_b h
      obtain ⟨ha12, h⟩ := as_b h
      refine x_raldO X Z 3 3 rfl rfl hin9 hv11 ha12 dX11_copyElements_29 ?_
      refine lv_astore (lv' := [(7, .ref q_rows_L3), (6, .ref q_rows_L1), (0, .ref o), (1, .int x1), (2, .int x2), (3, .int x3), (4, .int x4), (5, .int x5)]) hx hb dX11_copyElements_30 hl (by decide) rfl (fun ls hl => ?_)
      refine lv_aload hx hb dX11_copyElements_32 (lv_at hl 1 rfl) ?_
      refine x_getO X Z 1 0 (v := .int rows_L1_type_) rfl rfl lk_X11_copyElements_X6_type dX11_copyElements_34 ?_
      refine lv_iconst (v := (-1 : Int32)) hx hb dX11_copyElements_37 (by decide) ?_
      refine lv_icmp_eq (tgt := 50) hx hb dX11_copyElements_38 (by decide) (fun cnd => ?_) (fun cnd => ?_)
      · replace h := ifp h cnd
        refine lv_bipush (v := (-11 : Int32)) hx hb dX11_copyElements_50 (by decide) ?_
        obtain rfl := Option.some.inj h
        exact K H locs ls _ dX11_copyElements_52 Z
      · replace h := ifn h cnd
        refine lv_aload hx hb dX11_copyElements_41 (lv_at hl 0 rfl) ?_
        refine x_getO X Z 2 0 (v := .int rows_L3_type_) rfl rfl lk_X11_copyElements_X6_type dX11_copyElements_43 ?_
        refine lv_iconst (v := (-1 : Int32)) hx hb dX11_copyElements_46 (by decide) ?_
        refine lv_icmp_ne (tgt := 53) hx hb dX11_copyElements_47 (by decide) (fun cnd => ?_) (fun cnd => ?_)
        · replace h := ifn h cnd
          refine lv_aload hx hb dX11_copyElements_53 (lv_at hl 1 rfl) ?_
          refine x_getO X Z 1 0 (v := .int rows_L1_type_) rfl rfl lk_X11_copyElements_X6_type dX11_copyElements_55 ?_
          refine lv_aload hx hb dX11_copyElements_58 (lv_at hl 0 rfl) ?_
          refine x_getO X Z 2 0 (v := .int rows_L3_type_) rfl rfl lk_X11_copyElements_X6_type dX11_copyElements_60 ?_
          refine lv_icmp_eq (tgt := 69) hx hb dX11_copyElements_63 (by decide) (fun cnd => ?_) (fun cnd => ?_)
          · replace h := ifp h cnd
            refine lv_aload hx hb dX11_copyElements_69 (lv_at hl 1 rfl) ?_
            refine lv_iload_n hx hb dX11_copyElements_71 rfl (lv_at hl 4 rfl) ?_
            refine lv_iload hx hb dX11_copyElements_72 (lv_at hl 7 rfl) ?_
            obtain ⟨u13, hc14, h⟩ := ob_some h
            refine x_runVi (RW' := (RW_X11_copyElements cy o q_rows_L1 q_rows_L3 d d_rows_L1 d_rows_L3 mono rows_L1_elements_ rows_L3_elements_)) (wr := [((d_rows_L1 2), aI cy 21 rows_L1_elements_), ((d_rows_L3 2), aI cy 21 rows_L3_elements_)]) (isC := []) (isR := [0, 1]) (isF := [0, 1]) (rest := []) (As := [.int x2, .int x5]) (n := 2) X Z (c_X6_hasRange l D cy q_rows_L1 d_rows_L1 rows_L1_type_ rows_L1_size_ x2 x5 u13 hc14) gX11_copyElements_X6_hasRange rfl (by decide +kernel) ⟨Nat.le_of_ble_eq_true rfl, Nat.le_of_ble_eq_true rfl⟩ ⟨rfl, rfl⟩ ⟨Nat.le_of_ble_eq_true rfl, Nat.le_of_ble_eq_true rfl⟩ (x_rvO X Z 1 rfl rfl) ⟨rfl, rfl, (roC (Or.inr (mem_at 1 rfl)) roN), rfl, rfl, by decide⟩ ⟨rfl, rfl⟩ rfl hl.1 rfl (Nat.le_of_ble_eq_true rfl) dX11_copyElements_74 (fun H locs Z => ?_)
            refine lv_if_eq (tgt := 92) hx hb dX11_copyElements_77 (by decide) (fun cnd => ?_) (fun cnd => ?_)
            · replace h := ifp h cnd
              refine lv_bipush (v := (-13 : Int32)) hx hb dX11_copyElements_92 (by decide) ?_
              obtain rfl := Option.some.inj h
              exact K H locs ls _ dX11_copyElements_94 Z
            · replace h := ifn h cnd
              refine lv_aload hx hb dX11_copyElements_80 (lv_at hl 0 rfl) ?_
              refine lv_iload hx hb dX11_copyElements_82 (lv_at hl 6 rfl) ?_
              refine lv_iload hx hb dX11_copyElements_84 (lv_at hl 7 rfl) ?_
              obtain ⟨u15, hc16, h⟩ := ob_some h
              refine x_runVi (RW' := (RW_X11_copyElements cy o q_rows_L1 q_rows_L3 d d_rows_L1 d_rows_L3 mono rows_L1_elements_ rows_L3_elements_)) (wr := [((d_rows_L1 2), aI cy 21 rows_L1_elements_), ((d_rows_L3 2), aI cy 21 rows_L3_elements_)]) (isC := []) (isR := [0, 1]) (isF := [0, 1]) (rest := []) (As := [.int x4, .int x5]) (n := 2) X Z (c_X6_hasRange l D cy q_rows_L3 d_rows_L3 rows_L3_type_ rows_L3_size_ x4 x5 u15 hc16) gX11_copyElements_X6_hasRange rfl (by decide +kernel) ⟨Nat.le_of_ble_eq_true rfl, Nat.le_of_ble_eq_true rfl⟩ ⟨rfl, rfl⟩ ⟨Nat.le_of_ble_eq_true rfl, Nat.le_of_ble_eq_true rfl⟩ (x_rvO X Z 2 rfl rfl) ⟨rfl, rfl, (roC (Or.inr (mem_at 2 rfl)) roN), rfl, rfl, by decide⟩ ⟨rfl, rfl⟩ rfl hl.1 rfl (Nat.le_of_ble_eq_true rfl) dX11_copyElements_86 (fun H locs Z => ?_)
              refine lv_if_ne (tgt := 95) hx hb dX11_copyElements_89 (by decide) (fun cnd => ?_) (fun cnd => ?_)
              · replace h := ifn h cnd
                refine lv_aload hx hb dX11_copyElements_95 (lv_at hl 1 rfl) ?_
                refine x_getO X Z 1 2 (v := .ref (d_rows_L1 2)) rfl rfl lk_X11_copyElements_X6_elements dX11_copyElements_97 ?_
                refine lv_iload_n hx hb dX11_copyElements_100 rfl (lv_at hl 4 rfl) ?_
                refine lv_aload hx hb dX11_copyElements_101 (lv_at hl 0 rfl) ?_
                refine x_getO X Z 2 2 (v := .ref (d_rows_L3 2)) rfl rfl lk_X11_copyElements_X6_elements dX11_copyElements_103 ?_
                refine lv_iload hx hb dX11_copyElements_106 (lv_at hl 6 rfl) ?_
                refine lv_iload hx hb dX11_copyElements_108 (lv_at hl 7 rfl) ?_
                obtain ⟨hcx19, rows_L3_elements_17, hv18, h⟩ := cp_b h
                refine x_cpyI X Z hl 0 1 (RW_X11_copyElements cy o q_rows_L1 q_rows_L3 d d_rows_L1 d_rows_L3 mono rows_L1_elements_ rows_L3_elements_17) lc_X11_copyElements_303 rfl rfl hcx19 hv18 rfl (Nat.le_of_ble_eq_true rfl) (Nat.le_of_ble_eq_true rfl) dX11_copyElements_110 (fun H locs Z => ?_)
                refine lv_iload hx hb dX11_copyElements_113 (lv_at hl 7 rfl) ?_
                obtain rfl := Option.some.inj h
                exact K H locs ls _ dX11_copyElements_115 Z
              · replace h := ifp h cnd
                refine lv_bipush (v := (-13 : Int32)) hx hb dX11_copyElements_92 (by decide) ?_
                obtain rfl := Option.some.inj h
                exact K H locs ls _ dX11_copyElements_94 Z
          · replace h := ifn h cnd
            refine lv_bipush (v := (-6 : Int32)) hx hb dX11_copyElements_66 (by decide) ?_
            obtain rfl := Option.some.inj h
            exact K H locs ls _ dX11_copyElements_68 Z
        · replace h := ifp h cnd
          refine lv_bipush (v := (-11 : Int32)) hx hb dX11_copyElements_50 (by decide) ?_
          obtain rfl := Option.some.inj h
          exact K H locs ls _ dX11_copyElements_52 Z
    · replace h := ifp h cnd
      refine lv_iconst (v := (-1 : Int32)) hx hb dX11_copyElements_14 (by decide) ?_
      obtain rfl := Option.some.inj h
      exact K H locs ls _ dX11_copyElements_15 Z
theorem c_X11_copyElements (l : Launch) (D : va_G) (cy : Nat → ClassId) (o : Nat) (q_rows_L1 : Nat) (q_rows_L3 : Nat) (d : Nat → Nat) (d_rows_L1 : Nat → Nat) (d_rows_L3 : Nat → Nat) (mono : Value) (snapshotTaken_ : Int32) (inputLength_ : Int32) (rows_L1_type_ : Int32) (rows_L1_size_ : Int32) (rows_L3_type_ : Int32) (rows_L3_size_ : Int32) (rows_ : Nat → Option Nat) (rows_L1_elements_ : Nat → Int32) (rows_L3_elements_ : Nat → Int32) (x1 : Int32) (x2 : Int32) (x3 : Int32) (x4 : Int32) (x5 : Int32) (out : Int32 × (Nat → Int32)) (h : f_X11_copyElements x1 x2 x3 x4 x5 q_rows_L1 q_rows_L3 rows_L1_type_ rows_L1_size_ rows_L3_type_ rows_L3_size_ rows_ rows_L1_elements_ rows_L3_elements_ = some out) : CtI l yX11_copyElements wsX11_copyElements rm_X11_copyElements D cy [.ref o, .int x1, .int x2, .int x3, .int x4, .int x5] (RW_X11_copyElements cy o q_rows_L1 q_rows_L3 d d_rows_L1 d_rows_L3 mono rows_L1_elements_ rows_L3_elements_) (RO_X11_copyElements cy o q_rows_L1 q_rows_L3 d d_rows_L1 d_rows_L3 mono snapshotTaken_ inputLength_ rows_L1_type_ rows_L1_size_ rows_L3_type_ rows_L3_size_ rows_) (RW_X11_copyElements cy o q_rows_L1 q_rows_L3 d d_rows_L1 d_rows_L3 mono rows_L1_elements_ out.2) out.1 :=
  mk_i (ty := .int) (by decide) rfl rfl (Nat.le_of_ble_eq_true rfl) (fun p e s m args below meth c A Q X K H locs ls Z hl => wt_X11_copyElements o q_rows_L1 q_rows_L3 d d_rows_L1 d_rows_L3 mono snapshotTaken_ inputLength_ rows_L1_type_ rows_L1_size_ rows_L3_type_ rows_L3_size_ rows_ rows_L1_elements_ rows_L3_elements_ x1 x2 x3 x4 x5 out X h K H locs ls Z hl)
/-! SubwordCounter fillCounts (II)I -/
abbrev rm_X11_fillCounts : Room := { frames := 6, cells := 0, slots := 0, locals := 143 }
def RW_X11_fillCounts (cy : Nat → ClassId) (o : Nat) (q_now_languages_L2 : Nat) (q_rows_L1 : Nat) (n_now_languages_L2_tests : Nat) (n_now_languages_L2_values : Nat) (d : Nat → Nat) (d_now_languages_L2 : Nat → Nat) (d_rows_L1 : Nat → Nat) (d_now : Nat → Nat) (d_automaton : Nat → Nat) (d_automaton_tests : Nat → Nat) (mono : Value) (PT : va_W) (automaton_letters_ : Int32) (automaton_states_ : Int32) (lengthCounts_ : Nat → Int64) (rows_L1_elements_ : Nat → Int32) (automaton_tests_count_ : Int32) (automaton_next_ : Nat → Int32) (automaton_marks_ : Nat → Int32) (automaton_depth_ : Nat → Int32) (automaton_low_ : Nat → Int64) (automaton_high_ : Nat → Int64) (automaton_parent_ : Nat → Int32) (automaton_lastLetter_ : Nat → Int32) (automaton_slots_ : Nat → Int32) (automaton_paths_ : Nat → Int64) (automaton_longerPaths_ : Nat → Int64) (automaton_tests_members_ : Nat → Option Nat) : va_W := [((d 8), ob 0 (oX0 d_automaton automaton_letters_ automaton_states_)), ((d 11), aJ cy 21 lengthCounts_), ((d_rows_L1 2), aI cy 21 rows_L1_elements_), ((d_automaton 0), ob 1 (oX1 d_automaton_tests automaton_tests_count_)), ((d_automaton 3), aI cy 6000 automaton_next_), ((d_automaton 4), aI cy 2000 automaton_marks_), ((d_automaton 5), aI cy 2000 automaton_depth_), ((d_automaton 6), aJ cy 2000 automaton_low_), ((d_automaton 7), aJ cy 2000 automaton_high_), ((d_automaton 8), aI cy 2000 automaton_parent_), ((d_automaton 9), aI cy 2000 automaton_lastLetter_), ((d_automaton 10), aI cy 4096 automaton_slots_), ((d_automaton 11), aJ cy 2000 automaton_paths_), ((d_automaton 12), aJ cy 2000 automaton_longerPaths_), ((d_automaton_tests 0), aR cy 4 8 automaton_tests_members_)]
def RO_X11_fillCounts (cy : Nat → ClassId) (o : Nat) (q_now_languages_L2 : Nat) (q_rows_L1 : Nat) (n_now_languages_L2_tests : Nat) (n_now_languages_L2_values : Nat) (d : Nat → Nat) (d_now_languages_L2 : Nat → Nat) (d_rows_L1 : Nat → Nat) (d_now : Nat → Nat) (d_automaton : Nat → Nat) (d_automaton_tests : Nat → Nat) (mono : Value) (PT : va_W) (snapshotTaken_ : Int32) (inputLength_ : Int32) (now_languages_L2_form_ : Int32) (now_languages_L2_basics_ : Int32) (now_languages_L2_table_ : Int32) (rows_L1_type_ : Int32) (rows_L1_size_ : Int32) (now_letters_ : Int32) (rows_ : Nat → Option Nat) (now_languages_L2_tests_ : Nat → Option Nat) (now_languages_L2_values_ : Nat → Int32) (now_languages_ : Nat → Option Nat) : va_W := [(o, ob 10 (oX11 d mono snapshotTaken_ inputLength_)), (q_now_languages_L2, ob 2 (oX2 d_now_languages_L2 now_languages_L2_form_ now_languages_L2_basics_ now_languages_L2_table_)), (q_rows_L1, ob 6 (oX6 d_rows_L1 rows_L1_type_ rows_L1_size_)), ((d 0), ob 5 (oX5 d_now now_letters_)), ((d 5), aR cy 3 3 rows_), ((d_now_languages_L2 3), aR cy 4 n_now_languages_L2_tests now_languages_L2_tests_), ((d_now_languages_L2 4), aI cy n_now_languages_L2_values now_languages_L2_values_), ((d_now 3), aR cy 2 4 now_languages_)] ++ PT
theorem in_X11_fillCounts_X6 : ∀ w ∈ u_ws RX6 TX6 3, w ∈ wsX11_fillCounts := fun w h => (List.mem_cons_of_mem _ (List.mem_append_left _ (List.mem_append_left _ (List.mem_append_left _ (List.mem_append_left _ (List.mem_append_right _ h))))))
theorem lk_X11_fillCounts_X6_size : Lk wsX11_fillCounts RX11 290 6 1 := ⟨RX6, TX6, 3, rfl, by decide, in_X11_fillCounts_X6, mem_at 7 rfl⟩
theorem in_X11_fillCounts_X11 : ∀ w ∈ u_ws RX11 TX11 12, w ∈ wsX11_fillCounts := fun w h => (List.mem_cons_of_mem _ (List.mem_append_left _ (List.mem_append_left _ (List.mem_append_left _ (List.mem_append_left _ (List.mem_append_left _ (List.mem_append_left _ (List.mem_append_right _ h))))))))
theorem lk_X11_fillCounts_X11_lengthCounts : Lk wsX11_fillCounts RX11 69 10 11 := ⟨RX11, TX11, 12, rfl, by decide, in_X11_fillCounts_X11, mem_at 6 rfl⟩
theorem lk_X11_fillCounts_X11_now : Lk wsX11_fillCounts RX11 10 10 0 := ⟨RX11, TX11, 12, rfl, by decide, in_X11_fillCounts_X11, mem_at 1 rfl⟩
theorem in_X11_fillCounts_X5 : ∀ w ∈ u_ws RX5 TX5 4, w ∈ wsX11_fillCounts := fun w h => (List.mem_cons_of_mem _ (List.mem_append_left _ (List.mem_append_left _ (List.mem_append_left _ (List.mem_append_left _ (List.mem_append_left _ (List.mem_append_right _ h)))))))
theorem lk_X11_fillCounts_X5_languages : Lk wsX11_fillCounts RX11 232 5 3 := ⟨RX5, TX5, 4, rfl, by decide, in_X11_fillCounts_X5, mem_at 2 rfl⟩
theorem lk_X11_fillCounts_X11_rows : Lk wsX11_fillCounts RX11 33 10 5 := ⟨RX11, TX11, 12, rfl, by decide, in_X11_fillCounts_X11, mem_at 3 rfl⟩
theorem lk_X11_fillCounts_X6_type : Lk wsX11_fillCounts RX11 287 6 0 := ⟨RX6, TX6, 3, rfl, by decide, in_X11_fillCounts_X6, mem_at 4 rfl⟩
theorem lk_X11_fillCounts_X11_automaton : Lk wsX11_fillCounts RX11 54 10 8 := ⟨RX11, TX11, 12, rfl, by decide, in_X11_fillCounts_X11, mem_at 5 rfl⟩
def b_X11_fillCounts_85 (n_now_languages_L2_tests : Nat) (n_now_languages_L2_values : Nat) (q_now_languages_L2 : Nat) (q_rows_L1 : Nat) (tq : Nat → Option TV) (rows_L1_type_ : Int32) (rows_L1_size_ : Int32) (lengthCounts_ : Nat → Int64) (rows_L1_elements_ : Nat → Int32) (x5 : Int32) : Option (((Nat → Int32) × Int32) ⊕ ((Nat → Int32))) :=
  if rows_L1_size_ ≤ x5 then
  (some (.inr rows_L1_elements_))
  else
  (ldA lengthCounts_ 21 x5 (fun v2 =>
  (f_X6_put x5 (v2.toInt32) rows_L1_type_ rows_L1_elements_).bind (fun u4 =>
  some (.inl (u4, (x5 + (1 : Int32)))))))
set_option maxHeartbeats 4000000 in
set_option maxRecDepth 100000 in
theorem wb_X11_fillCounts_85 {p : Program} {l : Launch} {e : Env} {s : State} {m : MethodId} {args : Array Value} {below : List Frame} {meth : Method} {c : Code} {A : Nat → Prop} {Q : State → Prop} {D : va_G} {cy : Nat → ClassId} (o : Nat) (q_now_languages_L2 : Nat) (q_rows_L1 : Nat) (n_now_languages_L2_tests : Nat) (n_now_languages_L2_values : Nat) (d : Nat → Nat) (d_now_languages_L2 : Nat → Nat) (d_rows_L1 : Nat → Nat) (d_now : Nat → Nat) (d_automaton : Nat → Nat) (d_automaton_tests : Nat → Nat) (mono : Value) (PT : va_W) (tq : Nat → Option TV) (snapshotTaken_ : Int32) (inputLength_ : Int32) (now_languages_L2_form_ : Int32) (now_languages_L2_basics_ : Int32) (now_languages_L2_table_ : Int32) (rows_L1_type_ : Int32) (rows_L1_size_ : Int32) (now_letters_ : Int32) (rows_ : Nat → Option Nat) (now_languages_L2_tests_ : Nat → Option Nat) (now_languages_L2_values_ : Nat → Int32) (now_languages_ : Nat → Option Nat) (automaton_letters_ : Int32) (automaton_states_ : Int32) (lengthCounts_ : Nat → Int64) (automaton_tests_count_ : Int32) (automaton_next_ : Nat → Int32) (automaton_marks_ : Nat → Int32) (automaton_depth_ : Nat → Int32) (automaton_low_ : Nat → Int64) (automaton_high_ : Nat → Int64) (automaton_parent_ : Nat → Int32) (automaton_lastLetter_ : Nat → Int32) (automaton_slots_ : Nat → Int32) (automaton_paths_ : Nat → Int64) (automaton_longerPaths_ : Nat → Int64) (automaton_tests_members_ : Nat → Option Nat) (rows_L1_elements_ : Nat → Int32) (x5 : Int32) (o1 : ((Nat → Int32) × Int32) ⊕ ((Nat → Int32))) (hT : TP cy PT tq) (X : Cx p m c cX11_fillCounts 6 s args wsX11_fillCounts RX11 A D cy (RO_X11_fillCounts cy o q_now_languages_L2 q_rows_L1 n_now_languages_L2_tests n_now_languages_L2_values d d_now_languages_L2 d_rows_L1 d_now d_automaton d_automaton_tests mono PT snapshotTaken_ inputLength_ now_languages_L2_form_ now_languages_L2_basics_ now_languages_L2_table_ rows_L1_type_ rows_L1_size_ now_letters_ rows_ now_languages_L2_tests_ now_languages_L2_values_ now_languages_)) (h : b_X11_fillCounts_85 n_now_languages_L2_tests n_now_languages_L2_values q_now_languages_L2 q_rows_L1 tq rows_L1_type_ rows_L1_size_ lengthCounts_ rows_L1_elements_ x5 = some o1) (K : Sum.elim (fun v : (Nat → Int32) × Int32 => ∀ (H : Heap) (locs : List Loc) (ls : Array Slot), St A D s (RW_X11_fillCounts cy o q_now_languages_L2 q_rows_L1 n_now_languages_L2_tests n_now_languages_L2_values d d_now_languages_L2 d_rows_L1 d_now d_automaton d_automaton_tests mono PT automaton_letters_ automaton_states_ lengthCounts_ v.1 automaton_tests_count_ automaton_next_ automaton_marks_ automaton_depth_ automaton_low_ automaton_high_ automaton_parent_ automaton_lastLetter_ automaton_slots_ automaton_paths_ automaton_longerPaths_ automaton_tests_members_) H locs → lv_has ls 6 [(0, .ref o), (4, .ref q_rows_L1), (5, .int v.2)] → W p l e rm_X11_fillCounts s m args below meth c H locs 0 0 Q (F0 m 85 ls [])) (fun v : (Nat → Int32) => ∀ (H : Heap) (locs : List Loc) (ls : Array Slot), St A D s (RW_X11_fillCounts cy o q_now_languages_L2 q_rows_L1 n_now_languages_L2_tests n_now_languages_L2_values d d_now_languages_L2 d_rows_L1 d_now d_automaton d_automaton_tests mono PT automaton_letters_ automaton_states_ lengthCounts_ v automaton_tests_count_ automaton_next_ automaton_marks_ automaton_depth_ automaton_low_ automaton_high_ automaton_parent_ automaton_lastLetter_ automaton_slots_ automaton_paths_ automaton_longerPaths_ automaton_tests_members_) H locs → lv_has ls 6 [(4, .ref q_rows_L1)] → W p l e rm_X11_fillCounts s m args below meth c H locs 0 0 Q (F0 m 116 ls [])) o1) : ∀ (H : Heap) (locs : List Loc) (ls : Array Slot), St A D s (RW_X11_fillCounts cy o q_now_languages_L2 q_rows_L1 n_now_languages_L2_tests n_now_languages_L2_values d d_now_languages_L2 d_rows_L1 d_now d_automaton d_automaton_tests mono PT automaton_letters_ automaton_states_ lengthCounts_ rows_L1_elements_ automaton_tests_count_ automaton_next_ automaton_marks_ automaton_depth_ automaton_low_ automaton_high_ automaton_parent_ automaton_lastLetter_ automaton_slots_ automaton_paths_ automaton_longerPaths_ automaton_tests_members_) H locs → lv_has ls 6 [(0, .ref o), (4, .ref q_rows_L1), (5, .int x5)] → W p l e rm_X11_fillCounts s m args below meth c H locs 0 0 Q (F0 m 85 ls []) := by
  intro H locs ls Z hl
  have hx := X.1.1
  have hb := X.1.2.1
  unfold b_X11_fillCounts_85 at h
  refine lv_iload hx hb dX11_fillCounts_85 (lv_at hl 2 rfl) ?_
  refine lv_aload hx hb dX11_fillCounts_87 (lv_at hl 1 rfl) ?_
  refine x_getO X Z 2 1 (v := .int rows_L1_size_) rfl rfl lk_X11_fillCounts_X6_size dX11_fillCounts_89 ?_
  refine lv_icmp_ge (tgt := 116) hx hb dX11_fillCounts_92 (by decide) (fun cnd => ?_) (fun cnd => ?_)
  · replace h := ifp h cnd
    obtain rfl := Option.some.inj h
    exact (sk_r K) H locs ls Z (lv_sub hl [1] rfl)
  · replace h := ifn h cnd
    refine lv_aload hx hb dX11_fillCounts_95 (lv_at hl 1 rfl) ?_
    refine lv_iload hx hb dX11_fillCounts_97 (lv_at hl 2 rfl) ?_
    refine lv_aload_n hx hb dX11_fillCounts_99 rfl (lv_at hl 0 rfl) ?_
    refine x_getO X Z 0 11 (v := .ref (d 11)) rfl rfl lk_X11_fillCounts_X11_lengthCounts dX11_fillCounts_100 ?_
    refine lv_iload hx hb dX11_fillCounts_103 (lv_at hl 2 rfl) ?_
    obtain ⟨hin1, v2, hv3, h⟩ := ld_b h
    refine x_lald X Z 1 rfl hin1 hv3 dX11_fillCounts_105 ?_
    refine lv_l2i (v := (v2.toInt32)) hx hb dX11_fillCounts_106 rfl ?_
    obtain ⟨u4, hc5, h⟩ := ob_some h
    refine x_runVv (RW' := (RW_X11_fillCounts cy o q_now_languages_L2 q_rows_L1 n_now_languages_L2_tests n_now_languages_L2_values d d_now_languages_L2 d_rows_L1 d_now d_automaton d_automaton_tests mono PT automaton_letters_ automaton_states_ lengthCounts_ u4 automaton_tests_count_ automaton_next_ automaton_marks_ automaton_depth_ automaton_low_ automaton_high_ automaton_parent_ automaton_lastLetter_ automaton_slots_ automaton_paths_ automaton_longerPaths_ automaton_tests_members_)) (wr := [((d 8), ob 0 (oX0 d_automaton automaton_letters_ automaton_states_)), ((d 11), aJ cy 21 lengthCounts_), ((d_automaton 0), ob 1 (oX1 d_automaton_tests automaton_tests_count_)), ((d_automaton 3), aI cy 6000 automaton_next_), ((d_automaton 4), aI cy 2000 automaton_marks_), ((d_automaton 5), aI cy 2000 automaton_depth_), ((d_automaton 6), aJ cy 2000 automaton_low_), ((d_automaton 7), aJ cy 2000 automaton_high_), ((d_automaton 8), aI cy 2000 automaton_parent_), ((d_automaton 9), aI cy 2000 automaton_lastLetter_), ((d_automaton 10), aI cy 4096 automaton_slots_), ((d_automaton 11), aJ cy 2000 automaton_paths_), ((d_automaton 12), aJ cy 2000 automaton_longerPaths_), ((d_automaton_tests 0), aR cy 4 8 automaton_tests_members_)]) (isC := [2]) (isR := [0, 1, 3, 4, 5, 6, 7, 8, 9, 10, 11, 12, 13, 14]) (isF := [0, 1, 14, 2, 3, 4, 5, 6, 7, 8, 9, 10, 11, 12, 13]) (rest := []) (As := [.int x5, .int (v2.toInt32)]) (n := 2) X Z (c_X6_put l D cy q_rows_L1 d_rows_L1 rows_L1_type_ rows_L1_size_ rows_L1_elements_ x5 (v2.toInt32) u4 hc5) gX11_fillCounts_X6_put rfl (by decide +kernel) ⟨Nat.le_of_ble_eq_true rfl, Nat.le_of_ble_eq_true rfl⟩ ⟨rfl, rfl⟩ ⟨Nat.le_of_ble_eq_true rfl, Nat.le_of_ble_eq_true rfl⟩ (x_rvO X Z 2 rfl rfl) ⟨rfl, rfl, (roC (Or.inr (mem_at 2 rfl)) roN), rfl, rfl, by decide⟩ ⟨rfl, rfl⟩ rfl hl.1 rfl (Nat.le_of_ble_eq_true rfl) dX11_fillCounts_107 (fun H locs Z => ?_)
    refine lv_iinc (v := (x5 + (1 : Int32))) (lv' := [(5, .int (x5 + (1 : Int32))), (0, .ref o), (4, .ref q_rows_L1)]) hx hb dX11_fillCounts_110 hl (k := 2) rfl rfl (by decide) rfl (fun ls hl => ?_)
    refine lv_goto (tgt := 85) hx hb dX11_fillCounts_113 (by decide) ?_
    obtain rfl := Option.some.inj h
    exact sk_l K H locs ls Z (lv_sub hl [1, 2, 0] rfl)
set_option maxHeartbeats 4000000 in
set_option maxRecDepth 100000 in
theorem wl_X11_fillCounts_85 {p : Program} {l : Launch} {e : Env} {s : State} {m : MethodId} {args : Array Value} {below : List Frame} {meth : Method} {c : Code} {A : Nat → Prop} {Q : State → Prop} {D : va_G} {cy : Nat → ClassId} (o : Nat) (q_now_languages_L2 : Nat) (q_rows_L1 : Nat) (n_now_languages_L2_tests : Nat) (n_now_languages_L2_values : Nat) (d : Nat → Nat) (d_now_languages_L2 : Nat → Nat) (d_rows_L1 : Nat → Nat) (d_now : Nat → Nat) (d_automaton : Nat → Nat) (d_automaton_tests : Nat → Nat) (mono : Value) (PT : va_W) (tq : Nat → Option TV) (snapshotTaken_ : Int32) (inputLength_ : Int32) (now_languages_L2_form_ : Int32) (now_languages_L2_basics_ : Int32) (now_languages_L2_table_ : Int32) (rows_L1_type_ : Int32) (rows_L1_size_ : Int32) (now_letters_ : Int32) (rows_ : Nat → Option Nat) (now_languages_L2_tests_ : Nat → Option Nat) (now_languages_L2_values_ : Nat → Int32) (now_languages_ : Nat → Option Nat) (automaton_letters_ : Int32) (automaton_states_ : Int32) (lengthCounts_ : Nat → Int64) (automaton_tests_count_ : Int32) (automaton_next_ : Nat → Int32) (automaton_marks_ : Nat → Int32) (automaton_depth_ : Nat → Int32) (automaton_low_ : Nat → Int64) (automaton_high_ : Nat → Int64) (automaton_parent_ : Nat → Int32) (automaton_lastLetter_ : Nat → Int32) (automaton_slots_ : Nat → Int32) (automaton_paths_ : Nat → Int64) (automaton_longerPaths_ : Nat → Int64) (automaton_tests_members_ : Nat → Option Nat) (n : Nat) (v : (Nat → Int32) × Int32) (x : (Nat → Int32)) (hT : TP cy PT tq) (X : Cx p m c cX11_fillCounts 6 s args wsX11_fillCounts RX11 A D cy (RO_X11_fillCounts cy o q_now_languages_L2 q_rows_L1 n_now_languages_L2_tests n_now_languages_L2_values d d_now_languages_L2 d_rows_L1 d_now d_automaton d_automaton_tests mono PT snapshotTaken_ inputLength_ now_languages_L2_form_ now_languages_L2_basics_ now_languages_L2_table_ rows_L1_type_ rows_L1_size_ now_letters_ rows_ now_languages_L2_tests_ now_languages_L2_values_ now_languages_)) (h : loopN (fun v => b_X11_fillCounts_85 n_now_languages_L2_tests n_now_languages_L2_values q_now_languages_L2 q_rows_L1 tq rows_L1_type_ rows_L1_size_ lengthCounts_ v.1 v.2) n v = some x) (K : ∀ (H : Heap) (locs : List Loc) (ls : Array Slot), St A D s (RW_X11_fillCounts cy o q_now_languages_L2 q_rows_L1 n_now_languages_L2_tests n_now_languages_L2_values d d_now_languages_L2 d_rows_L1 d_now d_automaton d_automaton_tests mono PT automaton_letters_ automaton_states_ lengthCounts_ x automaton_tests_count_ automaton_next_ automaton_marks_ automaton_depth_ automaton_low_ automaton_high_ automaton_parent_ automaton_lastLetter_ automaton_slots_ automaton_paths_ automaton_longerPaths_ automaton_tests_members_) H locs → lv_has ls 6 [(4, .ref q_rows_L1)] → W p l e rm_X11_fillCounts s m args below meth c H locs 0 0 Q (F0 m 116 ls [])) : ∀ (H : Heap) (locs : List Loc) (ls : Array Slot), St A D s (RW_X11_fillCounts cy o q_now_languages_L2 q_rows_L1 n_now_languages_L2_tests n_now_languages_L2_values d d_now_languages_L2 d_rows_L1 d_now d_automaton d_automaton_tests mono PT automaton_letters_ automaton_states_ lengthCounts_ v.1 automaton_tests_count_ automaton_next_ automaton_marks_ automaton_depth_ automaton_low_ automaton_high_ automaton_parent_ automaton_lastLetter_ automaton_slots_ automaton_paths_ automaton_longerPaths_ automaton_tests_members_) H locs → lv_has ls 6 [(0, .ref o), (4, .ref q_rows_L1), (5, .int v.2)] → W p l e rm_X11_fillCounts s m args below meth c H locs 0 0 Q (F0 m 85 ls []) :=
  loop_gen (B := (fun v => b_X11_fillCounts_85 n_now_languages_L2_tests n_now_languages_L2_values q_now_languages_L2 q_rows_L1 tq rows_L1_type_ rows_L1_size_ lengthCounts_ v.1 v.2)) (Head := fun v : (Nat → Int32) × Int32 => ∀ (H : Heap) (locs : List Loc) (ls : Array Slot), St A D s (RW_X11_fillCounts cy o q_now_languages_L2 q_rows_L1 n_now_languages_L2_tests n_now_languages_L2_values d d_now_languages_L2 d_rows_L1 d_now d_automaton d_automaton_tests mono PT automaton_letters_ automaton_states_ lengthCounts_ v.1 automaton_tests_count_ automaton_next_ automaton_marks_ automaton_depth_ automaton_low_ automaton_high_ automaton_parent_ automaton_lastLetter_ automaton_slots_ automaton_paths_ automaton_longerPaths_ automaton_tests_members_) H locs → lv_has ls 6 [(0, .ref o), (4, .ref q_rows_L1), (5, .int v.2)] → W p l e rm_X11_fillCounts s m args below meth c H locs 0 0 Q (F0 m 85 ls [])) (Exit := fun v : (Nat → Int32) => ∀ (H : Heap) (locs : List Loc) (ls : Array Slot), St A D s (RW_X11_fillCounts cy o q_now_languages_L2 q_rows_L1 n_now_languages_L2_tests n_now_languages_L2_values d d_now_languages_L2 d_rows_L1 d_now d_automaton d_automaton_tests mono PT automaton_letters_ automaton_states_ lengthCounts_ v automaton_tests_count_ automaton_next_ automaton_marks_ automaton_depth_ automaton_low_ automaton_high_ automaton_parent_ automaton_lastLetter_ automaton_slots_ automaton_paths_ automaton_longerPaths_ automaton_tests_members_) H locs → lv_has ls 6 [(4, .ref q_rows_L1)] → W p l e rm_X11_fillCounts s m args below meth c H locs 0 0 Q (F0 m 116 ls [])) (fun v o9 hb1 K1 => wb_X11_fillCounts_85 o q_now_languages_L2 q_rows_L1 n_now_languages_L2_tests n_now_languages_L2_values d d_now_languages_L2 d_rows_L1 d_now d_automaton d_automaton_tests mono PT tq snapshotTaken_ inputLength_ now_languages_L2_form_ now_languages_L2_basics_ now_languages_L2_table_ rows_L1_type_ rows_L1_size_ now_letters_ rows_ now_languages_L2_tests_ now_languages_L2_values_ now_languages_ automaton_letters_ automaton_states_ lengthCounts_ automaton_tests_count_ automaton_next_ automaton_marks_ automaton_depth_ automaton_low_ automaton_high_ automaton_parent_ automaton_lastLetter_ automaton_slots_ automaton_paths_ automaton_longerPaths_ automaton_tests_members_ v.1 v.2 o9 hT X hb1 K1) n v x h K
def f_X11_fillCounts (x1 : Int32) (x2 : Int32) (n_now_languages_L2_tests : Nat) (n_now_languages_L2_values : Nat) (q_now_languages_L2 : Nat) (q_rows_L1 : Nat) (tq : Nat → Option TV) (now_languages_L2_basics_ : Int32) (now_languages_L2_table_ : Int32) (rows_L1_type_ : Int32) (rows_L1_size_ : Int32) (now_letters_ : Int32) (rows_ : Nat → Option Nat) (now_languages_L2_tests_ : Nat → Option Nat) (now_languages_L2_values_ : Nat → Int32) (now_languages_ : Nat → Option Nat) (automaton_letters_ : Int32) (automaton_states_ : Int32) (lengthCounts_ : Nat → Int64) (rows_L1_elements_ : Nat → Int32) (automaton_tests_count_ : Int32) (automaton_next_ : Nat → Int32) (automaton_marks_ : Nat → Int32) (automaton_depth_ : Nat → Int32) (automaton_low_ : Nat → Int64) (automaton_high_ : Nat → Int64) (automaton_parent_ : Nat → Int32) (automaton_lastLetter_ : Nat → Int32) (automaton_slots_ : Nat → Int32) (automaton_paths_ : Nat → Int64) (automaton_longerPaths_ : Nat → Int64) (automaton_tests_members_ : Nat → Option Nat) : Option (Int32 × Int32 × Int32 × (Nat → Int64) × (Nat → Int32) × Int32 × (Nat → Int32) × (Nat → Int32) × (Nat → Int32) × (Nat → Int64) × (Nat → Int64) × (Nat → Int32) × (Nat → Int32) × (Nat → Int32) × (Nat → Int64) × (Nat → Int64) × (Nat → Option Nat)) :=
  (f_X11_isRow x1).bind (fun u6 =>
  if u6 = 0 then
  (some ((-1 : Int32), automaton_letters_, automaton_states_, lengthCounts_, rows_L1_elements_, automaton_tests_count_, automaton_next_, automaton_marks_, automaton_depth_, automaton_low_, automaton_high_, automaton_parent_, automaton_lastLetter_, automaton_slots_, automaton_paths_, automaton_longerPaths_, automaton_tests_members_))
  else
  ((f_X11_isLanguage x2).bind (fun u8 =>
  if u8 = 0 then
  (some ((-1 : Int32), automaton_letters_, automaton_states_, lengthCounts_, rows_L1_elements_, automaton_tests_count_, automaton_next_, automaton_marks_, automaton_depth_, automaton_low_, automaton_high_, automaton_parent_, automaton_lastLetter_, automaton_slots_, automaton_paths_, automaton_longerPaths_, automaton_tests_members_))
  else
  (ldA now_languages_ 4 x2 (fun r11 =>
  nlA r11 (
  some ((-5 : Int32), automaton_letters_, automaton_states_, lengthCounts_, rows_L1_elements_, automaton_tests_count_, automaton_next_, automaton_marks_, automaton_depth_, automaton_low_, automaton_high_, automaton_parent_, automaton_lastLetter_, automaton_slots_, automaton_paths_, automaton_longerPaths_, automaton_tests_members_)) (
  asR r11 q_now_languages_L2 (
  ldA rows_ 3 x1 (fun r17 =>
  asR r17 q_rows_L1 (
  if rows_L1_type_ = (-1 : Int32) then
  (some ((-11 : Int32), automaton_letters_, automaton_states_, lengthCounts_, rows_L1_elements_, automaton_tests_count_, automaton_next_, automaton_marks_, automaton_depth_, automaton_low_, automaton_high_, automaton_parent_, automaton_lastLetter_, automaton_slots_, automaton_paths_, automaton_longerPaths_, automaton_tests_members_))
  else
  ((f_X11_exploreLanguage n_now_languages_L2_tests n_now_languages_L2_values tq now_languages_L2_basics_ now_languages_L2_table_ now_letters_ now_languages_L2_tests_ now_languages_L2_values_ automaton_letters_ automaton_states_ automaton_tests_count_ automaton_next_ automaton_marks_ automaton_depth_ automaton_low_ automaton_high_ automaton_parent_ automaton_lastLetter_ automaton_slots_ automaton_tests_members_).bind (fun u20 =>
  if u20.1 = 0 then
  (some ((-4 : Int32), u20.2.1, u20.2.2.1, lengthCounts_, rows_L1_elements_, u20.2.2.2.1, u20.2.2.2.2.1, u20.2.2.2.2.2.1, u20.2.2.2.2.2.2.1, u20.2.2.2.2.2.2.2.1, u20.2.2.2.2.2.2.2.2.1, u20.2.2.2.2.2.2.2.2.2.1, u20.2.2.2.2.2.2.2.2.2.2.1, u20.2.2.2.2.2.2.2.2.2.2.2.1, automaton_paths_, automaton_longerPaths_, u20.2.2.2.2.2.2.2.2.2.2.2.2))
  else
  ((f_X0_countByLength (rows_L1_size_ - (1 : Int32)) 21 u20.2.1 u20.2.2.1 u20.2.2.2.2.1 u20.2.2.2.2.2.1 lengthCounts_ automaton_paths_ automaton_longerPaths_).bind (fun u22 =>
  (loopN (fun v => b_X11_fillCounts_85 n_now_languages_L2_tests n_now_languages_L2_values q_now_languages_L2 q_rows_L1 tq rows_L1_type_ rows_L1_size_ u22.1 v.1 v.2) FU (rows_L1_elements_, (0 : Int32))).bind (fun u24 =>
  some (rows_L1_size_, u20.2.1, u20.2.2.1, u22.1, u24, u20.2.2.2.1, u20.2.2.2.2.1, u20.2.2.2.2.2.1, u20.2.2.2.2.2.2.1, u20.2.2.2.2.2.2.2.1, u20.2.2.2.2.2.2.2.2.1, u20.2.2.2.2.2.2.2.2.2.1, u20.2.2.2.2.2.2.2.2.2.2.1, u20.2.2.2.2.2.2.2.2.2.2.2.1, u22.2.1, u22.2.2, u20.2.2.2.2.2.2.2.2.2.2.2.2)))))))))))))))
set_option maxHeartbeats 4000000 in
set_option maxRecDepth 100000 in
theorem wt_X11_fillCounts {p : Program} {l : Launch} {e : Env} {s : State} {m : MethodId} {args : Array Value} {below : List Frame} {meth : Method} {c : Code} {A : Nat → Prop} {Q : State → Prop} {D : va_G} {cy : Nat → ClassId} (o : Nat) (q_now_languages_L2 : Nat) (q_rows_L1 : Nat) (n_now_languages_L2_tests : Nat) (n_now_languages_L2_values : Nat) (d : Nat → Nat) (d_now_languages_L2 : Nat → Nat) (d_rows_L1 : Nat → Nat) (d_now : Nat → Nat) (d_automaton : Nat → Nat) (d_automaton_tests : Nat → Nat) (mono : Value) (PT : va_W) (tq : Nat → Option TV) (snapshotTaken_ : Int32) (inputLength_ : Int32) (now_languages_L2_form_ : Int32) (now_languages_L2_basics_ : Int32) (now_languages_L2_table_ : Int32) (rows_L1_type_ : Int32) (rows_L1_size_ : Int32) (now_letters_ : Int32) (rows_ : Nat → Option Nat) (now_languages_L2_tests_ : Nat → Option Nat) (now_languages_L2_values_ : Nat → Int32) (now_languages_ : Nat → Option Nat) (automaton_letters_ : Int32) (automaton_states_ : Int32) (lengthCounts_ : Nat → Int64) (rows_L1_elements_ : Nat → Int32) (automaton_tests_count_ : Int32) (automaton_next_ : Nat → Int32) (automaton_marks_ : Nat → Int32) (automaton_depth_ : Nat → Int32) (automaton_low_ : Nat → Int64) (automaton_high_ : Nat → Int64) (automaton_parent_ : Nat → Int32) (automaton_lastLetter_ : Nat → Int32) (automaton_slots_ : Nat → Int32) (automaton_paths_ : Nat → Int64) (automaton_longerPaths_ : Nat → Int64) (automaton_tests_members_ : Nat → Option Nat) (x1 : Int32) (x2 : Int32) (out : Int32 × Int32 × Int32 × (Nat → Int64) × (Nat → Int32) × Int32 × (Nat → Int32) × (Nat → Int32) × (Nat → Int32) × (Nat → Int64) × (Nat → Int64) × (Nat → Int32) × (Nat → Int32) × (Nat → Int32) × (Nat → Int64) × (Nat → Int64) × (Nat → Option Nat)) (hT : TP cy PT tq) (X : Cx p m c cX11_fillCounts 6 s args wsX11_fillCounts RX11 A D cy (RO_X11_fillCounts cy o q_now_languages_L2 q_rows_L1 n_now_languages_L2_tests n_now_languages_L2_values d d_now_languages_L2 d_rows_L1 d_now d_automaton d_automaton_tests mono PT snapshotTaken_ inputLength_ now_languages_L2_form_ now_languages_L2_basics_ now_languages_L2_table_ rows_L1_type_ rows_L1_size_ now_letters_ rows_ now_languages_L2_tests_ now_languages_L2_values_ now_languages_)) (h : f_X11_fillCounts x1 x2 n_now_languages_L2_tests n_now_languages_L2_values q_now_languages_L2 q_rows_L1 tq now_languages_L2_basics_ now_languages_L2_table_ rows_L1_type_ rows_L1_size_ now_letters_ rows_ now_languages_L2_tests_ now_languages_L2_values_ now_languages_ automaton_letters_ automaton_states_ lengthCounts_ rows_L1_elements_ automaton_tests_count_ automaton_next_ automaton_marks_ automaton_depth_ automaton_low_ automaton_high_ automaton_parent_ automaton_lastLetter_ automaton_slots_ automaton_paths_ automaton_longerPaths_ automaton_tests_members_ = some out) (K : ∀ (H : Heap) (locs : List Loc) (ls : Array Slot) (pc : Nat), decode cX11_fillCounts pc = .ok (.ireturn, 1) → St A D s (RW_X11_fillCounts cy o q_now_languages_L2 q_rows_L1 n_now_languages_L2_tests n_now_languages_L2_values d d_now_languages_L2 d_rows_L1 d_now d_automaton d_automaton_tests mono PT out.2.1 out.2.2.1 out.2.2.2.1 out.2.2.2.2.1 out.2.2.2.2.2.1 out.2.2.2.2.2.2.1 out.2.2.2.2.2.2.2.1 out.2.2.2.2.2.2.2.2.1 out.2.2.2.2.2.2.2.2.2.1 out.2.2.2.2.2.2.2.2.2.2.1 out.2.2.2.2.2.2.2.2.2.2.2.1 out.2.2.2.2.2.2.2.2.2.2.2.2.1 out.2.2.2.2.2.2.2.2.2.2.2.2.2.1 out.2.2.2.2.2.2.2.2.2.2.2.2.2.2.1 out.2.2.2.2.2.2.2.2.2.2.2.2.2.2.2.1 out.2.2.2.2.2.2.2.2.2.2.2.2.2.2.2.2) H locs → W p l e rm_X11_fillCounts s m args below meth c H locs 0 0 Q (F0 m pc ls [.int out.1])) : ∀ (H : Heap) (locs : List Loc) (ls : Array Slot), St A D s (RW_X11_fillCounts cy o q_now_languages_L2 q_rows_L1 n_now_languages_L2_tests n_now_languages_L2_values d d_now_languages_L2 d_rows_L1 d_now d_automaton d_automaton_tests mono PT automaton_letters_ automaton_states_ lengthCounts_ rows_L1_elements_ automaton_tests_count_ automaton_next_ automaton_marks_ automaton_depth_ automaton_low_ automaton_high_ automaton_parent_ automaton_lastLetter_ automaton_slots_ automaton_paths_ automaton_longerPaths_ automaton_tests_members_) H locs → lv_has ls 6 [(0, .ref o), (1, .int x1), (2, .int x2)] → W p l e rm_X11_fillCounts s m args below meth c H locs 0 0 Q (F0 m 0 ls []) := by
  intro H locs ls Z hl
  have hx := X.1.1
  have hb := X.1.2.1
  unfold f_X11_fillCounts at h
  refine lv_iload_n hx hb dX11_fillCounts_0 rfl (lv_at hl 1 rfl) ?_
  obtain ⟨u6, hc7, h⟩ := ob_some h
  refine x_runSi (RW' := (RW_X11_fillCounts cy o q_now_languages_L2 q_rows_L1 n_now_languages_L2_tests n_now_languages_L2_values d d_now_languages_L2 d_rows_L1 d_now d_automaton d_automaton_tests mono PT automaton_letters_ automaton_states_ lengthCounts_ rows_L1_elements_ automaton_tests_count_ automaton_next_ automaton_marks_ automaton_depth_ automaton_low_ automaton_high_ automaton_parent_ automaton_lastLetter_ automaton_slots_ automaton_paths_ automaton_longerPaths_ automaton_tests_members_)) (wr := [((d 8), ob 0 (oX0 d_automaton automaton_letters_ automaton_states_)), ((d 11), aJ cy 21 lengthCounts_), ((d_rows_L1 2), aI cy 21 rows_L1_elements_), ((d_automaton 0), ob 1 (oX1 d_automaton_tests automaton_tests_count_)), ((d_automaton 3), aI cy 6000 automaton_next_), ((d_automaton 4), aI cy 2000 automaton_marks_), ((d_automaton 5), aI cy 2000 automaton_depth_), ((d_automaton 6), aJ cy 2000 automaton_low_), ((d_automaton 7), aJ cy 2000 automaton_high_), ((d_automaton 8), aI cy 2000 automaton_parent_), ((d_automaton 9), aI cy 2000 automaton_lastLetter_), ((d_automaton 10), aI cy 4096 automaton_slots_), ((d_automaton 11), aJ cy 2000 automaton_paths_), ((d_automaton 12), aJ cy 2000 automaton_longerPaths_), ((d_automaton_tests 0), aR cy 4 8 automaton_tests_members_)]) (isC := []) (isR := [0, 1, 2, 3, 4, 5, 6, 7, 8, 9, 10, 11, 12, 13, 14]) (isF := [0, 1, 2, 3, 4, 5, 6, 7, 8, 9, 10, 11, 12, 13, 14]) (rest := []) (As := [.int x1]) (n := 1) X Z (c_X11_isRow l D cy x1 u6 hc7) gX11_fillCounts_X11_isRow rfl (by decide +kernel) ⟨Nat.le_of_ble_eq_true rfl, Nat.le_of_ble_eq_true rfl⟩ ⟨rfl, rfl⟩ ⟨Nat.le_of_ble_eq_true rfl, Nat.le_of_ble_eq_true rfl⟩ ⟨rfl, rfl, roN, rfl, rfl, by decide⟩ ⟨rfl, rfl⟩ rfl hl.1 rfl (Nat.le_of_ble_eq_true rfl) dX11_fillCounts_1 (fun H locs Z => ?_)
  refine lv_if_eq (tgt := 14) hx hb dX11_fillCounts_4 (by decide) (fun cnd => ?_) (fun cnd => ?_)
  · replace h := ifp h cnd
    refine lv_iconst (v := (-1 : Int32)) hx hb dX11_fillCounts_14 (by decide) ?_
    obtain rfl := Option.some.inj h
    exact K H locs ls _ dX11_fillCounts_15 Z
  · replace h := ifn h cnd
    refine lv_iload_n hx hb dX11_fillCounts_7 rfl (lv_at hl 2 rfl) ?_
    obtain ⟨u8, hc9, h⟩ := ob_some h
    refine x_runSi (RW' := (RW_X11_fillCounts cy o q_now_languages_L2 q_rows_L1 n_now_languages_L2_tests n_now_languages_L2_values d d_now_languages_L2 d_rows_L1 d_now d_automaton d_automaton_tests mono PT automaton_letters_ automaton_states_ lengthCounts_ rows_L1_elements_ automaton_tests_count_ automaton_next_ automaton_marks_ automaton_depth_ automaton_low_ automaton_high_ automaton_parent_ automaton_lastLetter_ automaton_slots_ automaton_paths_ automaton_longerPaths_ automaton_tests_members_)) (wr := [((d 8), ob 0 (oX0 d_automaton automaton_letters_ automaton_states_)), ((d 11), aJ cy 21 lengthCounts_), ((d_rows_L1 2), aI cy 21 rows_L1_elements_), ((d_automaton 0), ob 1 (oX1 d_automaton_tests automaton_tests_count_)), ((d_automaton 3), aI cy 6000 automaton_next_), ((d_automaton 4), aI cy 2000 automaton_marks_), ((d_automaton 5), aI cy 2000 automaton_depth_), ((d_automaton 6), aJ cy 2000 automaton_low_), ((d_automaton 7), aJ cy 2000 automaton_high_), ((d_automaton 8), aI cy 2000 automaton_parent_), ((d_automaton 9), aI cy 2000 automaton_lastLetter_), ((d_automaton 10), aI cy 4096 automaton_slots_), ((d_automaton 11), aJ cy 2000 automaton_paths_), ((d_automaton 12), aJ cy 2000 automaton_longerPaths_), ((d_automaton_tests 0), aR cy 4 8 automaton_tests_members_)]) (isC := []) (isR := [0, 1, 2, 3, 4, 5, 6, 7, 8, 9, 10, 11, 12, 13, 14]) (isF := [0, 1, 2, 3, 4, 5, 6, 7, 8, 9, 10, 11, 12, 13, 14]) (rest := []) (As := [.int x2]) (n := 1) X Z (c_X11_isLanguage l D cy x2 u8 hc9) gX11_fillCounts_X11_isLanguage rfl (by decide +kernel) ⟨Nat.le_of_ble_eq_true rfl, Nat.le_of_ble_eq_true rfl⟩ ⟨rfl, rfl⟩ ⟨Nat.le_of_ble_eq_true rfl, Nat.le_of_ble_eq_true rfl⟩ ⟨rfl, rfl, roN, rfl, rfl, by decide⟩ ⟨rfl, rfl⟩ rfl hl.1 rfl (Nat.le_of_ble_eq_true rfl) dX11_fillCounts_8 (fun H locs Z => ?_)
    refine lv_if_ne (tgt := 16) hx hb dX11_fillCounts_11 (by decide) (fun cnd => ?_) (fun cnd => ?_)
    · replace h := ifn h cnd
      refine lv_aload_n hx hb dX11_fillCounts_16 rfl (lv_at hl 0 rfl) ?_
      refine x_getO X Z 0 0 (v := .ref (d 0)) rfl rfl lk_X11_fillCounts_X11_now dX11_fillCounts_17 ?_
      refine x_getO X Z 3 3 (v := .ref (d_now 3)) rfl rfl lk_X11_fillCounts_X5_languages dX11_fillCounts_20 ?_
      refine lv_iload_n hx hb dX11_fillCounts_23 rfl (lv_at hl 2 rfl) ?_
      obtain ⟨hin10, r11, hv12, h⟩ := ld_b h
      refine x_raldqO X Z 7 2 rfl rfl hin10 hv12 dX11_fillCounts_24 (fun hr13 => ?_) (fun b14 hr13 => ?_)
      · replace h := nl_n h hr13
        refine lv_astore_nN (lv' := [(3, .null), (0, .ref o), (1, .int x1), (2, .int x2)]) hx hb dX11_fillCounts_25 rfl hl (by decide) rfl (fun ls hl => ?_)
        refine lv_aload_nN hx hb dX11_fillCounts_26 rfl (lv_at hl 0 rfl) ?_
        refine lv_ifnonnullN hx hb dX11_fillCounts_27 ?_
        refine lv_bipush (v := (-5 : Int32)) hx hb dX11_fillCounts_30 (by decide) ?_
        obtain rfl := Option.some.inj h
        exact K H locs ls _ dX11_fillCounts_32 Z
      · replace h := nl_s h hr13
        obtain ⟨ha15, h⟩ := as_b h
        obtain rfl : q_now_languages_L2 = b14 := Option.some.inj (ha15.symm.trans hr13)
        refine lv_astore_n (lv' := [(3, .ref q_now_languages_L2), (0, .ref o), (1, .int x1), (2, .int x2)]) hx hb dX11_fillCounts_25 rfl hl (by decide) rfl (fun ls hl => ?_)
        refine lv_aload_n hx hb dX11_fillCounts_26 rfl (lv_at hl 0 rfl) ?_
        refine lv_ifnonnull (tgt := 33) hx hb dX11_fillCounts_27 (by decide) ?_
        refine lv_aload_n hx hb dX11_fillCounts_33 rfl (lv_at hl 1 rfl) ?_
        refine x_getO X Z 0 5 (v := .ref (d 5)) rfl rfl lk_X11_fillCounts_X11_rows dX11_fillCounts_34 ?_
        refine lv_iload_n hx hb dX11_fillCounts_37 rfl (lv_at hl 2 rfl) ?_
        obtain ⟨hin16, r17, hv18, h⟩ := ld_b h
        obtain ⟨ha19, h⟩ := as_b h
        refine x_raldO X Z 4 3 rfl rfl hin16 hv18 ha19 dX11_fillCounts_38 ?_
        refine lv_astore (lv' := [(4, .ref q_rows_L1), (3, .ref q_now_languages_L2), (0, .ref o), (1, .int x1), (2, .int x2)]) hx hb dX11_fillCounts_39 hl (by decide) rfl (fun ls hl => ?_)
        refine lv_aload hx hb dX11_fillCounts_41 (lv_at hl 0 rfl) ?_
        refine x_getO X Z 2 0 (v := .int rows_L1_type_) rfl rfl lk_X11_fillCounts_X6_type dX11_fillCounts_43 ?_
        refine lv_iconst (v := (-1 : Int32)) hx hb dX11_fillCounts_46 (by decide) ?_
        refine lv_icmp_ne (tgt := 53) hx hb dX11_fillCounts_47 (by decide) (fun cnd => ?_) (fun cnd => ?_)
        · replace h := ifn h cnd
          refine lv_aload_n hx hb dX11_fillCounts_53 rfl (lv_at hl 2 rfl) ?_
          refine lv_aload_n hx hb dX11_fillCounts_54 rfl (lv_at hl 1 rfl) ?_
          obtain ⟨u20, hc21, h⟩ := ob_some h
          refine x_runVi (RW' := (RW_X11_fillCounts cy o q_now_languages_L2 q_rows_L1 n_now_languages_L2_tests n_now_languages_L2_values d d_now_languages_L2 d_rows_L1 d_now d_automaton d_automaton_tests mono PT u20.2.1 u20.2.2.1 lengthCounts_ rows_L1_elements_ u20.2.2.2.1 u20.2.2.2.2.1 u20.2.2.2.2.2.1 u20.2.2.2.2.2.2.1 u20.2.2.2.2.2.2.2.1 u20.2.2.2.2.2.2.2.2.1 u20.2.2.2.2.2.2.2.2.2.1 u20.2.2.2.2.2.2.2.2.2.2.1 u20.2.2.2.2.2.2.2.2.2.2.2.1 automaton_paths_ automaton_longerPaths_ u20.2.2.2.2.2.2.2.2.2.2.2.2)) (wr := [((d 11), aJ cy 21 lengthCounts_), ((d_rows_L1 2), aI cy 21 rows_L1_elements_), ((d_automaton 11), aJ cy 2000 automaton_paths_), ((d_automaton 12), aJ cy 2000 automaton_longerPaths_)]) (isC := [0, 3, 4, 5, 6, 7, 8, 9, 10, 11, 14]) (isR := [1, 2, 12, 13]) (isF := [4, 0, 1, 5, 6, 7, 8, 9, 10, 11, 12, 13, 2, 3, 14]) (rest := []) (As := [.ref q_now_languages_L2]) (n := 1) X Z (c_X11_exploreLanguage l D cy o q_now_languages_L2 n_now_languages_L2_tests n_now_languages_L2_values d d_now_languages_L2 d_now d_automaton d_automaton_tests mono PT tq snapshotTaken_ inputLength_ now_languages_L2_form_ now_languages_L2_basics_ now_languages_L2_table_ now_letters_ now_languages_L2_tests_ now_languages_L2_values_ automaton_letters_ automaton_states_ automaton_tests_count_ automaton_next_ automaton_marks_ automaton_depth_ automaton_low_ automaton_high_ automaton_parent_ automaton_lastLetter_ automaton_slots_ automaton_tests_members_ u20 hT hc21) gX11_fillCounts_X11_exploreLanguage rfl (by decide +kernel) ⟨Nat.le_of_ble_eq_true rfl, Nat.le_of_ble_eq_true rfl⟩ ⟨rfl, rfl⟩ ⟨Nat.le_of_ble_eq_true rfl, Nat.le_of_ble_eq_true rfl⟩ (x_rvO X Z 0 rfl rfl) ⟨rfl, rfl, (roC (Or.inr (mem_at 0 rfl)) (roC (Or.inr (mem_at 1 rfl)) (roC (Or.inr (mem_at 3 rfl)) (roC (Or.inr (mem_at 5 rfl)) (roC (Or.inr (mem_at 6 rfl)) (fun q hq => Or.inr (List.mem_append_right _ hq))))))), rfl, rfl, by decide⟩ ⟨rfl, rfl⟩ rfl hl.1 rfl (Nat.le_of_ble_eq_true rfl) dX11_fillCounts_55 (fun H locs Z => ?_)
          refine lv_if_ne (tgt := 64) hx hb dX11_fillCounts_58 (by decide) (fun cnd => ?_) (fun cnd => ?_)
          · replace h := ifn h cnd
            refine lv_aload_n hx hb dX11_fillCounts_64 rfl (lv_at hl 2 rfl) ?_
            refine x_getO X Z 0 8 (v := .ref (d 8)) rfl rfl lk_X11_fillCounts_X11_automaton dX11_fillCounts_65 ?_
            refine lv_aload_n hx hb dX11_fillCounts_68 rfl (lv_at hl 2 rfl) ?_
            refine x_getO X Z 0 11 (v := .ref (d 11)) rfl rfl lk_X11_fillCounts_X11_lengthCounts dX11_fillCounts_69 ?_
            refine lv_aload hx hb dX11_fillCounts_72 (lv_at hl 0 rfl) ?_
            refine x_getO X Z 2 1 (v := .int rows_L1_size_) rfl rfl lk_X11_fillCounts_X6_size dX11_fillCounts_74 ?_
            refine lv_iconst (v := (1 : Int32)) hx hb dX11_fillCounts_77 (by decide) ?_
            refine lv_isub hx hb dX11_fillCounts_78 ?_
            obtain ⟨u22, hc23, h⟩ := ob_some h
            refine x_runVv (RW' := (RW_X11_fillCounts cy o q_now_languages_L2 q_rows_L1 n_now_languages_L2_tests n_now_languages_L2_values d d_now_languages_L2 d_rows_L1 d_now d_automaton d_automaton_tests mono PT u20.2.1 u20.2.2.1 u22.1 rows_L1_elements_ u20.2.2.2.1 u20.2.2.2.2.1 u20.2.2.2.2.2.1 u20.2.2.2.2.2.2.1 u20.2.2.2.2.2.2.2.1 u20.2.2.2.2.2.2.2.2.1 u20.2.2.2.2.2.2.2.2.2.1 u20.2.2.2.2.2.2.2.2.2.2.1 u20.2.2.2.2.2.2.2.2.2.2.2.1 u22.2.1 u22.2.2 u20.2.2.2.2.2.2.2.2.2.2.2.2)) (wr := [((d 8), ob 0 (oX0 d_automaton u20.2.1 u20.2.2.1)), ((d_rows_L1 2), aI cy 21 rows_L1_elements_), ((d_automaton 0), ob 1 (oX1 d_automaton_tests u20.2.2.2.1)), ((d_automaton 3), aI cy 6000 u20.2.2.2.2.1), ((d_automaton 4), aI cy 2000 u20.2.2.2.2.2.1), ((d_automaton 5), aI cy 2000 u20.2.2.2.2.2.2.1), ((d_automaton 6), aJ cy 2000 u20.2.2.2.2.2.2.2.1), ((d_automaton 7), aJ cy 2000 u20.2.2.2.2.2.2.2.2.1), ((d_automaton 8), aI cy 2000 u20.2.2.2.2.2.2.2.2.2.1), ((d_automaton 9), aI cy 2000 u20.2.2.2.2.2.2.2.2.2.2.1), ((d_automaton 10), aI cy 4096 u20.2.2.2.2.2.2.2.2.2.2.2.1), ((d_automaton_tests 0), aR cy 4 8 u20.2.2.2.2.2.2.2.2.2.2.2.2)]) (isC := [1, 12, 13]) (isR := [0, 2, 3, 4, 5, 6, 7, 8, 9, 10, 11, 14]) (isF := [0, 12, 1, 2, 3, 4, 5, 6, 7, 8, 9, 10, 13, 14, 11]) (rest := []) (As := [.ref (d 11), .int (rows_L1_size_ - (1 : Int32))]) (n := 2) X Z (c_X0_countByLength l D cy (d 8) (d 11) 21 d_automaton u20.2.1 u20.2.2.1 u20.2.2.2.2.1 u20.2.2.2.2.2.1 lengthCounts_ automaton_paths_ automaton_longerPaths_ (rows_L1_size_ - (1 : Int32)) u22 hc23) gX11_fillCounts_X0_countByLength rfl (by decide +kernel) ⟨Nat.le_of_ble_eq_true rfl, Nat.le_of_ble_eq_true rfl⟩ ⟨rfl, rfl⟩ ⟨Nat.le_of_ble_eq_true rfl, Nat.le_of_ble_eq_true rfl⟩ (x_rv X Z 0 rfl rfl) ⟨rfl, rfl, (roC (Or.inl (mem_at 0 rfl)) (roC (Or.inl (mem_at 3 rfl)) (roC (Or.inl (mem_at 4 rfl)) roN))), rfl, rfl, by decide⟩ ⟨rfl, rfl⟩ rfl hl.1 rfl (Nat.le_of_ble_eq_true rfl) dX11_fillCounts_79 (fun H locs Z => ?_)
            refine lv_iconst (v := (0 : Int32)) hx hb dX11_fillCounts_82 (by decide) ?_
            refine lv_istore (lv' := [(5, .int (0 : Int32)), (4, .ref q_rows_L1), (3, .ref q_now_languages_L2), (0, .ref o), (1, .int x1), (2, .int x2)]) hx hb dX11_fillCounts_83 hl (by decide) rfl (fun ls hl => ?_)
            obtain ⟨u24, hL25, h⟩ := ob_some h
            refine wl_X11_fillCounts_85 o q_now_languages_L2 q_rows_L1 n_now_languages_L2_tests n_now_languages_L2_values d d_now_languages_L2 d_rows_L1 d_now d_automaton d_automaton_tests mono PT tq snapshotTaken_ inputLength_ now_languages_L2_form_ now_languages_L2_basics_ now_languages_L2_table_ rows_L1_type_ rows_L1_size_ now_letters_ rows_ now_languages_L2_tests_ now_languages_L2_values_ now_languages_ u20.2.1 u20.2.2.1 u22.1 u20.2.2.2.1 u20.2.2.2.2.1 u20.2.2.2.2.2.1 u20.2.2.2.2.2.2.1 u20.2.2.2.2.2.2.2.1 u20.2.2.2.2.2.2.2.2.1 u20.2.2.2.2.2.2.2.2.2.1 u20.2.2.2.2.2.2.2.2.2.2.1 u20.2.2.2.2.2.2.2.2.2.2.2.1 u22.2.1 u22.2.2 u20.2.2.2.2.2.2.2.2.2.2.2.2 FU (rows_L1_elements_, (0 : Int32)) u24 hT X hL25 (fun H locs ls Z hl => ?_) H locs ls Z (lv_sub hl [3, 1, 0] rfl)
            refine lv_aload hx hb dX11_fillCounts_116 (lv_at hl 0 rfl) ?_
            refine x_getO X Z 2 1 (v := .int rows_L1_size_) rfl rfl lk_X11_fillCounts_X6_size dX11_fillCounts_118 ?_
            obtain rfl := Option.some.inj h
            exact K H locs ls _ dX11_fillCounts_121 Z
          · replace h := ifp h cnd
            refine lv_bipush (v := (-4 : Int32)) hx hb dX11_fillCounts_61 (by decide) ?_
            obtain rfl := Option.some.inj h
            exact K H locs ls _ dX11_fillCounts_63 Z
        · replace h := ifp h cnd
          refine lv_bipush (v := (-11 : Int32)) hx hb dX11_fillCounts_50 (by decide) ?_
          obtain rfl := Option.some.inj h
          exact K H locs ls _ dX11_fillCounts_52 Z
    · replace h := ifp h cnd
      refine lv_iconst (v := (-1 : Int32)) hx hb dX11_fillCounts_14 (by decide) ?_
      obtain rfl := Option.some.inj h
      exact K H locs ls _ dX11_fillCounts_15 Z
theorem c_X11_fillCounts (l : Launch) (D : va_G) (cy : Nat → ClassId) (o : Nat) (q_now_languages_L2 : Nat) (q_rows_L1 : Nat) (n_now_languages_L2_tests : Nat) (n_now_languages_L2_values : Nat) (d : Nat → Nat) (d_now_languages_L2 : Nat → Nat) (d_rows_L1 : Nat → Nat) (d_now : Nat → Nat) (d_automaton : Nat → Nat) (d_automaton_tests : Nat → Nat) (mono : Value) (PT : va_W) (tq : Nat → Option TV) (snapshotTaken_ : Int32) (inputLength_ : Int32) (now_languages_L2_form_ : Int32) (now_languages_L2_basics_ : Int32) (now_languages_L2_table_ : Int32) (rows_L1_type_ : Int32) (rows_L1_size_ : Int32) (now_letters_ : Int32) (rows_ : Nat → Option Nat) (now_languages_L2_tests_ : Nat → Option Nat) (now_languages_L2_values_ : Nat → Int32) (now_languages_ : Nat → Option Nat) (automaton_letters_ : Int32) (automaton_states_ : Int32) (lengthCounts_ : Nat → Int64) (rows_L1_elements_ : Nat → Int32) (automaton_tests_count_ : Int32) (automaton_next_ : Nat → Int32) (automaton_marks_ : Nat → Int32) (automaton_depth_ : Nat → Int32) (automaton_low_ : Nat → Int64) (automaton_high_ : Nat → Int64) (automaton_parent_ : Nat → Int32) (automaton_lastLetter_ : Nat → Int32) (automaton_slots_ : Nat → Int32) (automaton_paths_ : Nat → Int64) (automaton_longerPaths_ : Nat → Int64) (automaton_tests_members_ : Nat → Option Nat) (x1 : Int32) (x2 : Int32) (out : Int32 × Int32 × Int32 × (Nat → Int64) × (Nat → Int32) × Int32 × (Nat → Int32) × (Nat → Int32) × (Nat → Int32) × (Nat → Int64) × (Nat → Int64) × (Nat → Int32) × (Nat → Int32) × (Nat → Int32) × (Nat → Int64) × (Nat → Int64) × (Nat → Option Nat)) (hT : TP cy PT tq) (h : f_X11_fillCounts x1 x2 n_now_languages_L2_tests n_now_languages_L2_values q_now_languages_L2 q_rows_L1 tq now_languages_L2_basics_ now_languages_L2_table_ rows_L1_type_ rows_L1_size_ now_letters_ rows_ now_languages_L2_tests_ now_languages_L2_values_ now_languages_ automaton_letters_ automaton_states_ lengthCounts_ rows_L1_elements_ automaton_tests_count_ automaton_next_ automaton_marks_ automaton_depth_ automaton_low_ automaton_high_ automaton_parent_ automaton_lastLetter_ automaton_slots_ automaton_paths_ automaton_longerPaths_ automaton_tests_members_ = some out) : CtI l yX11_fillCounts wsX11_fillCounts rm_X11_fillCounts D cy [.ref o, .int x1, .int x2] (RW_X11_fillCounts cy o q_now_languages_L2 q_rows_L1 n_now_languages_L2_tests n_now_languages_L2_values d d_now_languages_L2 d_rows_L1 d_now d_automaton d_automaton_tests mono PT automaton_letters_ automaton_states_ lengthCounts_ rows_L1_elements_ automaton_tests_count_ automaton_next_ automaton_marks_ automaton_depth_ automaton_low_ automaton_high_ automaton_parent_ automaton_lastLetter_ automaton_slots_ automaton_paths_ automaton_longerPaths_ automaton_tests_members_) (RO_X11_fillCounts cy o q_now_languages_L2 q_rows_L1 n_now_languages_L2_tests n_now_languages_L2_values d d_now_languages_L2 d_rows_L1 d_now d_automaton d_automaton_tests mono PT snapshotTaken_ inputLength_ now_languages_L2_form_ now_languages_L2_basics_ now_languages_L2_table_ rows_L1_type_ rows_L1_size_ now_letters_ rows_ now_languages_L2_tests_ now_languages_L2_values_ now_languages_) (RW_X11_fillCounts cy o q_now_languages_L2 q_rows_L1 n_now_languages_L2_tests n_now_languages_L2_values d d_now_languages_L2 d_rows_L1 d_now d_automaton d_automaton_tests mono PT out.2.1 out.2.2.1 out.2.2.2.1 out.2.2.2.2.1 out.2.2.2.2.2.1 out.2.2.2.2.2.2.1 out.2.2.2.2.2.2.2.1 out.2.2.2.2.2.2.2.2.1 out.2.2.2.2.2.2.2.2.2.1 out.2.2.2.2.2.2.2.2.2.2.1 out.2.2.2.2.2.2.2.2.2.2.2.1 out.2.2.2.2.2.2.2.2.2.2.2.2.1 out.2.2.2.2.2.2.2.2.2.2.2.2.2.1 out.2.2.2.2.2.2.2.2.2.2.2.2.2.2.1 out.2.2.2.2.2.2.2.2.2.2.2.2.2.2.2.1 out.2.2.2.2.2.2.2.2.2.2.2.2.2.2.2.2) out.1 :=
  mk_i (ty := .int) (by decide) rfl rfl (Nat.le_of_ble_eq_true rfl) (fun p e s m args below meth c A Q X K H locs ls Z hl => wt_X11_fillCounts o q_now_languages_L2 q_rows_L1 n_now_languages_L2_tests n_now_languages_L2_values d d_now_languages_L2 d_rows_L1 d_now d_automaton d_automaton_tests mono PT tq snapshotTaken_ inputLength_ now_languages_L2_form_ now_languages_L2_basics_ now_languages_L2_table_ rows_L1_type_ rows_L1_size_ now_letters_ rows_ now_languages_L2_tests_ now_languages_L2_values_ now_languages_ automaton_letters_ automaton_states_ lengthCounts_ rows_L1_elements_ automaton_tests_count_ automaton_next_ automaton_marks_ automaton_depth_ automaton_low_ automaton_high_ automaton_parent_ automaton_lastLetter_ automaton_slots_ automaton_paths_ automaton_longerPaths_ automaton_tests_members_ x1 x2 out hT X h K H locs ls Z hl)
/-! SubwordCounter$Bundle copyFrom (LSubwordCounter$Bundle;)V -/
abbrev rm_X1_copyFrom : Room := { frames := 1, cells := 0, slots := 0, locals := 26 }
def RW_X1_copyFrom (cy : Nat → ClassId) (o : Nat) (q_p1 : Nat) (d : Nat → Nat) (d_p1 : Nat → Nat) (PT : va_W) (count_ : Int32) (members_ : Nat → Option Nat) (p1_members_ : Nat → Option Nat) : va_W := [(o, ob 1 (oX1 d count_)), ((d 0), aR cy 4 8 members_), ((d_p1 0), aR cy 4 8 p1_members_)]
def RO_X1_copyFrom (cy : Nat → ClassId) (o : Nat) (q_p1 : Nat) (d : Nat → Nat) (d_p1 : Nat → Nat) (PT : va_W) (p1_count_ : Int32) : va_W := [(q_p1, ob 1 (oX1 d_p1 p1_count_))] ++ PT
theorem in_X1_copyFrom_X1 : ∀ w ∈ u_ws RX1 TX1 2, w ∈ wsX1_copyFrom := fun w h => (List.mem_cons_of_mem _ (List.mem_append_right _ h))
theorem lk_X1_copyFrom_X1_members : Lk wsX1_copyFrom RX1 13 1 0 := ⟨RX1, TX1, 2, rfl, by decide, in_X1_copyFrom_X1, mem_at 1 rfl⟩
theorem lc_X1_copyFrom_21 : Lc wsX1_copyFrom RX1 21 := ⟨mem_at 2 rfl, mem_at 3 rfl, mem_at 4 rfl, mem_at 5 rfl⟩
theorem lk_X1_copyFrom_X1_count : Lk wsX1_copyFrom RX1 17 1 1 := ⟨RX1, TX1, 2, rfl, by decide, in_X1_copyFrom_X1, mem_at 6 rfl⟩
theorem lp_X1_copyFrom_X1_count : Lp wsX1_copyFrom RX1 17 1 1 .int := ⟨RX1, TX1, 2, tyX1, rfl, by decide, in_X1_copyFrom_X1, mem_at 6 rfl, tyX1_ok, nmX1, rfl, by decide +kernel⟩
def f_X1_copyFrom (tq : Nat → Option TV) (p1_count_ : Int32) (p1_members_ : Nat → Option Nat) (count_ : Int32) (members_ : Nat → Option Nat) : Option (Int32 × (Nat → Option Nat)) :=
  cpR (fun y => (tq y).isSome) p1_members_ members_ 8 8 (0 : Int32) (0 : Int32) (8 : Int32) (fun members_1 =>
  some (p1_count_, members_1))
set_option maxHeartbeats 4000000 in
set_option maxRecDepth 100000 in
theorem wt_X1_copyFrom {p : Program} {l : Launch} {e : Env} {s : State} {m : MethodId} {args : Array Value} {below : List Frame} {meth : Method} {c : Code} {A : Nat → Prop} {Q : State → Prop} {D : va_G} {cy : Nat → ClassId} (o : Nat) (q_p1 : Nat) (d : Nat → Nat) (d_p1 : Nat → Nat) (PT : va_W) (tq : Nat → Option TV) (p1_count_ : Int32) (count_ : Int32) (members_ : Nat → Option Nat) (p1_members_ : Nat → Option Nat) (out : Int32 × (Nat → Option Nat)) (hT : TP cy PT tq) (X : Cx p m c cX1_copyFrom 2 s args wsX1_copyFrom RX1 A D cy (RO_X1_copyFrom cy o q_p1 d d_p1 PT p1_count_)) (h : f_X1_copyFrom tq p1_count_ p1_members_ count_ members_ = some out) (K : ∀ (H : Heap) (locs : List Loc) (ls : Array Slot) (pc : Nat), decode cX1_copyFrom pc = .ok (.return_, 1) → St A D s (RW_X1_copyFrom cy o q_p1 d d_p1 PT out.1 out.2 p1_members_) H locs → W p l e rm_X1_copyFrom s m args below meth c H locs 0 0 Q (F0 m pc ls [])) : ∀ (H : Heap) (locs : List Loc) (ls : Array Slot), St A D s (RW_X1_copyFrom cy o q_p1 d d_p1 PT count_ members_ p1_members_) H locs → lv_has ls 2 [(0, .ref o), (1, .ref q_p1)] → W p l e rm_X1_copyFrom s m args below meth c H locs 0 0 Q (F0 m 0 ls []) := by
  intro H locs ls Z hl
  have hx := X.1.1
  have hb := X.1.2.1
  unfold f_X1_copyFrom at h
  refine lv_aload_n hx hb dX1_copyFrom_0 rfl (lv_at hl 1 rfl) ?_
  refine x_getO X Z 0 0 (v := .ref (d_p1 0)) rfl rfl lk_X1_copyFrom_X1_members dX1_copyFrom_1 ?_
  refine lv_iconst (v := (0 : Int32)) hx hb dX1_copyFrom_4 (by decide) ?_
  refine lv_aload_n hx hb dX1_copyFrom_5 rfl (lv_at hl 0 rfl) ?_
  refine x_get X Z 0 0 (v := .ref (d 0)) rfl rfl lk_X1_copyFrom_X1_members dX1_copyFrom_6 ?_
  refine lv_iconst (v := (0 : Int32)) hx hb dX1_copyFrom_9 (by decide) ?_
  refine lv_bipush (v := (8 : Int32)) hx hb dX1_copyFrom_10 (by decide) ?_
  obtain ⟨hel4, h⟩ := cpR_b h
  obtain ⟨hcx3, members_1, hv2, h⟩ := cp_b h
  refine x_cpyR X Z hl 2 1 4 7 (RW_X1_copyFrom cy o q_p1 d d_p1 PT count_ members_1 p1_members_) lc_X1_copyFrom_21 rfl rfl rfl rfl hcx3 (fun i hi y hy => by obtain ⟨fs, hm⟩ := tp_ok hT (hel4 i hi y hy); exact ⟨fs, List.mem_append_right _ hm⟩) hv2 rfl (Nat.le_of_ble_eq_true rfl) (Nat.le_of_ble_eq_true rfl) dX1_copyFrom_12 (fun H locs Z => ?_)
  refine lv_aload_n hx hb dX1_copyFrom_15 rfl (lv_at hl 0 rfl) ?_
  refine lv_aload_n hx hb dX1_copyFrom_16 rfl (lv_at hl 1 rfl) ?_
  refine x_getO X Z 0 1 (v := .int p1_count_) rfl rfl lk_X1_copyFrom_X1_count dX1_copyFrom_17 ?_
  refine x_put X Z 0 1 (RW_X1_copyFrom cy o q_p1 d d_p1 PT p1_count_ members_1 p1_members_) rfl lp_X1_copyFrom_X1_count (Nat.le_of_ble_eq_true rfl) rfl dX1_copyFrom_20 (fun H locs Z => ?_)
  obtain rfl := Option.some.inj h
  exact K H locs ls _ dX1_copyFrom_23 Z
theorem c_X1_copyFrom (l : Launch) (D : va_G) (cy : Nat → ClassId) (o : Nat) (q_p1 : Nat) (d : Nat → Nat) (d_p1 : Nat → Nat) (PT : va_W) (tq : Nat → Option TV) (p1_count_ : Int32) (count_ : Int32) (members_ : Nat → Option Nat) (p1_members_ : Nat → Option Nat) (out : Int32 × (Nat → Option Nat)) (hT : TP cy PT tq) (h : f_X1_copyFrom tq p1_count_ p1_members_ count_ members_ = some out) : CtV l yX1_copyFrom wsX1_copyFrom rm_X1_copyFrom D cy [.ref o, .ref q_p1] (RW_X1_copyFrom cy o q_p1 d d_p1 PT count_ members_ p1_members_) (RO_X1_copyFrom cy o q_p1 d d_p1 PT p1_count_) (RW_X1_copyFrom cy o q_p1 d d_p1 PT out.1 out.2 p1_members_) :=
  mk_v (by decide) rfl (Nat.le_of_ble_eq_true rfl) (fun p e s m args below meth c A Q X K H locs ls Z hl => wt_X1_copyFrom o q_p1 d d_p1 PT tq p1_count_ count_ members_ p1_members_ out hT X h K H locs ls Z hl)
/-! SubwordCounter$Registers copyFrom (LSubwordCounter$Registers;)V -/
abbrev rm_X5_copyFrom : Room := { frames := 2, cells := 0, slots := 0, locals := 47 }
def RW_X5_copyFrom (cy : Nat → ClassId) (o : Nat) (q_p1 : Nat) (q_p1_words_C0 : Nat) (q_p1_words_C1 : Nat) (q_p1_words_C2 : Nat) (q_words_C0 : Nat) (q_words_C1 : Nat) (q_words_C2 : Nat) (d : Nat → Nat) (d_p1 : Nat → Nat) (d_p1_words_C0 : Nat → Nat) (d_p1_words_C1 : Nat → Nat) (d_p1_words_C2 : Nat → Nat) (d_words_C0 : Nat → Nat) (d_words_C1 : Nat → Nat) (d_words_C2 : Nat → Nat) (d_tests : Nat → Nat) (d_p1_tests : Nat → Nat) (PT : va_W) (letters_ : Int32) (words_C0_size_ : Int32) (words_C1_size_ : Int32) (words_C2_size_ : Int32) (tests_count_ : Int32) (languages_ : Nat → Option Nat) (p1_languages_ : Nat → Option Nat) (p1_words_C0_letters_ : Nat → Int32) (p1_words_C1_letters_ : Nat → Int32) (p1_words_C2_letters_ : Nat → Int32) (words_C0_letters_ : Nat → Int32) (words_C1_letters_ : Nat → Int32) (words_C2_letters_ : Nat → Int32) (tests_members_ : Nat → Option Nat) (p1_tests_members_ : Nat → Option Nat) : va_W := [(o, ob 5 (oX5 d letters_)), (q_words_C0, ob 8 (oX9 d_words_C0 words_C0_size_)), (q_words_C1, ob 8 (oX9 d_words_C1 words_C1_size_)), (q_words_C2, ob 8 (oX9 d_words_C2 words_C2_size_)), ((d 2), ob 1 (oX1 d_tests tests_count_)), ((d 3), aR cy 2 4 languages_), ((d_p1 3), aR cy 2 4 p1_languages_), ((d_p1_words_C0 0), aI cy 12 p1_words_C0_letters_), ((d_p1_words_C1 0), aI cy 12 p1_words_C1_letters_), ((d_p1_words_C2 0), aI cy 12 p1_words_C2_letters_), ((d_words_C0 0), aI cy 12 words_C0_letters_), ((d_words_C1 0), aI cy 12 words_C1_letters_), ((d_words_C2 0), aI cy 12 words_C2_letters_), ((d_tests 0), aR cy 4 8 tests_members_), ((d_p1_tests 0), aR cy 4 8 p1_tests_members_)]
def RO_X5_copyFrom (cy : Nat → ClassId) (o : Nat) (q_p1 : Nat) (q_p1_words_C0 : Nat) (q_p1_words_C1 : Nat) (q_p1_words_C2 : Nat) (q_words_C0 : Nat) (q_words_C1 : Nat) (q_words_C2 : Nat) (d : Nat → Nat) (d_p1 : Nat → Nat) (d_p1_words_C0 : Nat → Nat) (d_p1_words_C1 : Nat → Nat) (d_p1_words_C2 : Nat → Nat) (d_words_C0 : Nat → Nat) (d_words_C1 : Nat → Nat) (d_words_C2 : Nat → Nat) (d_tests : Nat → Nat) (d_p1_tests : Nat → Nat) (PT : va_W) (p1_letters_ : Int32) (p1_words_C0_size_ : Int32) (p1_words_C1_size_ : Int32) (p1_words_C2_size_ : Int32) (words_ : Nat → Option Nat) (p1_words_ : Nat → Option Nat) (p1_tests_count_ : Int32) : va_W := [(q_p1, ob 5 (oX5 d_p1 p1_letters_)), (q_p1_words_C0, ob 8 (oX9 d_p1_words_C0 p1_words_C0_size_)), (q_p1_words_C1, ob 8 (oX9 d_p1_words_C1 p1_words_C1_size_)), (q_p1_words_C2, ob 8 (oX9 d_p1_words_C2 p1_words_C2_size_)), ((d 1), aR cy 5 3 words_), ((d_p1 1), aR cy 5 3 p1_words_), ((d_p1 2), ob 1 (oX1 d_p1_tests p1_tests_count_))] ++ PT
theorem in_X5_copyFrom_X5 : ∀ w ∈ u_ws RX5 TX5 4, w ∈ wsX5_copyFrom := fun w h => (List.mem_cons_of_mem _ (List.mem_append_left _ (List.mem_append_left _ (List.mem_append_right _ h))))
theorem lk_X5_copyFrom_X5_letters : Lk wsX5_copyFrom RX5 9 5 0 := ⟨RX5, TX5, 4, rfl, by decide, in_X5_copyFrom_X5, mem_at 1 rfl⟩
theorem lp_X5_copyFrom_X5_letters : Lp wsX5_copyFrom RX5 9 5 0 .int := ⟨RX5, TX5, 4, tyX5, rfl, by decide, in_X5_copyFrom_X5, mem_at 1 rfl, tyX5_ok, nmX5, rfl, by decide +kernel⟩
theorem lk_X5_copyFrom_X5_tests : Lk wsX5_copyFrom RX5 24 5 2 := ⟨RX5, TX5, 4, rfl, by decide, in_X5_copyFrom_X5, mem_at 2 rfl⟩
theorem lk_X5_copyFrom_X5_words : Lk wsX5_copyFrom RX5 17 5 1 := ⟨RX5, TX5, 4, rfl, by decide, in_X5_copyFrom_X5, mem_at 3 rfl⟩
theorem lk_X5_copyFrom_X5_languages : Lk wsX5_copyFrom RX5 30 5 3 := ⟨RX5, TX5, 4, rfl, by decide, in_X5_copyFrom_X5, mem_at 4 rfl⟩
theorem lc_X5_copyFrom_48 : Lc wsX5_copyFrom RX5 48 := ⟨mem_at 5 rfl, mem_at 6 rfl, mem_at 7 rfl, mem_at 8 rfl⟩
def f_X5_copyFrom (q_p1_words_C0 : Nat) (q_p1_words_C1 : Nat) (q_p1_words_C2 : Nat) (q_words_C0 : Nat) (q_words_C1 : Nat) (q_words_C2 : Nat) (tq : Nat → Option TV) (lq : Nat → Bool) (p1_letters_ : Int32) (p1_words_C0_size_ : Int32) (p1_words_C1_size_ : Int32) (p1_words_C2_size_ : Int32) (words_ : Nat → Option Nat) (p1_words_ : Nat → Option Nat) (p1_tests_count_ : Int32) (p1_languages_ : Nat → Option Nat) (p1_words_C0_letters_ : Nat → Int32) (p1_words_C1_letters_ : Nat → Int32) (p1_words_C2_letters_ : Nat → Int32) (p1_tests_members_ : Nat → Option Nat) (letters_ : Int32) (words_C0_size_ : Int32) (words_C1_size_ : Int32) (words_C2_size_ : Int32) (tests_count_ : Int32) (languages_ : Nat → Option Nat) (words_C0_letters_ : Nat → Int32) (words_C1_letters_ : Nat → Int32) (words_C2_letters_ : Nat → Int32) (tests_members_ : Nat → Option Nat) : Option (Int32 × Int32 × Int32 × Int32 × Int32 × (Nat → Option Nat) × (Nat → Int32) × (Nat → Int32) × (Nat → Int32) × (Nat → Option Nat)) :=
  (f_X1_copyFrom tq p1_tests_count_ p1_tests_members_ tests_count_ tests_members_).bind (fun u1 =>
  ldA words_ 3 (0 : Int32) (fun r4 =>
  asR r4 q_words_C0 (
  ldA p1_words_ 3 (0 : Int32) (fun r8 =>
  asR r8 q_p1_words_C0 (
  (f_X9_copyFrom p1_words_C0_size_ p1_words_C0_letters_ words_C0_size_ words_C0_letters_).bind (fun u11 =>
  ldA words_ 3 (1 : Int32) (fun r14 =>
  asR r14 q_words_C1 (
  ldA p1_words_ 3 (1 : Int32) (fun r18 =>
  asR r18 q_p1_words_C1 (
  (f_X9_copyFrom p1_words_C1_size_ p1_words_C1_letters_ words_C1_size_ words_C1_letters_).bind (fun u21 =>
  ldA words_ 3 (2 : Int32) (fun r24 =>
  asR r24 q_words_C2 (
  ldA p1_words_ 3 (2 : Int32) (fun r28 =>
  asR r28 q_p1_words_C2 (
  (f_X9_copyFrom p1_words_C2_size_ p1_words_C2_letters_ words_C2_size_ words_C2_letters_).bind (fun u31 =>
  cpR lq p1_languages_ languages_ 4 4 (0 : Int32) (0 : Int32) (4 : Int32) (fun languages_33 =>
  some (p1_letters_, u11.1, u21.1, u31.1, u1.1, languages_33, u11.2, u21.2, u31.2, u1.2))))))))))))))))))
set_option maxHeartbeats 4000000 in
set_option maxRecDepth 100000 in
theorem wt_X5_copyFrom {p : Program} {l : Launch} {e : Env} {s : State} {m : MethodId} {args : Array Value} {below : List Frame} {meth : Method} {c : Code} {A : Nat → Prop} {Q : State → Prop} {D : va_G} {cy : Nat → ClassId} (o : Nat) (q_p1 : Nat) (q_p1_words_C0 : Nat) (q_p1_words_C1 : Nat) (q_p1_words_C2 : Nat) (q_words_C0 : Nat) (q_words_C1 : Nat) (q_words_C2 : Nat) (d : Nat → Nat) (d_p1 : Nat → Nat) (d_p1_words_C0 : Nat → Nat) (d_p1_words_C1 : Nat → Nat) (d_p1_words_C2 : Nat → Nat) (d_words_C0 : Nat → Nat) (d_words_C1 : Nat → Nat) (d_words_C2 : Nat → Nat) (d_tests : Nat → Nat) (d_p1_tests : Nat → Nat) (PT : va_W) (tq : Nat → Option TV) (lq : Nat → Bool) (p1_letters_ : Int32) (p1_words_C0_size_ : Int32) (p1_words_C1_size_ : Int32) (p1_words_C2_size_ : Int32) (words_ : Nat → Option Nat) (p1_words_ : Nat → Option Nat) (p1_tests_count_ : Int32) (letters_ : Int32) (words_C0_size_ : Int32) (words_C1_size_ : Int32) (words_C2_size_ : Int32) (tests_count_ : Int32) (languages_ : Nat → Option Nat) (p1_languages_ : Nat → Option Nat) (p1_words_C0_letters_ : Nat → Int32) (p1_words_C1_letters_ : Nat → Int32) (p1_words_C2_letters_ : Nat → Int32) (words_C0_letters_ : Nat → Int32) (words_C1_letters_ : Nat → Int32) (words_C2_letters_ : Nat → Int32) (tests_members_ : Nat → Option Nat) (p1_tests_members_ : Nat → Option Nat) (out : Int32 × Int32 × Int32 × Int32 × Int32 × (Nat → Option Nat) × (Nat → Int32) × (Nat → Int32) × (Nat → Int32) × (Nat → Option Nat)) (hT : TP cy PT tq) (hU : LQ PT lq) (X : Cx p m c cX5_copyFrom 3 s args wsX5_copyFrom RX5 A D cy (RO_X5_copyFrom cy o q_p1 q_p1_words_C0 q_p1_words_C1 q_p1_words_C2 q_words_C0 q_words_C1 q_words_C2 d d_p1 d_p1_words_C0 d_p1_words_C1 d_p1_words_C2 d_words_C0 d_words_C1 d_words_C2 d_tests d_p1_tests PT p1_letters_ p1_words_C0_size_ p1_words_C1_size_ p1_words_C2_size_ words_ p1_words_ p1_tests_count_)) (h : f_X5_copyFrom q_p1_words_C0 q_p1_words_C1 q_p1_words_C2 q_words_C0 q_words_C1 q_words_C2 tq lq p1_letters_ p1_words_C0_size_ p1_words_C1_size_ p1_words_C2_size_ words_ p1_words_ p1_tests_count_ p1_languages_ p1_words_C0_letters_ p1_words_C1_letters_ p1_words_C2_letters_ p1_tests_members_ letters_ words_C0_size_ words_C1_size_ words_C2_size_ tests_count_ languages_ words_C0_letters_ words_C1_letters_ words_C2_letters_ tests_members_ = some out) (K : ∀ (H : Heap) (locs : List Loc) (ls : Array Slot) (pc : Nat), decode cX5_copyFrom pc = .ok (.return_, 1) → St A D s (RW_X5_copyFrom cy o q_p1 q_p1_words_C0 q_p1_words_C1 q_p1_words_C2 q_words_C0 q_words_C1 q_words_C2 d d_p1 d_p1_words_C0 d_p1_words_C1 d_p1_words_C2 d_words_C0 d_words_C1 d_words_C2 d_tests d_p1_tests PT out.1 out.2.1 out.2.2.1 out.2.2.2.1 out.2.2.2.2.1 out.2.2.2.2.2.1 p1_languages_ p1_words_C0_letters_ p1_words_C1_letters_ p1_words_C2_letters_ out.2.2.2.2.2.2.1 out.2.2.2.2.2.2.2.1 out.2.2.2.2.2.2.2.2.1 out.2.2.2.2.2.2.2.2.2 p1_tests_members_) H locs → W p l e rm_X5_copyFrom s m args below meth c H locs 0 0 Q (F0 m pc ls [])) : ∀ (H : Heap) (locs : List Loc) (ls : Array Slot), St A D s (RW_X5_copyFrom cy o q_p1 q_p1_words_C0 q_p1_words_C1 q_p1_words_C2 q_words_C0 q_words_C1 q_words_C2 d d_p1 d_p1_words_C0 d_p1_words_C1 d_p1_words_C2 d_words_C0 d_words_C1 d_words_C2 d_tests d_p1_tests PT letters_ words_C0_size_ words_C1_size_ words_C2_size_ tests_count_ languages_ p1_languages_ p1_words_C0_letters_ p1_words_C1_letters_ p1_words_C2_letters_ words_C0_letters_ words_C1_letters_ words_C2_letters_ tests_members_ p1_tests_members_) H locs → lv_has ls 3 [(0, .ref o), (1, .ref q_p1)] → W p l e rm_X5_copyFrom s m args below meth c H locs 0 0 Q (F0 m 0 ls []) := by
  intro H locs ls Z hl
  have hx := X.1.1
  have hb := X.1.2.1
  unfold f_X5_copyFrom at h
  refine lv_aload_n hx hb dX5_copyFrom_0 rfl (lv_at hl 0 rfl) ?_
  refine lv_aload_n hx hb dX5_copyFrom_1 rfl (lv_at hl 1 rfl) ?_
  refine x_getO X Z 0 0 (v := .int p1_letters_) rfl rfl lk_X5_copyFrom_X5_letters dX5_copyFrom_2 ?_
  refine x_put X Z 0 0 (RW_X5_copyFrom cy o q_p1 q_p1_words_C0 q_p1_words_C1 q_p1_words_C2 q_words_C0 q_words_C1 q_words_C2 d d_p1 d_p1_words_C0 d_p1_words_C1 d_p1_words_C2 d_words_C0 d_words_C1 d_words_C2 d_tests d_p1_tests PT p1_letters_ words_C0_size_ words_C1_size_ words_C2_size_ tests_count_ languages_ p1_languages_ p1_words_C0_letters_ p1_words_C1_letters_ p1_words_C2_letters_ words_C0_letters_ words_C1_letters_ words_C2_letters_ tests_members_ p1_tests_members_) rfl lp_X5_copyFrom_X5_letters (Nat.le_of_ble_eq_true rfl) rfl dX5_copyFrom_5 (fun H locs Z => ?_)
  refine lv_aload_n hx hb dX5_copyFrom_8 rfl (lv_at hl 0 rfl) ?_
  refine x_get X Z 0 2 (v := .ref (d 2)) rfl rfl lk_X5_copyFrom_X5_tests dX5_copyFrom_9 ?_
  refine lv_aload_n hx hb dX5_copyFrom_12 rfl (lv_at hl 1 rfl) ?_
  refine x_getO X Z 0 2 (v := .ref (d_p1 2)) rfl rfl lk_X5_copyFrom_X5_tests dX5_copyFrom_13 ?_
  obtain ⟨u1, hc2, h⟩ := ob_some h
  refine x_runVv (RW' := (RW_X5_copyFrom cy o q_p1 q_p1_words_C0 q_p1_words_C1 q_p1_words_C2 q_words_C0 q_words_C1 q_words_C2 d d_p1 d_p1_words_C0 d_p1_words_C1 d_p1_words_C2 d_words_C0 d_words_C1 d_words_C2 d_tests d_p1_tests PT p1_letters_ words_C0_size_ words_C1_size_ words_C2_size_ u1.1 languages_ p1_languages_ p1_words_C0_letters_ p1_words_C1_letters_ p1_words_C2_letters_ words_C0_letters_ words_C1_letters_ words_C2_letters_ u1.2 p1_tests_members_)) (wr := [(o, ob 5 (oX5 d p1_letters_)), (q_words_C0, ob 8 (oX9 d_words_C0 words_C0_size_)), (q_words_C1, ob 8 (oX9 d_words_C1 words_C1_size_)), (q_words_C2, ob 8 (oX9 d_words_C2 words_C2_size_)), ((d 3), aR cy 2 4 languages_), ((d_p1 3), aR cy 2 4 p1_languages_), ((d_p1_words_C0 0), aI cy 12 p1_words_C0_letters_), ((d_p1_words_C1 0), aI cy 12 p1_words_C1_letters_), ((d_p1_words_C2 0), aI cy 12 p1_words_C2_letters_), ((d_words_C0 0), aI cy 12 words_C0_letters_), ((d_words_C1 0), aI cy 12 words_C1_letters_), ((d_words_C2 0), aI cy 12 words_C2_letters_)]) (isC := [4, 13, 14]) (isR := [0, 1, 2, 3, 5, 6, 7, 8, 9, 10, 11, 12]) (isF := [0, 1, 2, 3, 12, 4, 5, 6, 7, 8, 9, 10, 11, 13, 14]) (rest := []) (As := [.ref (d_p1 2)]) (n := 1) X Z (c_X1_copyFrom l D cy (d 2) (d_p1 2) d_tests d_p1_tests PT tq p1_tests_count_ tests_count_ tests_members_ p1_tests_members_ u1 hT hc2) gX5_copyFrom_X1_copyFrom rfl (by decide +kernel) ⟨Nat.le_of_ble_eq_true rfl, Nat.le_of_ble_eq_true rfl⟩ ⟨rfl, rfl⟩ ⟨Nat.le_of_ble_eq_true rfl, Nat.le_of_ble_eq_true rfl⟩ (x_rv X Z 4 rfl rfl) ⟨rfl, rfl, (roC (Or.inr (mem_at 6 rfl)) (fun q hq => Or.inr (List.mem_append_right _ hq))), rfl, rfl, by decide⟩ ⟨rfl, rfl⟩ rfl hl.1 rfl (Nat.le_of_ble_eq_true rfl) dX5_copyFrom_16 (fun H locs Z => ?_)
  refine lv_iconst (v := (0 : Int32)) hx hb dX5_copyFrom_19 (by decide) ?_
  refine lv_istore_n (lv' := [(2, .int (0 : Int32)), (0, .ref o), (1, .ref q_p1)]) hx hb dX5_copyFrom_20 rfl hl (by decide) rfl (fun ls hl => ?_)
  refine lv_iload_n hx hb dX5_copyFrom_21 rfl (lv_at hl 0 rfl) ?_
  refine lv_iconst (v := (3 : Int32)) hx hb dX5_copyFrom_22 (by decide) ?_
  refine lv_icmp_ge (tgt := 47) hx hb dX5_copyFrom_23 (by decide) (fun cnd => absurd cnd (by decide)) (fun cnd => ?_)
  refine lv_aload_n hx hb dX5_copyFrom_26 rfl (lv_at hl 1 rfl) ?_
  refine x_get X Z 0 1 (v := .ref (d 1)) rfl rfl lk_X5_copyFrom_X5_words dX5_copyFrom_27 ?_
  refine lv_iload_n hx hb dX5_copyFrom_30 rfl (lv_at hl 0 rfl) ?_
  obtain ⟨hin3, r4, hv5, h⟩ := ld_b h
  obtain ⟨ha6, h⟩ := as_b h
  refine x_raldO X Z 4 5 rfl rfl hin3 hv5 ha6 dX5_copyFrom_31 ?_
  refine lv_aload_n hx hb dX5_copyFrom_32 rfl (lv_at hl 2 rfl) ?_
  refine x_getO X Z 0 1 (v := .ref (d_p1 1)) rfl rfl lk_X5_copyFrom_X5_words dX5_copyFrom_33 ?_
  refine lv_iload_n hx hb dX5_copyFrom_36 rfl (lv_at hl 0 rfl) ?_
  obtain ⟨hin7, r8, hv9, h⟩ := ld_b h
  obtain ⟨ha10, h⟩ := as_b h
  refine x_raldO X Z 5 5 rfl rfl hin7 hv9 ha10 dX5_copyFrom_37 ?_
  obtain ⟨u11, hc12, h⟩ := ob_some h
  refine x_runVv (RW' := (RW_X5_copyFrom cy o q_p1 q_p1_words_C0 q_p1_words_C1 q_p1_words_C2 q_words_C0 q_words_C1 q_words_C2 d d_p1 d_p1_words_C0 d_p1_words_C1 d_p1_words_C2 d_words_C0 d_words_C1 d_words_C2 d_tests d_p1_tests PT p1_letters_ u11.1 words_C1_size_ words_C2_size_ u1.1 languages_ p1_languages_ p1_words_C0_letters_ p1_words_C1_letters_ p1_words_C2_letters_ u11.2 words_C1_letters_ words_C2_letters_ u1.2 p1_tests_members_)) (wr := [(o, ob 5 (oX5 d p1_letters_)), (q_words_C1, ob 8 (oX9 d_words_C1 words_C1_size_)), (q_words_C2, ob 8 (oX9 d_words_C2 words_C2_size_)), ((d 2), ob 1 (oX1 d_tests u1.1)), ((d 3), aR cy 2 4 languages_), ((d_p1 3), aR cy 2 4 p1_languages_), ((d_p1_words_C1 0), aI cy 12 p1_words_C1_letters_), ((d_p1_words_C2 0), aI cy 12 p1_words_C2_letters_), ((d_words_C1 0), aI cy 12 words_C1_letters_), ((d_words_C2 0), aI cy 12 words_C2_letters_), ((d_tests 0), aR cy 4 8 u1.2), ((d_p1_tests 0), aR cy 4 8 p1_tests_members_)]) (isC := [1, 10, 7]) (isR := [0, 2, 3, 4, 5, 6, 8, 9, 11, 12, 13, 14]) (isF := [0, 12, 1, 2, 3, 4, 5, 14, 6, 7, 13, 8, 9, 10, 11]) (rest := []) (As := [.ref q_p1_words_C0]) (n := 1) X Z (c_X9_copyFrom l D cy q_words_C0 q_p1_words_C0 d_words_C0 d_p1_words_C0 p1_words_C0_size_ words_C0_size_ words_C0_letters_ p1_words_C0_letters_ u11 hc12) gX5_copyFrom_X9_copyFrom rfl (by decide +kernel) ⟨Nat.le_of_ble_eq_true rfl, Nat.le_of_ble_eq_true rfl⟩ ⟨rfl, rfl⟩ ⟨Nat.le_of_ble_eq_true rfl, Nat.le_of_ble_eq_true rfl⟩ (x_rv X Z 1 rfl rfl) ⟨rfl, rfl, (roC (Or.inr (mem_at 1 rfl)) roN), rfl, rfl, by decide⟩ ⟨rfl, rfl⟩ rfl hl.1 rfl (Nat.le_of_ble_eq_true rfl) dX5_copyFrom_38 (fun H locs Z => ?_)
  refine lv_iinc (v := (1 : Int32)) (lv' := [(2, .int (1 : Int32)), (0, .ref o), (1, .ref q_p1)]) hx hb dX5_copyFrom_41 hl (k := 0) rfl (by decide) (by decide) rfl (fun ls hl => ?_)
  refine lv_goto (tgt := 21) hx hb dX5_copyFrom_44 (by decide) ?_
  refine lv_iload_n hx hb dX5_copyFrom_21 rfl (lv_at hl 0 rfl) ?_
  refine lv_iconst (v := (3 : Int32)) hx hb dX5_copyFrom_22 (by decide) ?_
  refine lv_icmp_ge (tgt := 47) hx hb dX5_copyFrom_23 (by decide) (fun cnd => absurd cnd (by decide)) (fun cnd => ?_)
  refine lv_aload_n hx hb dX5_copyFrom_26 rfl (lv_at hl 1 rfl) ?_
  refine x_get X Z 0 1 (v := .ref (d 1)) rfl rfl lk_X5_copyFrom_X5_words dX5_copyFrom_27 ?_
  refine lv_iload_n hx hb dX5_copyFrom_30 rfl (lv_at hl 0 rfl) ?_
  obtain ⟨hin13, r14, hv15, h⟩ := ld_b h
  obtain ⟨ha16, h⟩ := as_b h
  refine x_raldO X Z 4 5 rfl rfl hin13 hv15 ha16 dX5_copyFrom_31 ?_
  refine lv_aload_n hx hb dX5_copyFrom_32 rfl (lv_at hl 2 rfl) ?_
  refine x_getO X Z 0 1 (v := .ref (d_p1 1)) rfl rfl lk_X5_copyFrom_X5_words dX5_copyFrom_33 ?_
  refine lv_iload_n hx hb dX5_copyFrom_36 rfl (lv_at hl 0 rfl) ?_
  obtain ⟨hin17, r18, hv19, h⟩ := ld_b h
  obtain ⟨ha20, h⟩ := as_b h
  refine x_raldO X Z 5 5 rfl rfl hin17 hv19 ha20 dX5_copyFrom_37 ?_
  obtain ⟨u21, hc22, h⟩ := ob_some h
  refine x_runVv (RW' := (RW_X5_copyFrom cy o q_p1 q_p1_words_C0 q_p1_words_C1 q_p1_words_C2 q_words_C0 q_words_C1 q_words_C2 d d_p1 d_p1_words_C0 d_p1_words_C1 d_p1_words_C2 d_words_C0 d_words_C1 d_words_C2 d_tests d_p1_tests PT p1_letters_ u11.1 u21.1 words_C2_size_ u1.1 languages_ p1_languages_ p1_words_C0_letters_ p1_words_C1_letters_ p1_words_C2_letters_ u11.2 u21.2 words_C2_letters_ u1.2 p1_tests_members_)) (wr := [(o, ob 5 (oX5 d p1_letters_)), (q_words_C0, ob 8 (oX9 d_words_C0 u11.1)), (q_words_C2, ob 8 (oX9 d_words_C2 words_C2_size_)), ((d 2), ob 1 (oX1 d_tests u1.1)), ((d 3), aR cy 2 4 languages_), ((d_p1 3), aR cy 2 4 p1_languages_), ((d_p1_words_C0 0), aI cy 12 p1_words_C0_letters_), ((d_p1_words_C2 0), aI cy 12 p1_words_C2_letters_), ((d_words_C0 0), aI cy 12 u11.2), ((d_words_C2 0), aI cy 12 words_C2_letters_), ((d_tests 0), aR cy 4 8 u1.2), ((d_p1_tests 0), aR cy 4 8 p1_tests_members_)]) (isC := [2, 11, 8]) (isR := [0, 1, 3, 4, 5, 6, 7, 9, 10, 12, 13, 14]) (isF := [0, 1, 12, 2, 3, 4, 5, 6, 14, 7, 8, 13, 9, 10, 11]) (rest := []) (As := [.ref q_p1_words_C1]) (n := 1) X Z (c_X9_copyFrom l D cy q_words_C1 q_p1_words_C1 d_words_C1 d_p1_words_C1 p1_words_C1_size_ words_C1_size_ words_C1_letters_ p1_words_C1_letters_ u21 hc22) gX5_copyFrom_X9_copyFrom rfl (by decide +kernel) ⟨Nat.le_of_ble_eq_true rfl, Nat.le_of_ble_eq_true rfl⟩ ⟨rfl, rfl⟩ ⟨Nat.le_of_ble_eq_true rfl, Nat.le_of_ble_eq_true rfl⟩ (x_rv X Z 2 rfl rfl) ⟨rfl, rfl, (roC (Or.inr (mem_at 2 rfl)) roN), rfl, rfl, by decide⟩ ⟨rfl, rfl⟩ rfl hl.1 rfl (Nat.le_of_ble_eq_true rfl) dX5_copyFrom_38 (fun H locs Z => ?_)
  refine lv_iinc (v := (2 : Int32)) (lv' := [(2, .int (2 : Int32)), (0, .ref o), (1, .ref q_p1)]) hx hb dX5_copyFrom_41 hl (k := 0) rfl (by decide) (by decide) rfl (fun ls hl => ?_)
  refine lv_goto (tgt := 21) hx hb dX5_copyFrom_44 (by decide) ?_
  refine lv_iload_n hx hb dX5_copyFrom_21 rfl (lv_at hl 0 rfl) ?_
  refine lv_iconst (v := (3 : Int32)) hx hb dX5_copyFrom_22 (by decide) ?_
  refine lv_icmp_ge (tgt := 47) hx hb dX5_copyFrom_23 (by decide) (fun cnd => absurd cnd (by decide)) (fun cnd => ?_)
  refine lv_aload_n hx hb dX5_copyFrom_26 rfl (lv_at hl 1 rfl) ?_
  refine x_get X Z 0 1 (v := .ref (d 1)) rfl rfl lk_X5_copyFrom_X5_words dX5_copyFrom_27 ?_
  refine lv_iload_n hx hb dX5_copyFrom_30 rfl (lv_at hl 0 rfl) ?_
  obtain ⟨hin23, r24, hv25, h⟩ := ld_b h
  obtain ⟨ha26, h⟩ := as_b h
  refine x_raldO X Z 4 5 rfl rfl hin23 hv25 ha26 dX5_copyFrom_31 ?_
  refine lv_aload_n hx hb dX5_copyFrom_32 rfl (lv_at hl 2 rfl) ?_
  refine x_getO X Z 0 1 (v := .ref (d_p1 1)) rfl rfl lk_X5_copyFrom_X5_words dX5_copyFrom_33 ?_
  refine lv_iload_n hx hb dX5_copyFrom_36 rfl (lv_at hl 0 rfl) ?_
  obtain ⟨hin27, r28, hv29, h⟩ := ld_b h
  obtain ⟨ha30, h⟩ := as_b h
  refine x_raldO X Z 5 5 rfl rfl hin27 hv29 ha30 dX5_copyFrom_37 ?_
  obtain ⟨u31, hc32, h⟩ := ob_some h
  refine x_runVv (RW' := (RW_X5_copyFrom cy o q_p1 q_p1_words_C0 q_p1_words_C1 q_p1_words_C2 q_words_C0 q_words_C1 q_words_C2 d d_p1 d_p1_words_C0 d_p1_words_C1 d_p1_words_C2 d_words_C0 d_words_C1 d_words_C2 d_tests d_p1_tests PT p1_letters_ u11.1 u21.1 u31.1 u1.1 languages_ p1_languages_ p1_words_C0_letters_ p1_words_C1_letters_ p1_words_C2_letters_ u11.2 u21.2 u31.2 u1.2 p1_tests_members_)) (wr := [(o, ob 5 (oX5 d p1_letters_)), (q_words_C0, ob 8 (oX9 d_words_C0 u11.1)), (q_words_C1, ob 8 (oX9 d_words_C1 u21.1)), ((d 2), ob 1 (oX1 d_tests u1.1)), ((d 3), aR cy 2 4 languages_), ((d_p1 3), aR cy 2 4 p1_languages_), ((d_p1_words_C0 0), aI cy 12 p1_words_C0_letters_), ((d_p1_words_C1 0), aI cy 12 p1_words_C1_letters_), ((d_words_C0 0), aI cy 12 u11.2), ((d_words_C1 0), aI cy 12 u21.2), ((d_tests 0), aR cy 4 8 u1.2), ((d_p1_tests 0), aR cy 4 8 p1_tests_members_)]) (isC := [3, 12, 9]) (isR := [0, 1, 2, 4, 5, 6, 7, 8, 10, 11, 13, 14]) (isF := [0, 1, 2, 12, 3, 4, 5, 6, 7, 14, 8, 9, 13, 10, 11]) (rest := []) (As := [.ref q_p1_words_C2]) (n := 1) X Z (c_X9_copyFrom l D cy q_words_C2 q_p1_words_C2 d_words_C2 d_p1_words_C2 p1_words_C2_size_ words_C2_size_ words_C2_letters_ p1_words_C2_letters_ u31 hc32) gX5_copyFrom_X9_copyFrom rfl (by decide +kernel) ⟨Nat.le_of_ble_eq_true rfl, Nat.le_of_ble_eq_true rfl⟩ ⟨rfl, rfl⟩ ⟨Nat.le_of_ble_eq_true rfl, Nat.le_of_ble_eq_true rfl⟩ (x_rv X Z 3 rfl rfl) ⟨rfl, rfl, (roC (Or.inr (mem_at 3 rfl)) roN), rfl, rfl, by decide⟩ ⟨rfl, rfl⟩ rfl hl.1 rfl (Nat.le_of_ble_eq_true rfl) dX5_copyFrom_38 (fun H locs Z => ?_)
  refine lv_iinc (v := (3 : Int32)) (lv' := [(2, .int (3 : Int32)), (0, .ref o), (1, .ref q_p1)]) hx hb dX5_copyFrom_41 hl (k := 0) rfl (by decide) (by decide) rfl (fun ls hl => ?_)
  refine lv_goto (tgt := 21) hx hb dX5_copyFrom_44 (by decide) ?_
  refine lv_iload_n hx hb dX5_copyFrom_21 rfl (lv_at hl 0 rfl) ?_
  refine lv_iconst (v := (3 : Int32)) hx hb dX5_copyFrom_22 (by decide) ?_
  refine lv_icmp_ge (tgt := 47) hx hb dX5_copyFrom_23 (by decide) (fun cnd => ?_) (fun cnd => absurd (by decide) cnd)
  refine lv_aload_n hx hb dX5_copyFrom_47 rfl (lv_at hl 2 rfl) ?_
  refine x_getO X Z 0 3 (v := .ref (d_p1 3)) rfl rfl lk_X5_copyFrom_X5_languages dX5_copyFrom_48 ?_
  refine lv_iconst (v := (0 : Int32)) hx hb dX5_copyFrom_51 (by decide) ?_
  refine lv_aload_n hx hb dX5_copyFrom_52 rfl (lv_at hl 1 rfl) ?_
  refine x_get X Z 0 3 (v := .ref (d 3)) rfl rfl lk_X5_copyFrom_X5_languages dX5_copyFrom_53 ?_
  refine lv_iconst (v := (0 : Int32)) hx hb dX5_copyFrom_56 (by decide) ?_
  refine lv_iconst (v := (4 : Int32)) hx hb dX5_copyFrom_57 (by decide) ?_
  obtain ⟨hel36, h⟩ := cpR_b h
  obtain ⟨hcx35, languages_33, hv34, h⟩ := cp_b h
  refine x_cpyR X Z hl 6 5 2 2 (RW_X5_copyFrom cy o q_p1 q_p1_words_C0 q_p1_words_C1 q_p1_words_C2 q_words_C0 q_words_C1 q_words_C2 d d_p1 d_p1_words_C0 d_p1_words_C1 d_p1_words_C2 d_words_C0 d_words_C1 d_words_C2 d_tests d_p1_tests PT p1_letters_ u11.1 u21.1 u31.1 u1.1 languages_33 p1_languages_ p1_words_C0_letters_ p1_words_C1_letters_ p1_words_C2_letters_ u11.2 u21.2 u31.2 u1.2 p1_tests_members_) lc_X5_copyFrom_48 rfl rfl rfl rfl hcx35 (fun i hi y hy => by obtain ⟨fs, hm⟩ := hU y (hel36 i hi y hy); exact ⟨fs, List.mem_append_right _ hm⟩) hv34 rfl (Nat.le_of_ble_eq_true rfl) (Nat.le_of_ble_eq_true rfl) dX5_copyFrom_58 (fun H locs Z => ?_)
  obtain rfl := Option.some.inj h
  exact K H locs ls _ dX5_copyFrom_61 Z
theorem c_X5_copyFrom (l : Launch) (D : va_G) (cy : Nat → ClassId) (o : Nat) (q_p1 : Nat) (q_p1_words_C0 : Nat) (q_p1_words_C1 : Nat) (q_p1_words_C2 : Nat) (q_words_C0 : Nat) (q_words_C1 : Nat) (q_words_C2 : Nat) (d : Nat → Nat) (d_p1 : Nat → Nat) (d_p1_words_C0 : Nat → Nat) (d_p1_words_C1 : Nat → Nat) (d_p1_words_C2 : Nat → Nat) (d_words_C0 : Nat → Nat) (d_words_C1 : Nat → Nat) (d_words_C2 : Nat → Nat) (d_tests : Nat → Nat) (d_p1_tests : Nat → Nat) (PT : va_W) (tq : Nat → Option TV) (lq : Nat → Bool) (p1_letters_ : Int32) (p1_words_C0_size_ : Int32) (p1_words_C1_size_ : Int32) (p1_words_C2_size_ : Int32) (words_ : Nat → Option Nat) (p1_words_ : Nat → Option Nat) (p1_tests_count_ : Int32) (letters_ : Int32) (words_C0_size_ : Int32) (words_C1_size_ : Int32) (words_C2_size_ : Int32) (tests_count_ : Int32) (languages_ : Nat → Option Nat) (p1_languages_ : Nat → Option Nat) (p1_words_C0_letters_ : Nat → Int32) (p1_words_C1_letters_ : Nat → Int32) (p1_words_C2_letters_ : Nat → Int32) (words_C0_letters_ : Nat → Int32) (words_C1_letters_ : Nat → Int32) (words_C2_letters_ : Nat → Int32) (tests_members_ : Nat → Option Nat) (p1_tests_members_ : Nat → Option Nat) (out : Int32 × Int32 × Int32 × Int32 × Int32 × (Nat → Option Nat) × (Nat → Int32) × (Nat → Int32) × (Nat → Int32) × (Nat → Option Nat)) (hT : TP cy PT tq) (hU : LQ PT lq) (h : f_X5_copyFrom q_p1_words_C0 q_p1_words_C1 q_p1_words_C2 q_words_C0 q_words_C1 q_words_C2 tq lq p1_letters_ p1_words_C0_size_ p1_words_C1_size_ p1_words_C2_size_ words_ p1_words_ p1_tests_count_ p1_languages_ p1_words_C0_letters_ p1_words_C1_letters_ p1_words_C2_letters_ p1_tests_members_ letters_ words_C0_size_ words_C1_size_ words_C2_size_ tests_count_ languages_ words_C0_letters_ words_C1_letters_ words_C2_letters_ tests_members_ = some out) : CtV l yX5_copyFrom wsX5_copyFrom rm_X5_copyFrom D cy [.ref o, .ref q_p1] (RW_X5_copyFrom cy o q_p1 q_p1_words_C0 q_p1_words_C1 q_p1_words_C2 q_words_C0 q_words_C1 q_words_C2 d d_p1 d_p1_words_C0 d_p1_words_C1 d_p1_words_C2 d_words_C0 d_words_C1 d_words_C2 d_tests d_p1_tests PT letters_ words_C0_size_ words_C1_size_ words_C2_size_ tests_count_ languages_ p1_languages_ p1_words_C0_letters_ p1_words_C1_letters_ p1_words_C2_letters_ words_C0_letters_ words_C1_letters_ words_C2_letters_ tests_members_ p1_tests_members_) (RO_X5_copyFrom cy o q_p1 q_p1_words_C0 q_p1_words_C1 q_p1_words_C2 q_words_C0 q_words_C1 q_words_C2 d d_p1 d_p1_words_C0 d_p1_words_C1 d_p1_words_C2 d_words_C0 d_words_C1 d_words_C2 d_tests d_p1_tests PT p1_letters_ p1_words_C0_size_ p1_words_C1_size_ p1_words_C2_size_ words_ p1_words_ p1_tests_count_) (RW_X5_copyFrom cy o q_p1 q_p1_words_C0 q_p1_words_C1 q_p1_words_C2 q_words_C0 q_words_C1 q_words_C2 d d_p1 d_p1_words_C0 d_p1_words_C1 d_p1_words_C2 d_words_C0 d_words_C1 d_words_C2 d_tests d_p1_tests PT out.1 out.2.1 out.2.2.1 out.2.2.2.1 out.2.2.2.2.1 out.2.2.2.2.2.1 p1_languages_ p1_words_C0_letters_ p1_words_C1_letters_ p1_words_C2_letters_ out.2.2.2.2.2.2.1 out.2.2.2.2.2.2.2.1 out.2.2.2.2.2.2.2.2.1 out.2.2.2.2.2.2.2.2.2 p1_tests_members_) :=
  mk_v (by decide) rfl (Nat.le_of_ble_eq_true rfl) (fun p e s m args below meth c A Q X K H locs ls Z hl => wt_X5_copyFrom o q_p1 q_p1_words_C0 q_p1_words_C1 q_p1_words_C2 q_words_C0 q_words_C1 q_words_C2 d d_p1 d_p1_words_C0 d_p1_words_C1 d_p1_words_C2 d_words_C0 d_words_C1 d_words_C2 d_tests d_p1_tests PT tq lq p1_letters_ p1_words_C0_size_ p1_words_C1_size_ p1_words_C2_size_ words_ p1_words_ p1_tests_count_ letters_ words_C0_size_ words_C1_size_ words_C2_size_ tests_count_ languages_ p1_languages_ p1_words_C0_letters_ p1_words_C1_letters_ p1_words_C2_letters_ words_C0_letters_ words_C1_letters_ words_C2_letters_ tests_members_ p1_tests_members_ out hT hU X h K H locs ls Z hl)
/-! SubwordCounter$Registers languagesHeld ()I -/
abbrev rm_X5_languagesHeld : Room := { frames := 0, cells := 0, slots := 0, locals := 0 }
def RW_X5_languagesHeld (cy : Nat → ClassId) (o : Nat) (d : Nat → Nat)  : va_W := []
def RO_X5_languagesHeld (cy : Nat → ClassId) (o : Nat) (d : Nat → Nat) (letters_ : Int32) (languages_ : Nat → Option Nat) : va_W := [(o, ob 5 (oX5 d letters_)), ((d 3), aR cy 2 4 languages_)]
theorem in_X5_languagesHeld_X5 : ∀ w ∈ u_ws RX5 TX5 4, w ∈ wsX5_languagesHeld := fun w h => (List.mem_cons_of_mem _ (List.mem_append_right _ h))
theorem lk_X5_languagesHeld_X5_languages : Lk wsX5_languagesHeld RX5 30 5 3 := ⟨RX5, TX5, 4, rfl, by decide, in_X5_languagesHeld_X5, mem_at 1 rfl⟩
def b_X5_languagesHeld_4 (languages_ : Nat → Option Nat)  (x1 : Int32) (x2 : Int32) : Option ((Int32 × Int32) ⊕ (Int32)) :=
  if (4 : Int32) ≤ x2 then
  (some (.inr x1))
  else
  (ldA languages_ 4 x2 (fun r2 =>
  nlA r2 (
  some (.inl (x1, (x2 + (1 : Int32))))) (
  some (.inl ((x1 + (1 : Int32)), (x2 + (1 : Int32)))))))
set_option maxHeartbeats 4000000 in
set_option maxRecDepth 100000 in
theorem wb_X5_languagesHeld_4 {p : Program} {l : Launch} {e : Env} {s : State} {m : MethodId} {args : Array Value} {below : List Frame} {meth : Method} {c : Code} {A : Nat → Prop} {Q : State → Prop} {D : va_G} {cy : Nat → ClassId} (o : Nat) (d : Nat → Nat) (letters_ : Int32) (languages_ : Nat → Option Nat)   (x1 : Int32) (x2 : Int32) (o1 : (Int32 × Int32) ⊕ (Int32)) (X : Cx p m c cX5_languagesHeld 3 s args wsX5_languagesHeld RX5 A D cy (RO_X5_languagesHeld cy o d letters_ languages_)) (h : b_X5_languagesHeld_4 languages_ x1 x2 = some o1) (K : Sum.elim (fun v : Int32 × Int32 => ∀ (H : Heap) (locs : List Loc) (ls : Array Slot), St A D s (RW_X5_languagesHeld cy o d) H locs → lv_has ls 3 [(0, .ref o), (1, .int v.1), (2, .int v.2)] → W p l e rm_X5_languagesHeld s m args below meth c H locs 0 0 Q (F0 m 4 ls [])) (fun v : Int32 => ∀ (H : Heap) (locs : List Loc) (ls : Array Slot), St A D s (RW_X5_languagesHeld cy o d) H locs → lv_has ls 3 [(1, .int v)] → W p l e rm_X5_languagesHeld s m args below meth c H locs 0 0 Q (F0 m 27 ls [])) o1) : ∀ (H : Heap) (locs : List Loc) (ls : Array Slot), St A D s (RW_X5_languagesHeld cy o d) H locs → lv_has ls 3 [(0, .ref o), (1, .int x1), (2, .int x2)] → W p l e rm_X5_languagesHeld s m args below meth c H locs 0 0 Q (F0 m 4 ls []) := by
  intro H locs ls Z hl
  have hx := X.1.1
  have hb := X.1.2.1
  unfold b_X5_languagesHeld_4 at h
  refine lv_iload_n hx hb dX5_languagesHeld_4 rfl (lv_at hl 2 rfl) ?_
  refine lv_iconst (v := (4 : Int32)) hx hb dX5_languagesHeld_5 (by decide) ?_
  refine lv_icmp_ge (tgt := 27) hx hb dX5_languagesHeld_6 (by decide) (fun cnd => ?_) (fun cnd => ?_)
  · replace h := ifp h cnd
    obtain rfl := Option.some.inj h
    exact (sk_r K) H locs ls Z (lv_sub hl [1] rfl)
  · replace h := ifn h cnd
    refine lv_aload_n hx hb dX5_languagesHeld_9 rfl (lv_at hl 0 rfl) ?_
    refine x_getO X Z 0 3 (v := .ref (d 3)) rfl rfl lk_X5_languagesHeld_X5_languages dX5_languagesHeld_10 ?_
    refine lv_iload_n hx hb dX5_languagesHeld_13 rfl (lv_at hl 2 rfl) ?_
    obtain ⟨hin1, r2, hv3, h⟩ := ld_b h
    refine x_raldqO X Z 1 2 rfl rfl hin1 hv3 dX5_languagesHeld_14 (fun hr4 => ?_) (fun b5 hr4 => ?_)
    · replace h := nl_n h hr4
      refine lv_ifnullN (tgt := 21) hx hb dX5_languagesHeld_15 (by decide) ?_
      refine lv_iinc (v := (x2 + (1 : Int32))) (lv' := [(2, .int (x2 + (1 : Int32))), (0, .ref o), (1, .int x1)]) hx hb dX5_languagesHeld_21 hl (k := 2) rfl rfl (by decide) rfl (fun ls hl => ?_)
      refine lv_goto (tgt := 4) hx hb dX5_languagesHeld_24 (by decide) ?_
      obtain rfl := Option.some.inj h
      exact sk_l K H locs ls Z (lv_sub hl [1, 2, 0] rfl)
    · replace h := nl_s h hr4
      refine lv_ifnull hx hb dX5_languagesHeld_15 ?_
      refine lv_iinc (v := (x1 + (1 : Int32))) (lv' := [(1, .int (x1 + (1 : Int32))), (0, .ref o), (2, .int x2)]) hx hb dX5_languagesHeld_18 hl (k := 1) rfl rfl (by decide) rfl (fun ls hl => ?_)
      refine lv_iinc (v := (x2 + (1 : Int32))) (lv' := [(2, .int (x2 + (1 : Int32))), (1, .int (x1 + (1 : Int32))), (0, .ref o)]) hx hb dX5_languagesHeld_21 hl (k := 2) rfl rfl (by decide) rfl (fun ls hl => ?_)
      refine lv_goto (tgt := 4) hx hb dX5_languagesHeld_24 (by decide) ?_
      obtain rfl := Option.some.inj h
      exact sk_l K H locs ls Z (lv_sub hl [2, 1, 0] rfl)
set_option maxHeartbeats 4000000 in
set_option maxRecDepth 100000 in
theorem wl_X5_languagesHeld_4 {p : Program} {l : Launch} {e : Env} {s : State} {m : MethodId} {args : Array Value} {below : List Frame} {meth : Method} {c : Code} {A : Nat → Prop} {Q : State → Prop} {D : va_G} {cy : Nat → ClassId} (o : Nat) (d : Nat → Nat) (letters_ : Int32) (languages_ : Nat → Option Nat)  (n : Nat) (v : Int32 × Int32) (x : Int32) (X : Cx p m c cX5_languagesHeld 3 s args wsX5_languagesHeld RX5 A D cy (RO_X5_languagesHeld cy o d letters_ languages_)) (h : loopN (fun v => b_X5_languagesHeld_4 languages_ v.1 v.2) n v = some x) (K : ∀ (H : Heap) (locs : List Loc) (ls : Array Slot), St A D s (RW_X5_languagesHeld cy o d) H locs → lv_has ls 3 [(1, .int x)] → W p l e rm_X5_languagesHeld s m args below meth c H locs 0 0 Q (F0 m 27 ls [])) : ∀ (H : Heap) (locs : List Loc) (ls : Array Slot), St A D s (RW_X5_languagesHeld cy o d) H locs → lv_has ls 3 [(0, .ref o), (1, .int v.1), (2, .int v.2)] → W p l e rm_X5_languagesHeld s m args below meth c H locs 0 0 Q (F0 m 4 ls []) :=
  loop_gen (B := (fun v => b_X5_languagesHeld_4 languages_ v.1 v.2)) (Head := fun v : Int32 × Int32 => ∀ (H : Heap) (locs : List Loc) (ls : Array Slot), St A D s (RW_X5_languagesHeld cy o d) H locs → lv_has ls 3 [(0, .ref o), (1, .int v.1), (2, .int v.2)] → W p l e rm_X5_languagesHeld s m args below meth c H locs 0 0 Q (F0 m 4 ls [])) (Exit := fun v : Int32 => ∀ (H : Heap) (locs : List Loc) (ls : Array Slot), St A D s (RW_X5_languagesHeld cy o d) H locs → lv_has ls 3 [(1, .int v)] → W p l e rm_X5_languagesHeld s m args below meth c H locs 0 0 Q (F0 m 27 ls [])) (fun v o9 hb1 K1 => wb_X5_languagesHeld_4 o d letters_ languages_ v.1 v.2 o9 X hb1 K1) n v x h K
def f_X5_languagesHeld (languages_ : Nat → Option Nat) : Option (Int32) :=
  (loopN (fun v => b_X5_languagesHeld_4 languages_ v.1 v.2) FU ((0 : Int32), (0 : Int32))).bind (fun u6 =>
  some u6)
set_option maxHeartbeats 4000000 in
set_option maxRecDepth 100000 in
theorem wt_X5_languagesHeld {p : Program} {l : Launch} {e : Env} {s : State} {m : MethodId} {args : Array Value} {below : List Frame} {meth : Method} {c : Code} {A : Nat → Prop} {Q : State → Prop} {D : va_G} {cy : Nat → ClassId} (o : Nat) (d : Nat → Nat) (letters_ : Int32) (languages_ : Nat → Option Nat)  (out : Int32) (X : Cx p m c cX5_languagesHeld 3 s args wsX5_languagesHeld RX5 A D cy (RO_X5_languagesHeld cy o d letters_ languages_)) (h : f_X5_languagesHeld languages_ = some out) (K : ∀ (H : Heap) (locs : List Loc) (ls : Array Slot) (pc : Nat), decode cX5_languagesHeld pc = .ok (.ireturn, 1) → St A D s (RW_X5_languagesHeld cy o d) H locs → W p l e rm_X5_languagesHeld s m args below meth c H locs 0 0 Q (F0 m pc ls [.int out])) : ∀ (H : Heap) (locs : List Loc) (ls : Array Slot), St A D s (RW_X5_languagesHeld cy o d) H locs → lv_has ls 3 [(0, .ref o)] → W p l e rm_X5_languagesHeld s m args below meth c H locs 0 0 Q (F0 m 0 ls []) := by
  intro H locs ls Z hl
  have hx := X.1.1
  have hb := X.1.2.1
  unfold f_X5_languagesHeld at h
  refine lv_iconst (v := (0 : Int32)) hx hb dX5_languagesHeld_0 (by decide) ?_
  refine lv_istore_n (lv' := [(1, .int (0 : Int32)), (0, .ref o)]) hx hb dX5_languagesHeld_1 rfl hl (by decide) rfl (fun ls hl => ?_)
  refine lv_iconst (v := (0 : Int32)) hx hb dX5_languagesHeld_2 (by decide) ?_
  refine lv_istore_n (lv' := [(2, .int (0 : Int32)), (1, .int (0 : Int32)), (0, .ref o)]) hx hb dX5_languagesHeld_3 rfl hl (by decide) rfl (fun ls hl => ?_)
  obtain ⟨u6, hL7, h⟩ := ob_some h
  refine wl_X5_languagesHeld_4 o d letters_ languages_ FU ((0 : Int32), (0 : Int32)) u6 X hL7 (fun H locs ls Z hl => ?_) H locs ls Z (lv_sub hl [2, 1, 0] rfl)
  refine lv_iload_n hx hb dX5_languagesHeld_27 rfl (lv_at hl 0 rfl) ?_
  obtain rfl := Option.some.inj h
  exact K H locs ls _ dX5_languagesHeld_28 Z
theorem c_X5_languagesHeld (l : Launch) (D : va_G) (cy : Nat → ClassId) (o : Nat) (d : Nat → Nat) (letters_ : Int32) (languages_ : Nat → Option Nat)  (out : Int32) (h : f_X5_languagesHeld languages_ = some out) : CtI l yX5_languagesHeld wsX5_languagesHeld rm_X5_languagesHeld D cy [.ref o] (RW_X5_languagesHeld cy o d) (RO_X5_languagesHeld cy o d letters_ languages_) (RW_X5_languagesHeld cy o d) out :=
  mk_i (ty := .int) (by decide) rfl rfl (Nat.le_of_ble_eq_true rfl) (fun p e s m args below meth c A Q X K H locs ls Z hl => wt_X5_languagesHeld o d letters_ languages_ out X h K H locs ls Z hl)
/-! SubwordCounter saveSnapshot ()I -/
abbrev rm_X11_saveSnapshot : Room := { frames := 3, cells := 0, slots := 0, locals := 69 }
def RW_X11_saveSnapshot (cy : Nat → ClassId) (o : Nat) (q_now_words_C0 : Nat) (q_now_words_C1 : Nat) (q_now_words_C2 : Nat) (q_saved_words_C0 : Nat) (q_saved_words_C1 : Nat) (q_saved_words_C2 : Nat) (d : Nat → Nat) (d_now_words_C0 : Nat → Nat) (d_now_words_C1 : Nat → Nat) (d_now_words_C2 : Nat → Nat) (d_saved_words_C0 : Nat → Nat) (d_saved_words_C1 : Nat → Nat) (d_saved_words_C2 : Nat → Nat) (d_now : Nat → Nat) (d_saved : Nat → Nat) (d_now_tests : Nat → Nat) (d_saved_tests : Nat → Nat) (mono : Value) (PT : va_W) (snapshotTaken_ : Int32) (inputLength_ : Int32) (saved_words_C0_size_ : Int32) (saved_words_C1_size_ : Int32) (saved_words_C2_size_ : Int32) (saved_letters_ : Int32) (now_words_C0_letters_ : Nat → Int32) (now_words_C1_letters_ : Nat → Int32) (now_words_C2_letters_ : Nat → Int32) (saved_words_C0_letters_ : Nat → Int32) (saved_words_C1_letters_ : Nat → Int32) (saved_words_C2_letters_ : Nat → Int32) (now_languages_ : Nat → Option Nat) (saved_tests_count_ : Int32) (saved_languages_ : Nat → Option Nat) (now_tests_members_ : Nat → Option Nat) (saved_tests_members_ : Nat → Option Nat) : va_W := [(o, ob 10 (oX11 d mono snapshotTaken_ inputLength_)), (q_saved_words_C0, ob 8 (oX9 d_saved_words_C0 saved_words_C0_size_)), (q_saved_words_C1, ob 8 (oX9 d_saved_words_C1 saved_words_C1_size_)), (q_saved_words_C2, ob 8 (oX9 d_saved_words_C2 saved_words_C2_size_)), ((d 1), ob 5 (oX5 d_saved saved_letters_)), ((d_now_words_C0 0), aI cy 12 now_words_C0_letters_), ((d_now_words_C1 0), aI cy 12 now_words_C1_letters_), ((d_now_words_C2 0), aI cy 12 now_words_C2_letters_), ((d_saved_words_C0 0), aI cy 12 saved_words_C0_letters_), ((d_saved_words_C1 0), aI cy 12 saved_words_C1_letters_), ((d_saved_words_C2 0), aI cy 12 saved_words_C2_letters_), ((d_now 3), aR cy 2 4 now_languages_), ((d_saved 2), ob 1 (oX1 d_saved_tests saved_tests_count_)), ((d_saved 3), aR cy 2 4 saved_languages_), ((d_now_tests 0), aR cy 4 8 now_tests_members_), ((d_saved_tests 0), aR cy 4 8 saved_tests_members_)]
def RO_X11_saveSnapshot (cy : Nat → ClassId) (o : Nat) (q_now_words_C0 : Nat) (q_now_words_C1 : Nat) (q_now_words_C2 : Nat) (q_saved_words_C0 : Nat) (q_saved_words_C1 : Nat) (q_saved_words_C2 : Nat) (d : Nat → Nat) (d_now_words_C0 : Nat → Nat) (d_now_words_C1 : Nat → Nat) (d_now_words_C2 : Nat → Nat) (d_saved_words_C0 : Nat → Nat) (d_saved_words_C1 : Nat → Nat) (d_saved_words_C2 : Nat → Nat) (d_now : Nat → Nat) (d_saved : Nat → Nat) (d_now_tests : Nat → Nat) (d_saved_tests : Nat → Nat) (mono : Value) (PT : va_W) (now_words_C0_size_ : Int32) (now_words_C1_size_ : Int32) (now_words_C2_size_ : Int32) (now_letters_ : Int32) (now_words_ : Nat → Option Nat) (now_tests_count_ : Int32) (saved_words_ : Nat → Option Nat) : va_W := [(q_now_words_C0, ob 8 (oX9 d_now_words_C0 now_words_C0_size_)), (q_now_words_C1, ob 8 (oX9 d_now_words_C1 now_words_C1_size_)), (q_now_words_C2, ob 8 (oX9 d_now_words_C2 now_words_C2_size_)), ((d 0), ob 5 (oX5 d_now now_letters_)), ((d_now 1), aR cy 5 3 now_words_), ((d_now 2), ob 1 (oX1 d_now_tests now_tests_count_)), ((d_saved 1), aR cy 5 3 saved_words_)] ++ PT
theorem in_X11_saveSnapshot_X11 : ∀ w ∈ u_ws RX11 TX11 12, w ∈ wsX11_saveSnapshot := fun w h => (List.mem_cons_of_mem _ (List.mem_append_left _ (List.mem_append_left _ (List.mem_append_left _ (List.mem_append_right _ h)))))
theorem lk_X11_saveSnapshot_X11_saved : Lk wsX11_saveSnapshot RX11 16 10 1 := ⟨RX11, TX11, 12, rfl, by decide, in_X11_saveSnapshot_X11, mem_at 1 rfl⟩
theorem lk_X11_saveSnapshot_X11_now : Lk wsX11_saveSnapshot RX11 10 10 0 := ⟨RX11, TX11, 12, rfl, by decide, in_X11_saveSnapshot_X11, mem_at 2 rfl⟩
theorem lp_X11_saveSnapshot_X11_snapshotTaken : Lp wsX11_saveSnapshot RX11 19 10 2 .boolean := ⟨RX11, TX11, 12, tyX11, rfl, by decide, in_X11_saveSnapshot_X11, mem_at 3 rfl, tyX11_ok, nmX11, rfl, by decide +kernel⟩
def f_X11_saveSnapshot (q_now_words_C0 : Nat) (q_now_words_C1 : Nat) (q_now_words_C2 : Nat) (q_saved_words_C0 : Nat) (q_saved_words_C1 : Nat) (q_saved_words_C2 : Nat) (tq : Nat → Option TV) (lq : Nat → Bool) (now_words_C0_size_ : Int32) (now_words_C1_size_ : Int32) (now_words_C2_size_ : Int32) (now_letters_ : Int32) (now_words_ : Nat → Option Nat) (now_tests_count_ : Int32) (saved_words_ : Nat → Option Nat) (now_words_C0_letters_ : Nat → Int32) (now_words_C1_letters_ : Nat → Int32) (now_words_C2_letters_ : Nat → Int32) (now_languages_ : Nat → Option Nat) (now_tests_members_ : Nat → Option Nat) (snapshotTaken_ : Int32) (saved_words_C0_size_ : Int32) (saved_words_C1_size_ : Int32) (saved_words_C2_size_ : Int32) (saved_letters_ : Int32) (saved_words_C0_letters_ : Nat → Int32) (saved_words_C1_letters_ : Nat → Int32) (saved_words_C2_letters_ : Nat → Int32) (saved_tests_count_ : Int32) (saved_languages_ : Nat → Option Nat) (saved_tests_members_ : Nat → Option Nat) : Option (Int32 × Int32 × Int32 × Int32 × Int32 × Int32 × (Nat → Int32) × (Nat → Int32) × (Nat → Int32) × Int32 × (Nat → Option Nat) × (Nat → Option Nat)) :=
  (f_X5_copyFrom q_now_words_C0 q_now_words_C1 q_now_words_C2 q_saved_words_C0 q_saved_words_C1 q_saved_words_C2 tq lq now_letters_ now_words_C0_size_ now_words_C1_size_ now_words_C2_size_ saved_words_ now_words_ now_tests_count_ now_languages_ now_words_C0_letters_ now_words_C1_letters_ now_words_C2_letters_ now_tests_members_ saved_letters_ saved_words_C0_size_ saved_words_C1_size_ saved_words_C2_size_ saved_tests_count_ saved_languages_ saved_words_C0_letters_ saved_words_C1_letters_ saved_words_C2_letters_ saved_tests_members_).bind (fun u1 =>
  (f_X5_languagesHeld now_languages_).bind (fun u3 =>
  some (u3, (1 : Int32), u1.2.1, u1.2.2.1, u1.2.2.2.1, u1.1, u1.2.2.2.2.2.2.1, u1.2.2.2.2.2.2.2.1, u1.2.2.2.2.2.2.2.2.1, u1.2.2.2.2.1, u1.2.2.2.2.2.1, u1.2.2.2.2.2.2.2.2.2)))
set_option maxHeartbeats 4000000 in
set_option maxRecDepth 100000 in
theorem wt_X11_saveSnapshot {p : Program} {l : Launch} {e : Env} {s : State} {m : MethodId} {args : Array Value} {below : List Frame} {meth : Method} {c : Code} {A : Nat → Prop} {Q : State → Prop} {D : va_G} {cy : Nat → ClassId} (o : Nat) (q_now_words_C0 : Nat) (q_now_words_C1 : Nat) (q_now_words_C2 : Nat) (q_saved_words_C0 : Nat) (q_saved_words_C1 : Nat) (q_saved_words_C2 : Nat) (d : Nat → Nat) (d_now_words_C0 : Nat → Nat) (d_now_words_C1 : Nat → Nat) (d_now_words_C2 : Nat → Nat) (d_saved_words_C0 : Nat → Nat) (d_saved_words_C1 : Nat → Nat) (d_saved_words_C2 : Nat → Nat) (d_now : Nat → Nat) (d_saved : Nat → Nat) (d_now_tests : Nat → Nat) (d_saved_tests : Nat → Nat) (mono : Value) (PT : va_W) (tq : Nat → Option TV) (lq : Nat → Bool) (now_words_C0_size_ : Int32) (now_words_C1_size_ : Int32) (now_words_C2_size_ : Int32) (now_letters_ : Int32) (now_words_ : Nat → Option Nat) (now_tests_count_ : Int32) (saved_words_ : Nat → Option Nat) (snapshotTaken_ : Int32) (inputLength_ : Int32) (saved_words_C0_size_ : Int32) (saved_words_C1_size_ : Int32) (saved_words_C2_size_ : Int32) (saved_letters_ : Int32) (now_words_C0_letters_ : Nat → Int32) (now_words_C1_letters_ : Nat → Int32) (now_words_C2_letters_ : Nat → Int32) (saved_words_C0_letters_ : Nat → Int32) (saved_words_C1_letters_ : Nat → Int32) (saved_words_C2_letters_ : Nat → Int32) (now_languages_ : Nat → Option Nat) (saved_tests_count_ : Int32) (saved_languages_ : Nat → Option Nat) (now_tests_members_ : Nat → Option Nat) (saved_tests_members_ : Nat → Option Nat) (out : Int32 × Int32 × Int32 × Int32 × Int32 × Int32 × (Nat → Int32) × (Nat → Int32) × (Nat → Int32) × Int32 × (Nat → Option Nat) × (Nat → Option Nat)) (hT : TP cy PT tq) (hU : LQ PT lq) (X : Cx p m c cX11_saveSnapshot 1 s args wsX11_saveSnapshot RX11 A D cy (RO_X11_saveSnapshot cy o q_now_words_C0 q_now_words_C1 q_now_words_C2 q_saved_words_C0 q_saved_words_C1 q_saved_words_C2 d d_now_words_C0 d_now_words_C1 d_now_words_C2 d_saved_words_C0 d_saved_words_C1 d_saved_words_C2 d_now d_saved d_now_tests d_saved_tests mono PT now_words_C0_size_ now_words_C1_size_ now_words_C2_size_ now_letters_ now_words_ now_tests_count_ saved_words_)) (h : f_X11_saveSnapshot q_now_words_C0 q_now_words_C1 q_now_words_C2 q_saved_words_C0 q_saved_words_C1 q_saved_words_C2 tq lq now_words_C0_size_ now_words_C1_size_ now_words_C2_size_ now_letters_ now_words_ now_tests_count_ saved_words_ now_words_C0_letters_ now_words_C1_letters_ now_words_C2_letters_ now_languages_ now_tests_members_ snapshotTaken_ saved_words_C0_size_ saved_words_C1_size_ saved_words_C2_size_ saved_letters_ saved_words_C0_letters_ saved_words_C1_letters_ saved_words_C2_letters_ saved_tests_count_ saved_languages_ saved_tests_members_ = some out) (K : ∀ (H : Heap) (locs : List Loc) (ls : Array Slot) (pc : Nat), decode cX11_saveSnapshot pc = .ok (.ireturn, 1) → St A D s (RW_X11_saveSnapshot cy o q_now_words_C0 q_now_words_C1 q_now_words_C2 q_saved_words_C0 q_saved_words_C1 q_saved_words_C2 d d_now_words_C0 d_now_words_C1 d_now_words_C2 d_saved_words_C0 d_saved_words_C1 d_saved_words_C2 d_now d_saved d_now_tests d_saved_tests mono PT out.2.1 inputLength_ out.2.2.1 out.2.2.2.1 out.2.2.2.2.1 out.2.2.2.2.2.1 now_words_C0_letters_ now_words_C1_letters_ now_words_C2_letters_ out.2.2.2.2.2.2.1 out.2.2.2.2.2.2.2.1 out.2.2.2.2.2.2.2.2.1 now_languages_ out.2.2.2.2.2.2.2.2.2.1 out.2.2.2.2.2.2.2.2.2.2.1 now_tests_members_ out.2.2.2.2.2.2.2.2.2.2.2) H locs → W p l e rm_X11_saveSnapshot s m args below meth c H locs 0 0 Q (F0 m pc ls [.int out.1])) : ∀ (H : Heap) (locs : List Loc) (ls : Array Slot), St A D s (RW_X11_saveSnapshot cy o q_now_words_C0 q_now_words_C1 q_now_words_C2 q_saved_words_C0 q_saved_words_C1 q_saved_words_C2 d d_now_words_C0 d_now_words_C1 d_now_words_C2 d_saved_words_C0 d_saved_words_C1 d_saved_words_C2 d_now d_saved d_now_tests d_saved_tests mono PT snapshotTaken_ inputLength_ saved_words_C0_size_ saved_words_C1_size_ saved_words_C2_size_ saved_letters_ now_words_C0_letters_ now_words_C1_letters_ now_words_C2_letters_ saved_words_C0_letters_ saved_words_C1_letters_ saved_words_C2_letters_ now_languages_ saved_tests_count_ saved_languages_ now_tests_members_ saved_tests_members_) H locs → lv_has ls 1 [(0, .ref o)] → W p l e rm_X11_saveSnapshot s m args below meth c H locs 0 0 Q (F0 m 0 ls []) := by
  intro H locs ls Z hl
  have hx := X.1.1
  have hb := X.1.2.1
  unfold f_X11_saveSnapshot at h
  refine lv_aload_n hx hb dX11_saveSnapshot_0 rfl (lv_at hl 0 rfl) ?_
  refine x_get X Z 0 1 (v := .ref (d 1)) rfl rfl lk_X11_saveSnapshot_X11_saved dX11_saveSnapshot_1 ?_
  refine lv_aload_n hx hb dX11_saveSnapshot_4 rfl (lv_at hl 0 rfl) ?_
  refine x_get X Z 0 0 (v := .ref (d 0)) rfl rfl lk_X11_saveSnapshot_X11_now dX11_saveSnapshot_5 ?_
  obtain ⟨u1, hc2, h⟩ := ob_some h
  refine x_runVv (RW' := (RW_X11_saveSnapshot cy o q_now_words_C0 q_now_words_C1 q_now_words_C2 q_saved_words_C0 q_saved_words_C1 q_saved_words_C2 d d_now_words_C0 d_now_words_C1 d_now_words_C2 d_saved_words_C0 d_saved_words_C1 d_saved_words_C2 d_now d_saved d_now_tests d_saved_tests mono PT snapshotTaken_ inputLength_ u1.2.1 u1.2.2.1 u1.2.2.2.1 u1.1 now_words_C0_letters_ now_words_C1_letters_ now_words_C2_letters_ u1.2.2.2.2.2.2.1 u1.2.2.2.2.2.2.2.1 u1.2.2.2.2.2.2.2.2.1 now_languages_ u1.2.2.2.2.1 u1.2.2.2.2.2.1 now_tests_members_ u1.2.2.2.2.2.2.2.2.2)) (wr := [(o, ob 10 (oX11 d mono snapshotTaken_ inputLength_))]) (isC := [4, 1, 2, 3, 12, 13, 11, 5, 6, 7, 8, 9, 10, 15, 14]) (isR := [0]) (isF := [0, 2, 3, 4, 1, 8, 9, 10, 11, 12, 13, 7, 5, 6, 15, 14]) (rest := []) (As := [.ref (d 0)]) (n := 1) X Z (c_X5_copyFrom l D cy (d 1) (d 0) q_now_words_C0 q_now_words_C1 q_now_words_C2 q_saved_words_C0 q_saved_words_C1 q_saved_words_C2 d_saved d_now d_now_words_C0 d_now_words_C1 d_now_words_C2 d_saved_words_C0 d_saved_words_C1 d_saved_words_C2 d_saved_tests d_now_tests PT tq lq now_letters_ now_words_C0_size_ now_words_C1_size_ now_words_C2_size_ saved_words_ now_words_ now_tests_count_ saved_letters_ saved_words_C0_size_ saved_words_C1_size_ saved_words_C2_size_ saved_tests_count_ saved_languages_ now_languages_ now_words_C0_letters_ now_words_C1_letters_ now_words_C2_letters_ saved_words_C0_letters_ saved_words_C1_letters_ saved_words_C2_letters_ saved_tests_members_ now_tests_members_ u1 hT hU hc2) gX11_saveSnapshot_X5_copyFrom rfl (by decide +kernel) ⟨Nat.le_of_ble_eq_true rfl, Nat.le_of_ble_eq_true rfl⟩ ⟨rfl, rfl⟩ ⟨Nat.le_of_ble_eq_true rfl, Nat.le_of_ble_eq_true rfl⟩ (x_rv X Z 4 rfl rfl) ⟨rfl, rfl, (roC (Or.inr (mem_at 3 rfl)) (roC (Or.inr (mem_at 0 rfl)) (roC (Or.inr (mem_at 1 rfl)) (roC (Or.inr (mem_at 2 rfl)) (roC (Or.inr (mem_at 6 rfl)) (roC (Or.inr (mem_at 4 rfl)) (roC (Or.inr (mem_at 5 rfl)) (fun q hq => Or.inr (List.mem_append_right _ hq))))))))), rfl, rfl, by decide⟩ ⟨rfl, rfl⟩ rfl hl.1 rfl (Nat.le_of_ble_eq_true rfl) dX11_saveSnapshot_8 (fun H locs Z => ?_)
  refine lv_aload_n hx hb dX11_saveSnapshot_11 rfl (lv_at hl 0 rfl) ?_
  refine lv_iconst (v := (1 : Int32)) hx hb dX11_saveSnapshot_12 (by decide) ?_
  refine x_putZ X Z 0 2 (RW_X11_saveSnapshot cy o q_now_words_C0 q_now_words_C1 q_now_words_C2 q_saved_words_C0 q_saved_words_C1 q_saved_words_C2 d d_now_words_C0 d_now_words_C1 d_now_words_C2 d_saved_words_C0 d_saved_words_C1 d_saved_words_C2 d_now d_saved d_now_tests d_saved_tests mono PT (1 : Int32) inputLength_ u1.2.1 u1.2.2.1 u1.2.2.2.1 u1.1 now_words_C0_letters_ now_words_C1_letters_ now_words_C2_letters_ u1.2.2.2.2.2.2.1 u1.2.2.2.2.2.2.2.1 u1.2.2.2.2.2.2.2.2.1 now_languages_ u1.2.2.2.2.1 u1.2.2.2.2.2.1 now_tests_members_ u1.2.2.2.2.2.2.2.2.2) (Or.inr rfl) rfl lp_X11_saveSnapshot_X11_snapshotTaken (Nat.le_of_ble_eq_true rfl) rfl dX11_saveSnapshot_13 (fun H locs Z => ?_)
  refine lv_aload_n hx hb dX11_saveSnapshot_16 rfl (lv_at hl 0 rfl) ?_
  refine x_get X Z 0 0 (v := .ref (d 0)) rfl rfl lk_X11_saveSnapshot_X11_now dX11_saveSnapshot_17 ?_
  obtain ⟨u3, hc4, h⟩ := ob_some h
  refine x_runVi (RW' := (RW_X11_saveSnapshot cy o q_now_words_C0 q_now_words_C1 q_now_words_C2 q_saved_words_C0 q_saved_words_C1 q_saved_words_C2 d d_now_words_C0 d_now_words_C1 d_now_words_C2 d_saved_words_C0 d_saved_words_C1 d_saved_words_C2 d_now d_saved d_now_tests d_saved_tests mono PT (1 : Int32) inputLength_ u1.2.1 u1.2.2.1 u1.2.2.2.1 u1.1 now_words_C0_letters_ now_words_C1_letters_ now_words_C2_letters_ u1.2.2.2.2.2.2.1 u1.2.2.2.2.2.2.2.1 u1.2.2.2.2.2.2.2.2.1 now_languages_ u1.2.2.2.2.1 u1.2.2.2.2.2.1 now_tests_members_ u1.2.2.2.2.2.2.2.2.2)) (wr := [(o, ob 10 (oX11 d mono (1 : Int32) inputLength_)), (q_saved_words_C0, ob 8 (oX9 d_saved_words_C0 u1.2.1)), (q_saved_words_C1, ob 8 (oX9 d_saved_words_C1 u1.2.2.1)), (q_saved_words_C2, ob 8 (oX9 d_saved_words_C2 u1.2.2.2.1)), ((d 1), ob 5 (oX5 d_saved u1.1)), ((d_now_words_C0 0), aI cy 12 now_words_C0_letters_), ((d_now_words_C1 0), aI cy 12 now_words_C1_letters_), ((d_now_words_C2 0), aI cy 12 now_words_C2_letters_), ((d_saved_words_C0 0), aI cy 12 u1.2.2.2.2.2.2.1), ((d_saved_words_C1 0), aI cy 12 u1.2.2.2.2.2.2.2.1), ((d_saved_words_C2 0), aI cy 12 u1.2.2.2.2.2.2.2.2.1), ((d_now 3), aR cy 2 4 now_languages_), ((d_saved 2), ob 1 (oX1 d_saved_tests u1.2.2.2.2.1)), ((d_saved 3), aR cy 2 4 u1.2.2.2.2.2.1), ((d_now_tests 0), aR cy 4 8 now_tests_members_), ((d_saved_tests 0), aR cy 4 8 u1.2.2.2.2.2.2.2.2.2)]) (isC := []) (isR := [0, 1, 2, 3, 4, 5, 6, 7, 8, 9, 10, 11, 12, 13, 14, 15]) (isF := [0, 1, 2, 3, 4, 5, 6, 7, 8, 9, 10, 11, 12, 13, 14, 15]) (rest := []) (As := []) (n := 0) X Z (c_X5_languagesHeld l D cy (d 0) d_now now_letters_ now_languages_ u3 hc4) gX11_saveSnapshot_X5_languagesHeld rfl (by decide +kernel) ⟨Nat.le_of_ble_eq_true rfl, Nat.le_of_ble_eq_true rfl⟩ ⟨rfl, rfl⟩ ⟨Nat.le_of_ble_eq_true rfl, Nat.le_of_ble_eq_true rfl⟩ (x_rvO X Z 3 rfl rfl) ⟨rfl, rfl, (roC (Or.inr (mem_at 3 rfl)) (roC (Or.inl (mem_at 11 rfl)) roN)), rfl, rfl, by decide⟩ ⟨rfl, rfl⟩ rfl hl.1 rfl (Nat.le_of_ble_eq_true rfl) dX11_saveSnapshot_20 (fun H locs Z => ?_)
  obtain rfl := Option.some.inj h
  exact K H locs ls _ dX11_saveSnapshot_23 Z
theorem c_X11_saveSnapshot (l : Launch) (D : va_G) (cy : Nat → ClassId) (o : Nat) (q_now_words_C0 : Nat) (q_now_words_C1 : Nat) (q_now_words_C2 : Nat) (q_saved_words_C0 : Nat) (q_saved_words_C1 : Nat) (q_saved_words_C2 : Nat) (d : Nat → Nat) (d_now_words_C0 : Nat → Nat) (d_now_words_C1 : Nat → Nat) (d_now_words_C2 : Nat → Nat) (d_saved_words_C0 : Nat → Nat) (d_saved_words_C1 : Nat → Nat) (d_saved_words_C2 : Nat → Nat) (d_now : Nat → Nat) (d_saved : Nat → Nat) (d_now_tests : Nat → Nat) (d_saved_tests : Nat → Nat) (mono : Value) (PT : va_W) (tq : Nat → Option TV) (lq : Nat → Bool) (now_words_C0_size_ : Int32) (now_words_C1_size_ : Int32) (now_words_C2_size_ : Int32) (now_letters_ : Int32) (now_words_ : Nat → Option Nat) (now_tests_count_ : Int32) (saved_words_ : Nat → Option Nat) (snapshotTaken_ : Int32) (inputLength_ : Int32) (saved_words_C0_size_ : Int32) (saved_words_C1_size_ : Int32) (saved_words_C2_size_ : Int32) (saved_letters_ : Int32) (now_words_C0_letters_ : Nat → Int32) (now_words_C1_letters_ : Nat → Int32) (now_words_C2_letters_ : Nat → Int32) (saved_words_C0_letters_ : Nat → Int32) (saved_words_C1_letters_ : Nat → Int32) (saved_words_C2_letters_ : Nat → Int32) (now_languages_ : Nat → Option Nat) (saved_tests_count_ : Int32) (saved_languages_ : Nat → Option Nat) (now_tests_members_ : Nat → Option Nat) (saved_tests_members_ : Nat → Option Nat) (out : Int32 × Int32 × Int32 × Int32 × Int32 × Int32 × (Nat → Int32) × (Nat → Int32) × (Nat → Int32) × Int32 × (Nat → Option Nat) × (Nat → Option Nat)) (hT : TP cy PT tq) (hU : LQ PT lq) (h : f_X11_saveSnapshot q_now_words_C0 q_now_words_C1 q_now_words_C2 q_saved_words_C0 q_saved_words_C1 q_saved_words_C2 tq lq now_words_C0_size_ now_words_C1_size_ now_words_C2_size_ now_letters_ now_words_ now_tests_count_ saved_words_ now_words_C0_letters_ now_words_C1_letters_ now_words_C2_letters_ now_languages_ now_tests_members_ snapshotTaken_ saved_words_C0_size_ saved_words_C1_size_ saved_words_C2_size_ saved_letters_ saved_words_C0_letters_ saved_words_C1_letters_ saved_words_C2_letters_ saved_tests_count_ saved_languages_ saved_tests_members_ = some out) : CtI l yX11_saveSnapshot wsX11_saveSnapshot rm_X11_saveSnapshot D cy [.ref o] (RW_X11_saveSnapshot cy o q_now_words_C0 q_now_words_C1 q_now_words_C2 q_saved_words_C0 q_saved_words_C1 q_saved_words_C2 d d_now_words_C0 d_now_words_C1 d_now_words_C2 d_saved_words_C0 d_saved_words_C1 d_saved_words_C2 d_now d_saved d_now_tests d_saved_tests mono PT snapshotTaken_ inputLength_ saved_words_C0_size_ saved_words_C1_size_ saved_words_C2_size_ saved_letters_ now_words_C0_letters_ now_words_C1_letters_ now_words_C2_letters_ saved_words_C0_letters_ saved_words_C1_letters_ saved_words_C2_letters_ now_languages_ saved_tests_count_ saved_languages_ now_tests_members_ saved_tests_members_) (RO_X11_saveSnapshot cy o q_now_words_C0 q_now_words_C1 q_now_words_C2 q_saved_words_C0 q_saved_words_C1 q_saved_words_C2 d d_now_words_C0 d_now_words_C1 d_now_words_C2 d_saved_words_C0 d_saved_words_C1 d_saved_words_C2 d_now d_saved d_now_tests d_saved_tests mono PT now_words_C0_size_ now_words_C1_size_ now_words_C2_size_ now_letters_ now_words_ now_tests_count_ saved_words_) (RW_X11_saveSnapshot cy o q_now_words_C0 q_now_words_C1 q_now_words_C2 q_saved_words_C0 q_saved_words_C1 q_saved_words_C2 d d_now_words_C0 d_now_words_C1 d_now_words_C2 d_saved_words_C0 d_saved_words_C1 d_saved_words_C2 d_now d_saved d_now_tests d_saved_tests mono PT out.2.1 inputLength_ out.2.2.1 out.2.2.2.1 out.2.2.2.2.1 out.2.2.2.2.2.1 now_words_C0_letters_ now_words_C1_letters_ now_words_C2_letters_ out.2.2.2.2.2.2.1 out.2.2.2.2.2.2.2.1 out.2.2.2.2.2.2.2.2.1 now_languages_ out.2.2.2.2.2.2.2.2.2.1 out.2.2.2.2.2.2.2.2.2.2.1 now_tests_members_ out.2.2.2.2.2.2.2.2.2.2.2) out.1 :=
  mk_i (ty := .int) (by decide) rfl rfl (Nat.le_of_ble_eq_true rfl) (fun p e s m args below meth c A Q X K H locs ls Z hl => wt_X11_saveSnapshot o q_now_words_C0 q_now_words_C1 q_now_words_C2 q_saved_words_C0 q_saved_words_C1 q_saved_words_C2 d d_now_words_C0 d_now_words_C1 d_now_words_C2 d_saved_words_C0 d_saved_words_C1 d_saved_words_C2 d_now d_saved d_now_tests d_saved_tests mono PT tq lq now_words_C0_size_ now_words_C1_size_ now_words_C2_size_ now_letters_ now_words_ now_tests_count_ saved_words_ snapshotTaken_ inputLength_ saved_words_C0_size_ saved_words_C1_size_ saved_words_C2_size_ saved_letters_ now_words_C0_letters_ now_words_C1_letters_ now_words_C2_letters_ saved_words_C0_letters_ saved_words_C1_letters_ saved_words_C2_letters_ now_languages_ saved_tests_count_ saved_languages_ now_tests_members_ saved_tests_members_ out hT hU X h K H locs ls Z hl)
