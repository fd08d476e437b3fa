set_option linter.unusedVariables false
/-! SubwordCounter test (II)I -/
abbrev rm_X11_test : Room := { frames := 1, cells := 0, slots := 0, locals := 21 }
def RW_X11_test (cy : Nat → ClassId) (o : Nat) (d : Nat → Nat) (d_now : Nat → Nat) (d_now_tests : Nat → Nat) (mono : Value) (PT : va_W)  : va_W := []
def RO_X11_test (cy : Nat → ClassId) (o : Nat) (d : Nat → Nat) (d_now : Nat → Nat) (d_now_tests : Nat → Nat) (mono : Value) (PT : va_W) (snapshotTaken_ : Int32) (inputLength_ : Int32) (now_letters_ : Int32) (now_tests_count_ : Int32) (now_tests_members_ : Nat → Option Nat) : va_W := [(o, ob 10 (oX11 d mono snapshotTaken_ inputLength_)), ((d 0), ob 5 (oX5 d_now now_letters_)), ((d_now 2), ob 1 (oX1 d_now_tests now_tests_count_)), ((d_now_tests 0), aR cy 4 8 now_tests_members_)] ++ PT
theorem in_X11_test_X11 : ∀ w ∈ u_ws RX11 TX11 12, w ∈ wsX11_test := fun w h => (List.mem_cons_of_mem _ (List.mem_append_left _ (List.mem_append_left _ (List.mem_append_left _ (List.mem_append_right _ h)))))
theorem lk_X11_test_X11_now : Lk wsX11_test RX11 10 10 0 := ⟨RX11, TX11, 12, rfl, by decide, in_X11_test_X11, mem_at 1 rfl⟩
theorem in_X11_test_X5 : ∀ w ∈ u_ws RX5 TX5 4, w ∈ wsX11_test := fun w h => (List.mem_cons_of_mem _ (List.mem_append_left _ (List.mem_append_left _ (List.mem_append_right _ h))))
theorem lk_X11_test_X5_tests : Lk wsX11_test RX11 127 5 2 := ⟨RX5, TX5, 4, rfl, by decide, in_X11_test_X5, mem_at 2 rfl⟩
theorem in_X11_test_X1 : ∀ w ∈ u_ws RX1 TX1 2, w ∈ wsX11_test := fun w h => (List.mem_cons_of_mem _ (List.mem_append_left _ (List.mem_append_right _ h)))
theorem lk_X11_test_X1_members : Lk wsX11_test RX11 156 1 0 := ⟨RX1, TX1, 2, rfl, by decide, in_X11_test_X1, mem_at 3 rfl⟩
theorem in_X11_test_X8 : ∀ w ∈ u_ws RX8 TX8 5, w ∈ wsX11_test := fun w h => (List.mem_cons_of_mem _ (List.mem_append_right _ h))
theorem lk_X11_test_X8_kind : Lk wsX11_test RX11 160 7 0 := ⟨RX8, TX8, 5, rfl, by decide, in_X11_test_X8, mem_at 4 rfl⟩
theorem lk_X11_test_X8_range : Lk wsX11_test RX11 165 7 2 := ⟨RX8, TX8, 5, rfl, by decide, in_X11_test_X8, mem_at 5 rfl⟩
theorem lk_X11_test_X8_size : Lk wsX11_test RX11 168 7 3 := ⟨RX8, TX8, 5, rfl, by decide, in_X11_test_X8, mem_at 6 rfl⟩
def f_X11_test (x1 : Int32) (x2 : Int32) (tq : Nat → Option TV) (now_tests_count_ : Int32) (now_tests_members_ : Nat → Option Nat) : Option (Int32) :=
  (f_X11_isTest x1 now_tests_count_).bind (fun u1 =>
  if u1 = 0 then
  (some (-1 : Int32))
  else
  (ldA now_tests_members_ 8 x1 (fun r4 =>
  tsA tq r4 (fun a6 tv7 =>
  if x2 = (0 : Int32) then
  some tv7.1
  else
  (if x2 = (1 : Int32) then
  some tv7.2.2.1
  else
  (if x2 = (2 : Int32) then
  some tv7.2.2.2.1
  else
  (some (-1 : Int32))))))))
set_option maxHeartbeats 4000000 in
set_option maxRecDepth 100000 in
theorem wt_X11_test {p : Program} {l : Launch} {e : Env} {s : State} {m : MethodId} {args : Array Value} {below : List Frame} {meth : Method} {c : Code} {A : Nat → Prop} {Q : State → Prop} {D : va_G} {cy : Nat → ClassId} (o : Nat) (d : Nat → Nat) (d_now : Nat → Nat) (d_now_tests : Nat → Nat) (mono : Value) (PT : va_W) (tq : Nat → Option TV) (snapshotTaken_ : Int32) (inputLength_ : Int32) (now_letters_ : Int32) (now_tests_count_ : Int32) (now_tests_members_ : Nat → Option Nat)  (x1 : Int32) (x2 : Int32) (out : Int32) (hT : TP cy PT tq) (X : Cx p m c cX11_test 4 s args wsX11_test RX11 A D cy (RO_X11_test cy o d d_now d_now_tests mono PT snapshotTaken_ inputLength_ now_letters_ now_tests_count_ now_tests_members_)) (h : f_X11_test x1 x2 tq now_tests_count_ now_tests_members_ = some out) (K : ∀ (H : Heap) (locs : List Loc) (ls : Array Slot) (pc : Nat), decode cX11_test pc = .ok (.ireturn, 1) → St A D s (RW_X11_test cy o d d_now d_now_tests mono PT) H locs → W p l e rm_X11_test s m args below meth c H locs 0 0 Q (F0 m pc ls [.int out])) : ∀ (H : Heap) (locs : List Loc) (ls : Array Slot), St A D s (RW_X11_test cy o d d_now d_now_tests mono PT) H locs → lv_has ls 4 [(0, .ref o), (1, .int x1), (2, .int x2)] → W p l e rm_X11_test s m args below meth c H locs 0 0 Q (F0 m 0 ls []) := by
  intro H locs ls Z hl
  have hx := X.1.1
  have hb := X.1.2.1
  unfold f_X11_test at h
  refine lv_aload_n hx hb dX11_test_0 rfl (lv_at hl 0 rfl) ?_
  refine lv_iload_n hx hb dX11_test_1 rfl (lv_at hl 1 rfl) ?_
  obtain ⟨u1, hc2, h⟩ := ob_some h
  refine x_runVi (RW' := (RW_X11_test cy o d d_now d_now_tests mono PT)) (wr := []) (isC := []) (isR := []) (isF := []) (rest := []) (As := [.int x1]) (n := 1) X Z (c_X11_isTest l D cy o d d_now d_now_tests mono snapshotTaken_ inputLength_ now_letters_ now_tests_count_ x1 u1 hc2) gX11_test_X11_isTest rfl (by decide +kernel) ⟨Nat.le_of_ble_eq_true rfl, Nat.le_of_ble_eq_true rfl⟩ ⟨rfl, rfl⟩ ⟨Nat.le_of_ble_eq_true rfl, Nat.le_of_ble_eq_true rfl⟩ (x_rvO X Z 0 rfl rfl) ⟨rfl, rfl, (roC (Or.inr (mem_at 0 rfl)) (roC (Or.inr (mem_at 1 rfl)) (roC (Or.inr (mem_at 2 rfl)) roN))), rfl, rfl, by decide⟩ ⟨rfl, rfl⟩ rfl hl.1 rfl (Nat.le_of_ble_eq_true rfl) dX11_test_2 (fun H locs Z => ?_)
  refine lv_if_ne (tgt := 10) hx hb dX11_test_5 (by decide) (fun cnd => ?_) (fun cnd => ?_)
  · replace h := ifn h cnd
    refine lv_aload_n hx hb dX11_test_10 rfl (lv_at hl 0 rfl) ?_
    refine x_getO X Z 0 0 (v := .ref (d 0)) rfl rfl lk_X11_test_X11_now dX11_test_11 ?_
    refine x_getO X Z 1 2 (v := .ref (d_now 2)) rfl rfl lk_X11_test_X5_tests dX11_test_14 ?_
    refine x_getO X Z 2 0 (v := .ref (d_now_tests 0)) rfl rfl lk_X11_test_X1_members dX11_test_17 ?_
    refine lv_iload_n hx hb dX11_test_20 rfl (lv_at hl 1 rfl) ?_
    obtain ⟨hin3, r4, hv5, h⟩ := ld_b h
    obtain ⟨a6, tv7, hr8, ht9, h⟩ := ts_b h
    refine x_raldO X Z 3 4 rfl rfl hin3 hv5 hr8 dX11_test_21 ?_
    refine lv_astore_n (lv' := [(3, .ref a6), (0, .ref o), (1, .int x1), (2, .int x2)]) hx hb dX11_test_22 rfl hl (by decide) rfl (fun ls hl => ?_)
    refine lv_iload_n hx hb dX11_test_23 rfl (lv_at hl 3 rfl) ?_
    by_cases hk0 : x2 = (0 : Int32)
    · replace h := ifp h hk0
      refine lv_tableIn (tgt := 52) hx hb dX11_test_24 (by rw [hk0]; decide) (by rw [hk0]; decide) (by rw [hk0]; rfl) (by decide) ?_
      refine lv_aload_n hx hb dX11_test_52 rfl (lv_at hl 0 rfl) ?_
      refine x_getM X Z 0 (v := .int tv7.1) (List.mem_append_right _ (hT a6 tv7 ht9).1) rfl lk_X11_test_X8_kind dX11_test_53 ?_
      obtain rfl := Option.some.inj h
      exact K H locs ls _ dX11_test_56 Z
    · replace h := ifn h hk0
      by_cases hk1 : x2 = (1 : Int32)
      · replace h := ifp h hk1
        refine lv_tableIn (tgt := 57) hx hb dX11_test_24 (by rw [hk1]; decide) (by rw [hk1]; decide) (by rw [hk1]; rfl) (by decide) ?_
        refine lv_aload_n hx hb dX11_test_57 rfl (lv_at hl 0 rfl) ?_
        refine x_getM X Z 2 (v := .int tv7.2.2.1) (List.mem_append_right _ (hT a6 tv7 ht9).1) rfl lk_X11_test_X8_range dX11_test_58 ?_
        obtain rfl := Option.some.inj h
        exact K H locs ls _ dX11_test_61 Z
      · replace h := ifn h hk1
        by_cases hk2 : x2 = (2 : Int32)
        · replace h := ifp h hk2
          refine lv_tableIn (tgt := 62) hx hb dX11_test_24 (by rw [hk2]; decide) (by rw [hk2]; decide) (by rw [hk2]; rfl) (by decide) ?_
          refine lv_aload_n hx hb dX11_test_62 rfl (lv_at hl 0 rfl) ?_
          refine x_getM X Z 3 (v := .int tv7.2.2.2.1) (List.mem_append_right _ (hT a6 tv7 ht9).1) rfl lk_X11_test_X8_size dX11_test_63 ?_
          obtain rfl := Option.some.inj h
          exact K H locs ls _ dX11_test_66 Z
        · replace h := ifn h hk2
          refine lv_tableOut (tgt := 67) hx hb dX11_test_24 (tbl_out3 hk0 hk1 hk2) (by decide) ?_
          refine lv_iconst (v := (-1 : Int32)) hx hb dX11_test_67 (by decide) ?_
          obtain rfl := Option.some.inj h
          exact K H locs ls _ dX11_test_68 Z
  · replace h := ifp h cnd
    refine lv_iconst (v := (-1 : Int32)) hx hb dX11_test_8 (by decide) ?_
    obtain rfl := Option.some.inj h
    exact K H locs ls _ dX11_test_9 Z
theorem c_X11_test (l : Launch) (D : va_G) (cy : Nat → ClassId) (o : Nat) (d : Nat → Nat) (d_now : Nat → Nat) (d_now_tests : Nat → Nat) (mono : Value) (PT : va_W) (tq : Nat → Option TV) (snapshotTaken_ : Int32) (inputLength_ : Int32) (now_letters_ : Int32) (now_tests_count_ : Int32) (now_tests_members_ : Nat → Option Nat)  (x1 : Int32) (x2 : Int32) (out : Int32) (hT : TP cy PT tq) (h : f_X11_test x1 x2 tq now_tests_count_ now_tests_members_ = some out) : CtI l yX11_test wsX11_test rm_X11_test D cy [.ref o, .int x1, .int x2] (RW_X11_test cy o d d_now d_now_tests mono PT) (RO_X11_test cy o d d_now d_now_tests mono PT snapshotTaken_ inputLength_ now_letters_ now_tests_count_ now_tests_members_) (RW_X11_test cy o d d_now d_now_tests mono PT) out :=
  mk_i (ty := .int) (by decide) rfl rfl (Nat.le_of_ble_eq_true rfl) (fun p e s m args below meth c A Q X K H locs ls Z hl => wt_X11_test o d d_now d_now_tests mono PT tq snapshotTaken_ inputLength_ now_letters_ now_tests_count_ now_tests_members_ x1 x2 out hT X h K H locs ls Z hl)
/-! SubwordCounter$Test bounded (I)I -/
abbrev rm_X8_bounded : Room := { frames := 1, cells := 0, slots := 0, locals := 21 }
def RW_X8_bounded (cy : Nat → ClassId) (o : Nat) (d : Nat → Nat)  : va_W := []
def RO_X8_bounded (cy : Nat → ClassId) (o : Nat) (d : Nat → Nat) (kind_ : Int32) (limit_ : Int32) (range_ : Int32) (size_ : Int32) : va_W := [(o, ob 7 (oX8 d kind_ limit_ range_ size_))]
theorem in_X8_bounded_X8 : ∀ w ∈ u_ws RX8 TX8 5, w ∈ wsX8_bounded := fun w h => (List.mem_cons_of_mem _ (List.mem_append_right _ h))
theorem lk_X8_bounded_X8_kind : Lk wsX8_bounded RX8 9 7 0 := ⟨RX8, TX8, 5, rfl, by decide, in_X8_bounded_X8, mem_at 1 rfl⟩
theorem lk_X8_bounded_X8_limit : Lk wsX8_bounded RX8 15 7 1 := ⟨RX8, TX8, 5, rfl, by decide, in_X8_bounded_X8, mem_at 2 rfl⟩
def f_X8_bounded (x1 : Int32) (kind_ : Int32) (limit_ : Int32) : Option (Int32) :=
  if kind_ = (2 : Int32) then
  (some (mnI x1 limit_))
  else
  (if x1 < limit_ then
  some x1
  else
  (some (x1 - limit_)))
set_option maxHeartbeats 4000000 in
set_option maxRecDepth 100000 in
theorem wt_X8_bounded {p : Program} {l : Launch} {e : Env} {s : State} {m : MethodId} {args : Array Value} {below : List Frame} {meth : Method} {c : Code} {A : Nat → Prop} {Q : State → Prop} {D : va_G} {cy : Nat → ClassId} (o : Nat) (d : Nat → Nat) (kind_ : Int32) (limit_ : Int32) (range_ : Int32) (size_ : Int32)  (x1 : Int32) (out : Int32) (X : Cx p m c cX8_bounded 2 s args wsX8_bounded RX8 A D cy (RO_X8_bounded cy o d kind_ limit_ range_ size_)) (h : f_X8_bounded x1 kind_ limit_ = some out) (K : ∀ (H : Heap) (locs : List Loc) (ls : Array Slot) (pc : Nat), decode cX8_bounded pc = .ok (.ireturn, 1) → St A D s (RW_X8_bounded cy o d) H locs → W p l e rm_X8_bounded s m args below meth c H locs 0 0 Q (F0 m pc ls [.int out])) : ∀ (H : Heap) (locs : List Loc) (ls : Array Slot), St A D s (RW_X8_bounded cy o d) H locs → lv_has ls 2 [(0, .ref o), (1, .int x1)] → W p l e rm_X8_bounded s m args below meth c H locs 0 0 Q (F0 m 0 ls []) := by
  intro H locs ls Z hl
  have hx := X.1.1
  have hb := X.1.2.1
  unfold f_X8_bounded at h
  refine lv_aload_n hx hb dX8_bounded_0 rfl (lv_at hl 0 rfl) ?_
  refine x_getO X Z 0 0 (v := .int kind_) rfl rfl lk_X8_bounded_X8_kind dX8_bounded_1 ?_
  refine lv_iconst (v := (2 : Int32)) hx hb dX8_bounded_4 (by decide) ?_
  refine lv_icmp_ne (tgt := 17) hx hb dX8_bounded_5 (by decide) (fun cnd => ?_) (fun cnd => ?_)
  · replace h := ifn h cnd
    refine lv_iload_n hx hb dX8_bounded_17 rfl (lv_at hl 1 rfl) ?_
    refine lv_aload_n hx hb dX8_bounded_18 rfl (lv_at hl 0 rfl) ?_
    refine x_getO X Z 0 1 (v := .int limit_) rfl rfl lk_X8_bounded_X8_limit dX8_bounded_19 ?_
    refine lv_icmp_lt (tgt := 34) hx hb dX8_bounded_22 (by decide) (fun cnd => ?_) (fun cnd => ?_)
    · replace h := ifp h cnd
      refine lv_iload_n hx hb dX8_bounded_34 rfl (lv_at hl 1 rfl) ?_
      obtain rfl := Option.some.inj h
      exact K H locs ls _ dX8_bounded_35 Z
    · replace h := ifn h cnd
      refine lv_iload_n hx hb dX8_bounded_25 rfl (lv_at hl 1 rfl) ?_
      refine lv_aload_n hx hb dX8_bounded_26 rfl (lv_at hl 0 rfl) ?_
      refine x_getO X Z 0 1 (v := .int limit_) rfl rfl lk_X8_bounded_X8_limit dX8_bounded_27 ?_
      refine lv_isub hx hb dX8_bounded_30 ?_
      refine lv_goto (tgt := 35) hx hb dX8_bounded_31 (by decide) ?_
      obtain rfl := Option.some.inj h
      exact K H locs ls _ dX8_bounded_35 Z
  · replace h := ifp h cnd
    refine lv_iload_n hx hb dX8_bounded_8 rfl (lv_at hl 1 rfl) ?_
    refine lv_aload_n hx hb dX8_bounded_9 rfl (lv_at hl 0 rfl) ?_
    refine x_getO X Z 0 1 (v := .int limit_) rfl rfl lk_X8_bounded_X8_limit dX8_bounded_10 ?_
    refine x_mmin X Z hl (mem_at 3 rfl) (mem_at 4 rfl) (mem_at 5 rfl) (mem_at 6 rfl) (Nat.le_of_ble_eq_true rfl) (Nat.le_of_ble_eq_true rfl) (Nat.le_of_ble_eq_true rfl) (Nat.le_of_ble_eq_true rfl) dX8_bounded_13 ?_
    obtain rfl := Option.some.inj h
    exact K H locs ls _ dX8_bounded_16 Z
theorem c_X8_bounded (l : Launch) (D : va_G) (cy : Nat → ClassId) (o : Nat) (d : Nat → Nat) (kind_ : Int32) (limit_ : Int32) (range_ : Int32) (size_ : Int32)  (x1 : Int32) (out : Int32) (h : f_X8_bounded x1 kind_ limit_ = some out) : CtI l yX8_bounded wsX8_bounded rm_X8_bounded D cy [.ref o, .int x1] (RW_X8_bounded cy o d) (RO_X8_bounded cy o d kind_ limit_ range_ size_) (RW_X8_bounded cy o d) out :=
  mk_i (ty := .int) (by decide) rfl rfl (Nat.le_of_ble_eq_true rfl) (fun p e s m args below meth c A Q X K H locs ls Z hl => wt_X8_bounded o d kind_ limit_ range_ size_ x1 out X h K H locs ls Z hl)
/-! SubwordCounter$Test step (II)I -/
abbrev rm_X8_step : Room := { frames := 2, cells := 0, slots := 0, locals := 42 }
def RW_X8_step (cy : Nat → ClassId) (o : Nat) (n_pattern : Nat) (d : Nat → Nat)  : va_W := []
def RO_X8_step (cy : Nat → ClassId) (o : Nat) (n_pattern : Nat) (d : Nat → Nat) (kind_ : Int32) (limit_ : Int32) (range_ : Int32) (size_ : Int32) (pattern_ : Nat → Int32) : va_W := [(o, ob 7 (oX8 d kind_ limit_ range_ size_)), ((d 4), aI cy n_pattern pattern_)]
theorem in_X8_step_X8 : ∀ w ∈ u_ws RX8 TX8 5, w ∈ wsX8_step := fun w h => (List.mem_cons_of_mem _ (List.mem_append_right _ h))
theorem lk_X8_step_X8_size : Lk wsX8_step RX8 21 7 3 := ⟨RX8, TX8, 5, rfl, by decide, in_X8_step_X8, mem_at 2 rfl⟩
theorem lk_X8_step_X8_pattern : Lk wsX8_step RX8 24 7 4 := ⟨RX8, TX8, 5, rfl, by decide, in_X8_step_X8, mem_at 3 rfl⟩
theorem lk_X8_step_X8_kind : Lk wsX8_step RX8 9 7 0 := ⟨RX8, TX8, 5, rfl, by decide, in_X8_step_X8, mem_at 1 rfl⟩
def b_X8_step_24 (n_pattern : Nat) (kind_ : Int32) (limit_ : Int32) (size_ : Int32) (pattern_ : Nat → Int32) (x1 : Int32) (x2 : Int32)  (x3 : Int32) (x4 : Int32) (x5 : Int32) : Option ((Int32 × Int32 × Int32) ⊕ (Int32)) :=
  if size_ ≤ x5 then
  (some (.inr x3))
  else
  (ldA pattern_ n_pattern x5 (fun v2 =>
  if v2 = x2 then
  ((f_X8_bounded (((ushI x1 ((4 : Int32) * x5)) &&& (15 : Int32)) + x4) kind_ limit_).bind (fun u4 =>
  some (.inl (((x3 &&& (((15 : Int32) <<< (((4 : Int32) * x5) &&& 31)) ^^^ (-1 : Int32))) ||| (u4 <<< (((4 : Int32) * x5) &&& 31))), ((ushI x1 ((4 : Int32) * x5)) &&& (15 : Int32)), (x5 + (1 : Int32))))))
  else
  (some (.inl (x3, ((ushI x1 ((4 : Int32) * x5)) &&& (15 : Int32)), (x5 + (1 : Int32)))))))
set_option maxHeartbeats 4000000 in
set_option maxRecDepth 100000 in
theorem wb_X8_step_24 {p : Program} {l : Launch} {e : Env} {s : State} {m : MethodId} {args : Array Value} {below : List Frame} {meth : Method} {c : Code} {A : Nat → Prop} {Q : State → Prop} {D : va_G} {cy : Nat → ClassId} (o : Nat) (n_pattern : Nat) (d : Nat → Nat) (kind_ : Int32) (limit_ : Int32) (range_ : Int32) (size_ : Int32) (pattern_ : Nat → Int32)  (x1 : Int32) (x2 : Int32)  (x3 : Int32) (x4 : Int32) (x5 : Int32) (o1 : (Int32 × Int32 × Int32) ⊕ (Int32)) (X : Cx p m c cX8_step 7 s args wsX8_step RX8 A D cy (RO_X8_step cy o n_pattern d kind_ limit_ range_ size_ pattern_)) (h : b_X8_step_24 n_pattern kind_ limit_ size_ pattern_ x1 x2 x3 x4 x5 = some o1) (K : Sum.elim (fun v : Int32 × Int32 × Int32 => ∀ (H : Heap) (locs : List Loc) (ls : Array Slot), St A D s (RW_X8_step cy o n_pattern d) H locs → lv_has ls 7 [(0, .ref o), (1, .int x1), (2, .int x2), (3, .int v.1), (4, .int v.2.1), (5, .int v.2.2)] → W p l e rm_X8_step s m args below meth c H locs 0 0 Q (F0 m 24 ls [])) (fun v : Int32 => ∀ (H : Heap) (locs : List Loc) (ls : Array Slot), St A D s (RW_X8_step cy o n_pattern d) H locs → lv_has ls 7 [(3, .int v)] → W p l e rm_X8_step s m args below meth c H locs 0 0 Q (F0 m 92 ls [])) o1) : ∀ (H : Heap) (locs : List Loc) (ls : Array Slot), St A D s (RW_X8_step cy o n_pattern d) H locs → lv_has ls 7 [(0, .ref o), (1, .int x1), (2, .int x2), (3, .int x3), (4, .int x4), (5, .int x5)] → W p l e rm_X8_step s m args below meth c H locs 0 0 Q (F0 m 24 ls []) := by
  intro H locs ls Z hl
  have hx := X.1.1
  have hb := X.1.2.1
  unfold b_X8_step_24 at h
  refine lv_iload hx hb dX8_step_24 (lv_at hl 5 rfl) ?_
  refine lv_aload_n hx hb dX8_step_26 rfl (lv_at hl 0 rfl) ?_
  refine x_getO X Z 0 3 (v := .int size_) rfl rfl lk_X8_step_X8_size dX8_step_27 ?_
  refine lv_icmp_ge (tgt := 92) hx hb dX8_step_30 (by decide) (fun cnd => ?_) (fun cnd => ?_)
  · replace h := ifp h cnd
    obtain rfl := Option.some.inj h
    exact (sk_r K) H locs ls Z (lv_sub hl [3] rfl)
  · replace h := ifn h cnd
    refine lv_iload_n hx hb dX8_step_33 rfl (lv_at hl 1 rfl) ?_
    refine lv_iconst (v := (4 : Int32)) hx hb dX8_step_34 (by decide) ?_
    refine lv_iload hx hb dX8_step_35 (lv_at hl 5 rfl) ?_
    refine lv_imul hx hb dX8_step_37 ?_
    refine lv_iushr (v := (ushI x1 ((4 : Int32) * x5))) hx hb dX8_step_38 rfl ?_
    refine lv_bipush (v := (15 : Int32)) hx hb dX8_step_39 (by decide) ?_
    refine lv_iand hx hb dX8_step_41 ?_
    refine lv_istore (lv' := [(6, .int ((ushI x1 ((4 : Int32) * x5)) &&& (15 : Int32))), (0, .ref o), (1, .int x1), (2, .int x2), (3, .int x3), (4, .int x4), (5, .int x5)]) hx hb dX8_step_42 hl (by decide) rfl (fun ls hl => ?_)
    refine lv_aload_n hx hb dX8_step_44 rfl (lv_at hl 1 rfl) ?_
    refine x_getO X Z 0 4 (v := .ref (d 4)) rfl rfl lk_X8_step_X8_pattern dX8_step_45 ?_
    refine lv_iload hx hb dX8_step_48 (lv_at hl 6 rfl) ?_
    obtain ⟨hin1, v2, hv3, h⟩ := ld_b h
    refine x_ialdO X Z 1 rfl hin1 hv3 dX8_step_50 ?_
    refine lv_iload_n hx hb dX8_step_51 rfl (lv_at hl 3 rfl) ?_
    refine lv_icmp_ne (tgt := 82) hx hb dX8_step_52 (by decide) (fun cnd => ?_) (fun cnd => ?_)
    · replace h := ifn h cnd
      refine lv_iload hx hb dX8_step_82 (lv_at hl 0 rfl) ?_
      refine lv_istore (lv' := [(4, .int ((ushI x1 ((4 : Int32) * x5)) &&& (15 : Int32))), (6, .int ((ushI x1 ((4 : Int32) * x5)) &&& (15 : Int32))), (0, .ref o), (1, .int x1), (2, .int x2), (3, .int x3), (5, .int x5)]) hx hb dX8_step_84 hl (by decide) rfl (fun ls hl => ?_)
      refine lv_iinc (v := (x5 + (1 : Int32))) (lv' := [(5, .int (x5 + (1 : Int32))), (4, .int ((ushI x1 ((4 : Int32) * x5)) &&& (15 : Int32))), (6, .int ((ushI x1 ((4 : Int32) * x5)) &&& (15 : Int32))), (0, .ref o), (1, .int x1), (2, .int x2), (3, .int x3)]) hx hb dX8_step_86 hl (k := 6) rfl rfl (by decide) rfl (fun ls hl => ?_)
      refine lv_goto (tgt := 24) hx hb dX8_step_89 (by decide) ?_
      obtain rfl := Option.some.inj h
      exact sk_l K H locs ls Z (lv_sub hl [3, 4, 5, 6, 1, 0] rfl)
    · replace h := ifp h cnd
      refine lv_iload_n hx hb dX8_step_55 rfl (lv_at hl 4 rfl) ?_
      refine lv_bipush (v := (15 : Int32)) hx hb dX8_step_56 (by decide) ?_
      refine lv_iconst (v := (4 : Int32)) hx hb dX8_step_58 (by decide) ?_
      refine lv_iload hx hb dX8_step_59 (lv_at hl 6 rfl) ?_
      refine lv_imul hx hb dX8_step_61 ?_
      refine lv_ishl hx hb dX8_step_62 ?_
      refine lv_iconst (v := (-1 : Int32)) hx hb dX8_step_63 (by decide) ?_
      refine lv_ixor hx hb dX8_step_64 ?_
      refine lv_iand hx hb dX8_step_65 ?_
      refine lv_aload_n hx hb dX8_step_66 rfl (lv_at hl 1 rfl) ?_
      refine lv_iload hx hb dX8_step_67 (lv_at hl 0 rfl) ?_
      refine lv_iload hx hb dX8_step_69 (lv_at hl 5 rfl) ?_
      refine lv_iadd hx hb dX8_step_71 ?_
      obtain ⟨u4, hc5, h⟩ := ob_some h
      refine x_runVi (RW' := (RW_X8_step cy o n_pattern d)) (wr := []) (isC := []) (isR := []) (isF := []) (rest := [.int (x3 &&& (((15 : Int32) <<< (((4 : Int32) * x5) &&& 31)) ^^^ (-1 : Int32)))]) (As := [.int (((ushI x1 ((4 : Int32) * x5)) &&& (15 : Int32)) + x4)]) (n := 1) X Z (c_X8_bounded l D cy o d kind_ limit_ range_ size_ (((ushI x1 ((4 : Int32) * x5)) &&& (15 : Int32)) + x4) u4 hc5) gX8_step_X8_bounded rfl (by decide +kernel) ⟨Nat.le_of_ble_eq_true rfl, Nat.le_of_ble_eq_true rfl⟩ ⟨rfl, rfl⟩ ⟨Nat.le_of_ble_eq_true rfl, Nat.le_of_ble_eq_true rfl⟩ (x_rvO X Z 0 rfl rfl) ⟨rfl, rfl, (roC (Or.inr (mem_at 0 rfl)) roN), rfl, rfl, by decide⟩ ⟨rfl, rfl⟩ rfl hl.1 rfl (Nat.le_of_ble_eq_true rfl) dX8_step_72 (fun H locs Z => ?_)
      refine lv_iconst (v := (4 : Int32)) hx hb dX8_step_75 (by decide) ?_
      refine lv_iload hx hb dX8_step_76 (lv_at hl 6 rfl) ?_
      refine lv_imul hx hb dX8_step_78 ?_
      refine lv_ishl hx hb dX8_step_79 ?_
      refine lv_ior hx hb dX8_step_80 ?_
      refine lv_istore_n (lv' := [(3, .int ((x3 &&& (((15 : Int32) <<< (((4 : Int32) * x5) &&& 31)) ^^^ (-1 : Int32))) ||| (u4 <<< (((4 : Int32) * x5) &&& 31)))), (6, .int ((ushI x1 ((4 : Int32) * x5)) &&& (15 : Int32))), (0, .ref o), (1, .int x1), (2, .int x2), (4, .int x4), (5, .int x5)]) hx hb dX8_step_81 rfl hl (by decide) rfl (fun ls hl => ?_)
      refine lv_iload hx hb dX8_step_82 (lv_at hl 1 rfl) ?_
      refine lv_istore (lv' := [(4, .int ((ushI x1 ((4 : Int32) * x5)) &&& (15 : Int32))), (3, .int ((x3 &&& (((15 : Int32) <<< (((4 : Int32) * x5) &&& 31)) ^^^ (-1 : Int32))) ||| (u4 <<< (((4 : Int32) * x5) &&& 31)))), (6, .int ((ushI x1 ((4 : Int32) * x5)) &&& (15 : Int32))), (0, .ref o), (1, .int x1), (2, .int x2), (5, .int x5)]) hx hb dX8_step_84 hl (by decide) rfl (fun ls hl => ?_)
      refine lv_iinc (v := (x5 + (1 : Int32))) (lv' := [(5, .int (x5 + (1 : Int32))), (4, .int ((ushI x1 ((4 : Int32) * x5)) &&& (15 : Int32))), (3, .int ((x3 &&& (((15 : Int32) <<< (((4 : Int32) * x5) &&& 31)) ^^^ (-1 : Int32))) ||| (u4 <<< (((4 : Int32) * x5) &&& 31)))), (6, .int ((ushI x1 ((4 : Int32) * x5)) &&& (15 : Int32))), (0, .ref o), (1, .int x1), (2, .int x2)]) hx hb dX8_step_86 hl (k := 6) rfl rfl (by decide) rfl (fun ls hl => ?_)
      refine lv_goto (tgt := 24) hx hb dX8_step_89 (by decide) ?_
      obtain rfl := Option.some.inj h
      exact sk_l K H locs ls Z (lv_sub hl [4, 5, 6, 2, 1, 0] rfl)
set_option maxHeartbeats 4000000 in
set_option maxRecDepth 100000 in
theorem wl_X8_step_24 {p : Program} {l : Launch} {e : Env} {s : State} {m : MethodId} {args : Array Value} {below : List Frame} {meth : Method} {c : Code} {A : Nat → Prop} {Q : State → Prop} {D : va_G} {cy : Nat → ClassId} (o : Nat) (n_pattern : Nat) (d : Nat → Nat) (kind_ : Int32) (limit_ : Int32) (range_ : Int32) (size_ : Int32) (pattern_ : Nat → Int32)  (x1 : Int32) (x2 : Int32) (n : Nat) (v : Int32 × Int32 × Int32) (x : Int32) (X : Cx p m c cX8_step 7 s args wsX8_step RX8 A D cy (RO_X8_step cy o n_pattern d kind_ limit_ range_ size_ pattern_)) (h : loopN (fun v => b_X8_step_24 n_pattern kind_ limit_ size_ pattern_ x1 x2 v.1 v.2.1 v.2.2) n v = some x) (K : ∀ (H : Heap) (locs : List Loc) (ls : Array Slot), St A D s (RW_X8_step cy o n_pattern d) H locs → lv_has ls 7 [(3, .int x)] → W p l e rm_X8_step s m args below meth c H locs 0 0 Q (F0 m 92 ls [])) : ∀ (H : Heap) (locs : List Loc) (ls : Array Slot), St A D s (RW_X8_step cy o n_pattern d) H locs → lv_has ls 7 [(0, .ref o), (1, .int x1), (2, .int x2), (3, .int v.1), (4, .int v.2.1), (5, .int v.2.2)] → W p l e rm_X8_step s m args below meth c H locs 0 0 Q (F0 m 24 ls []) :=
  loop_gen (B := (fun v => b_X8_step_24 n_pattern kind_ limit_ size_ pattern_ x1 x2 v.1 v.2.1 v.2.2)) (Head := fun v : Int32 × Int32 × Int32 => ∀ (H : Heap) (locs : List Loc) (ls : Array Slot), St A D s (RW_X8_step cy o n_pattern d) H locs → lv_has ls 7 [(0, .ref o), (1, .int x1), (2, .int x2), (3, .int v.1), (4, .int v.2.1), (5, .int v.2.2)] → W p l e rm_X8_step s m args below meth c H locs 0 0 Q (F0 m 24 ls [])) (Exit := fun v : Int32 => ∀ (H : Heap) (locs : List Loc) (ls : Array Slot), St A D s (RW_X8_step cy o n_pattern d) H locs → lv_has ls 7 [(3, .int v)] → W p l e rm_X8_step s m args below meth c H locs 0 0 Q (F0 m 92 ls [])) (fun v o9 hb1 K1 => wb_X8_step_24 o n_pattern d kind_ limit_ range_ size_ pattern_ x1 x2 v.1 v.2.1 v.2.2 o9 X hb1 K1) n v x h K
def f_X8_step (x1 : Int32) (x2 : Int32) (n_pattern : Nat) (kind_ : Int32) (limit_ : Int32) (size_ : Int32) (pattern_ : Nat → Int32) : Option (Int32) :=
  if kind_ = (1 : Int32) then
  ((f_X8_bounded (x1 + (1 : Int32)) kind_ limit_).bind (fun u8 =>
  some u8))
  else
  ((loopN (fun v => b_X8_step_24 n_pattern kind_ limit_ size_ pattern_ x1 x2 v.1 v.2.1 v.2.2) FU (x1, (1 : Int32), (0 : Int32))).bind (fun u6 =>
  some u6))
set_option maxHeartbeats 4000000 in
set_option maxRecDepth 100000 in
theorem wt_X8_step {p : Program} {l : Launch} {e : Env} {s : State} {m : MethodId} {args : Array Value} {below : List Frame} {meth : Method} {c : Code} {A : Nat → Prop} {Q : State → Prop} {D : va_G} {cy : Nat → ClassId} (o : Nat) (n_pattern : Nat) (d : Nat → Nat) (kind_ : Int32) (limit_ : Int32) (range_ : Int32) (size_ : Int32) (pattern_ : Nat → Int32)  (x1 : Int32) (x2 : Int32) (out : Int32) (X : Cx p m c cX8_step 7 s args wsX8_step RX8 A D cy (RO_X8_step cy o n_pattern d kind_ limit_ range_ size_ pattern_)) (h : f_X8_step x1 x2 n_pattern kind_ limit_ size_ pattern_ = some out) (K : ∀ (H : Heap) (locs : List Loc) (ls : Array Slot) (pc : Nat), decode cX8_step pc = .ok (.ireturn, 1) → St A D s (RW_X8_step cy o n_pattern d) H locs → W p l e rm_X8_step s m args below meth c H locs 0 0 Q (F0 m pc ls [.int out])) : ∀ (H : Heap) (locs : List Loc) (ls : Array Slot), St A D s (RW_X8_step cy o n_pattern d) H locs → lv_has ls 7 [(0, .ref o), (1, .int x1), (2, .int x2)] → W p l e rm_X8_step s m args below meth c H locs 0 0 Q (F0 m 0 ls []) := by
  intro H locs ls Z hl
  have hx := X.1.1
  have hb := X.1.2.1
  unfold f_X8_step at h
  refine lv_aload_n hx hb dX8_step_0 rfl (lv_at hl 0 rfl) ?_
  refine x_getO X Z 0 0 (v := .int kind_) rfl rfl lk_X8_step_X8_kind dX8_step_1 ?_
  refine lv_iconst (v := (1 : Int32)) hx hb dX8_step_4 (by decide) ?_
  refine lv_icmp_ne (tgt := 16) hx hb dX8_step_5 (by decide) (fun cnd => ?_) (fun cnd => ?_)
  · replace h := ifn h cnd
    refine lv_iload_n hx hb dX8_step_16 rfl (lv_at hl 1 rfl) ?_
    refine lv_istore_n (lv' := [(3, .int x1), (0, .ref o), (1, .int x1), (2, .int x2)]) hx hb dX8_step_17 rfl hl (by decide) rfl (fun ls hl => ?_)
    refine lv_iconst (v := (1 : Int32)) hx hb dX8_step_18 (by decide) ?_
    refine lv_istore (lv' := [(4, .int (1 : Int32)), (3, .int x1), (0, .ref o), (1, .int x1), (2, .int x2)]) hx hb dX8_step_19 hl (by decide) rfl (fun ls hl => ?_)
    refine lv_iconst (v := (0 : Int32)) hx hb dX8_step_21 (by decide) ?_
    refine lv_istore (lv' := [(5, .int (0 : Int32)), (4, .int (1 : Int32)), (3, .int x1), (0, .ref o), (1, .int x1), (2, .int x2)]) hx hb dX8_step_22 hl (by decide) rfl (fun ls hl => ?_)
    obtain ⟨u6, hL7, h⟩ := ob_some h
    refine wl_X8_step_24 o n_pattern d kind_ limit_ range_ size_ pattern_ x1 x2 FU (x1, (1 : Int32), (0 : Int32)) u6 X hL7 (fun H locs ls Z hl => ?_) H locs ls Z (lv_sub hl [3, 4, 5, 2, 1, 0] rfl)
    refine lv_iload_n hx hb dX8_step_92 rfl (lv_at hl 0 rfl) ?_
    obtain rfl := Option.some.inj h
    exact K H locs ls _ dX8_step_93 Z
  · replace h := ifp h cnd
    refine lv_aload_n hx hb dX8_step_8 rfl (lv_at hl 0 rfl) ?_
    refine lv_iload_n hx hb dX8_step_9 rfl (lv_at hl 1 rfl) ?_
    refine lv_iconst (v := (1 : Int32)) hx hb dX8_step_10 (by decide) ?_
    refine lv_iadd hx hb dX8_step_11 ?_
    obtain ⟨u8, hc9, h⟩ := ob_some h
    refine x_runVi (RW' := (RW_X8_step cy o n_pattern d)) (wr := []) (isC := []) (isR := []) (isF := []) (rest := []) (As := [.int (x1 + (1 : Int32))]) (n := 1) X Z (c_X8_bounded l D cy o d kind_ limit_ range_ size_ (x1 + (1 : Int32)) u8 hc9) gX8_step_X8_bounded rfl (by decide +kernel) ⟨Nat.le_of_ble_eq_true rfl, Nat.le_of_ble_eq_true rfl⟩ ⟨rfl, rfl⟩ ⟨Nat.le_of_ble_eq_true rfl, Nat.le_of_ble_eq_true rfl⟩ (x_rvO X Z 0 rfl rfl) ⟨rfl, rfl, (roC (Or.inr (mem_at 0 rfl)) roN), rfl, rfl, by decide⟩ ⟨rfl, rfl⟩ rfl hl.1 rfl (Nat.le_of_ble_eq_true rfl) dX8_step_12 (fun H locs Z => ?_)
    obtain rfl := Option.some.inj h
    exact K H locs ls _ dX8_step_15 Z
theorem c_X8_step (l : Launch) (D : va_G) (cy : Nat → ClassId) (o : Nat) (n_pattern : Nat) (d : Nat → Nat) (kind_ : Int32) (limit_ : Int32) (range_ : Int32) (size_ : Int32) (pattern_ : Nat → Int32)  (x1 : Int32) (x2 : Int32) (out : Int32) (h : f_X8_step x1 x2 n_pattern kind_ limit_ size_ pattern_ = some out) : CtI l yX8_step wsX8_step rm_X8_step D cy [.ref o, .int x1, .int x2] (RW_X8_step cy o n_pattern d) (RO_X8_step cy o n_pattern d kind_ limit_ range_ size_ pattern_) (RW_X8_step cy o n_pattern d) out :=
  mk_i (ty := .int) (by decide) rfl rfl (Nat.le_of_ble_eq_true rfl) (fun p e s m args below meth c A Q X K H locs ls Z hl => wt_X8_step o n_pattern d kind_ limit_ range_ size_ pattern_ x1 x2 out X h K H locs ls Z hl)
/-! SubwordCounter$Test valueAt (I)I -/
abbrev rm_X8_valueAt : Room := { frames := 0, cells := 0, slots := 0, locals := 0 }
def RW_X8_valueAt (cy : Nat → ClassId) (o : Nat) (d : Nat → Nat)  : va_W := []
def RO_X8_valueAt (cy : Nat → ClassId) (o : Nat) (d : Nat → Nat) (kind_ : Int32) (limit_ : Int32) (range_ : Int32) (size_ : Int32) : va_W := [(o, ob 7 (oX8 d kind_ limit_ range_ size_))]
theorem in_X8_valueAt_X8 : ∀ w ∈ u_ws RX8 TX8 5, w ∈ wsX8_valueAt := fun w h => (List.mem_cons_of_mem _ (List.mem_append_right _ h))
theorem lk_X8_valueAt_X8_kind : Lk wsX8_valueAt RX8 9 7 0 := ⟨RX8, TX8, 5, rfl, by decide, in_X8_valueAt_X8, mem_at 1 rfl⟩
theorem lk_X8_valueAt_X8_size : Lk wsX8_valueAt RX8 21 7 3 := ⟨RX8, TX8, 5, rfl, by decide, in_X8_valueAt_X8, mem_at 2 rfl⟩
def f_X8_valueAt (x1 : Int32) (kind_ : Int32) (size_ : Int32) : Option (Int32) :=
  if kind_ = (1 : Int32) then
  some x1
  else
  (some ((ushI x1 ((4 : Int32) * (size_ - (1 : Int32)))) &&& (15 : Int32)))
set_option maxHeartbeats 4000000 in
set_option maxRecDepth 100000 in
theorem wt_X8_valueAt {p : Program} {l : Launch} {e : Env} {s : State} {m : MethodId} {args : Array Value} {below : List Frame} {meth : Method} {c : Code} {A : Nat → Prop} {Q : State → Prop} {D : va_G} {cy : Nat → ClassId} (o : Nat) (d : Nat → Nat) (kind_ : Int32) (limit_ : Int32) (range_ : Int32) (size_ : Int32)  (x1 : Int32) (out : Int32) (X : Cx p m c cX8_valueAt 2 s args wsX8_valueAt RX8 A D cy (RO_X8_valueAt cy o d kind_ limit_ range_ size_)) (h : f_X8_valueAt x1 kind_ size_ = some out) (K : ∀ (H : Heap) (locs : List Loc) (ls : Array Slot) (pc : Nat), decode cX8_valueAt pc = .ok (.ireturn, 1) → St A D s (RW_X8_valueAt cy o d) H locs → W p l e rm_X8_valueAt s m args below meth c H locs 0 0 Q (F0 m pc ls [.int out])) : ∀ (H : Heap) (locs : List Loc) (ls : Array Slot), St A D s (RW_X8_valueAt cy o d) H locs → lv_has ls 2 [(0, .ref o), (1, .int x1)] → W p l e rm_X8_valueAt s m args below meth c H locs 0 0 Q (F0 m 0 ls []) := by
  intro H locs ls Z hl
  have hx := X.1.1
  have hb := X.1.2.1
  unfold f_X8_valueAt at h
  refine lv_aload_n hx hb dX8_valueAt_0 rfl (lv_at hl 0 rfl) ?_
  refine x_getO X Z 0 0 (v := .int kind_) rfl rfl lk_X8_valueAt_X8_kind dX8_valueAt_1 ?_
  refine lv_iconst (v := (1 : Int32)) hx hb dX8_valueAt_4 (by decide) ?_
  refine lv_icmp_ne (tgt := 12) hx hb dX8_valueAt_5 (by decide) (fun cnd => ?_) (fun cnd => ?_)
  · replace h := ifn h cnd
    refine lv_iload_n hx hb dX8_valueAt_12 rfl (lv_at hl 1 rfl) ?_
    refine lv_iconst (v := (4 : Int32)) hx hb dX8_valueAt_13 (by decide) ?_
    refine lv_aload_n hx hb dX8_valueAt_14 rfl (lv_at hl 0 rfl) ?_
    refine x_getO X Z 0 3 (v := .int size_) rfl rfl lk_X8_valueAt_X8_size dX8_valueAt_15 ?_
    refine lv_iconst (v := (1 : Int32)) hx hb dX8_valueAt_18 (by decide) ?_
    refine lv_isub hx hb dX8_valueAt_19 ?_
    refine lv_imul hx hb dX8_valueAt_20 ?_
    refine lv_iushr (v := (ushI x1 ((4 : Int32) * (size_ - (1 : Int32))))) hx hb dX8_valueAt_21 rfl ?_
    refine lv_bipush (v := (15 : Int32)) hx hb dX8_valueAt_22 (by decide) ?_
    refine lv_iand hx hb dX8_valueAt_24 ?_
    obtain rfl := Option.some.inj h
    exact K H locs ls _ dX8_valueAt_25 Z
  · replace h := ifp h cnd
    refine lv_iload_n hx hb dX8_valueAt_8 rfl (lv_at hl 1 rfl) ?_
    refine lv_goto (tgt := 25) hx hb dX8_valueAt_9 (by decide) ?_
    obtain rfl := Option.some.inj h
    exact K H locs ls _ dX8_valueAt_25 Z
theorem c_X8_valueAt (l : Launch) (D : va_G) (cy : Nat → ClassId) (o : Nat) (d : Nat → Nat) (kind_ : Int32) (limit_ : Int32) (range_ : Int32) (size_ : Int32)  (x1 : Int32) (out : Int32) (h : f_X8_valueAt x1 kind_ size_ = some out) : CtI l yX8_valueAt wsX8_valueAt rm_X8_valueAt D cy [.ref o, .int x1] (RW_X8_valueAt cy o d) (RO_X8_valueAt cy o d kind_ limit_ range_ size_) (RW_X8_valueAt cy o d) out :=
  mk_i (ty := .int) (by decide) rfl rfl (Nat.le_of_ble_eq_true rfl) (fun p e s m args below meth c A Q X K H locs ls Z hl => wt_X8_valueAt o d kind_ limit_ range_ size_ x1 out X h K H locs ls Z hl)
/-! SubwordCounter$Test valueFor (LSubwordCounter$Word;)I -/
abbrev rm_X8_valueFor : Room := { frames := 3, cells := 0, slots := 0, locals := 68 }
def RW_X8_valueFor (cy : Nat → ClassId) (o : Nat) (q_p1 : Nat) (n_pattern : Nat) (d : Nat → Nat) (d_p1 : Nat → Nat)  : va_W := []
def RO_X8_valueFor (cy : Nat → ClassId) (o : Nat) (q_p1 : Nat) (n_pattern : Nat) (d : Nat → Nat) (d_p1 : Nat → Nat) (kind_ : Int32) (limit_ : Int32) (range_ : Int32) (size_ : Int32) (p1_size_ : Int32) (pattern_ : Nat → Int32) (p1_letters_ : Nat → Int32) : va_W := [(o, ob 7 (oX8 d kind_ limit_ range_ size_)), (q_p1, ob 8 (oX9 d_p1 p1_size_)), ((d 4), aI cy n_pattern pattern_), ((d_p1 0), aI cy 12 p1_letters_)]
theorem in_X8_valueFor_X9 : ∀ w ∈ u_ws RX9 TX9 3, w ∈ wsX8_valueFor := fun w h => (List.mem_cons_of_mem _ (List.mem_append_left _ (List.mem_append_right _ h)))
theorem lk_X8_valueFor_X9_size : Lk wsX8_valueFor RX8 38 8 1 := ⟨RX9, TX9, 3, rfl, by decide, in_X8_valueFor_X9, mem_at 1 rfl⟩
theorem lk_X8_valueFor_X9_letters : Lk wsX8_valueFor RX8 41 8 0 := ⟨RX9, TX9, 3, rfl, by decide, in_X8_valueFor_X9, mem_at 2 rfl⟩
def b_X8_valueFor_4 (n_pattern : Nat) (kind_ : Int32) (limit_ : Int32) (size_ : Int32) (p1_size_ : Int32) (pattern_ : Nat → Int32) (p1_letters_ : Nat → Int32)  (x2 : Int32) (x3 : Int32) : Option ((Int32 × Int32) ⊕ (Int32)) :=
  if p1_size_ ≤ x3 then
  (some (.inr x2))
  else
  (ldA p1_letters_ 12 x3 (fun v2 =>
  (f_X8_step x2 v2 n_pattern kind_ limit_ size_ pattern_).bind (fun u4 =>
  some (.inl (u4, (x3 + (1 : Int32)))))))
set_option maxHeartbeats 4000000 in
set_option maxRecDepth 100000 in
theorem wb_X8_valueFor_4 {p : Program} {l : Launch} {e : Env} {s : State} {m : MethodId} {args : Array Value} {below : List Frame} {meth : Method} {c : Code} {A : Nat → Prop} {Q : State → Prop} {D : va_G} {cy : Nat → ClassId} (o : Nat) (q_p1 : Nat) (n_pattern : Nat) (d : Nat → Nat) (d_p1 : Nat → Nat) (kind_ : Int32) (limit_ : Int32) (range_ : Int32) (size_ : Int32) (p1_size_ : Int32) (pattern_ : Nat → Int32) (p1_letters_ : Nat → Int32)   (x2 : Int32) (x3 : Int32) (o1 : (Int32 × Int32) ⊕ (Int32)) (X : Cx p m c cX8_valueFor 4 s args wsX8_valueFor RX8 A D cy (RO_X8_valueFor cy o q_p1 n_pattern d d_p1 kind_ limit_ range_ size_ p1_size_ pattern_ p1_letters_)) (h : b_X8_valueFor_4 n_pattern kind_ limit_ size_ p1_size_ pattern_ p1_letters_ x2 x3 = some o1) (K : Sum.elim (fun v : Int32 × Int32 => ∀ (H : Heap) (locs : List Loc) (ls : Array Slot), St A D s (RW_X8_valueFor cy o q_p1 n_pattern d d_p1) H locs → lv_has ls 4 [(0, .ref o), (1, .ref q_p1), (2, .int v.1), (3, .int v.2)] → W p l e rm_X8_valueFor s m args below meth c H locs 0 0 Q (F0 m 4 ls [])) (fun v : Int32 => ∀ (H : Heap) (locs : List Loc) (ls : Array Slot), St A D s (RW_X8_valueFor cy o q_p1 n_pattern d d_p1) H locs → lv_has ls 4 [(0, .ref o), (2, .int v)] → W p l e rm_X8_valueFor s m args below meth c H locs 0 0 Q (F0 m 30 ls [])) o1) : ∀ (H : Heap) (locs : List Loc) (ls : Array Slot), St A D s (RW_X8_valueFor cy o q_p1 n_pattern d d_p1) H locs → lv_has ls 4 [(0, .ref o), (1, .ref q_p1), (2, .int x2), (3, .int x3)] → W p l e rm_X8_valueFor s m args below meth c H locs 0 0 Q (F0 m 4 ls []) := by
  intro H locs ls Z hl
  have hx := X.1.1
  have hb := X.1.2.1
  unfold b_X8_valueFor_4 at h
  refine lv_iload_n hx hb dX8_valueFor_4 rfl (lv_at hl 3 rfl) ?_
  refine lv_aload_n hx hb dX8_valueFor_5 rfl (lv_at hl 1 rfl) ?_
  refine x_getO X Z 1 1 (v := .int p1_size_) rfl rfl lk_X8_valueFor_X9_size dX8_valueFor_6 ?_
  refine lv_icmp_ge (tgt := 30) hx hb dX8_valueFor_9 (by decide) (fun cnd => ?_) (fun cnd => ?_)
  · replace h := ifp h cnd
    obtain rfl := Option.some.inj h
    exact (sk_r K) H locs ls Z (lv_sub hl [0, 2] rfl)
  · replace h := ifn h cnd
    refine lv_aload_n hx hb dX8_valueFor_12 rfl (lv_at hl 0 rfl) ?_
    refine lv_iload_n hx hb dX8_valueFor_13 rfl (lv_at hl 2 rfl) ?_
    refine lv_aload_n hx hb dX8_valueFor_14 rfl (lv_at hl 1 rfl) ?_
    refine x_getO X Z 1 0 (v := .ref (d_p1 0)) rfl rfl lk_X8_valueFor_X9_letters dX8_valueFor_15 ?_
    refine lv_iload_n hx hb dX8_valueFor_18 rfl (lv_at hl 3 rfl) ?_
    obtain ⟨hin1, v2, hv3, h⟩ := ld_b h
    refine x_ialdO X Z 3 rfl hin1 hv3 dX8_valueFor_19 ?_
    obtain ⟨u4, hc5, h⟩ := ob_some h
    refine x_runVi (RW' := (RW_X8_valueFor cy o q_p1 n_pattern d d_p1)) (wr := []) (isC := []) (isR := []) (isF := []) (rest := []) (As := [.int x2, .int v2]) (n := 2) X Z (c_X8_step l D cy o n_pattern d kind_ limit_ range_ size_ pattern_ x2 v2 u4 hc5) gX8_valueFor_X8_step rfl (by decide +kernel) ⟨Nat.le_of_ble_eq_true rfl, Nat.le_of_ble_eq_true rfl⟩ ⟨rfl, rfl⟩ ⟨Nat.le_of_ble_eq_true rfl, Nat.le_of_ble_eq_true rfl⟩ (x_rvO X Z 0 rfl rfl) ⟨rfl, rfl, (roC (Or.inr (mem_at 0 rfl)) (roC (Or.inr (mem_at 2 rfl)) roN)), rfl, rfl, by decide⟩ ⟨rfl, rfl⟩ rfl hl.1 rfl (Nat.le_of_ble_eq_true rfl) dX8_valueFor_20 (fun H locs Z => ?_)
    refine lv_istore_n (lv' := [(2, .int u4), (0, .ref o), (1, .ref q_p1), (3, .int x3)]) hx hb dX8_valueFor_23 rfl hl (by decide) rfl (fun ls hl => ?_)
    refine lv_iinc (v := (x3 + (1 : Int32))) (lv' := [(3, .int (x3 + (1 : Int32))), (2, .int u4), (0, .ref o), (1, .ref q_p1)]) hx hb dX8_valueFor_24 hl (k := 3) rfl rfl (by decide) rfl (fun ls hl => ?_)
    refine lv_goto (tgt := 4) hx hb dX8_valueFor_27 (by decide) ?_
    obtain rfl := Option.some.inj h
    exact sk_l K H locs ls Z (lv_sub hl [2, 3, 1, 0] rfl)
set_option maxHeartbeats 4000000 in
set_option maxRecDepth 100000 in
theorem wl_X8_valueFor_4 {p : Program} {l : Launch} {e : Env} {s : State} {m : MethodId} {args : Array Value} {below : List Frame} {meth : Method} {c : Code} {A : Nat → Prop} {Q : State → Prop} {D : va_G} {cy : Nat → ClassId} (o : Nat) (q_p1 : Nat) (n_pattern : Nat) (d : Nat → Nat) (d_p1 : Nat → Nat) (kind_ : Int32) (limit_ : Int32) (range_ : Int32) (size_ : Int32) (p1_size_ : Int32) (pattern_ : Nat → Int32) (p1_letters_ : Nat → Int32)  (n : Nat) (v : Int32 × Int32) (x : Int32) (X : Cx p m c cX8_valueFor 4 s args wsX8_valueFor RX8 A D cy (RO_X8_valueFor cy o q_p1 n_pattern d d_p1 kind_ limit_ range_ size_ p1_size_ pattern_ p1_letters_)) (h : loopN (fun v => b_X8_valueFor_4 n_pattern kind_ limit_ size_ p1_size_ pattern_ p1_letters_ v.1 v.2) n v = some x) (K : ∀ (H : Heap) (locs : List Loc) (ls : Array Slot), St A D s (RW_X8_valueFor cy o q_p1 n_pattern d d_p1) H locs → lv_has ls 4 [(0, .ref o), (2, .int x)] → W p l e rm_X8_valueFor s m args below meth c H locs 0 0 Q (F0 m 30 ls [])) : ∀ (H : Heap) (locs : List Loc) (ls : Array Slot), St A D s (RW_X8_valueFor cy o q_p1 n_pattern d d_p1) H locs → lv_has ls 4 [(0, .ref o), (1, .ref q_p1), (2, .int v.1), (3, .int v.2)] → W p l e rm_X8_valueFor s m args below meth c H locs 0 0 Q (F0 m 4 ls []) :=
  loop_gen (B := (fun v => b_X8_valueFor_4 n_pattern kind_ limit_ size_ p1_size_ pattern_ p1_letters_ v.1 v.2)) (Head := fun v : Int32 × Int32 => ∀ (H : Heap) (locs : List Loc) (ls : Array Slot), St A D s (RW_X8_valueFor cy o q_p1 n_pattern d d_p1) H locs → lv_has ls 4 [(0, .ref o), (1, .ref q_p1), (2, .int v.1), (3, .int v.2)] → W p l e rm_X8_valueFor s m args below meth c H locs 0 0 Q (F0 m 4 ls [])) (Exit := fun v : Int32 => ∀ (H : Heap) (locs : List Loc) (ls : Array Slot), St A D s (RW_X8_valueFor cy o q_p1 n_pattern d d_p1) H locs → lv_has ls 4 [(0, .ref o), (2, .int v)] → W p l e rm_X8_valueFor s m args below meth c H locs 0 0 Q (F0 m 30 ls [])) (fun v o9 hb1 K1 => wb_X8_valueFor_4 o q_p1 n_pattern d d_p1 kind_ limit_ range_ size_ p1_size_ pattern_ p1_letters_ v.1 v.2 o9 X hb1 K1) n v x h K
def f_X8_valueFor (n_pattern : Nat) (kind_ : Int32) (limit_ : Int32) (size_ : Int32) (p1_size_ : Int32) (pattern_ : Nat → Int32) (p1_letters_ : Nat → Int32) : Option (Int32) :=
  (loopN (fun v => b_X8_valueFor_4 n_pattern kind_ limit_ size_ p1_size_ pattern_ p1_letters_ v.1 v.2) FU ((0 : Int32), (0 : Int32))).bind (fun u6 =>
  (f_X8_valueAt u6 kind_ size_).bind (fun u8 =>
  some u8))
set_option maxHeartbeats 4000000 in
set_option maxRecDepth 100000 in
theorem wt_X8_valueFor {p : Program} {l : Launch} {e : Env} {s : State} {m : MethodId} {args : Array Value} {below : List Frame} {meth : Method} {c : Code} {A : Nat → Prop} {Q : State → Prop} {D : va_G} {cy : Nat → ClassId} (o : Nat) (q_p1 : Nat) (n_pattern : Nat) (d : Nat → Nat) (d_p1 : Nat → Nat) (kind_ : Int32) (limit_ : Int32) (range_ : Int32) (size_ : Int32) (p1_size_ : Int32) (pattern_ : Nat → Int32) (p1_letters_ : Nat → Int32)  (out : Int32) (X : Cx p m c cX8_valueFor 4 s args wsX8_valueFor RX8 A D cy (RO_X8_valueFor cy o q_p1 n_pattern d d_p1 kind_ limit_ range_ size_ p1_size_ pattern_ p1_letters_)) (h : f_X8_valueFor n_pattern kind_ limit_ size_ p1_size_ pattern_ p1_letters_ = some out) (K : ∀ (H : Heap) (locs : List Loc) (ls : Array Slot) (pc : Nat), decode cX8_valueFor pc = .ok (.ireturn, 1) → St A D s (RW_X8_valueFor cy o q_p1 n_pattern d d_p1) H locs → W p l e rm_X8_valueFor s m args below meth c H locs 0 0 Q (F0 m pc ls [.int out])) : ∀ (H : Heap) (locs : List Loc) (ls : Array Slot), St A D s (RW_X8_valueFor cy o q_p1 n_pattern d d_p1) H locs → lv_has ls 4 [(0, .ref o), (1, .ref q_p1)] → W p l e rm_X8_valueFor s m args below meth c H locs 0 0 Q (F0 m 0 ls []) := by
  intro H locs ls Z hl
  have hx := X.1.1
  have hb := X.1.2.1
  unfold f_X8_valueFor at h
  refine lv_iconst (v := (0 : Int32)) hx hb dX8_valueFor_0 (by decide) ?_
  refine lv_istore_n (lv' := [(2, .int (0 : Int32)), (0, .ref o), (1, .ref q_p1)]) hx hb dX8_valueFor_1 rfl hl (by decide) rfl (fun ls hl => ?_)
  refine lv_iconst (v := (0 : Int32)) hx hb dX8_valueFor_2 (by decide) ?_
  refine lv_istore_n (lv' := [(3, .int (0 : Int32)), (2, .int (0 : Int32)), (0, .ref o), (1, .ref q_p1)]) hx hb dX8_valueFor_3 rfl hl (by decide) rfl (fun ls hl => ?_)
  obtain ⟨u6, hL7, h⟩ := ob_some h
  refine wl_X8_valueFor_4 o q_p1 n_pattern d d_p1 kind_ limit_ range_ size_ p1_size_ pattern_ p1_letters_ FU ((0 : Int32), (0 : Int32)) u6 X hL7 (fun H locs ls Z hl => ?_) H locs ls Z (lv_sub hl [2, 3, 1, 0] rfl)
  refine lv_aload_n hx hb dX8_valueFor_30 rfl (lv_at hl 0 rfl) ?_
  refine lv_iload_n hx hb dX8_valueFor_31 rfl (lv_at hl 1 rfl) ?_
  obtain ⟨u8, hc9, h⟩ := ob_some h
  refine x_runVi (RW' := (RW_X8_valueFor cy o q_p1 n_pattern d d_p1)) (wr := []) (isC := []) (isR := []) (isF := []) (rest := []) (As := [.int u6]) (n := 1) X Z (c_X8_valueAt l D cy o d kind_ limit_ range_ size_ u6 u8 hc9) gX8_valueFor_X8_valueAt rfl (by decide +kernel) ⟨Nat.le_of_ble_eq_true rfl, Nat.le_of_ble_eq_true rfl⟩ ⟨rfl, rfl⟩ ⟨Nat.le_of_ble_eq_true rfl, Nat.le_of_ble_eq_true rfl⟩ (x_rvO X Z 0 rfl rfl) ⟨rfl, rfl, (roC (Or.inr (mem_at 0 rfl)) roN), rfl, rfl, by decide⟩ ⟨rfl, rfl⟩ rfl hl.1 rfl (Nat.le_of_ble_eq_true rfl) dX8_valueFor_32 (fun H locs Z => ?_)
  obtain rfl := Option.some.inj h
  exact K H locs ls _ dX8_valueFor_35 Z
theorem c_X8_valueFor (l : Launch) (D : va_G) (cy : Nat → ClassId) (o : Nat) (q_p1 : Nat) (n_pattern : Nat) (d : Nat → Nat) (d_p1 : Nat → Nat) (kind_ : Int32) (limit_ : Int32) (range_ : Int32) (size_ : Int32) (p1_size_ : Int32) (pattern_ : Nat → Int32) (p1_letters_ : Nat → Int32)  (out : Int32) (h : f_X8_valueFor n_pattern kind_ limit_ size_ p1_size_ pattern_ p1_letters_ = some out) : CtI l yX8_valueFor wsX8_valueFor rm_X8_valueFor D cy [.ref o, .ref q_p1] (RW_X8_valueFor cy o q_p1 n_pattern d d_p1) (RO_X8_valueFor cy o q_p1 n_pattern d d_p1 kind_ limit_ range_ size_ p1_size_ pattern_ p1_letters_) (RW_X8_valueFor cy o q_p1 n_pattern d d_p1) out :=
  mk_i (ty := .int) (by decide) rfl rfl (Nat.le_of_ble_eq_true rfl) (fun p e s m args below meth c A Q X K H locs ls Z hl => wt_X8_valueFor o q_p1 n_pattern d d_p1 kind_ limit_ range_ size_ p1_size_ pattern_ p1_letters_ out X h K H locs ls Z hl)
/-! SubwordCounter value (II)I -/
abbrev rm_X11_value : Room := { frames := 4, cells := 0, slots := 0, locals := 91 }
def RW_X11_value (cy : Nat → ClassId) (o : Nat) (q_now_words_L2 : Nat) (d : Nat → Nat) (d_now_words_L2 : Nat → Nat) (d_now : Nat → Nat) (d_now_tests : Nat → Nat) (mono : Value) (PT : va_W)  : va_W := []
def RO_X11_value (cy : Nat → ClassId) (o : Nat) (q_now_words_L2 : Nat) (d : Nat → Nat) (d_now_words_L2 : Nat → Nat) (d_now : Nat → Nat) (d_now_tests : Nat → Nat) (mono : Value) (PT : va_W) (snapshotTaken_ : Int32) (inputLength_ : Int32) (now_words_L2_size_ : Int32) (now_letters_ : Int32) (now_words_L2_letters_ : Nat → Int32) (now_words_ : Nat → Option Nat) (now_tests_count_ : Int32) (now_tests_members_ : Nat → Option Nat) : va_W := [(o, ob 10 (oX11 d mono snapshotTaken_ inputLength_)), (q_now_words_L2, ob 8 (oX9 d_now_words_L2 now_words_L2_size_)), ((d 0), ob 5 (oX5 d_now now_letters_)), ((d_now_words_L2 0), aI cy 12 now_words_L2_letters_), ((d_now 1), aR cy 5 3 now_words_), ((d_now 2), ob 1 (oX1 d_now_tests now_tests_count_)), ((d_now_tests 0), aR cy 4 8 now_tests_members_)] ++ PT
theorem in_X11_value_X11 : ∀ w ∈ u_ws RX11 TX11 12, w ∈ wsX11_value := fun w h => (List.mem_cons_of_mem _ (List.mem_append_left _ (List.mem_append_left _ (List.mem_append_left _ (List.mem_append_left _ (List.mem_append_right _ h))))))
theorem lk_X11_value_X11_now : Lk wsX11_value RX11 10 10 0 := ⟨RX11, TX11, 12, rfl, by decide, in_X11_value_X11, mem_at 1 rfl⟩
theorem in_X11_value_X5 : ∀ w ∈ u_ws RX5 TX5 4, w ∈ wsX11_value := fun w h => (List.mem_cons_of_mem _ (List.mem_append_left _ (List.mem_append_left _ (List.mem_append_left _ (List.mem_append_right _ h)))))
theorem lk_X11_value_X5_tests : Lk wsX11_value RX11 127 5 2 := ⟨RX5, TX5, 4, rfl, by decide, in_X11_value_X5, mem_at 2 rfl⟩
theorem in_X11_value_X1 : ∀ w ∈ u_ws RX1 TX1 2, w ∈ wsX11_value := fun w h => (List.mem_cons_of_mem _ (List.mem_append_left _ (List.mem_append_left _ (List.mem_append_right _ h))))
theorem lk_X11_value_X1_members : Lk wsX11_value RX11 156 1 0 := ⟨RX1, TX1, 2, rfl, by decide, in_X11_value_X1, mem_at 3 rfl⟩
theorem lk_X11_value_X5_words : Lk wsX11_value RX11 85 5 1 := ⟨RX5, TX5, 4, rfl, by decide, in_X11_value_X5, mem_at 4 rfl⟩
def f_X11_value (x1 : Int32) (x2 : Int32) (q_now_words_L2 : Nat) (tq : Nat → Option TV) (now_words_L2_size_ : Int32) (now_words_L2_letters_ : Nat → Int32) (now_words_ : Nat → Option Nat) (now_tests_count_ : Int32) (now_tests_members_ : Nat → Option Nat) : Option (Int32) :=
  (f_X11_isTest x1 now_tests_count_).bind (fun u1 =>
  if u1 = 0 then
  (some (-1 : Int32))
  else
  ((f_X11_isWord x2).bind (fun u3 =>
  if u3 = 0 then
  (some (-1 : Int32))
  else
  (ldA now_tests_members_ 8 x1 (fun r6 =>
  tsA tq r6 (fun a8 tv9 =>
  ldA now_words_ 3 x2 (fun r13 =>
  asR r13 q_now_words_L2 (
  (f_X8_valueFor tv9.2.2.2.2.2.1 tv9.1 tv9.2.1 tv9.2.2.2.1 now_words_L2_size_ tv9.2.2.2.2.2.2 now_words_L2_letters_).bind (fun u16 =>
  some u16)))))))))
set_option maxHeartbeats 4000000 in
set_option maxRecDepth 100000 in
theorem wt_X11_value {p : Program} {l : Launch} {e : Env} {s : State} {m : MethodId} {args : Array Value} {below : List Frame} {meth : Method} {c : Code} {A : Nat → Prop} {Q : State → Prop} {D : va_G} {cy : Nat → ClassId} (o : Nat) (q_now_words_L2 : Nat) (d : Nat → Nat) (d_now_words_L2 : Nat → Nat) (d_now : Nat → Nat) (d_now_tests : Nat → Nat) (mono : Value) (PT : va_W) (tq : Nat → Option TV) (snapshotTaken_ : Int32) (inputLength_ : Int32) (now_words_L2_size_ : Int32) (now_letters_ : Int32) (now_words_L2_letters_ : Nat → Int32) (now_words_ : Nat → Option Nat) (now_tests_count_ : Int32) (now_tests_members_ : Nat → Option Nat)  (x1 : Int32) (x2 : Int32) (out : Int32) (hT : TP cy PT tq) (X : Cx p m c cX11_value 3 s args wsX11_value RX11 A D cy (RO_X11_value cy o q_now_words_L2 d d_now_words_L2 d_now d_now_tests mono PT snapshotTaken_ inputLength_ now_words_L2_size_ now_letters_ now_words_L2_letters_ now_words_ now_tests_count_ now_tests_members_)) (h : f_X11_value x1 x2 q_now_words_L2 tq now_words_L2_size_ now_words_L2_letters_ now_words_ now_tests_count_ now_tests_members_ = some out) (K : ∀ (H : Heap) (locs : List Loc) (ls : Array Slot) (pc : Nat), decode cX11_value pc = .ok (.ireturn, 1) → St A D s (RW_X11_value cy o q_now_words_L2 d d_now_words_L2 d_now d_now_tests mono PT) H locs → W p l e rm_X11_value s m args below meth c H locs 0 0 Q (F0 m pc ls [.int out])) : ∀ (H : Heap) (locs : List Loc) (ls : Array Slot), St A D s (RW_X11_value cy o q_now_words_L2 d d_now_words_L2 d_now d_now_tests mono PT) H locs → lv_has ls 3 [(0, .ref o), (1, .int x1), (2, .int x2)] → W p l e rm_X11_value s m args below meth c H locs 0 0 Q (F0 m 0 ls []) := by
  intro H locs ls Z hl
  have hx := X.1.1
  have hb := X.1.2.1
  unfold f_X11_value at h
  refine lv_aload_n hx hb dX11_value_0 rfl (lv_at hl 0 rfl) ?_
  refine lv_iload_n hx hb dX11_value_1 rfl (lv_at hl 1 rfl) ?_
  obtain ⟨u1, hc2, h⟩ := ob_some h
  refine x_runVi (RW' := (RW_X11_value cy o q_now_words_L2 d d_now_words_L2 d_now d_now_tests mono PT)) (wr := []) (isC := []) (isR := []) (isF := []) (rest := []) (As := [.int x1]) (n := 1) X Z (c_X11_isTest l D cy o d d_now d_now_tests mono snapshotTaken_ inputLength_ now_letters_ now_tests_count_ x1 u1 hc2) gX11_value_X11_isTest rfl (by decide +kernel) ⟨Nat.le_of_ble_eq_true rfl, Nat.le_of_ble_eq_true rfl⟩ ⟨rfl, rfl⟩ ⟨Nat.le_of_ble_eq_true rfl, Nat.le_of_ble_eq_true rfl⟩ (x_rvO X Z 0 rfl rfl) ⟨rfl, rfl, (roC (Or.inr (mem_at 0 rfl)) (roC (Or.inr (mem_at 2 rfl)) (roC (Or.inr (mem_at 5 rfl)) roN))), rfl, rfl, by decide⟩ ⟨rfl, rfl⟩ rfl hl.1 rfl (Nat.le_of_ble_eq_true rfl) dX11_value_2 (fun H locs Z => ?_)
  refine lv_if_eq (tgt := 15) hx hb dX11_value_5 (by decide) (fun cnd => ?_) (fun cnd => ?_)
  · replace h := ifp h cnd
    refine lv_iconst (v := (-1 : Int32)) hx hb dX11_value_15 (by decide) ?_
    obtain rfl := Option.some.inj h
    exact K H locs ls _ dX11_value_16 Z
  · replace h := ifn h cnd
    refine lv_iload_n hx hb dX11_value_8 rfl (lv_at hl 2 rfl) ?_
    obtain ⟨u3, hc4, h⟩ := ob_some h
    refine x_runSi (RW' := (RW_X11_value cy o q_now_words_L2 d d_now_words_L2 d_now d_now_tests mono PT)) (wr := []) (isC := []) (isR := []) (isF := []) (rest := []) (As := [.int x2]) (n := 1) X Z (c_X11_isWord l D cy x2 u3 hc4) gX11_value_X11_isWord rfl (by decide +kernel) ⟨Nat.le_of_ble_eq_true rfl, Nat.le_of_ble_eq_true rfl⟩ ⟨rfl, rfl⟩ ⟨Nat.le_of_ble_eq_true rfl, Nat.le_of_ble_eq_true rfl⟩ ⟨rfl, rfl, roN, rfl, rfl, by decide⟩ ⟨rfl, rfl⟩ rfl hl.1 rfl (Nat.le_of_ble_eq_true rfl) dX11_value_9 (fun H locs Z => ?_)
    refine lv_if_ne (tgt := 17) hx hb dX11_value_12 (by decide) (fun cnd => ?_) (fun cnd => ?_)
    · replace h := ifn h cnd
      refine lv_aload_n hx hb dX11_value_17 rfl (lv_at hl 0 rfl) ?_
      refine x_getO X Z 0 0 (v := .ref (d 0)) rfl rfl lk_X11_value_X11_now dX11_value_18 ?_
      refine x_getO X Z 2 2 (v := .ref (d_now 2)) rfl rfl lk_X11_value_X5_tests dX11_value_21 ?_
      refine x_getO X Z 5 0 (v := .ref (d_now_tests 0)) rfl rfl lk_X11_value_X1_members dX11_value_24 ?_
      refine lv_iload_n hx hb dX11_value_27 rfl (lv_at hl 1 rfl) ?_
      obtain ⟨hin5, r6, hv7, h⟩ := ld_b h
      obtain ⟨a8, tv9, hr10, ht11, h⟩ := ts_b h
      refine x_raldO X Z 6 4 rfl rfl hin5 hv7 hr10 dX11_value_28 ?_
      refine lv_aload_n hx hb dX11_value_29 rfl (lv_at hl 0 rfl) ?_
      refine x_getO X Z 0 0 (v := .ref (d 0)) rfl rfl lk_X11_value_X11_now dX11_value_30 ?_
      refine x_getO X Z 2 1 (v := .ref (d_now 1)) rfl rfl lk_X11_value_X5_words dX11_value_33 ?_
      refine lv_iload_n hx hb dX11_value_36 rfl (lv_at hl 2 rfl) ?_
      obtain ⟨hin12, r13, hv14, h⟩ := ld_b h
      obtain ⟨ha15, h⟩ := as_b h
      refine x_raldO X Z 4 5 rfl rfl hin12 hv14 ha15 dX11_value_37 ?_
      obtain ⟨u16, hc17, h⟩ := ob_some h
      refine x_runVi (RW' := (RW_X11_value cy o q_now_words_L2 d d_now_words_L2 d_now d_now_tests mono PT)) (wr := []) (isC := []) (isR := []) (isF := []) (rest := []) (As := [.ref q_now_words_L2]) (n := 1) X Z (c_X8_valueFor l D cy a8 q_now_words_L2 tv9.2.2.2.2.2.1 (fun _ => tv9.2.2.2.2.1) d_now_words_L2 tv9.1 tv9.2.1 tv9.2.2.1 tv9.2.2.2.1 now_words_L2_size_ tv9.2.2.2.2.2.2 now_words_L2_letters_ u16 hc17) gX11_value_X8_valueFor rfl (by decide +kernel) ⟨Nat.le_of_ble_eq_true rfl, Nat.le_of_ble_eq_true rfl⟩ ⟨rfl, rfl⟩ ⟨Nat.le_of_ble_eq_true rfl, Nat.le_of_ble_eq_true rfl⟩ (x_rvM X Z (List.mem_append_right _ (hT a8 tv9 ht11).1) rfl) ⟨rfl, rfl, (roC (Or.inr (List.mem_append_right _ (hT a8 tv9 ht11).1)) (roC (Or.inr (mem_at 1 rfl)) (roC (Or.inr (List.mem_append_right _ (hT a8 tv9 ht11).2)) (roC (Or.inr (mem_at 3 rfl)) roN)))), rfl, rfl, by decide⟩ ⟨rfl, rfl⟩ rfl hl.1 rfl (Nat.le_of_ble_eq_true rfl) dX11_value_38 (fun H locs Z => ?_)
      obtain rfl := Option.some.inj h
      exact K H locs ls _ dX11_value_41 Z
    · replace h := ifp h cnd
      refine lv_iconst (v := (-1 : Int32)) hx hb dX11_value_15 (by decide) ?_
      obtain rfl := Option.some.inj h
      exact K H locs ls _ dX11_value_16 Z
theorem c_X11_value (l : Launch) (D : va_G) (cy : Nat → ClassId) (o : Nat) (q_now_words_L2 : Nat) (d : Nat → Nat) (d_now_words_L2 : Nat → Nat) (d_now : Nat → Nat) (d_now_tests : Nat → Nat) (mono : Value) (PT : va_W) (tq : Nat → Option TV) (snapshotTaken_ : Int32) (inputLength_ : Int32) (now_words_L2_size_ : Int32) (now_letters_ : Int32) (now_words_L2_letters_ : Nat → Int32) (now_words_ : Nat → Option Nat) (now_tests_count_ : Int32) (now_tests_members_ : Nat → Option Nat)  (x1 : Int32) (x2 : Int32) (out : Int32) (hT : TP cy PT tq) (h : f_X11_value x1 x2 q_now_words_L2 tq now_words_L2_size_ now_words_L2_letters_ now_words_ now_tests_count_ now_tests_members_ = some out) : CtI l yX11_value wsX11_value rm_X11_value D cy [.ref o, .int x1, .int x2] (RW_X11_value cy o q_now_words_L2 d d_now_words_L2 d_now d_now_tests mono PT) (RO_X11_value cy o q_now_words_L2 d d_now_words_L2 d_now d_now_tests mono PT snapshotTaken_ inputLength_ now_words_L2_size_ now_letters_ now_words_L2_letters_ now_words_ now_tests_count_ now_tests_members_) (RW_X11_value cy o q_now_words_L2 d d_now_words_L2 d_now d_now_tests mono PT) out :=
  mk_i (ty := .int) (by decide) rfl rfl (Nat.le_of_ble_eq_true rfl) (fun p e s m args below meth c A Q X K H locs ls Z hl => wt_X11_value o q_now_words_L2 d d_now_words_L2 d_now d_now_tests mono PT tq snapshotTaken_ inputLength_ now_words_L2_size_ now_letters_ now_words_L2_letters_ now_words_ now_tests_count_ now_tests_members_ x1 x2 out hT X h K H locs ls Z hl)
/-! SubwordCounter signature (I)I -/
abbrev rm_X11_signature : Room := { frames := 4, cells := 0, slots := 0, locals := 91 }
def RW_X11_signature (cy : Nat → ClassId) (o : Nat) (q_now_words_L1 : Nat) (d : Nat → Nat) (d_now_words_L1 : Nat → Nat) (d_now : Nat → Nat) (d_now_tests : Nat → Nat) (mono : Value) (PT : va_W)  : va_W := []
def RO_X11_signature (cy : Nat → ClassId) (o : Nat) (q_now_words_L1 : Nat) (d : Nat → Nat) (d_now_words_L1 : Nat → Nat) (d_now : Nat → Nat) (d_now_tests : Nat → Nat) (mono : Value) (PT : va_W) (snapshotTaken_ : Int32) (inputLength_ : Int32) (now_words_L1_size_ : Int32) (now_letters_ : Int32) (now_words_L1_letters_ : Nat → Int32) (now_words_ : Nat → Option Nat) (now_tests_count_ : Int32) (now_tests_members_ : Nat → Option Nat) : va_W := [(o, ob 10 (oX11 d mono snapshotTaken_ inputLength_)), (q_now_words_L1, ob 8 (oX9 d_now_words_L1 now_words_L1_size_)), ((d 0), ob 5 (oX5 d_now now_letters_)), ((d_now_words_L1 0), aI cy 12 now_words_L1_letters_), ((d_now 1), aR cy 5 3 now_words_), ((d_now 2), ob 1 (oX1 d_now_tests now_tests_count_)), ((d_now_tests 0), aR cy 4 8 now_tests_members_)] ++ PT
theorem in_X11_signature_X11 : ∀ w ∈ u_ws RX11 TX11 12, w ∈ wsX11_signature := fun w h => (List.mem_cons_of_mem _ (List.mem_append_left _ (List.mem_append_left _ (List.mem_append_left _ (List.mem_append_left _ (List.mem_append_right _ h))))))
theorem lk_X11_signature_X11_now : Lk wsX11_signature RX11 10 10 0 := ⟨RX11, TX11, 12, rfl, by decide, in_X11_signature_X11, mem_at 1 rfl⟩
theorem in_X11_signature_X5 : ∀ w ∈ u_ws RX5 TX5 4, w ∈ wsX11_signature := fun w h => (List.mem_cons_of_mem _ (List.mem_append_left _ (List.mem_append_left _ (List.mem_append_left _ (List.mem_append_right _ h)))))
theorem lk_X11_signature_X5_tests : Lk wsX11_signature RX11 127 5 2 := ⟨RX5, TX5, 4, rfl, by decide, in_X11_signature_X5, mem_at 2 rfl⟩
theorem in_X11_signature_X1 : ∀ w ∈ u_ws RX1 TX1 2, w ∈ wsX11_signature := fun w h => (List.mem_cons_of_mem _ (List.mem_append_left _ (List.mem_append_left _ (List.mem_append_right _ h))))
theorem lk_X11_signature_X1_members : Lk wsX11_signature RX11 156 1 0 := ⟨RX1, TX1, 2, rfl, by decide, in_X11_signature_X1, mem_at 4 rfl⟩
theorem lk_X11_signature_X5_words : Lk wsX11_signature RX11 85 5 1 := ⟨RX5, TX5, 4, rfl, by decide, in_X11_signature_X5, mem_at 5 rfl⟩
theorem in_X11_signature_X8 : ∀ w ∈ u_ws RX8 TX8 5, w ∈ wsX11_signature := fun w h => (List.mem_cons_of_mem _ (List.mem_append_left _ (List.mem_append_right _ h)))
theorem lk_X11_signature_X8_range : Lk wsX11_signature RX11 165 7 2 := ⟨RX8, TX8, 5, rfl, by decide, in_X11_signature_X8, mem_at 6 rfl⟩
theorem lk_X11_signature_X1_count : Lk wsX11_signature RX11 131 1 1 := ⟨RX1, TX1, 2, rfl, by decide, in_X11_signature_X1, mem_at 3 rfl⟩
def b_X11_signature_24 (q_now_words_L1 : Nat) (tq : Nat → Option TV) (now_words_L1_size_ : Int32) (now_words_L1_letters_ : Nat → Int32) (now_words_ : Nat → Option Nat) (now_tests_members_ : Nat → Option Nat) (x1 : Int32)  (x2 : Int32) (x3 : Int32) : Option ((Int32 × Int32) ⊕ (Int32)) :=
  if x3 < 0 then
  (some (.inr x2))
  else
  (ldA now_tests_members_ 8 x3 (fun r2 =>
  tsA tq r2 (fun a4 tv5 =>
  ldA now_words_ 3 x1 (fun r9 =>
  asR r9 q_now_words_L1 (
  (f_X8_valueFor tv5.2.2.2.2.2.1 tv5.1 tv5.2.1 tv5.2.2.2.1 now_words_L1_size_ tv5.2.2.2.2.2.2 now_words_L1_letters_).bind (fun u12 =>
  some (.inl ((u12 + (tv5.2.2.1 * x2)), (x3 + (-1 : Int32))))))))))
set_option maxHeartbeats 4000000 in
set_option maxRecDepth 100000 in
theorem wb_X11_signature_24 {p : Program} {l : Launch} {e : Env} {s : State} {m : MethodId} {args : Array Value} {below : List Frame} {meth : Method} {c : Code} {A : Nat → Prop} {Q : State → Prop} {D : va_G} {cy : Nat → ClassId} (o : Nat) (q_now_words_L1 : Nat) (d : Nat → Nat) (d_now_words_L1 : Nat → Nat) (d_now : Nat → Nat) (d_now_tests : Nat → Nat) (mono : Value) (PT : va_W) (tq : Nat → Option TV) (snapshotTaken_ : Int32) (inputLength_ : Int32) (now_words_L1_size_ : Int32) (now_letters_ : Int32) (now_words_L1_letters_ : Nat → Int32) (now_words_ : Nat → Option Nat) (now_tests_count_ : Int32) (now_tests_members_ : Nat → Option Nat)  (x1 : Int32)  (x2 : Int32) (x3 : Int32) (o1 : (Int32 × Int32) ⊕ (Int32)) (hT : TP cy PT tq) (X : Cx p m c cX11_signature 5 s args wsX11_signature RX11 A D cy (RO_X11_signature cy o q_now_words_L1 d d_now_words_L1 d_now d_now_tests mono PT snapshotTaken_ inputLength_ now_words_L1_size_ now_letters_ now_words_L1_letters_ now_words_ now_tests_count_ now_tests_members_)) (h : b_X11_signature_24 q_now_words_L1 tq now_words_L1_size_ now_words_L1_letters_ now_words_ now_tests_members_ x1 x2 x3 = some o1) (K : Sum.elim (fun v : Int32 × Int32 => ∀ (H : Heap) (locs : List Loc) (ls : Array Slot), St A D s (RW_X11_signature cy o q_now_words_L1 d d_now_words_L1 d_now d_now_tests mono PT) H locs → lv_has ls 5 [(0, .ref o), (1, .int x1), (2, .int v.1), (3, .int v.2)] → W p l e rm_X11_signature s m args below meth c H locs 0 0 Q (F0 m 24 ls [])) (fun v : Int32 => ∀ (H : Heap) (locs : List Loc) (ls : Array Slot), St A D s (RW_X11_signature cy o q_now_words_L1 d d_now_words_L1 d_now d_now_tests mono PT) H locs → lv_has ls 5 [(2, .int v)] → W p l e rm_X11_signature s m args below meth c H locs 0 0 Q (F0 m 71 ls [])) o1) : ∀ (H : Heap) (locs : List Loc) (ls : Array Slot), St A D s (RW_X11_signature cy o q_now_words_L1 d d_now_words_L1 d_now d_now_tests mono PT) H locs → lv_has ls 5 [(0, .ref o), (1, .int x1), (2, .int x2), (3, .int x3)] → W p l e rm_X11_signature s m args below meth c H locs 0 0 Q (F0 m 24 ls []) := by
  intro H locs ls Z hl
  have hx := X.1.1
  have hb := X.1.2.1
  unfold b_X11_signature_24 at h
  refine lv_iload_n hx hb dX11_signature_24 rfl (lv_at hl 3 rfl) ?_
  refine lv_if_lt (tgt := 71) hx hb dX11_signature_25 (by decide) (fun cnd => ?_) (fun cnd => ?_)
  · replace h := ifp h cnd
    obtain rfl := Option.some.inj h
    exact (sk_r K) H locs ls Z (lv_sub hl [2] rfl)
  · replace h := ifn h cnd
    refine lv_aload_n hx hb dX11_signature_28 rfl (lv_at hl 0 rfl) ?_
    refine x_getO X Z 0 0 (v := .ref (d 0)) rfl rfl lk_X11_signature_X11_now dX11_signature_29 ?_
    refine x_getO X Z 2 2 (v := .ref (d_now 2)) rfl rfl lk_X11_signature_X5_tests dX11_signature_32 ?_
    refine x_getO X Z 5 0 (v := .ref (d_now_tests 0)) rfl rfl lk_X11_signature_X1_members dX11_signature_35 ?_
    refine lv_iload_n hx hb dX11_signature_38 rfl (lv_at hl 3 rfl) ?_
    obtain ⟨hin1, r2, hv3, h⟩ := ld_b h
    obtain ⟨a4, tv5, hr6, ht7, h⟩ := ts_b h
    refine x_raldO X Z 6 4 rfl rfl hin1 hv3 hr6 dX11_signature_39 ?_
    refine lv_astore (lv' := [(4, .ref a4), (0, .ref o), (1, .int x1), (2, .int x2), (3, .int x3)]) hx hb dX11_signature_40 hl (by decide) rfl (fun ls hl => ?_)
    refine lv_aload hx hb dX11_signature_42 (lv_at hl 0 rfl) ?_
    refine lv_aload_n hx hb dX11_signature_44 rfl (lv_at hl 1 rfl) ?_
    refine x_getO X Z 0 0 (v := .ref (d 0)) rfl rfl lk_X11_signature_X11_now dX11_signature_45 ?_
    refine x_getO X Z 2 1 (v := .ref (d_now 1)) rfl rfl lk_X11_signature_X5_words dX11_signature_48 ?_
    refine lv_iload_n hx hb dX11_signature_51 rfl (lv_at hl 2 rfl) ?_
    obtain ⟨hin8, r9, hv10, h⟩ := ld_b h
    obtain ⟨ha11, h⟩ := as_b h
    refine x_raldO X Z 4 5 rfl rfl hin8 hv10 ha11 dX11_signature_52 ?_
    obtain ⟨u12, hc13, h⟩ := ob_some h
    refine x_runVi (RW' := (RW_X11_signature cy o q_now_words_L1 d d_now_words_L1 d_now d_now_tests mono PT)) (wr := []) (isC := []) (isR := []) (isF := []) (rest := []) (As := [.ref q_now_words_L1]) (n := 1) X Z (c_X8_valueFor l D cy a4 q_now_words_L1 tv5.2.2.2.2.2.1 (fun _ => tv5.2.2.2.2.1) d_now_words_L1 tv5.1 tv5.2.1 tv5.2.2.1 tv5.2.2.2.1 now_words_L1_size_ tv5.2.2.2.2.2.2 now_words_L1_letters_ u12 hc13) gX11_signature_X8_valueFor rfl (by decide +kernel) ⟨Nat.le_of_ble_eq_true rfl, Nat.le_of_ble_eq_true rfl⟩ ⟨rfl, rfl⟩ ⟨Nat.le_of_ble_eq_true rfl, Nat.le_of_ble_eq_true rfl⟩ (x_rvM X Z (List.mem_append_right _ (hT a4 tv5 ht7).1) rfl) ⟨rfl, rfl, (roC (Or.inr (List.mem_append_right _ (hT a4 tv5 ht7).1)) (roC (Or.inr (mem_at 1 rfl)) (roC (Or.inr (List.mem_append_right _ (hT a4 tv5 ht7).2)) (roC (Or.inr (mem_at 3 rfl)) roN)))), rfl, rfl, by decide⟩ ⟨rfl, rfl⟩ rfl hl.1 rfl (Nat.le_of_ble_eq_true rfl) dX11_signature_53 (fun H locs Z => ?_)
    refine lv_aload hx hb dX11_signature_56 (lv_at hl 0 rfl) ?_
    refine x_getM X Z 2 (v := .int tv5.2.2.1) (List.mem_append_right _ (hT a4 tv5 ht7).1) rfl lk_X11_signature_X8_range dX11_signature_58 ?_
    refine lv_iload_n hx hb dX11_signature_61 rfl (lv_at hl 3 rfl) ?_
    refine lv_imul hx hb dX11_signature_62 ?_
    refine lv_iadd hx hb dX11_signature_63 ?_
    refine lv_istore_n (lv' := [(2, .int (u12 + (tv5.2.2.1 * x2))), (4, .ref a4), (0, .ref o), (1, .int x1), (3, .int x3)]) hx hb dX11_signature_64 rfl hl (by decide) rfl (fun ls hl => ?_)
    refine lv_iinc (v := (x3 + (-1 : Int32))) (lv' := [(3, .int (x3 + (-1 : Int32))), (2, .int (u12 + (tv5.2.2.1 * x2))), (4, .ref a4), (0, .ref o), (1, .int x1)]) hx hb dX11_signature_65 hl (k := 4) rfl rfl (by decide) rfl (fun ls hl => ?_)
    refine lv_goto (tgt := 24) hx hb dX11_signature_68 (by decide) ?_
    obtain rfl := Option.some.inj h
    exact sk_l K H locs ls Z (lv_sub hl [3, 4, 1, 0] rfl)
set_option maxHeartbeats 4000000 in
set_option maxRecDepth 100000 in
theorem wl_X11_signature_24 {p : Program} {l : Launch} {e : Env} {s : State} {m : MethodId} {args : Array Value} {below : List Frame} {meth : Method} {c : Code} {A : Nat → Prop} {Q : State → Prop} {D : va_G} {cy : Nat → ClassId} (o : Nat) (q_now_words_L1 : Nat) (d : Nat → Nat) (d_now_words_L1 : Nat → Nat) (d_now : Nat → Nat) (d_now_tests : Nat → Nat) (mono : Value) (PT : va_W) (tq : Nat → Option TV) (snapshotTaken_ : Int32) (inputLength_ : Int32) (now_words_L1_size_ : Int32) (now_letters_ : Int32) (now_words_L1_letters_ : Nat → Int32) (now_words_ : Nat → Option Nat) (now_tests_count_ : Int32) (now_tests_members_ : Nat → Option Nat)  (x1 : Int32) (n : Nat) (v : Int32 × Int32) (x : Int32) (hT : TP cy PT tq) (X : Cx p m c cX11_signature 5 s args wsX11_signature RX11 A D cy (RO_X11_signature cy o q_now_words_L1 d d_now_words_L1 d_now d_now_tests mono PT snapshotTaken_ inputLength_ now_words_L1_size_ now_letters_ now_words_L1_letters_ now_words_ now_tests_count_ now_tests_members_)) (h : loopN (fun v => b_X11_signature_24 q_now_words_L1 tq now_words_L1_size_ now_words_L1_letters_ now_words_ now_tests_members_ x1 v.1 v.2) n v = some x) (K : ∀ (H : Heap) (locs : List Loc) (ls : Array Slot), St A D s (RW_X11_signature cy o q_now_words_L1 d d_now_words_L1 d_now d_now_tests mono PT) H locs → lv_has ls 5 [(2, .int x)] → W p l e rm_X11_signature s m args below meth c H locs 0 0 Q (F0 m 71 ls [])) : ∀ (H : Heap) (locs : List Loc) (ls : Array Slot), St A D s (RW_X11_signature cy o q_now_words_L1 d d_now_words_L1 d_now d_now_tests mono PT) H locs → lv_has ls 5 [(0, .ref o), (1, .int x1), (2, .int v.1), (3, .int v.2)] → W p l e rm_X11_signature s m args below meth c H locs 0 0 Q (F0 m 24 ls []) :=
  loop_gen (B := (fun v => b_X11_signature_24 q_now_words_L1 tq now_words_L1_size_ now_words_L1_letters_ now_words_ now_tests_members_ x1 v.1 v.2)) (Head := fun v : Int32 × Int32 => ∀ (H : Heap) (locs : List Loc) (ls : Array Slot), St A D s (RW_X11_signature cy o q_now_words_L1 d d_now_words_L1 d_now d_now_tests mono PT) H locs → lv_has ls 5 [(0, .ref o), (1, .int x1), (2, .int v.1), (3, .int v.2)] → W p l e rm_X11_signature s m args below meth c H locs 0 0 Q (F0 m 24 ls [])) (Exit := fun v : Int32 => ∀ (H : Heap) (locs : List Loc) (ls : Array Slot), St A D s (RW_X11_signature cy o q_now_words_L1 d d_now_words_L1 d_now d_now_tests mono PT) H locs → lv_has ls 5 [(2, .int v)] → W p l e rm_X11_signature s m args below meth c H locs 0 0 Q (F0 m 71 ls [])) (fun v o9 hb1 K1 => wb_X11_signature_24 o q_now_words_L1 d d_now_words_L1 d_now d_now_tests mono PT tq snapshotTaken_ inputLength_ now_words_L1_size_ now_letters_ now_words_L1_letters_ now_words_ now_tests_count_ now_tests_members_ x1 v.1 v.2 o9 hT X hb1 K1) n v x h K
def f_X11_signature (x1 : Int32) (q_now_words_L1 : Nat) (tq : Nat → Option TV) (now_words_L1_size_ : Int32) (now_words_L1_letters_ : Nat → Int32) (now_words_ : Nat → Option Nat) (now_tests_count_ : Int32) (now_tests_members_ : Nat → Option Nat) : Option (Int32) :=
  (f_X11_isWord x1).bind (fun u14 =>
  if u14 = 0 then
  (some (-1 : Int32))
  else
  ((loopN (fun v => b_X11_signature_24 q_now_words_L1 tq now_words_L1_size_ now_words_L1_letters_ now_words_ now_tests_members_ x1 v.1 v.2) FU ((0 : Int32), (now_tests_count_ - (1 : Int32)))).bind (fun u16 =>
  some u16)))
set_option maxHeartbeats 4000000 in
set_option maxRecDepth 100000 in
theorem wt_X11_signature {p : Program} {l : Launch} {e : Env} {s : State} {m : MethodId} {args : Array Value} {below : List Frame} {meth : Method} {c : Code} {A : Nat → Prop} {Q : State → Prop} {D : va_G} {cy : Nat → ClassId} (o : Nat) (q_now_words_L1 : Nat) (d : Nat → Nat) (d_now_words_L1 : Nat → Nat) (d_now : Nat → Nat) (d_now_tests : Nat → Nat) (mono : Value) (PT : va_W) (tq : Nat → Option TV) (snapshotTaken_ : Int32) (inputLength_ : Int32) (now_words_L1_size_ : Int32) (now_letters_ : Int32) (now_words_L1_letters_ : Nat → Int32) (now_words_ : Nat → Option Nat) (now_tests_count_ : Int32) (now_tests_members_ : Nat → Option Nat)  (x1 : Int32) (out : Int32) (hT : TP cy PT tq) (X : Cx p m c cX11_signature 5 s args wsX11_signature RX11 A D cy (RO_X11_signature cy o q_now_words_L1 d d_now_words_L1 d_now d_now_tests mono PT snapshotTaken_ inputLength_ now_words_L1_size_ now_letters_ now_words_L1_letters_ now_words_ now_tests_count_ now_tests_members_)) (h : f_X11_signature x1 q_now_words_L1 tq now_words_L1_size_ now_words_L1_letters_ now_words_ now_tests_count_ now_tests_members_ = some out) (K : ∀ (H : Heap) (locs : List Loc) (ls : Array Slot) (pc : Nat), decode cX11_signature pc = .ok (.ireturn, 1) → St A D s (RW_X11_signature cy o q_now_words_L1 d d_now_words_L1 d_now d_now_tests mono PT) H locs → W p l e rm_X11_signature s m args below meth c H locs 0 0 Q (F0 m pc ls [.int out])) : ∀ (H : Heap) (locs : List Loc) (ls : Array Slot), St A D s (RW_X11_signature cy o q_now_words_L1 d d_now_words_L1 d_now d_now_tests mono PT) H locs → lv_has ls 5 [(0, .ref o), (1, .int x1)] → W p l e rm_X11_signature s m args below meth c H locs 0 0 Q (F0 m 0 ls []) := by
  intro H locs ls Z hl
  have hx := X.1.1
  have hb := X.1.2.1
  unfold f_X11_signature at h
  refine lv_iload_n hx hb dX11_signature_0 rfl (lv_at hl 1 rfl) ?_
  obtain ⟨u14, hc15, h⟩ := ob_some h
  refine x_runSi (RW' := (RW_X11_signature cy o q_now_words_L1 d d_now_words_L1 d_now d_now_tests mono PT)) (wr := []) (isC := []) (isR := []) (isF := []) (rest := []) (As := [.int x1]) (n := 1) X Z (c_X11_isWord l D cy x1 u14 hc15) gX11_signature_X11_isWord rfl (by decide +kernel) ⟨Nat.le_of_ble_eq_true rfl, Nat.le_of_ble_eq_true rfl⟩ ⟨rfl, rfl⟩ ⟨Nat.le_of_ble_eq_true rfl, Nat.le_of_ble_eq_true rfl⟩ ⟨rfl, rfl, roN, rfl, rfl, by decide⟩ ⟨rfl, rfl⟩ rfl hl.1 rfl (Nat.le_of_ble_eq_true rfl) dX11_signature_1 (fun H locs Z => ?_)
  refine lv_if_ne (tgt := 9) hx hb dX11_signature_4 (by decide) (fun cnd => ?_) (fun cnd => ?_)
  · replace h := ifn h cnd
    refine lv_iconst (v := (0 : Int32)) hx hb dX11_signature_9 (by decide) ?_
    refine lv_istore_n (lv' := [(2, .int (0 : Int32)), (0, .ref o), (1, .int x1)]) hx hb dX11_signature_10 rfl hl (by decide) rfl (fun ls hl => ?_)
    refine lv_aload_n hx hb dX11_signature_11 rfl (lv_at hl 1 rfl) ?_
    refine x_getO X Z 0 0 (v := .ref (d 0)) rfl rfl lk_X11_signature_X11_now dX11_signature_12 ?_
    refine x_getO X Z 2 2 (v := .ref (d_now 2)) rfl rfl lk_X11_signature_X5_tests dX11_signature_15 ?_
    refine x_getO X Z 5 1 (v := .int now_tests_count_) rfl rfl lk_X11_signature_X1_count dX11_signature_18 ?_
    refine lv_iconst (v := (1 : Int32)) hx hb dX11_signature_21 (by decide) ?_
    refine lv_isub hx hb dX11_signature_22 ?_
    refine lv_istore_n (lv' := [(3, .int (now_tests_count_ - (1 : Int32))), (2, .int (0 : Int32)), (0, .ref o), (1, .int x1)]) hx hb dX11_signature_23 rfl hl (by decide) rfl (fun ls hl => ?_)
    obtain ⟨u16, hL17, h⟩ := ob_some h
    refine wl_X11_signature_24 o q_now_words_L1 d d_now_words_L1 d_now d_now_tests mono PT tq snapshotTaken_ inputLength_ now_words_L1_size_ now_letters_ now_words_L1_letters_ now_words_ now_tests_count_ now_tests_members_ x1 FU ((0 : Int32), (now_tests_count_ - (1 : Int32))) u16 hT X hL17 (fun H locs ls Z hl => ?_) H locs ls Z (lv_sub hl [2, 3, 1, 0] rfl)
    refine lv_iload_n hx hb dX11_signature_71 rfl (lv_at hl 0 rfl) ?_
    obtain rfl := Option.some.inj h
    exact K H locs ls _ dX11_signature_72 Z
  · replace h := ifp h cnd
    refine lv_iconst (v := (-1 : Int32)) hx hb dX11_signature_7 (by decide) ?_
    obtain rfl := Option.some.inj h
    exact K H locs ls _ dX11_signature_8 Z
theorem c_X11_signature (l : Launch) (D : va_G) (cy : Nat → ClassId) (o : Nat) (q_now_words_L1 : Nat) (d : Nat → Nat) (d_now_words_L1 : Nat → Nat) (d_now : Nat → Nat) (d_now_tests : Nat → Nat) (mono : Value) (PT : va_W) (tq : Nat → Option TV) (snapshotTaken_ : Int32) (inputLength_ : Int32) (now_words_L1_size_ : Int32) (now_letters_ : Int32) (now_words_L1_letters_ : Nat → Int32) (now_words_ : Nat → Option Nat) (now_tests_count_ : Int32) (now_tests_members_ : Nat → Option Nat)  (x1 : Int32) (out : Int32) (hT : TP cy PT tq) (h : f_X11_signature x1 q_now_words_L1 tq now_words_L1_size_ now_words_L1_letters_ now_words_ now_tests_count_ now_tests_members_ = some out) : CtI l yX11_signature wsX11_signature rm_X11_signature D cy [.ref o, .int x1] (RW_X11_signature cy o q_now_words_L1 d d_now_words_L1 d_now d_now_tests mono PT) (RO_X11_signature cy o q_now_words_L1 d d_now_words_L1 d_now d_now_tests mono PT snapshotTaken_ inputLength_ now_words_L1_size_ now_letters_ now_words_L1_letters_ now_words_ now_tests_count_ now_tests_members_) (RW_X11_signature cy o q_now_words_L1 d d_now_words_L1 d_now d_now_tests mono PT) out :=
  mk_i (ty := .int) (by decide) rfl rfl (Nat.le_of_ble_eq_true rfl) (fun p e s m args below meth c A Q X K H locs ls Z hl => wt_X11_signature o q_now_words_L1 d d_now_words_L1 d_now d_now_tests mono PT tq snapshotTaken_ inputLength_ now_words_L1_size_ now_letters_ now_words_L1_letters_ now_words_ now_tests_count_ now_tests_members_ x1 out hT X h K H locs ls Z hl)
/-! SubwordCounter$WordList firstWithSignatureOf (I)I -/
abbrev rm_X10_firstWithSignatureOf : Room := { frames := 0, cells := 0, slots := 0, locals := 0 }
def RW_X10_firstWithSignatureOf (cy : Nat → ClassId) (o : Nat) (d : Nat → Nat) (slots_ : Nat → Int32) : va_W := [((d 3), aI cy 4096 slots_)]
def RO_X10_firstWithSignatureOf (cy : Nat → ClassId) (o : Nat) (d : Nat → Nat) (count_ : Int32) (pairFirst_ : Int32) (pairSecond_ : Int32) (signatures_ : Nat → Int32) : va_W := [(o, ob 9 (oX10 d count_ pairFirst_ pairSecond_)), ((d 2), aI cy 2187 signatures_)]
theorem in_X10_firstWithSignatureOf_X10 : ∀ w ∈ u_ws RX10 TX10 7, w ∈ wsX10_firstWithSignatureOf := fun w h => (List.mem_cons_of_mem _ (List.mem_append_right _ h))
theorem lk_X10_firstWithSignatureOf_X10_slots : Lk wsX10_firstWithSignatureOf RX10 20 9 3 := ⟨RX10, TX10, 7, rfl, by decide, in_X10_firstWithSignatureOf_X10, mem_at 3 rfl⟩
theorem lk_X10_firstWithSignatureOf_X10_signatures : Lk wsX10_firstWithSignatureOf RX10 16 9 2 := ⟨RX10, TX10, 7, rfl, by decide, in_X10_firstWithSignatureOf_X10, mem_at 1 rfl⟩
def b_X10_firstWithSignatureOf_15 (signatures_ : Nat → Int32) (slots_ : Nat → Int32) (x1 : Int32) (x2 : Int32)  (x3 : Int32) : Option ((Int32) ⊕ ((Int32) ⊕ (Int32) ⊕ (Unit))) :=
  if (4096 : Int32) ≤ x3 then
  (some (.inr (.inr (.inr ()))))
  else
  (ldA slots_ 4096 ((x2 + x3) &&& (4095 : Int32)) (fun v2 =>
  if 0 ≤ v2 then
  (ldA slots_ 4096 ((x2 + x3) &&& (4095 : Int32)) (fun v5 =>
  ldA signatures_ 2187 v5 (fun v8 =>
  ldA signatures_ 2187 x1 (fun v11 =>
  if v8 = v11 then
  (some (.inr (.inr (.inl ((x2 + x3) &&& (4095 : Int32))))))
  else
  (some (.inl (x3 + (1 : Int32))))))))
  else
  (some (.inr (.inl ((x2 + x3) &&& (4095 : Int32)))))))
set_option maxHeartbeats 4000000 in
set_option maxRecDepth 100000 in
theorem wb_X10_firstWithSignatureOf_15 {p : Program} {l : Launch} {e : Env} {s : State} {m : MethodId} {args : Array Value} {below : List Frame} {meth : Method} {c : Code} {A : Nat → Prop} {Q : State → Prop} {D : va_G} {cy : Nat → ClassId} (o : Nat) (d : Nat → Nat) (count_ : Int32) (pairFirst_ : Int32) (pairSecond_ : Int32) (signatures_ : Nat → Int32) (slots_ : Nat → Int32) (x1 : Int32) (x2 : Int32)  (x3 : Int32) (o1 : (Int32) ⊕ ((Int32) ⊕ (Int32) ⊕ (Unit))) (X : Cx p m c cX10_firstWithSignatureOf 5 s args wsX10_firstWithSignatureOf RX10 A D cy (RO_X10_firstWithSignatureOf cy o d count_ pairFirst_ pairSecond_ signatures_)) (h : b_X10_firstWithSignatureOf_15 signatures_ slots_ x1 x2 x3 = some o1) (K : Sum.elim (fun v : Int32 => ∀ (H : Heap) (locs : List Loc) (ls : Array Slot), St A D s (RW_X10_firstWithSignatureOf cy o d slots_) H locs → lv_has ls 5 [(0, .ref o), (1, .int x1), (2, .int x2), (3, .int v)] → W p l e rm_X10_firstWithSignatureOf s m args below meth c H locs 0 0 Q (F0 m 15 ls [])) (fun v : (Int32) ⊕ (Int32) ⊕ (Unit) => Sum.elim (fun w : Int32 => ∀ (H : Heap) (locs : List Loc) (ls : Array Slot), St A D s (RW_X10_firstWithSignatureOf cy o d slots_) H locs → lv_has ls 5 [(0, .ref o), (1, .int x1), (4, .int w)] → W p l e rm_X10_firstWithSignatureOf s m args below meth c H locs 0 0 Q (F0 m 41 ls [])) (fun w => Sum.elim (fun w : Int32 => ∀ (H : Heap) (locs : List Loc) (ls : Array Slot), St A D s (RW_X10_firstWithSignatureOf cy o d slots_) H locs → lv_has ls 5 [(0, .ref o), (4, .int w)] → W p l e rm_X10_firstWithSignatureOf s m args below meth c H locs 0 0 Q (F0 m 72 ls [])) (fun w => ∀ (H : Heap) (locs : List Loc) (ls : Array Slot), St A D s (RW_X10_firstWithSignatureOf cy o d slots_) H locs → lv_has ls 5 [(1, .int x1)] → W p l e rm_X10_firstWithSignatureOf s m args below meth c H locs 0 0 Q (F0 m 86 ls [])) w) v) o1) : ∀ (H : Heap) (locs : List Loc) (ls : Array Slot), St A D s (RW_X10_firstWithSignatureOf cy o d slots_) H locs → lv_has ls 5 [(0, .ref o), (1, .int x1), (2, .int x2), (3, .int x3)] → W p l e rm_X10_firstWithSignatureOf s m args below meth c H locs 0 0 Q (F0 m 15 ls []) := by
  intro H locs ls Z hl
  have hx := X.1.1
  have hb := X.1.2.1
  unfold b_X10_firstWithSignatureOf_15 at h
  refine lv_iload_n hx hb dX10_firstWithSignatureOf_15 rfl (lv_at hl 3 rfl) ?_
  refine lv_sipush (v := (4096 : Int32)) hx hb dX10_firstWithSignatureOf_16 (by decide) ?_
  refine lv_icmp_ge (tgt := 86) hx hb dX10_firstWithSignatureOf_19 (by decide) (fun cnd => ?_) (fun cnd => ?_)
  · replace h := ifp h cnd
    obtain rfl := Option.some.inj h
    exact (sk_r (sk_r (sk_r K))) H locs ls Z (lv_sub hl [1] rfl)
  · replace h := ifn h cnd
    refine lv_iload_n hx hb dX10_firstWithSignatureOf_22 rfl (lv_at hl 2 rfl) ?_
    refine lv_iload_n hx hb dX10_firstWithSignatureOf_23 rfl (lv_at hl 3 rfl) ?_
    refine lv_iadd hx hb dX10_firstWithSignatureOf_24 ?_
    refine lv_sipush (v := (4095 : Int32)) hx hb dX10_firstWithSignatureOf_25 (by decide) ?_
    refine lv_iand hx hb dX10_firstWithSignatureOf_28 ?_
    refine lv_istore (lv' := [(4, .int ((x2 + x3) &&& (4095 : Int32))), (0, .ref o), (1, .int x1), (2, .int x2), (3, .int x3)]) hx hb dX10_firstWithSignatureOf_29 hl (by decide) rfl (fun ls hl => ?_)
    refine lv_aload_n hx hb dX10_firstWithSignatureOf_31 rfl (lv_at hl 1 rfl) ?_
    refine x_getO X Z 0 3 (v := .ref (d 3)) rfl rfl lk_X10_firstWithSignatureOf_X10_slots dX10_firstWithSignatureOf_32 ?_
    refine lv_iload hx hb dX10_firstWithSignatureOf_35 (lv_at hl 0 rfl) ?_
    obtain ⟨hin1, v2, hv3, h⟩ := ld_b h
    refine x_iald X Z 0 rfl hin1 hv3 dX10_firstWithSignatureOf_37 ?_
    refine lv_if_ge (tgt := 51) hx hb dX10_firstWithSignatureOf_38 (by decide) (fun cnd => ?_) (fun cnd => ?_)
    · replace h := ifp h cnd
      refine lv_aload_n hx hb dX10_firstWithSignatureOf_51 rfl (lv_at hl 1 rfl) ?_
      refine x_getO X Z 0 2 (v := .ref (d 2)) rfl rfl lk_X10_firstWithSignatureOf_X10_signatures dX10_firstWithSignatureOf_52 ?_
      refine lv_aload_n hx hb dX10_firstWithSignatureOf_55 rfl (lv_at hl 1 rfl) ?_
      refine x_getO X Z 0 3 (v := .ref (d 3)) rfl rfl lk_X10_firstWithSignatureOf_X10_slots dX10_firstWithSignatureOf_56 ?_
      refine lv_iload hx hb dX10_firstWithSignatureOf_59 (lv_at hl 0 rfl) ?_
      obtain ⟨hin4, v5, hv6, h⟩ := ld_b h
      refine x_iald X Z 0 rfl hin4 hv6 dX10_firstWithSignatureOf_61 ?_
      obtain ⟨hin7, v8, hv9, h⟩ := ld_b h
      refine x_ialdO X Z 1 rfl hin7 hv9 dX10_firstWithSignatureOf_62 ?_
      refine lv_aload_n hx hb dX10_firstWithSignatureOf_63 rfl (lv_at hl 1 rfl) ?_
      refine x_getO X Z 0 2 (v := .ref (d 2)) rfl rfl lk_X10_firstWithSignatureOf_X10_signatures dX10_firstWithSignatureOf_64 ?_
      refine lv_iload_n hx hb dX10_firstWithSignatureOf_67 rfl (lv_at hl 2 rfl) ?_
      obtain ⟨hin10, v11, hv12, h⟩ := ld_b h
      refine x_ialdO X Z 1 rfl hin10 hv12 dX10_firstWithSignatureOf_68 ?_
      refine lv_icmp_ne (tgt := 80) hx hb dX10_firstWithSignatureOf_69 (by decide) (fun cnd => ?_) (fun cnd => ?_)
      · replace h := ifn h cnd
        refine lv_iinc (v := (x3 + (1 : Int32))) (lv' := [(3, .int (x3 + (1 : Int32))), (4, .int ((x2 + x3) &&& (4095 : Int32))), (0, .ref o), (1, .int x1), (2, .int x2)]) hx hb dX10_firstWithSignatureOf_80 hl (k := 4) rfl rfl (by decide) rfl (fun ls hl => ?_)
        refine lv_goto (tgt := 15) hx hb dX10_firstWithSignatureOf_83 (by decide) ?_
        obtain rfl := Option.some.inj h
        exact sk_l K H locs ls Z (lv_sub hl [2, 3, 4, 0] rfl)
      · replace h := ifp h cnd
        obtain rfl := Option.some.inj h
        exact (sk_l (sk_r (sk_r K))) H locs ls Z (lv_sub hl [1, 0] rfl)
    · replace h := ifn h cnd
      obtain rfl := Option.some.inj h
      exact (sk_l (sk_r K)) H locs ls Z (lv_sub hl [1, 2, 0] rfl)
set_option maxHeartbeats 4000000 in
set_option maxRecDepth 100000 in
theorem wl_X10_firstWithSignatureOf_15 {p : Program} {l : Launch} {e : Env} {s : State} {m : MethodId} {args : Array Value} {below : List Frame} {meth : Method} {c : Code} {A : Nat → Prop} {Q : State → Prop} {D : va_G} {cy : Nat → ClassId} (o : Nat) (d : Nat → Nat) (count_ : Int32) (pairFirst_ : Int32) (pairSecond_ : Int32) (signatures_ : Nat → Int32) (slots_ : Nat → Int32) (x1 : Int32) (x2 : Int32) (n : Nat) (v : Int32) (x : (Int32) ⊕ (Int32) ⊕ (Unit)) (X : Cx p m c cX10_firstWithSignatureOf 5 s args wsX10_firstWithSignatureOf RX10 A D cy (RO_X10_firstWithSignatureOf cy o d count_ pairFirst_ pairSecond_ signatures_)) (h : loopN (fun v => b_X10_firstWithSignatureOf_15 signatures_ slots_ x1 x2 v) n v = some x) (K : Sum.elim (fun w : Int32 => ∀ (H : Heap) (locs : List Loc) (ls : Array Slot), St A D s (RW_X10_firstWithSignatureOf cy o d slots_) H locs → lv_has ls 5 [(0, .ref o), (1, .int x1), (4, .int w)] → W p l e rm_X10_firstWithSignatureOf s m args below meth c H locs 0 0 Q (F0 m 41 ls [])) (fun w => Sum.elim (fun w : Int32 => ∀ (H : Heap) (locs : List Loc) (ls : Array Slot), St A D s (RW_X10_firstWithSignatureOf cy o d slots_) H locs → lv_has ls 5 [(0, .ref o), (4, .int w)] → W p l e rm_X10_firstWithSignatureOf s m args below meth c H locs 0 0 Q (F0 m 72 ls [])) (fun w => ∀ (H : Heap) (locs : List Loc) (ls : Array Slot), St A D s (RW_X10_firstWithSignatureOf cy o d slots_) H locs → lv_has ls 5 [(1, .int x1)] → W p l e rm_X10_firstWithSignatureOf s m args below meth c H locs 0 0 Q (F0 m 86 ls [])) w) x) : ∀ (H : Heap) (locs : List Loc) (ls : Array Slot), St A D s (RW_X10_firstWithSignatureOf cy o d slots_) H locs → lv_has ls 5 [(0, .ref o), (1, .int x1), (2, .int x2), (3, .int v)] → W p l e rm_X10_firstWithSignatureOf s m args below meth c H locs 0 0 Q (F0 m 15 ls []) :=
  loop_gen (B := (fun v => b_X10_firstWithSignatureOf_15 signatures_ slots_ x1 x2 v)) (Head := fun v : Int32 => ∀ (H : Heap) (locs : List Loc) (ls : Array Slot), St A D s (RW_X10_firstWithSignatureOf cy o d slots_) H locs → lv_has ls 5 [(0, .ref o), (1, .int x1), (2, .int x2), (3, .int v)] → W p l e rm_X10_firstWithSignatureOf s m args below meth c H locs 0 0 Q (F0 m 15 ls [])) (Exit := fun v : (Int32) ⊕ (Int32) ⊕ (Unit) => Sum.elim (fun w : Int32 => ∀ (H : Heap) (locs : List Loc) (ls : Array Slot), St A D s (RW_X10_firstWithSignatureOf cy o d slots_) H locs → lv_has ls 5 [(0, .ref o), (1, .int x1), (4, .int w)] → W p l e rm_X10_firstWithSignatureOf s m args below meth c H locs 0 0 Q (F0 m 41 ls [])) (fun w => Sum.elim (fun w : Int32 => ∀ (H : Heap) (locs : List Loc) (ls : Array Slot), St A D s (RW_X10_firstWithSignatureOf cy o d slots_) H locs → lv_has ls 5 [(0, .ref o), (4, .int w)] → W p l e rm_X10_firstWithSignatureOf s m args below meth c H locs 0 0 Q (F0 m 72 ls [])) (fun w => ∀ (H : Heap) (locs : List Loc) (ls : Array Slot), St A D s (RW_X10_firstWithSignatureOf cy o d slots_) H locs → lv_has ls 5 [(1, .int x1)] → W p l e rm_X10_firstWithSignatureOf s m args below meth c H locs 0 0 Q (F0 m 86 ls [])) w) v) (fun v o9 hb1 K1 => wb_X10_firstWithSignatureOf_15 o d count_ pairFirst_ pairSecond_ signatures_ slots_ x1 x2 v o9 X hb1 K1) n v x h K
def f_X10_firstWithSignatureOf (x1 : Int32) (signatures_ : Nat → Int32) (slots_ : Nat → Int32) : Option (Int32 × (Nat → Int32)) :=
  ldA signatures_ 2187 x1 (fun v14 =>
  (loopN (fun v => b_X10_firstWithSignatureOf_15 signatures_ slots_ x1 (ushI (v14 * (-1640531535 : Int32)) (20 : Int32)) v) FU (0 : Int32)).bind (fun u16 =>
  Sum.elim (fun u16 =>
  stA slots_ 4096 u16 x1 (fun slots_19 =>
  some (x1, slots_19))) (fun u16 =>
  Sum.elim (fun u16 =>
  ldA slots_ 4096 u16 (fun v22 =>
  some (v22, slots_))) (fun u16 =>
  some (x1, slots_)) u16) u16))
set_option maxHeartbeats 4000000 in
set_option maxRecDepth 100000 in
theorem wt_X10_firstWithSignatureOf {p : Program} {l : Launch} {e : Env} {s : State} {m : MethodId} {args : Array Value} {below : List Frame} {meth : Method} {c : Code} {A : Nat → Prop} {Q : State → Prop} {D : va_G} {cy : Nat → ClassId} (o : Nat) (d : Nat → Nat) (count_ : Int32) (pairFirst_ : Int32) (pairSecond_ : Int32) (signatures_ : Nat → Int32) (slots_ : Nat → Int32) (x1 : Int32) (out : Int32 × (Nat → Int32)) (X : Cx p m c cX10_firstWithSignatureOf 5 s args wsX10_firstWithSignatureOf RX10 A D cy (RO_X10_firstWithSignatureOf cy o d count_ pairFirst_ pairSecond_ signatures_)) (h : f_X10_firstWithSignatureOf x1 signatures_ slots_ = some out) (K : ∀ (H : Heap) (locs : List Loc) (ls : Array Slot) (pc : Nat), decode cX10_firstWithSignatureOf pc = .ok (.ireturn, 1) → St A D s (RW_X10_firstWithSignatureOf cy o d out.2) H locs → W p l e rm_X10_firstWithSignatureOf s m args below meth c H locs 0 0 Q (F0 m pc ls [.int out.1])) : ∀ (H : Heap) (locs : List Loc) (ls : Array Slot), St A D s (RW_X10_firstWithSignatureOf cy o d slots_) H locs → lv_has ls 5 [(0, .ref o), (1, .int x1)] → W p l e rm_X10_firstWithSignatureOf s m args below meth c H locs 0 0 Q (F0 m 0 ls []) := by
  intro H locs ls Z hl
  have hx := X.1.1
  have hb := X.1.2.1
  unfold f_X10_firstWithSignatureOf at h
  refine lv_aload_n hx hb dX10_firstWithSignatureOf_0 rfl (lv_at hl 0 rfl) ?_
  refine x_getO X Z 0 2 (v := .ref (d 2)) rfl rfl lk_X10_firstWithSignatureOf_X10_signatures dX10_firstWithSignatureOf_1 ?_
  refine lv_iload_n hx hb dX10_firstWithSignatureOf_4 rfl (lv_at hl 1 rfl) ?_
  obtain ⟨hin13, v14, hv15, h⟩ := ld_b h
  refine x_ialdO X Z 1 rfl hin13 hv15 dX10_firstWithSignatureOf_5 ?_
  refine lv_ldc (v := (-1640531535 : Int32)) hx hb X.1.2.2.2.1 (X.1.2.2.2.2 _ (mem_at 2 rfl)) dX10_firstWithSignatureOf_6 ?_
  refine lv_imul hx hb dX10_firstWithSignatureOf_8 ?_
  refine lv_bipush (v := (20 : Int32)) hx hb dX10_firstWithSignatureOf_9 (by decide) ?_
  refine lv_iushr (v := (ushI (v14 * (-1640531535 : Int32)) (20 : Int32))) hx hb dX10_firstWithSignatureOf_11 rfl ?_
  refine lv_istore_n (lv' := [(2, .int (ushI (v14 * (-1640531535 : Int32)) (20 : Int32))), (0, .ref o), (1, .int x1)]) hx hb dX10_firstWithSignatureOf_12 rfl hl (by decide) rfl (fun ls hl => ?_)
  refine lv_iconst (v := (0 : Int32)) hx hb dX10_firstWithSignatureOf_13 (by decide) ?_
  refine lv_istore_n (lv' := [(3, .int (0 : Int32)), (2, .int (ushI (v14 * (-1640531535 : Int32)) (20 : Int32))), (0, .ref o), (1, .int x1)]) hx hb dX10_firstWithSignatureOf_14 rfl hl (by decide) rfl (fun ls hl => ?_)
  obtain ⟨u16, hL17, h⟩ := ob_some h
  rcases u16 with u16 | u16
  · replace h := se_l h
    refine wl_X10_firstWithSignatureOf_15 o d count_ pairFirst_ pairSecond_ signatures_ slots_ x1 (ushI (v14 * (-1640531535 : Int32)) (20 : Int32)) FU (0 : Int32) (.inl u16) X hL17 (sk_li (fun H locs ls Z hl => ?_)) H locs ls Z (lv_sub hl [2, 3, 1, 0] rfl)
    refine lv_aload_n hx hb dX10_firstWithSignatureOf_41 rfl (lv_at hl 0 rfl) ?_
    refine x_getO X Z 0 3 (v := .ref (d 3)) rfl rfl lk_X10_firstWithSignatureOf_X10_slots dX10_firstWithSignatureOf_42 ?_
    refine lv_iload hx hb dX10_firstWithSignatureOf_45 (lv_at hl 2 rfl) ?_
    refine lv_iload_n hx hb dX10_firstWithSignatureOf_47 rfl (lv_at hl 1 rfl) ?_
    obtain ⟨hin18, slots_19, hv20, h⟩ := st_b h
    refine x_iast X Z 0 (RW_X10_firstWithSignatureOf cy o d slots_19) rfl hin18 hv20 rfl dX10_firstWithSignatureOf_48 (fun H locs Z => ?_)
    refine lv_iload_n hx hb dX10_firstWithSignatureOf_49 rfl (lv_at hl 1 rfl) ?_
    obtain rfl := Option.some.inj h
    exact K H locs ls _ dX10_firstWithSignatureOf_50 Z
  · replace h := se_r h
    rcases u16 with u16 | u16
    · replace h := se_l h
      refine wl_X10_firstWithSignatureOf_15 o d count_ pairFirst_ pairSecond_ signatures_ slots_ x1 (ushI (v14 * (-1640531535 : Int32)) (20 : Int32)) FU (0 : Int32) (.inr (.inl u16)) X hL17 (sk_ri (sk_li (fun H locs ls Z hl => ?_))) H locs ls Z (lv_sub hl [2, 3, 1, 0] rfl)
      refine lv_aload_n hx hb dX10_firstWithSignatureOf_72 rfl (lv_at hl 0 rfl) ?_
      refine x_getO X Z 0 3 (v := .ref (d 3)) rfl rfl lk_X10_firstWithSignatureOf_X10_slots dX10_firstWithSignatureOf_73 ?_
      refine lv_iload hx hb dX10_firstWithSignatureOf_76 (lv_at hl 1 rfl) ?_
      obtain ⟨hin21, v22, hv23, h⟩ := ld_b h
      refine x_iald X Z 0 rfl hin21 hv23 dX10_firstWithSignatureOf_78 ?_
      obtain rfl := Option.some.inj h
      exact K H locs ls _ dX10_firstWithSignatureOf_79 Z
    · replace h := se_r h
      refine wl_X10_firstWithSignatureOf_15 o d count_ pairFirst_ pairSecond_ signatures_ slots_ x1 (ushI (v14 * (-1640531535 : Int32)) (20 : Int32)) FU (0 : Int32) (.inr (.inr u16)) X hL17 (sk_ri (sk_ri (fun H locs ls Z hl => ?_))) H locs ls Z (lv_sub hl [2, 3, 1, 0] rfl)
      refine lv_iload_n hx hb dX10_firstWithSignatureOf_86 rfl (lv_at hl 0 rfl) ?_
      obtain rfl := Option.some.inj h
      exact K H locs ls _ dX10_firstWithSignatureOf_87 Z
theorem c_X10_firstWithSignatureOf (l : Launch) (D : va_G) (cy : Nat → ClassId) (o : Nat) (d : Nat → Nat) (count_ : Int32) (pairFirst_ : Int32) (pairSecond_ : Int32) (signatures_ : Nat → Int32) (slots_ : Nat → Int32) (x1 : Int32) (out : Int32 × (Nat → Int32)) (h : f_X10_firstWithSignatureOf x1 signatures_ slots_ = some out) : CtI l yX10_firstWithSignatureOf wsX10_firstWithSignatureOf rm_X10_firstWithSignatureOf D cy [.ref o, .int x1] (RW_X10_firstWithSignatureOf cy o d slots_) (RO_X10_firstWithSignatureOf cy o d count_ pairFirst_ pairSecond_ signatures_) (RW_X10_firstWithSignatureOf cy o d out.2) out.1 :=
  mk_i (ty := .int) (by decide) rfl rfl (Nat.le_of_ble_eq_true rfl) (fun p e s m args below meth c A Q X K H locs ls Z hl => wt_X10_firstWithSignatureOf o d count_ pairFirst_ pairSecond_ signatures_ slots_ x1 out X h K H locs ls Z hl)
/-! SubwordCounter$WordList distinctSignatures ()I -/
abbrev rm_X10_distinctSignatures : Room := { frames := 1, cells := 0, slots := 0, locals := 24 }
def RW_X10_distinctSignatures (cy : Nat → ClassId) (o : Nat) (d : Nat → Nat) (slots_ : Nat → Int32) : va_W := [((d 3), aI cy 4096 slots_)]
def RO_X10_distinctSignatures (cy : Nat → ClassId) (o : Nat) (d : Nat → Nat) (count_ : Int32) (pairFirst_ : Int32) (pairSecond_ : Int32) (signatures_ : Nat → Int32) : va_W := [(o, ob 9 (oX10 d count_ pairFirst_ pairSecond_)), ((d 2), aI cy 2187 signatures_)]
theorem in_X10_distinctSignatures_X10 : ∀ w ∈ u_ws RX10 TX10 7, w ∈ wsX10_distinctSignatures := fun w h => (List.mem_cons_of_mem _ (List.mem_append_right _ h))
theorem lk_X10_distinctSignatures_X10_count : Lk wsX10_distinctSignatures RX10 23 9 4 := ⟨RX10, TX10, 7, rfl, by decide, in_X10_distinctSignatures_X10, mem_at 2 rfl⟩
theorem lk_X10_distinctSignatures_X10_slots : Lk wsX10_distinctSignatures RX10 20 9 3 := ⟨RX10, TX10, 7, rfl, by decide, in_X10_distinctSignatures_X10, mem_at 1 rfl⟩
def b_X10_distinctSignatures_12 (count_ : Int32) (signatures_ : Nat → Int32) (slots_ : Nat → Int32) (x1 : Int32) (x2 : Int32) : Option (((Nat → Int32) × Int32 × Int32) ⊕ ((Nat → Int32) × Int32)) :=
  if count_ ≤ x2 then
  (some (.inr (slots_, x1)))
  else
  ((f_X10_firstWithSignatureOf x2 signatures_ slots_).bind (fun u1 =>
  if u1.1 = x2 then
  (some (.inl (u1.2, (x1 + (1 : Int32)), (x2 + (1 : Int32)))))
  else
  (some (.inl (u1.2, x1, (x2 + (1 : Int32)))))))
set_option maxHeartbeats 4000000 in
set_option maxRecDepth 100000 in
theorem wb_X10_distinctSignatures_12 {p : Program} {l : Launch} {e : Env} {s : State} {m : MethodId} {args : Array Value} {below : List Frame} {meth : Method} {c : Code} {A : Nat → Prop} {Q : State → Prop} {D : va_G} {cy : Nat → ClassId} (o : Nat) (d : Nat → Nat) (count_ : Int32) (pairFirst_ : Int32) (pairSecond_ : Int32) (signatures_ : Nat → Int32)  (slots_ : Nat → Int32) (x1 : Int32) (x2 : Int32) (o1 : ((Nat → Int32) × Int32 × Int32) ⊕ ((Nat → Int32) × Int32)) (X : Cx p m c cX10_distinctSignatures 3 s args wsX10_distinctSignatures RX10 A D cy (RO_X10_distinctSignatures cy o d count_ pairFirst_ pairSecond_ signatures_)) (h : b_X10_distinctSignatures_12 count_ signatures_ slots_ x1 x2 = some o1) (K : Sum.elim (fun v : (Nat → Int32) × Int32 × Int32 => ∀ (H : Heap) (locs : List Loc) (ls : Array Slot), St A D s (RW_X10_distinctSignatures cy o d v.1) H locs → lv_has ls 3 [(0, .ref o), (1, .int v.2.1), (2, .int v.2.2)] → W p l e rm_X10_distinctSignatures s m args below meth c H locs 0 0 Q (F0 m 12 ls [])) (fun v : (Nat → Int32) × Int32 => ∀ (H : Heap) (locs : List Loc) (ls : Array Slot), St A D s (RW_X10_distinctSignatures cy o d v.1) H locs → lv_has ls 3 [(1, .int v.2)] → W p l e rm_X10_distinctSignatures s m args below meth c H locs 0 0 Q (F0 m 38 ls [])) o1) : ∀ (H : Heap) (locs : List Loc) (ls : Array Slot), St A D s (RW_X10_distinctSignatures cy o d slots_) H locs → lv_has ls 3 [(0, .ref o), (1, .int x1), (2, .int x2)] → W p l e rm_X10_distinctSignatures s m args below meth c H locs 0 0 Q (F0 m 12 ls []) := by
  intro H locs ls Z hl
  have hx := X.1.1
  have hb := X.1.2.1
  unfold b_X10_distinctSignatures_12 at h
  refine lv_iload_n hx hb dX10_distinctSignatures_12 rfl (lv_at hl 2 rfl) ?_
  refine lv_aload_n hx hb dX10_distinctSignatures_13 rfl (lv_at hl 0 rfl) ?_
  refine x_getO X Z 0 4 (v := .int count_) rfl rfl lk_X10_distinctSignatures_X10_count dX10_distinctSignatures_14 ?_
  refine lv_icmp_ge (tgt := 38) hx hb dX10_distinctSignatures_17 (by decide) (fun cnd => ?_) (fun cnd => ?_)
  · replace h := ifp h cnd
    obtain rfl := Option.some.inj h
    exact (sk_r K) H locs ls Z (lv_sub hl [1] rfl)
  · replace h := ifn h cnd
    refine lv_aload_n hx hb dX10_distinctSignatures_20 rfl (lv_at hl 0 rfl) ?_
    refine lv_iload_n hx hb dX10_distinctSignatures_21 rfl (lv_at hl 2 rfl) ?_
    obtain ⟨u1, hc2, h⟩ := ob_some h
    refine x_runVi (RW' := (RW_X10_distinctSignatures cy o d u1.2)) (wr := []) (isC := [0]) (isR := []) (isF := [0]) (rest := []) (As := [.int x2]) (n := 1) X Z (c_X10_firstWithSignatureOf l D cy o d count_ pairFirst_ pairSecond_ signatures_ slots_ x2 u1 hc2) gX10_distinctSignatures_X10_firstWithSignatureOf rfl (by decide +kernel) ⟨Nat.le_of_ble_eq_true rfl, Nat.le_of_ble_eq_true rfl⟩ ⟨rfl, rfl⟩ ⟨Nat.le_of_ble_eq_true rfl, Nat.le_of_ble_eq_true rfl⟩ (x_rvO X Z 0 rfl rfl) ⟨rfl, rfl, (roC (Or.inr (mem_at 0 rfl)) (roC (Or.inr (mem_at 1 rfl)) roN)), rfl, rfl, by decide⟩ ⟨rfl, rfl⟩ rfl hl.1 rfl (Nat.le_of_ble_eq_true rfl) dX10_distinctSignatures_22 (fun H locs Z => ?_)
    refine lv_iload_n hx hb dX10_distinctSignatures_25 rfl (lv_at hl 2 rfl) ?_
    refine lv_icmp_ne (tgt := 32) hx hb dX10_distinctSignatures_26 (by decide) (fun cnd => ?_) (fun cnd => ?_)
    · replace h := ifn h cnd
      refine lv_iinc (v := (x2 + (1 : Int32))) (lv' := [(2, .int (x2 + (1 : Int32))), (0, .ref o), (1, .int x1)]) hx hb dX10_distinctSignatures_32 hl (k := 2) rfl rfl (by decide) rfl (fun ls hl => ?_)
      refine lv_goto (tgt := 12) hx hb dX10_distinctSignatures_35 (by decide) ?_
      obtain rfl := Option.some.inj h
      exact sk_l K H locs ls Z (lv_sub hl [1, 2, 0] rfl)
    · replace h := ifp h cnd
      refine lv_iinc (v := (x1 + (1 : Int32))) (lv' := [(1, .int (x1 + (1 : Int32))), (0, .ref o), (2, .int x2)]) hx hb dX10_distinctSignatures_29 hl (k := 1) rfl rfl (by decide) rfl (fun ls hl => ?_)
      refine lv_iinc (v := (x2 + (1 : Int32))) (lv' := [(2, .int (x2 + (1 : Int32))), (1, .int (x1 + (1 : Int32))), (0, .ref o)]) hx hb dX10_distinctSignatures_32 hl (k := 2) rfl rfl (by decide) rfl (fun ls hl => ?_)
      refine lv_goto (tgt := 12) hx hb dX10_distinctSignatures_35 (by decide) ?_
      obtain rfl := Option.some.inj h
      exact sk_l K H locs ls Z (lv_sub hl [2, 1, 0] rfl)
set_option maxHeartbeats 4000000 in
set_option maxRecDepth 100000 in
theorem wl_X10_distinctSignatures_12 {p : Program} {l : Launch} {e : Env} {s : State} {m : MethodId} {args : Array Value} {below : List Frame} {meth : Method} {c : Code} {A : Nat → Prop} {Q : State → Prop} {D : va_G} {cy : Nat → ClassId} (o : Nat) (d : Nat → Nat) (count_ : Int32) (pairFirst_ : Int32) (pairSecond_ : Int32) (signatures_ : Nat → Int32)  (n : Nat) (v : (Nat → Int32) × Int32 × Int32) (x : (Nat → Int32) × Int32) (X : Cx p m c cX10_distinctSignatures 3 s args wsX10_distinctSignatures RX10 A D cy (RO_X10_distinctSignatures cy o d count_ pairFirst_ pairSecond_ signatures_)) (h : loopN (fun v => b_X10_distinctSignatures_12 count_ signatures_ v.1 v.2.1 v.2.2) n v = some x) (K : ∀ (H : Heap) (locs : List Loc) (ls : Array Slot), St A D s (RW_X10_distinctSignatures cy o d x.1) H locs → lv_has ls 3 [(1, .int x.2)] → W p l e rm_X10_distinctSignatures s m args below meth c H locs 0 0 Q (F0 m 38 ls [])) : ∀ (H : Heap) (locs : List Loc) (ls : Array Slot), St A D s (RW_X10_distinctSignatures cy o d v.1) H locs → lv_has ls 3 [(0, .ref o), (1, .int v.2.1), (2, .int v.2.2)] → W p l e rm_X10_distinctSignatures s m args below meth c H locs 0 0 Q (F0 m 12 ls []) :=
  loop_gen (B := (fun v => b_X10_distinctSignatures_12 count_ signatures_ v.1 v.2.1 v.2.2)) (Head := fun v : (Nat → Int32) × Int32 × Int32 => ∀ (H : Heap) (locs : List Loc) (ls : Array Slot), St A D s (RW_X10_distinctSignatures cy o d v.1) H locs → lv_has ls 3 [(0, .ref o), (1, .int v.2.1), (2, .int v.2.2)] → W p l e rm_X10_distinctSignatures s m args below meth c H locs 0 0 Q (F0 m 12 ls [])) (Exit := fun v : (Nat → Int32) × Int32 => ∀ (H : Heap) (locs : List Loc) (ls : Array Slot), St A D s (RW_X10_distinctSignatures cy o d v.1) H locs → lv_has ls 3 [(1, .int v.2)] → W p l e rm_X10_distinctSignatures s m args below meth c H locs 0 0 Q (F0 m 38 ls [])) (fun v o9 hb1 K1 => wb_X10_distinctSignatures_12 o d count_ pairFirst_ pairSecond_ signatures_ v.1 v.2.1 v.2.2 o9 X hb1 K1) n v x h K
def f_X10_distinctSignatures (count_ : Int32) (signatures_ : Nat → Int32) (slots_ : Nat → Int32) : Option (Int32 × (Nat → Int32)) :=
  (f_J7_fill_53178 (-1 : Int32) 4096 slots_).bind (fun u3 =>
  (loopN (fun v => b_X10_distinctSignatures_12 count_ signatures_ v.1 v.2.1 v.2.2) FU (u3, (0 : Int32), (0 : Int32))).bind (fun u5 =>
  some (u5.2, u5.1)))
set_option maxHeartbeats 4000000 in
set_option maxRecDepth 100000 in
theorem wt_X10_distinctSignatures {p : Program} {l : Launch} {e : Env} {s : State} {m : MethodId} {args : Array Value} {below : List Frame} {meth : Method} {c : Code} {A : Nat → Prop} {Q : State → Prop} {D : va_G} {cy : Nat → ClassId} (o : Nat) (d : Nat → Nat) (count_ : Int32) (pairFirst_ : Int32) (pairSecond_ : Int32) (signatures_ : Nat → Int32) (slots_ : Nat → Int32) (out : Int32 × (Nat → Int32)) (X : Cx p m c cX10_distinctSignatures 3 s args wsX10_distinctSignatures RX10 A D cy (RO_X10_distinctSignatures cy o d count_ pairFirst_ pairSecond_ signatures_)) (h : f_X10_distinctSignatures count_ signatures_ slots_ = some out) (K : ∀ (H : Heap) (locs : List Loc) (ls : Array Slot) (pc : Nat), decode cX10_distinctSignatures pc = .ok (.ireturn, 1) → St A D s (RW_X10_distinctSignatures cy o d out.2) H locs → W p l e rm_X10_distinctSignatures s m args below meth c H locs 0 0 Q (F0 m pc ls [.int out.1])) : ∀ (H : Heap) (locs : List Loc) (ls : Array Slot), St A D s (RW_X10_distinctSignatures cy o d slots_) H locs → lv_has ls 3 [(0, .ref o)] → W p l e rm_X10_distinctSignatures s m args below meth c H locs 0 0 Q (F0 m 0 ls []) := by
  intro H locs ls Z hl
  have hx := X.1.1
  have hb := X.1.2.1
  unfold f_X10_distinctSignatures at h
  refine lv_aload_n hx hb dX10_distinctSignatures_0 rfl (lv_at hl 0 rfl) ?_
  refine x_getO X Z 0 3 (v := .ref (d 3)) rfl rfl lk_X10_distinctSignatures_X10_slots dX10_distinctSignatures_1 ?_
  refine lv_iconst (v := (-1 : Int32)) hx hb dX10_distinctSignatures_4 (by decide) ?_
  obtain ⟨u3, hc4, h⟩ := ob_some h
  refine x_runSv (RW' := (RW_X10_distinctSignatures cy o d u3)) (wr := []) (isC := [0]) (isR := []) (isF := [0]) (rest := []) (As := [.ref (d 3), .int (-1 : Int32)]) (n := 2) X Z (c_J7_fill_53178 l D cy (d 3) 4096 slots_ (-1 : Int32) u3 hc4) gX10_distinctSignatures_J7_fill_53178 rfl (by decide +kernel) ⟨Nat.le_of_ble_eq_true rfl, Nat.le_of_ble_eq_true rfl⟩ ⟨rfl, rfl⟩ ⟨Nat.le_of_ble_eq_true rfl, Nat.le_of_ble_eq_true rfl⟩ ⟨rfl, rfl, roN, rfl, rfl, by decide⟩ ⟨rfl, rfl⟩ rfl hl.1 rfl (Nat.le_of_ble_eq_true rfl) dX10_distinctSignatures_5 (fun H locs Z => ?_)
  refine lv_iconst (v := (0 : Int32)) hx hb dX10_distinctSignatures_8 (by decide) ?_
  refine lv_istore_n (lv' := [(1, .int (0 : Int32)), (0, .ref o)]) hx hb dX10_distinctSignatures_9 rfl hl (by decide) rfl (fun ls hl => ?_)
  refine lv_iconst (v := (0 : Int32)) hx hb dX10_distinctSignatures_10 (by decide) ?_
  refine lv_istore_n (lv' := [(2, .int (0 : Int32)), (1, .int (0 : Int32)), (0, .ref o)]) hx hb dX10_distinctSignatures_11 rfl hl (by decide) rfl (fun ls hl => ?_)
  obtain ⟨u5, hL6, h⟩ := ob_some h
  refine wl_X10_distinctSignatures_12 o d count_ pairFirst_ pairSecond_ signatures_ FU (u3, (0 : Int32), (0 : Int32)) u5 X hL6 (fun H locs ls Z hl => ?_) H locs ls Z (lv_sub hl [2, 1, 0] rfl)
  refine lv_iload_n hx hb dX10_distinctSignatures_38 rfl (lv_at hl 0 rfl) ?_
  obtain rfl := Option.some.inj h
  exact K H locs ls _ dX10_distinctSignatures_39 Z
theorem c_X10_distinctSignatures (l : Launch) (D : va_G) (cy : Nat → ClassId) (o : Nat) (d : Nat → Nat) (count_ : Int32) (pairFirst_ : Int32) (pairSecond_ : Int32) (signatures_ : Nat → Int32) (slots_ : Nat → Int32) (out : Int32 × (Nat → Int32)) (h : f_X10_distinctSignatures count_ signatures_ slots_ = some out) : CtI l yX10_distinctSignatures wsX10_distinctSignatures rm_X10_distinctSignatures D cy [.ref o] (RW_X10_distinctSignatures cy o d slots_) (RO_X10_distinctSignatures cy o d count_ pairFirst_ pairSecond_ signatures_) (RW_X10_distinctSignatures cy o d out.2) out.1 :=
  mk_i (ty := .int) (by decide) rfl rfl (Nat.le_of_ble_eq_true rfl) (fun p e s m args below meth c A Q X K H locs ls Z hl => wt_X10_distinctSignatures o d count_ pairFirst_ pairSecond_ signatures_ slots_ out X h K H locs ls Z hl)
/-! SubwordCounter$Bundle step (IJI)J -/
abbrev rm_X1_step : Room := { frames := 3, cells := 0, slots := 0, locals := 68 }
def RW_X1_step (cy : Nat → ClassId) (o : Nat) (d : Nat → Nat) (PT : va_W)  : va_W := []
def RO_X1_step (cy : Nat → ClassId) (o : Nat) (d : Nat → Nat) (PT : va_W) (count_ : Int32) (members_ : Nat → Option Nat) : va_W := [(o, ob 1 (oX1 d count_)), ((d 0), aR cy 4 8 members_)] ++ PT
theorem in_X1_step_X1 : ∀ w ∈ u_ws RX1 TX1 2, w ∈ wsX1_step := fun w h => (List.mem_cons_of_mem _ (List.mem_append_left _ (List.mem_append_right _ h)))
theorem lk_X1_step_X1_count : Lk wsX1_step RX1 17 1 1 := ⟨RX1, TX1, 2, rfl, by decide, in_X1_step_X1, mem_at 1 rfl⟩
theorem lk_X1_step_X1_members : Lk wsX1_step RX1 13 1 0 := ⟨RX1, TX1, 2, rfl, by decide, in_X1_step_X1, mem_at 3 rfl⟩
def b_X1_step_12 (tq : Nat → Option TV) (count_ : Int32) (members_ : Nat → Option Nat) (x2 : Int64) (x4 : Int32) (x5 : Int32)  (x6 : Int64) (x8 : Int32) : Option ((Int64 × Int32) ⊕ (Int64)) :=
  if (x5 + (4 : Int32)) ≤ x8 then
  (some (.inr x6))
  else
  (if count_ ≤ x8 then
  (some (.inr x6))
  else
  (ldA members_ 8 x8 (fun r2 =>
  tsA tq r2 (fun a4 tv5 =>
  (f_X8_step (((ushL x2 ((16 : Int32) * (x8 - x5))).toInt32) &&& (65535 : Int32)) x4 tv5.2.2.2.2.2.1 tv5.1 tv5.2.1 tv5.2.2.2.1 tv5.2.2.2.2.2.2).bind (fun u8 =>
  some (.inl ((x6 ||| (shlL (u8.toInt64) ((16 : Int32) * (x8 - x5)))), (x8 + (1 : Int32)))))))))
set_option maxHeartbeats 4000000 in
set_option maxRecDepth 100000 in
theorem wb_X1_step_12 {p : Program} {l : Launch} {e : Env} {s : State} {m : MethodId} {args : Array Value} {below : List Frame} {meth : Method} {c : Code} {A : Nat → Prop} {Q : State → Prop} {D : va_G} {cy : Nat → ClassId} (o : Nat) (d : Nat → Nat) (PT : va_W) (tq : Nat → Option TV) (count_ : Int32) (members_ : Nat → Option Nat)  (x2 : Int64) (x4 : Int32) (x5 : Int32)  (x6 : Int64) (x8 : Int32) (o1 : (Int64 × Int32) ⊕ (Int64)) (hT : TP cy PT tq) (X : Cx p m c cX1_step 11 s args wsX1_step RX1 A D cy (RO_X1_step cy o d PT count_ members_)) (h : b_X1_step_12 tq count_ members_ x2 x4 x5 x6 x8 = some o1) (K : Sum.elim (fun v : Int64 × Int32 => ∀ (H : Heap) (locs : List Loc) (ls : Array Slot), St A D s (RW_X1_step cy o d PT) H locs → lv_has ls 11 [(0, .ref o), (2, .long x2), (4, .int x4), (5, .int x5), (6, .long v.1), (8, .int v.2)] → W p l e rm_X1_step s m args below meth c H locs 0 0 Q (F0 m 12 ls [])) (fun v : Int64 => ∀ (H : Heap) (locs : List Loc) (ls : Array Slot), St A D s (RW_X1_step cy o d PT) H locs → lv_has ls 11 [(6, .long v)] → W p l e rm_X1_step s m args below meth c H locs 0 0 Q (F0 m 79 ls [])) o1) : ∀ (H : Heap) (locs : List Loc) (ls : Array Slot), St A D s (RW_X1_step cy o d PT) H locs → lv_has ls 11 [(0, .ref o), (2, .long x2), (4, .int x4), (5, .int x5), (6, .long x6), (8, .int x8)] → W p l e rm_X1_step s m args below meth c H locs 0 0 Q (F0 m 12 ls []) := by
  intro H locs ls Z hl
  have hx := X.1.1
  have hb := X.1.2.1
  unfold b_X1_step_12 at h
  refine lv_iload hx hb dX1_step_12 (lv_at hl 5 rfl) ?_
  refine lv_iload hx hb dX1_step_14 (lv_at hl 3 rfl) ?_
  refine lv_iconst (v := (4 : Int32)) hx hb dX1_step_16 (by decide) ?_
  refine lv_iadd hx hb dX1_step_17 ?_
  refine lv_icmp_ge (tgt := 79) hx hb dX1_step_18 (by decide) (fun cnd => ?_) (fun cnd => ?_)
  · replace h := ifp h cnd
    obtain rfl := Option.some.inj h
    exact (sk_r K) H locs ls Z (lv_sub hl [4] rfl)
  · replace h := ifn h cnd
    refine lv_iload hx hb dX1_step_21 (lv_at hl 5 rfl) ?_
    refine lv_aload_n hx hb dX1_step_23 rfl (lv_at hl 0 rfl) ?_
    refine x_getO X Z 0 1 (v := .int count_) rfl rfl lk_X1_step_X1_count dX1_step_24 ?_
    refine lv_icmp_ge (tgt := 79) hx hb dX1_step_27 (by decide) (fun cnd => ?_) (fun cnd => ?_)
    · replace h := ifp h cnd
      obtain rfl := Option.some.inj h
      exact (sk_r K) H locs ls Z (lv_sub hl [4] rfl)
    · replace h := ifn h cnd
      refine lv_bipush (v := (16 : Int32)) hx hb dX1_step_30 (by decide) ?_
      refine lv_iload hx hb dX1_step_32 (lv_at hl 5 rfl) ?_
      refine lv_iload hx hb dX1_step_34 (lv_at hl 3 rfl) ?_
      refine lv_isub hx hb dX1_step_36 ?_
      refine lv_imul hx hb dX1_step_37 ?_
      refine lv_istore (lv' := [(9, .int ((16 : Int32) * (x8 - x5))), (0, .ref o), (2, .long x2), (4, .int x4), (5, .int x5), (6, .long x6), (8, .int x8)]) hx hb dX1_step_38 hl (by decide) rfl (fun ls hl => ?_)
      refine lv_lload_n hx hb dX1_step_40 rfl (lv_at hl 2 rfl) ?_
      refine lv_iload hx hb dX1_step_41 (lv_at hl 0 rfl) ?_
      refine lv_lushr (v := (ushL x2 ((16 : Int32) * (x8 - x5)))) hx hb dX1_step_43 rfl ?_
      refine lv_l2i (v := ((ushL x2 ((16 : Int32) * (x8 - x5))).toInt32)) hx hb dX1_step_44 rfl ?_
      refine lv_ldc (v := (65535 : Int32)) hx hb X.1.2.2.2.1 (X.1.2.2.2.2 _ (mem_at 2 rfl)) dX1_step_45 ?_
      refine lv_iand hx hb dX1_step_47 ?_
      refine lv_istore (lv' := [(10, .int (((ushL x2 ((16 : Int32) * (x8 - x5))).toInt32) &&& (65535 : Int32))), (9, .int ((16 : Int32) * (x8 - x5))), (0, .ref o), (2, .long x2), (4, .int x4), (5, .int x5), (6, .long x6), (8, .int x8)]) hx hb dX1_step_48 hl (by decide) rfl (fun ls hl => ?_)
      refine lv_lload hx hb dX1_step_50 (lv_at hl 6 rfl) ?_
      refine lv_aload_n hx hb dX1_step_52 rfl (lv_at hl 2 rfl) ?_
      refine x_getO X Z 0 0 (v := .ref (d 0)) rfl rfl lk_X1_step_X1_members dX1_step_53 ?_
      refine lv_iload hx hb dX1_step_56 (lv_at hl 7 rfl) ?_
      obtain ⟨hin1, r2, hv3, h⟩ := ld_b h
      obtain ⟨a4, tv5, hr6, ht7, h⟩ := ts_b h
      refine x_raldO X Z 1 4 rfl rfl hin1 hv3 hr6 dX1_step_58 ?_
      refine lv_iload hx hb dX1_step_59 (lv_at hl 0 rfl) ?_
      refine lv_iload hx hb dX1_step_61 (lv_at hl 4 rfl) ?_
      obtain ⟨u8, hc9, h⟩ := ob_some h
      refine x_runVi (RW' := (RW_X1_step cy o d PT)) (wr := []) (isC := []) (isR := []) (isF := []) (rest := [.long x6]) (As := [.int (((ushL x2 ((16 : Int32) * (x8 - x5))).toInt32) &&& (65535 : Int32)), .int x4]) (n := 2) X Z (c_X8_step l D cy a4 tv5.2.2.2.2.2.1 (fun _ => tv5.2.2.2.2.1) tv5.1 tv5.2.1 tv5.2.2.1 tv5.2.2.2.1 tv5.2.2.2.2.2.2 (((ushL x2 ((16 : Int32) * (x8 - x5))).toInt32) &&& (65535 : Int32)) x4 u8 hc9) gX1_step_X8_step rfl (by decide +kernel) ⟨Nat.le_of_ble_eq_true rfl, Nat.le_of_ble_eq_true rfl⟩ ⟨rfl, rfl⟩ ⟨Nat.le_of_ble_eq_true rfl, Nat.le_of_ble_eq_true rfl⟩ (x_rvM X Z (List.mem_append_right _ (hT a4 tv5 ht7).1) rfl) ⟨rfl, rfl, (roC (Or.inr (List.mem_append_right _ (hT a4 tv5 ht7).1)) (roC (Or.inr (List.mem_append_right _ (hT a4 tv5 ht7).2)) roN)), rfl, rfl, by decide⟩ ⟨rfl, rfl⟩ rfl hl.1 rfl (Nat.le_of_ble_eq_true rfl) dX1_step_63 (fun H locs Z => ?_)
      refine lv_i2l (v := (u8.toInt64)) hx hb dX1_step_66 rfl ?_
      refine lv_iload hx hb dX1_step_67 (lv_at hl 1 rfl) ?_
      refine lv_lshl (v := (shlL (u8.toInt64) ((16 : Int32) * (x8 - x5)))) hx hb dX1_step_69 rfl ?_
      refine lv_lor hx hb dX1_step_70 ?_
      refine lv_lstore (lv' := [(6, .long (x6 ||| (shlL (u8.toInt64) ((16 : Int32) * (x8 - x5))))), (10, .int (((ushL x2 ((16 : Int32) * (x8 - x5))).toInt32) &&& (65535 : Int32))), (9, .int ((16 : Int32) * (x8 - x5))), (0, .ref o), (2, .long x2), (4, .int x4), (5, .int x5), (8, .int x8)]) hx hb dX1_step_71 hl (by decide) rfl (fun ls hl => ?_)
      refine lv_iinc (v := (x8 + (1 : Int32))) (lv' := [(8, .int (x8 + (1 : Int32))), (6, .long (x6 ||| (shlL (u8.toInt64) ((16 : Int32) * (x8 - x5))))), (10, .int (((ushL x2 ((16 : Int32) * (x8 - x5))).toInt32) &&& (65535 : Int32))), (9, .int ((16 : Int32) * (x8 - x5))), (0, .ref o), (2, .long x2), (4, .int x4), (5, .int x5)]) hx hb dX1_step_73 hl (k := 7) rfl rfl (by decide) rfl (fun ls hl => ?_)
      refine lv_goto (tgt := 12) hx hb dX1_step_76 (by decide) ?_
      obtain rfl := Option.some.inj h
      exact sk_l K H locs ls Z (lv_sub hl [4, 5, 6, 7, 1, 0] rfl)
set_option maxHeartbeats 4000000 in
set_option maxRecDepth 100000 in
theorem wl_X1_step_12 {p : Program} {l : Launch} {e : Env} {s : State} {m : MethodId} {args : Array Value} {below : List Frame} {meth : Method} {c : Code} {A : Nat → Prop} {Q : State → Prop} {D : va_G} {cy : Nat → ClassId} (o : Nat) (d : Nat → Nat) (PT : va_W) (tq : Nat → Option TV) (count_ : Int32) (members_ : Nat → Option Nat)  (x2 : Int64) (x4 : Int32) (x5 : Int32) (n : Nat) (v : Int64 × Int32) (x : Int64) (hT : TP cy PT tq) (X : Cx p m c cX1_step 11 s args wsX1_step RX1 A D cy (RO_X1_step cy o d PT count_ members_)) (h : loopN (fun v => b_X1_step_12 tq count_ members_ x2 x4 x5 v.1 v.2) n v = some x) (K : ∀ (H : Heap) (locs : List Loc) (ls : Array Slot), St A D s (RW_X1_step cy o d PT) H locs → lv_has ls 11 [(6, .long x)] → W p l e rm_X1_step s m args below meth c H locs 0 0 Q (F0 m 79 ls [])) : ∀ (H : Heap) (locs : List Loc) (ls : Array Slot), St A D s (RW_X1_step cy o d PT) H locs → lv_has ls 11 [(0, .ref o), (2, .long x2), (4, .int x4), (5, .int x5), (6, .long v.1), (8, .int v.2)] → W p l e rm_X1_step s m args below meth c H locs 0 0 Q (F0 m 12 ls []) :=
  loop_gen (B := (fun v => b_X1_step_12 tq count_ members_ x2 x4 x5 v.1 v.2)) (Head := fun v : Int64 × Int32 => ∀ (H : Heap) (locs : List Loc) (ls : Array Slot), St A D s (RW_X1_step cy o d PT) H locs → lv_has ls 11 [(0, .ref o), (2, .long x2), (4, .int x4), (5, .int x5), (6, .long v.1), (8, .int v.2)] → W p l e rm_X1_step s m args below meth c H locs 0 0 Q (F0 m 12 ls [])) (Exit := fun v : Int64 => ∀ (H : Heap) (locs : List Loc) (ls : Array Slot), St A D s (RW_X1_step cy o d PT) H locs → lv_has ls 11 [(6, .long v)] → W p l e rm_X1_step s m args below meth c H locs 0 0 Q (F0 m 79 ls [])) (fun v o9 hb1 K1 => wb_X1_step_12 o d PT tq count_ members_ x2 x4 x5 v.1 v.2 o9 hT X hb1 K1) n v x h K
def f_X1_step (x1 : Int32) (x2 : Int64) (x4 : Int32) (tq : Nat → Option TV) (count_ : Int32) (members_ : Nat → Option Nat) : Option (Int64) :=
  (loopN (fun v => b_X1_step_12 tq count_ members_ x2 x4 ((4 : Int32) * x1) v.1 v.2) FU ((0 : Int64), ((4 : Int32) * x1))).bind (fun u10 =>
  some u10)
set_option maxHeartbeats 4000000 in
set_option maxRecDepth 100000 in
theorem wt_X1_step {p : Program} {l : Launch} {e : Env} {s : State} {m : MethodId} {args : Array Value} {below : List Frame} {meth : Method} {c : Code} {A : Nat → Prop} {Q : State → Prop} {D : va_G} {cy : Nat → ClassId} (o : Nat) (d : Nat → Nat) (PT : va_W) (tq : Nat → Option TV) (count_ : Int32) (members_ : Nat → Option Nat)  (x1 : Int32) (x2 : Int64) (x4 : Int32) (out : Int64) (hT : TP cy PT tq) (X : Cx p m c cX1_step 11 s args wsX1_step RX1 A D cy (RO_X1_step cy o d PT count_ members_)) (h : f_X1_step x1 x2 x4 tq count_ members_ = some out) (K : ∀ (H : Heap) (locs : List Loc) (ls : Array Slot) (pc : Nat), decode cX1_step pc = .ok (.lreturn, 1) → St A D s (RW_X1_step cy o d PT) H locs → W p l e rm_X1_step s m args below meth c H locs 0 0 Q (F0 m pc ls [.long out])) : ∀ (H : Heap) (locs : List Loc) (ls : Array Slot), St A D s (RW_X1_step cy o d PT) H locs → lv_has ls 11 [(0, .ref o), (1, .int x1), (2, .long x2), (4, .int x4)] → W p l e rm_X1_step s m args below meth c H locs 0 0 Q (F0 m 0 ls []) := by
  intro H locs ls Z hl
  have hx := X.1.1
  have hb := X.1.2.1
  unfold f_X1_step at h
  refine lv_iconst (v := (4 : Int32)) hx hb dX1_step_0 (by decide) ?_
  refine lv_iload_n hx hb dX1_step_1 rfl (lv_at hl 1 rfl) ?_
  refine lv_imul hx hb dX1_step_2 ?_
  refine lv_istore (lv' := [(5, .int ((4 : Int32) * x1)), (0, .ref o), (1, .int x1), (2, .long x2), (4, .int x4)]) hx hb dX1_step_3 hl (by decide) rfl (fun ls hl => ?_)
  refine lv_lconst (v := (0 : Int64)) hx hb dX1_step_5 (by decide) ?_
  refine lv_lstore (lv' := [(6, .long (0 : Int64)), (5, .int ((4 : Int32) * x1)), (0, .ref o), (1, .int x1), (2, .long x2), (4, .int x4)]) hx hb dX1_step_6 hl (by decide) rfl (fun ls hl => ?_)
  refine lv_iload hx hb dX1_step_8 (lv_at hl 1 rfl) ?_
  refine lv_istore (lv' := [(8, .int ((4 : Int32) * x1)), (6, .long (0 : Int64)), (5, .int ((4 : Int32) * x1)), (0, .ref o), (1, .int x1), (2, .long x2), (4, .int x4)]) hx hb dX1_step_10 hl (by decide) rfl (fun ls hl => ?_)
  obtain ⟨u10, hL11, h⟩ := ob_some h
  refine wl_X1_step_12 o d PT tq count_ members_ x2 x4 ((4 : Int32) * x1) FU ((0 : Int64), ((4 : Int32) * x1)) u10 hT X hL11 (fun H locs ls Z hl => ?_) H locs ls Z (lv_sub hl [3, 5, 6, 2, 1, 0] rfl)
  refine lv_lload hx hb dX1_step_79 (lv_at hl 0 rfl) ?_
  obtain rfl := Option.some.inj h
  exact K H locs ls _ dX1_step_81 Z
theorem c_X1_step (l : Launch) (D : va_G) (cy : Nat → ClassId) (o : Nat) (d : Nat → Nat) (PT : va_W) (tq : Nat → Option TV) (count_ : Int32) (members_ : Nat → Option Nat)  (x1 : Int32) (x2 : Int64) (x4 : Int32) (out : Int64) (hT : TP cy PT tq) (h : f_X1_step x1 x2 x4 tq count_ members_ = some out) : CtL l yX1_step wsX1_step rm_X1_step D cy [.ref o, .int x1, .long x2, .int x4] (RW_X1_step cy o d PT) (RO_X1_step cy o d PT count_ members_) (RW_X1_step cy o d PT) out :=
  mk_l (by decide) rfl (Nat.le_of_ble_eq_true rfl) (fun p e s m args below meth c A Q X K H locs ls Z hl => wt_X1_step o d PT tq count_ members_ x1 x2 x4 out hT X h K H locs ls Z hl)
/-! SubwordCounter$WordList lengthen (LSubwordCounter$Bundle;I)V -/
abbrev rm_X10_lengthen : Room := { frames := 4, cells := 0, slots := 0, locals := 98 }
def RW_X10_lengthen (cy : Nat → ClassId) (o : Nat) (q_p1 : Nat) (d : Nat → Nat) (d_p1 : Nat → Nat) (PT : va_W) (count_ : Int32) (pairFirst_ : Int32) (pairSecond_ : Int32) (low_ : Nat → Int64) (high_ : Nat → Int64) : va_W := [(o, ob 9 (oX10 d count_ pairFirst_ pairSecond_)), ((d 0), aJ cy 2187 low_), ((d 1), aJ cy 2187 high_)]
def RO_X10_lengthen (cy : Nat → ClassId) (o : Nat) (q_p1 : Nat) (d : Nat → Nat) (d_p1 : Nat → Nat) (PT : va_W) (p1_count_ : Int32) (p1_members_ : Nat → Option Nat) : va_W := [(q_p1, ob 1 (oX1 d_p1 p1_count_)), ((d_p1 0), aR cy 4 8 p1_members_)] ++ PT
theorem in_X10_lengthen_X10 : ∀ w ∈ u_ws RX10 TX10 7, w ∈ wsX10_lengthen := fun w h => (List.mem_cons_of_mem _ (List.mem_append_left _ (List.mem_append_left _ (List.mem_append_right _ h))))
theorem lk_X10_lengthen_X10_low : Lk wsX10_lengthen RX10 9 9 0 := ⟨RX10, TX10, 7, rfl, by decide, in_X10_lengthen_X10, mem_at 2 rfl⟩
theorem lk_X10_lengthen_X10_high : Lk wsX10_lengthen RX10 13 9 1 := ⟨RX10, TX10, 7, rfl, by decide, in_X10_lengthen_X10, mem_at 3 rfl⟩
theorem lk_X10_lengthen_X10_count : Lk wsX10_lengthen RX10 23 9 4 := ⟨RX10, TX10, 7, rfl, by decide, in_X10_lengthen_X10, mem_at 1 rfl⟩
theorem lp_X10_lengthen_X10_count : Lp wsX10_lengthen RX10 23 9 4 .int := ⟨RX10, TX10, 7, tyX10, rfl, by decide, in_X10_lengthen_X10, mem_at 1 rfl, tyX10_ok, nmX10, rfl, by decide +kernel⟩
def b_X10_lengthen_43 (tq : Nat → Option TV) (p1_count_ : Int32) (p1_members_ : Nat → Option Nat) (x2 : Int32) (x3 : Int32) (x4 : Int64) (x6 : Int64) (low_ : Nat → Int64) (high_ : Nat → Int64) (x8 : Int32) : Option (((Nat → Int64) × (Nat → Int64) × Int32) ⊕ ((Nat → Int64) × (Nat → Int64))) :=
  if x2 ≤ x8 then
  (some (.inr (low_, high_)))
  else
  ((f_X1_step (0 : Int32) x4 x8 tq p1_count_ p1_members_).bind (fun u1 =>
  stA low_ 2187 ((x3 * x2) + x8) u1 (fun low_4 =>
  (f_X1_step (1 : Int32) x6 x8 tq p1_count_ p1_members_).bind (fun u6 =>
  stA high_ 2187 ((x3 * x2) + x8) u6 (fun high_9 =>
  some (.inl (low_4, high_9, (x8 + (1 : Int32)))))))))
set_option maxHeartbeats 4000000 in
set_option maxRecDepth 100000 in
theorem wb_X10_lengthen_43 {p : Program} {l : Launch} {e : Env} {s : State} {m : MethodId} {args : Array Value} {below : List Frame} {meth : Method} {c : Code} {A : Nat → Prop} {Q : State → Prop} {D : va_G} {cy : Nat → ClassId} (o : Nat) (q_p1 : Nat) (d : Nat → Nat) (d_p1 : Nat → Nat) (PT : va_W) (tq : Nat → Option TV) (p1_count_ : Int32) (p1_members_ : Nat → Option Nat) (count_ : Int32) (pairFirst_ : Int32) (pairSecond_ : Int32) (x2 : Int32) (x3 : Int32) (x4 : Int64) (x6 : Int64) (low_ : Nat → Int64) (high_ : Nat → Int64) (x8 : Int32) (o1 : ((Nat → Int64) × (Nat → Int64) × Int32) ⊕ ((Nat → Int64) × (Nat → Int64))) (hT : TP cy PT tq) (X : Cx p m c cX10_lengthen 9 s args wsX10_lengthen RX10 A D cy (RO_X10_lengthen cy o q_p1 d d_p1 PT p1_count_ p1_members_)) (h : b_X10_lengthen_43 tq p1_count_ p1_members_ x2 x3 x4 x6 low_ high_ x8 = some o1) (K : Sum.elim (fun v : (Nat → Int64) × (Nat → Int64) × Int32 => ∀ (H : Heap) (locs : List Loc) (ls : Array Slot), St A D s (RW_X10_lengthen cy o q_p1 d d_p1 PT count_ pairFirst_ pairSecond_ v.1 v.2.1) H locs → lv_has ls 9 [(0, .ref o), (1, .ref q_p1), (2, .int x2), (3, .int x3), (4, .long x4), (6, .long x6), (8, .int v.2.2)] → W p l e rm_X10_lengthen s m args below meth c H locs 0 0 Q (F0 m 43 ls [])) (fun v : (Nat → Int64) × (Nat → Int64) => ∀ (H : Heap) (locs : List Loc) (ls : Array Slot), St A D s (RW_X10_lengthen cy o q_p1 d d_p1 PT count_ pairFirst_ pairSecond_ v.1 v.2) H locs → lv_has ls 9 [(0, .ref o), (1, .ref q_p1), (2, .int x2), (3, .int x3)] → W p l e rm_X10_lengthen s m args below meth c H locs 0 0 Q (F0 m 95 ls [])) o1) : ∀ (H : Heap) (locs : List Loc) (ls : Array Slot), St A D s (RW_X10_lengthen cy o q_p1 d d_p1 PT count_ pairFirst_ pairSecond_ low_ high_) H locs → lv_has ls 9 [(0, .ref o), (1, .ref q_p1), (2, .int x2), (3, .int x3), (4, .long x4), (6, .long x6), (8, .int x8)] → W p l e rm_X10_lengthen s m args below meth c H locs 0 0 Q (F0 m 43 ls []) := by
  intro H locs ls Z hl
  have hx := X.1.1
  have hb := X.1.2.1
  unfold b_X10_lengthen_43 at h
  refine lv_iload hx hb dX10_lengthen_43 (lv_at hl 6 rfl) ?_
  refine lv_iload_n hx hb dX10_lengthen_45 rfl (lv_at hl 2 rfl) ?_
  refine lv_icmp_ge (tgt := 95) hx hb dX10_lengthen_46 (by decide) (fun cnd => ?_) (fun cnd => ?_)
  · replace h := ifp h cnd
    obtain rfl := Option.some.inj h
    exact (sk_r K) H locs ls Z (lv_sub hl [0, 1, 2, 3] rfl)
  · replace h := ifn h cnd
    refine lv_aload_n hx hb dX10_lengthen_49 rfl (lv_at hl 0 rfl) ?_
    refine x_get X Z 0 0 (v := .ref (d 0)) rfl rfl lk_X10_lengthen_X10_low dX10_lengthen_50 ?_
    refine lv_iload_n hx hb dX10_lengthen_53 rfl (lv_at hl 3 rfl) ?_
    refine lv_iload_n hx hb dX10_lengthen_54 rfl (lv_at hl 2 rfl) ?_
    refine lv_imul hx hb dX10_lengthen_55 ?_
    refine lv_iload hx hb dX10_lengthen_56 (lv_at hl 6 rfl) ?_
    refine lv_iadd hx hb dX10_lengthen_58 ?_
    refine lv_aload_n hx hb dX10_lengthen_59 rfl (lv_at hl 1 rfl) ?_
    refine lv_iconst (v := (0 : Int32)) hx hb dX10_lengthen_60 (by decide) ?_
    refine lv_lload hx hb dX10_lengthen_61 (lv_at hl 4 rfl) ?_
    refine lv_iload hx hb dX10_lengthen_63 (lv_at hl 6 rfl) ?_
    obtain ⟨u1, hc2, h⟩ := ob_some h
    refine x_runVl (RW' := (RW_X10_lengthen cy o q_p1 d d_p1 PT count_ pairFirst_ pairSecond_ low_ high_)) (wr := [(o, ob 9 (oX10 d count_ pairFirst_ pairSecond_)), ((d 0), aJ cy 2187 low_), ((d 1), aJ cy 2187 high_)]) (isC := []) (isR := [0, 1, 2]) (isF := [0, 1, 2]) (rest := [.int ((x3 * x2) + x8), .ref (d 0)]) (As := [.int (0 : Int32), .long x4, .int x8]) (n := 3) X Z (c_X1_step l D cy q_p1 d_p1 PT tq p1_count_ p1_members_ (0 : Int32) x4 x8 u1 hT hc2) gX10_lengthen_X1_step rfl (by decide +kernel) ⟨Nat.le_of_ble_eq_true rfl, Nat.le_of_ble_eq_true rfl⟩ ⟨rfl, rfl⟩ ⟨Nat.le_of_ble_eq_true rfl, Nat.le_of_ble_eq_true rfl⟩ (x_rvO X Z 0 rfl rfl) ⟨rfl, rfl, (roC (Or.inr (mem_at 0 rfl)) (roC (Or.inr (mem_at 1 rfl)) (fun q hq => Or.inr (List.mem_append_right _ hq)))), rfl, rfl, by decide⟩ ⟨rfl, rfl⟩ rfl hl.1 rfl (Nat.le_of_ble_eq_true rfl) dX10_lengthen_65 (fun H locs Z => ?_)
    obtain ⟨hin3, low_4, hv5, h⟩ := st_b h
    refine x_last X Z 1 (RW_X10_lengthen cy o q_p1 d d_p1 PT count_ pairFirst_ pairSecond_ low_4 high_) rfl hin3 hv5 rfl dX10_lengthen_68 (fun H locs Z => ?_)
    refine lv_aload_n hx hb dX10_lengthen_69 rfl (lv_at hl 0 rfl) ?_
    refine x_get X Z 0 1 (v := .ref (d 1)) rfl rfl lk_X10_lengthen_X10_high dX10_lengthen_70 ?_
    refine lv_iload_n hx hb dX10_lengthen_73 rfl (lv_at hl 3 rfl) ?_
    refine lv_iload_n hx hb dX10_lengthen_74 rfl (lv_at hl 2 rfl) ?_
    refine lv_imul hx hb dX10_lengthen_75 ?_
    refine lv_iload hx hb dX10_lengthen_76 (lv_at hl 6 rfl) ?_
    refine lv_iadd hx hb dX10_lengthen_78 ?_
    refine lv_aload_n hx hb dX10_lengthen_79 rfl (lv_at hl 1 rfl) ?_
    refine lv_iconst (v := (1 : Int32)) hx hb dX10_lengthen_80 (by decide) ?_
    refine lv_lload hx hb dX10_lengthen_81 (lv_at hl 5 rfl) ?_
    refine lv_iload hx hb dX10_lengthen_83 (lv_at hl 6 rfl) ?_
    obtain ⟨u6, hc7, h⟩ := ob_some h
    refine x_runVl (RW' := (RW_X10_lengthen cy o q_p1 d d_p1 PT count_ pairFirst_ pairSecond_ low_4 high_)) (wr := [(o, ob 9 (oX10 d count_ pairFirst_ pairSecond_)), ((d 0), aJ cy 2187 low_4), ((d 1), aJ cy 2187 high_)]) (isC := []) (isR := [0, 1, 2]) (isF := [0, 1, 2]) (rest := [.int ((x3 * x2) + x8), .ref (d 1)]) (As := [.int (1 : Int32), .long x6, .int x8]) (n := 3) X Z (c_X1_step l D cy q_p1 d_p1 PT tq p1_count_ p1_members_ (1 : Int32) x6 x8 u6 hT hc7) gX10_lengthen_X1_step rfl (by decide +kernel) ⟨Nat.le_of_ble_eq_true rfl, Nat.le_of_ble_eq_true rfl⟩ ⟨rfl, rfl⟩ ⟨Nat.le_of_ble_eq_true rfl, Nat.le_of_ble_eq_true rfl⟩ (x_rvO X Z 0 rfl rfl) ⟨rfl, rfl, (roC (Or.inr (mem_at 0 rfl)) (roC (Or.inr (mem_at 1 rfl)) (fun q hq => Or.inr (List.mem_append_right _ hq)))), rfl, rfl, by decide⟩ ⟨rfl, rfl⟩ rfl hl.1 rfl (Nat.le_of_ble_eq_true rfl) dX10_lengthen_85 (fun H locs Z => ?_)
    obtain ⟨hin8, high_9, hv10, h⟩ := st_b h
    refine x_last X Z 2 (RW_X10_lengthen cy o q_p1 d d_p1 PT count_ pairFirst_ pairSecond_ low_4 high_9) rfl hin8 hv10 rfl dX10_lengthen_88 (fun H locs Z => ?_)
    refine lv_iinc (v := (x8 + (1 : Int32))) (lv' := [(8, .int (x8 + (1 : Int32))), (0, .ref o), (1, .ref q_p1), (2, .int x2), (3, .int x3), (4, .long x4), (6, .long x6)]) hx hb dX10_lengthen_89 hl (k := 6) rfl rfl (by decide) rfl (fun ls hl => ?_)
    refine lv_goto (tgt := 43) hx hb dX10_lengthen_92 (by decide) ?_
    obtain rfl := Option.some.inj h
    exact sk_l K H locs ls Z (lv_sub hl [1, 2, 3, 4, 5, 6, 0] rfl)
set_option maxHeartbeats 4000000 in
set_option maxRecDepth 100000 in
theorem wl_X10_lengthen_43 {p : Program} {l : Launch} {e : Env} {s : State} {m : MethodId} {args : Array Value} {below : List Frame} {meth : Method} {c : Code} {A : Nat → Prop} {Q : State → Prop} {D : va_G} {cy : Nat → ClassId} (o : Nat) (q_p1 : Nat) (d : Nat → Nat) (d_p1 : Nat → Nat) (PT : va_W) (tq : Nat → Option TV) (p1_count_ : Int32) (p1_members_ : Nat → Option Nat) (count_ : Int32) (pairFirst_ : Int32) (pairSecond_ : Int32) (x2 : Int32) (x3 : Int32) (x4 : Int64) (x6 : Int64) (n : Nat) (v : (Nat → Int64) × (Nat → Int64) × Int32) (x : (Nat → Int64) × (Nat → Int64)) (hT : TP cy PT tq) (X : Cx p m c cX10_lengthen 9 s args wsX10_lengthen RX10 A D cy (RO_X10_lengthen cy o q_p1 d d_p1 PT p1_count_ p1_members_)) (h : loopN (fun v => b_X10_lengthen_43 tq p1_count_ p1_members_ x2 x3 x4 x6 v.1 v.2.1 v.2.2) n v = some x) (K : ∀ (H : Heap) (locs : List Loc) (ls : Array Slot), St A D s (RW_X10_lengthen cy o q_p1 d d_p1 PT count_ pairFirst_ pairSecond_ x.1 x.2) H locs → lv_has ls 9 [(0, .ref o), (1, .ref q_p1), (2, .int x2), (3, .int x3)] → W p l e rm_X10_lengthen s m args below meth c H locs 0 0 Q (F0 m 95 ls [])) : ∀ (H : Heap) (locs : List Loc) (ls : Array Slot), St A D s (RW_X10_lengthen cy o q_p1 d d_p1 PT count_ pairFirst_ pairSecond_ v.1 v.2.1) H locs → lv_has ls 9 [(0, .ref o), (1, .ref q_p1), (2, .int x2), (3, .int x3), (4, .long x4), (6, .long x6), (8, .int v.2.2)] → W p l e rm_X10_lengthen s m args below meth c H locs 0 0 Q (F0 m 43 ls []) :=
  loop_gen (B := (fun v => b_X10_lengthen_43 tq p1_count_ p1_members_ x2 x3 x4 x6 v.1 v.2.1 v.2.2)) (Head := fun v : (Nat → Int64) × (Nat → Int64) × Int32 => ∀ (H : Heap) (locs : List Loc) (ls : Array Slot), St A D s (RW_X10_lengthen cy o q_p1 d d_p1 PT count_ pairFirst_ pairSecond_ v.1 v.2.1) H locs → lv_has ls 9 [(0, .ref o), (1, .ref q_p1), (2, .int x2), (3, .int x3), (4, .long x4), (6, .long x6), (8, .int v.2.2)] → W p l e rm_X10_lengthen s m args below meth c H locs 0 0 Q (F0 m 43 ls [])) (Exit := fun v : (Nat → Int64) × (Nat → Int64) => ∀ (H : Heap) (locs : List Loc) (ls : Array Slot), St A D s (RW_X10_lengthen cy o q_p1 d d_p1 PT count_ pairFirst_ pairSecond_ v.1 v.2) H locs → lv_has ls 9 [(0, .ref o), (1, .ref q_p1), (2, .int x2), (3, .int x3)] → W p l e rm_X10_lengthen s m args below meth c H locs 0 0 Q (F0 m 95 ls [])) (fun v o9 hb1 K1 => wb_X10_lengthen_43 o q_p1 d d_p1 PT tq p1_count_ p1_members_ count_ pairFirst_ pairSecond_ x2 x3 x4 x6 v.1 v.2.1 v.2.2 o9 hT X hb1 K1) n v x h K
def b_X10_lengthen_20 (tq : Nat → Option TV) (p1_count_ : Int32) (p1_members_ : Nat → Option Nat) (x2 : Int32) (low_ : Nat → Int64) (high_ : Nat → Int64) (x3 : Int32) : Option (((Nat → Int64) × (Nat → Int64) × Int32) ⊕ ((Nat → Int64) × (Nat → Int64))) :=
  if x3 < 0 then
  (some (.inr (low_, high_)))
  else
  (ldA low_ 2187 x3 (fun v12 =>
  ldA high_ 2187 x3 (fun v15 =>
  (loopN (fun v => b_X10_lengthen_43 tq p1_count_ p1_members_ x2 x3 v12 v15 v.1 v.2.1 v.2.2) FU (low_, high_, (0 : Int32))).bind (fun u17 =>
  some (.inl (u17.1, u17.2, (x3 + (-1 : Int32))))))))
set_option maxHeartbeats 4000000 in
set_option maxRecDepth 100000 in
theorem wb_X10_lengthen_20 {p : Program} {l : Launch} {e : Env} {s : State} {m : MethodId} {args : Array Value} {below : List Frame} {meth : Method} {c : Code} {A : Nat → Prop} {Q : State → Prop} {D : va_G} {cy : Nat → ClassId} (o : Nat) (q_p1 : Nat) (d : Nat → Nat) (d_p1 : Nat → Nat) (PT : va_W) (tq : Nat → Option TV) (p1_count_ : Int32) (p1_members_ : Nat → Option Nat) (count_ : Int32) (pairFirst_ : Int32) (pairSecond_ : Int32) (x2 : Int32) (low_ : Nat → Int64) (high_ : Nat → Int64) (x3 : Int32) (o1 : ((Nat → Int64) × (Nat → Int64) × Int32) ⊕ ((Nat → Int64) × (Nat → Int64))) (hT : TP cy PT tq) (X : Cx p m c cX10_lengthen 9 s args wsX10_lengthen RX10 A D cy (RO_X10_lengthen cy o q_p1 d d_p1 PT p1_count_ p1_members_)) (h : b_X10_lengthen_20 tq p1_count_ p1_members_ x2 low_ high_ x3 = some o1) (K : Sum.elim (fun v : (Nat → Int64) × (Nat → Int64) × Int32 => ∀ (H : Heap) (locs : List Loc) (ls : Array Slot), St A D s (RW_X10_lengthen cy o q_p1 d d_p1 PT count_ pairFirst_ pairSecond_ v.1 v.2.1) H locs → lv_has ls 9 [(0, .ref o), (1, .ref q_p1), (2, .int x2), (3, .int v.2.2)] → W p l e rm_X10_lengthen s m args below meth c H locs 0 0 Q (F0 m 20 ls [])) (fun v : (Nat → Int64) × (Nat → Int64) => ∀ (H : Heap) (locs : List Loc) (ls : Array Slot), St A D s (RW_X10_lengthen cy o q_p1 d d_p1 PT count_ pairFirst_ pairSecond_ v.1 v.2) H locs → lv_has ls 9 [(0, .ref o), (2, .int x2)] → W p l e rm_X10_lengthen s m args below meth c H locs 0 0 Q (F0 m 101 ls [])) o1) : ∀ (H : Heap) (locs : List Loc) (ls : Array Slot), St A D s (RW_X10_lengthen cy o q_p1 d d_p1 PT count_ pairFirst_ pairSecond_ low_ high_) H locs → lv_has ls 9 [(0, .ref o), (1, .ref q_p1), (2, .int x2), (3, .int x3)] → W p l e rm_X10_lengthen s m args below meth c H locs 0 0 Q (F0 m 20 ls []) := by
  intro H locs ls Z hl
  have hx := X.1.1
  have hb := X.1.2.1
  unfold b_X10_lengthen_20 at h
  refine lv_iload_n hx hb dX10_lengthen_20 rfl (lv_at hl 3 rfl) ?_
  refine lv_if_lt (tgt := 101) hx hb dX10_lengthen_21 (by decide) (fun cnd => ?_) (fun cnd => ?_)
  · replace h := ifp h cnd
    obtain rfl := Option.some.inj h
    exact (sk_r K) H locs ls Z (lv_sub hl [0, 2] rfl)
  · replace h := ifn h cnd
    refine lv_aload_n hx hb dX10_lengthen_24 rfl (lv_at hl 0 rfl) ?_
    refine x_get X Z 0 0 (v := .ref (d 0)) rfl rfl lk_X10_lengthen_X10_low dX10_lengthen_25 ?_
    refine lv_iload_n hx hb dX10_lengthen_28 rfl (lv_at hl 3 rfl) ?_
    obtain ⟨hin11, v12, hv13, h⟩ := ld_b h
    refine x_lald X Z 1 rfl hin11 hv13 dX10_lengthen_29 ?_
    refine lv_lstore (lv' := [(4, .long v12), (0, .ref o), (1, .ref q_p1), (2, .int x2), (3, .int x3)]) hx hb dX10_lengthen_30 hl (by decide) rfl (fun ls hl => ?_)
    refine lv_aload_n hx hb dX10_lengthen_32 rfl (lv_at hl 1 rfl) ?_
    refine x_get X Z 0 1 (v := .ref (d 1)) rfl rfl lk_X10_lengthen_X10_high dX10_lengthen_33 ?_
    refine lv_iload_n hx hb dX10_lengthen_36 rfl (lv_at hl 4 rfl) ?_
    obtain ⟨hin14, v15, hv16, h⟩ := ld_b h
    refine x_lald X Z 2 rfl hin14 hv16 dX10_lengthen_37 ?_
    refine lv_lstore (lv' := [(6, .long v15), (4, .long v12), (0, .ref o), (1, .ref q_p1), (2, .int x2), (3, .int x3)]) hx hb dX10_lengthen_38 hl (by decide) rfl (fun ls hl => ?_)
    refine lv_iconst (v := (0 : Int32)) hx hb dX10_lengthen_40 (by decide) ?_
    refine lv_istore (lv' := [(8, .int (0 : Int32)), (6, .long v15), (4, .long v12), (0, .ref o), (1, .ref q_p1), (2, .int x2), (3, .int x3)]) hx hb dX10_lengthen_41 hl (by decide) rfl (fun ls hl => ?_)
    obtain ⟨u17, hL18, h⟩ := ob_some h
    refine wl_X10_lengthen_43 o q_p1 d d_p1 PT tq p1_count_ p1_members_ count_ pairFirst_ pairSecond_ x2 x3 v12 v15 FU (low_, high_, (0 : Int32)) u17 hT X hL18 (fun H locs ls Z hl => ?_) H locs ls Z (lv_sub hl [3, 4, 5, 6, 2, 1, 0] rfl)
    refine lv_iinc (v := (x3 + (-1 : Int32))) (lv' := [(3, .int (x3 + (-1 : Int32))), (0, .ref o), (1, .ref q_p1), (2, .int x2)]) hx hb dX10_lengthen_95 hl (k := 3) rfl rfl (by decide) rfl (fun ls hl => ?_)
    refine lv_goto (tgt := 20) hx hb dX10_lengthen_98 (by decide) ?_
    obtain rfl := Option.some.inj h
    exact sk_l K H locs ls Z (lv_sub hl [1, 2, 3, 0] rfl)
set_option maxHeartbeats 4000000 in
set_option maxRecDepth 100000 in
theorem wl_X10_lengthen_20 {p : Program} {l : Launch} {e : Env} {s : State} {m : MethodId} {args : Array Value} {below : List Frame} {meth : Method} {c : Code} {A : Nat → Prop} {Q : State → Prop} {D : va_G} {cy : Nat → ClassId} (o : Nat) (q_p1 : Nat) (d : Nat → Nat) (d_p1 : Nat → Nat) (PT : va_W) (tq : Nat → Option TV) (p1_count_ : Int32) (p1_members_ : Nat → Option Nat) (count_ : Int32) (pairFirst_ : Int32) (pairSecond_ : Int32) (x2 : Int32) (n : Nat) (v : (Nat → Int64) × (Nat → Int64) × Int32) (x : (Nat → Int64) × (Nat → Int64)) (hT : TP cy PT tq) (X : Cx p m c cX10_lengthen 9 s args wsX10_lengthen RX10 A D cy (RO_X10_lengthen cy o q_p1 d d_p1 PT p1_count_ p1_members_)) (h : loopN (fun v => b_X10_lengthen_20 tq p1_count_ p1_members_ x2 v.1 v.2.1 v.2.2) n v = some x) (K : ∀ (H : Heap) (locs : List Loc) (ls : Array Slot), St A D s (RW_X10_lengthen cy o q_p1 d d_p1 PT count_ pairFirst_ pairSecond_ x.1 x.2) H locs → lv_has ls 9 [(0, .ref o), (2, .int x2)] → W p l e rm_X10_lengthen s m args below meth c H locs 0 0 Q (F0 m 101 ls [])) : ∀ (H : Heap) (locs : List Loc) (ls : Array Slot), St A D s (RW_X10_lengthen cy o q_p1 d d_p1 PT count_ pairFirst_ pairSecond_ v.1 v.2.1) H locs → lv_has ls 9 [(0, .ref o), (1, .ref q_p1), (2, .int x2), (3, .int v.2.2)] → W p l e rm_X10_lengthen s m args below meth c H locs 0 0 Q (F0 m 20 ls []) :=
  loop_gen (B := (fun v => b_X10_lengthen_20 tq p1_count_ p1_members_ x2 v.1 v.2.1 v.2.2)) (Head := fun v : (Nat → Int64) × (Nat → Int64) × Int32 => ∀ (H : Heap) (locs : List Loc) (ls : Array Slot), St A D s (RW_X10_lengthen cy o q_p1 d d_p1 PT count_ pairFirst_ pairSecond_ v.1 v.2.1) H locs → lv_has ls 9 [(0, .ref o), (1, .ref q_p1), (2, .int x2), (3, .int v.2.2)] → W p l e rm_X10_lengthen s m args below meth c H locs 0 0 Q (F0 m 20 ls [])) (Exit := fun v : (Nat → Int64) × (Nat → Int64) => ∀ (H : Heap) (locs : List Loc) (ls : Array Slot), St A D s (RW_X10_lengthen cy o q_p1 d d_p1 PT count_ pairFirst_ pairSecond_ v.1 v.2) H locs → lv_has ls 9 [(0, .ref o), (2, .int x2)] → W p l e rm_X10_lengthen s m args below meth c H locs 0 0 Q (F0 m 101 ls [])) (fun v o9 hb1 K1 => wb_X10_lengthen_20 o q_p1 d d_p1 PT tq p1_count_ p1_members_ count_ pairFirst_ pairSecond_ x2 v.1 v.2.1 v.2.2 o9 hT X hb1 K1) n v x h K
def f_X10_lengthen (x2 : Int32) (tq : Nat → Option TV) (p1_count_ : Int32) (p1_members_ : Nat → Option Nat) (count_ : Int32) (low_ : Nat → Int64) (high_ : Nat → Int64) : Option (Int32 × (Nat → Int64) × (Nat → Int64)) :=
  if (count_ * x2) ≤ (2187 : Int32) then
  ((loopN (fun v => b_X10_lengthen_20 tq p1_count_ p1_members_ x2 v.1 v.2.1 v.2.2) FU (low_, high_, (count_ - (1 : Int32)))).bind (fun u19 =>
  some ((count_ * x2), u19.1, u19.2)))
  else
  (some (count_, low_, high_))
set_option maxHeartbeats 4000000 in
set_option maxRecDepth 100000 in
theorem wt_X10_lengthen {p : Program} {l : Launch} {e : Env} {s : State} {m : MethodId} {args : Array Value} {below : List Frame} {meth : Method} {c : Code} {A : Nat → Prop} {Q : State → Prop} {D : va_G} {cy : Nat → ClassId} (o : Nat) (q_p1 : Nat) (d : Nat → Nat) (d_p1 : Nat → Nat) (PT : va_W) (tq : Nat → Option TV) (p1_count_ : Int32) (p1_members_ : Nat → Option Nat) (count_ : Int32) (pairFirst_ : Int32) (pairSecond_ : Int32) (low_ : Nat → Int64) (high_ : Nat → Int64) (x2 : Int32) (out : Int32 × (Nat → Int64) × (Nat → Int64)) (hT : TP cy PT tq) (X : Cx p m c cX10_lengthen 9 s args wsX10_lengthen RX10 A D cy (RO_X10_lengthen cy o q_p1 d d_p1 PT p1_count_ p1_members_)) (h : f_X10_lengthen x2 tq p1_count_ p1_members_ count_ low_ high_ = some out) (K : ∀ (H : Heap) (locs : List Loc) (ls : Array Slot) (pc : Nat), decode cX10_lengthen pc = .ok (.return_, 1) → St A D s (RW_X10_lengthen cy o q_p1 d d_p1 PT out.1 pairFirst_ pairSecond_ out.2.1 out.2.2) H locs → W p l e rm_X10_lengthen s m args below meth c H locs 0 0 Q (F0 m pc ls [])) : ∀ (H : Heap) (locs : List Loc) (ls : Array Slot), St A D s (RW_X10_lengthen cy o q_p1 d d_p1 PT count_ pairFirst_ pairSecond_ low_ high_) H locs → lv_has ls 9 [(0, .ref o), (1, .ref q_p1), (2, .int x2)] → W p l e rm_X10_lengthen s m args below meth c H locs 0 0 Q (F0 m 0 ls []) := by
  intro H locs ls Z hl
  have hx := X.1.1
  have hb := X.1.2.1
  unfold f_X10_lengthen at h
  refine lv_aload_n hx hb dX10_lengthen_0 rfl (lv_at hl 0 rfl) ?_
  refine x_get X Z 0 4 (v := .int count_) rfl rfl lk_X10_lengthen_X10_count dX10_lengthen_1 ?_
  refine lv_iload_n hx hb dX10_lengthen_4 rfl (lv_at hl 2 rfl) ?_
  refine lv_imul hx hb dX10_lengthen_5 ?_
  refine lv_sipush (v := (2187 : Int32)) hx hb dX10_lengthen_6 (by decide) ?_
  refine lv_icmp_le (tgt := 13) hx hb dX10_lengthen_9 (by decide) (fun cnd => ?_) (fun cnd => ?_)
  · replace h := ifp h cnd
    refine lv_aload_n hx hb dX10_lengthen_13 rfl (lv_at hl 0 rfl) ?_
    refine x_get X Z 0 4 (v := .int count_) rfl rfl lk_X10_lengthen_X10_count dX10_lengthen_14 ?_
    refine lv_iconst (v := (1 : Int32)) hx hb dX10_lengthen_17 (by decide) ?_
    refine lv_isub hx hb dX10_lengthen_18 ?_
    refine lv_istore_n (lv' := [(3, .int (count_ - (1 : Int32))), (0, .ref o), (1, .ref q_p1), (2, .int x2)]) hx hb dX10_lengthen_19 rfl hl (by decide) rfl (fun ls hl => ?_)
    obtain ⟨u19, hL20, h⟩ := ob_some h
    refine wl_X10_lengthen_20 o q_p1 d d_p1 PT tq p1_count_ p1_members_ count_ pairFirst_ pairSecond_ x2 FU (low_, high_, (count_ - (1 : Int32))) u19 hT X hL20 (fun H locs ls Z hl => ?_) H locs ls Z (lv_sub hl [1, 2, 3, 0] rfl)
    refine lv_aload_n hx hb dX10_lengthen_101 rfl (lv_at hl 0 rfl) ?_
    refine lv_dup hx hb dX10_lengthen_102 rfl ?_
    refine x_get X Z 0 4 (v := .int count_) rfl rfl lk_X10_lengthen_X10_count dX10_lengthen_103 ?_
    refine lv_iload_n hx hb dX10_lengthen_106 rfl (lv_at hl 1 rfl) ?_
    refine lv_imul hx hb dX10_lengthen_107 ?_
    refine x_put X Z 0 4 (RW_X10_lengthen cy o q_p1 d d_p1 PT (count_ * x2) pairFirst_ pairSecond_ u19.1 u19.2) rfl lp_X10_lengthen_X10_count (Nat.le_of_ble_eq_true rfl) rfl dX10_lengthen_108 (fun H locs Z => ?_)
    obtain rfl := Option.some.inj h
    exact K H locs ls _ dX10_lengthen_111 Z
  · replace h := ifn h cnd
    obtain rfl := Option.some.inj h
    exact K H locs ls _ dX10_lengthen_12 Z
theorem c_X10_lengthen (l : Launch) (D : va_G) (cy : Nat → ClassId) (o : Nat) (q_p1 : Nat) (d : Nat → Nat) (d_p1 : Nat → Nat) (PT : va_W) (tq : Nat → Option TV) (p1_count_ : Int32) (p1_members_ : Nat → Option Nat) (count_ : Int32) (pairFirst_ : Int32) (pairSecond_ : Int32) (low_ : Nat → Int64) (high_ : Nat → Int64) (x2 : Int32) (out : Int32 × (Nat → Int64) × (Nat → Int64)) (hT : TP cy PT tq) (h : f_X10_lengthen x2 tq p1_count_ p1_members_ count_ low_ high_ = some out) : CtV l yX10_lengthen wsX10_lengthen rm_X10_lengthen D cy [.ref o, .ref q_p1, .int x2] (RW_X10_lengthen cy o q_p1 d d_p1 PT count_ pairFirst_ pairSecond_ low_ high_) (RO_X10_lengthen cy o q_p1 d d_p1 PT p1_count_ p1_members_) (RW_X10_lengthen cy o q_p1 d d_p1 PT out.1 pairFirst_ pairSecond_ out.2.1 out.2.2) :=
  mk_v (by decide) rfl (Nat.le_of_ble_eq_true rfl) (fun p e s m args below meth c A Q X K H locs ls Z hl => wt_X10_lengthen o q_p1 d d_p1 PT tq p1_count_ p1_members_ count_ pairFirst_ pairSecond_ low_ high_ x2 out hT X h K H locs ls Z hl)
/-! SubwordCounter$Bundle valueAt (IJJ)I -/
abbrev rm_X1_valueAt : Room := { frames := 1, cells := 0, slots := 0, locals := 21 }
def RW_X1_valueAt (cy : Nat → ClassId) (o : Nat) (d : Nat → Nat) (PT : va_W)  : va_W := []
def RO_X1_valueAt (cy : Nat → ClassId) (o : Nat) (d : Nat → Nat) (PT : va_W) (count_ : Int32) (members_ : Nat → Option Nat) : va_W := [(o, ob 1 (oX1 d count_)), ((d 0), aR cy 4 8 members_)] ++ PT
theorem in_X1_valueAt_X1 : ∀ w ∈ u_ws RX1 TX1 2, w ∈ wsX1_valueAt := fun w h => (List.mem_cons_of_mem _ (List.mem_append_left _ (List.mem_append_right _ h)))
theorem lk_X1_valueAt_X1_members : Lk wsX1_valueAt RX1 13 1 0 := ⟨RX1, TX1, 2, rfl, by decide, in_X1_valueAt_X1, mem_at 1 rfl⟩
def j_X1_valueAt_11 (tq : Nat → Option TV) (members_ : Nat → Option Nat) (x1 : Int32) (t0 : Int64) : Option (Int32) :=
  ldA members_ 8 x1 (fun r2 =>
  tsA tq r2 (fun a4 tv5 =>
  (f_X8_valueAt (((ushL t0 ((16 : Int32) * (x1 &&& (3 : Int32)))).toInt32) &&& (65535 : Int32)) tv5.1 tv5.2.2.2.1).bind (fun u8 =>
  some u8)))
set_option maxHeartbeats 4000000 in
set_option maxRecDepth 100000 in
theorem jw_X1_valueAt_11 {p : Program} {l : Launch} {e : Env} {s : State} {m : MethodId} {args : Array Value} {below : List Frame} {meth : Method} {c : Code} {A : Nat → Prop} {Q : State → Prop} {D : va_G} {cy : Nat → ClassId} (o : Nat) (d : Nat → Nat) (PT : va_W) (tq : Nat → Option TV) (count_ : Int32) (members_ : Nat → Option Nat)  (x1 : Int32) (t0 : Int64) (out : Int32) (hT : TP cy PT tq) (X : Cx p m c cX1_valueAt 8 s args wsX1_valueAt RX1 A D cy (RO_X1_valueAt cy o d PT count_ members_)) (h : j_X1_valueAt_11 tq members_ x1 t0 = some out) (K : ∀ (H : Heap) (locs : List Loc) (ls : Array Slot) (pc : Nat), decode cX1_valueAt pc = .ok (.ireturn, 1) → St A D s (RW_X1_valueAt cy o d PT) H locs → W p l e rm_X1_valueAt s m args below meth c H locs 0 0 Q (F0 m pc ls [.int out])) : ∀ (H : Heap) (locs : List Loc) (ls : Array Slot), St A D s (RW_X1_valueAt cy o d PT) H locs → lv_has ls 8 [(0, .ref o), (1, .int x1)] → W p l e rm_X1_valueAt s m args below meth c H locs 0 0 Q (F0 m 11 ls [.long t0]) := by
  intro H locs ls Z hl
  have hx := X.1.1
  have hb := X.1.2.1
  unfold j_X1_valueAt_11 at h
  refine lv_lstore (lv' := [(6, .long t0), (0, .ref o), (1, .int x1)]) hx hb dX1_valueAt_11 hl (by decide) rfl (fun ls hl => ?_)
  refine lv_aload_n hx hb dX1_valueAt_13 rfl (lv_at hl 1 rfl) ?_
  refine x_getO X Z 0 0 (v := .ref (d 0)) rfl rfl lk_X1_valueAt_X1_members dX1_valueAt_14 ?_
  refine lv_iload_n hx hb dX1_valueAt_17 rfl (lv_at hl 2 rfl) ?_
  obtain ⟨hin1, r2, hv3, h⟩ := ld_b h
  obtain ⟨a4, tv5, hr6, ht7, h⟩ := ts_b h
  refine x_raldO X Z 1 4 rfl rfl hin1 hv3 hr6 dX1_valueAt_18 ?_
  refine lv_lload hx hb dX1_valueAt_19 (lv_at hl 0 rfl) ?_
  refine lv_bipush (v := (16 : Int32)) hx hb dX1_valueAt_21 (by decide) ?_
  refine lv_iload_n hx hb dX1_valueAt_23 rfl (lv_at hl 2 rfl) ?_
  refine lv_iconst (v := (3 : Int32)) hx hb dX1_valueAt_24 (by decide) ?_
  refine lv_iand hx hb dX1_valueAt_25 ?_
  refine lv_imul hx hb dX1_valueAt_26 ?_
  refine lv_lushr (v := (ushL t0 ((16 : Int32) * (x1 &&& (3 : Int32))))) hx hb dX1_valueAt_27 rfl ?_
  refine lv_l2i (v := ((ushL t0 ((16 : Int32) * (x1 &&& (3 : Int32)))).toInt32)) hx hb dX1_valueAt_28 rfl ?_
  refine lv_ldc (v := (65535 : Int32)) hx hb X.1.2.2.2.1 (X.1.2.2.2.2 _ (mem_at 2 rfl)) dX1_valueAt_29 ?_
  refine lv_iand hx hb dX1_valueAt_31 ?_
  obtain ⟨u8, hc9, h⟩ := ob_some h
  refine x_runVi (RW' := (RW_X1_valueAt cy o d PT)) (wr := []) (isC := []) (isR := []) (isF := []) (rest := []) (As := [.int (((ushL t0 ((16 : Int32) * (x1 &&& (3 : Int32)))).toInt32) &&& (65535 : Int32))]) (n := 1) X Z (c_X8_valueAt l D cy a4 (fun _ => tv5.2.2.2.2.1) tv5.1 tv5.2.1 tv5.2.2.1 tv5.2.2.2.1 (((ushL t0 ((16 : Int32) * (x1 &&& (3 : Int32)))).toInt32) &&& (65535 : Int32)) u8 hc9) gX1_valueAt_X8_valueAt rfl (by decide +kernel) ⟨Nat.le_of_ble_eq_true rfl, Nat.le_of_ble_eq_true rfl⟩ ⟨rfl, rfl⟩ ⟨Nat.le_of_ble_eq_true rfl, Nat.le_of_ble_eq_true rfl⟩ (x_rvM X Z (List.mem_append_right _ (hT a4 tv5 ht7).1) rfl) ⟨rfl, rfl, (roC (Or.inr (List.mem_append_right _ (hT a4 tv5 ht7).1)) roN), rfl, rfl, by decide⟩ ⟨rfl, rfl⟩ rfl hl.1 rfl (Nat.le_of_ble_eq_true rfl) dX1_valueAt_32 (fun H locs Z => ?_)
  obtain rfl := Option.some.inj h
  exact K H locs ls _ dX1_valueAt_35 Z
def f_X1_valueAt (x1 : Int32) (x2 : Int64) (x4 : Int64) (tq : Nat → Option TV) (members_ : Nat → Option Nat) : Option (Int32) :=
  if (4 : Int32) ≤ x1 then
  (j_X1_valueAt_11 tq members_ x1 x4)
  else
  (j_X1_valueAt_11 tq members_ x1 x2)
set_option maxHeartbeats 4000000 in
set_option maxRecDepth 100000 in
theorem wt_X1_valueAt {p : Program} {l : Launch} {e : Env} {s : State} {m : MethodId} {args : Array Value} {below : List Frame} {meth : Method} {c : Code} {A : Nat → Prop} {Q : State → Prop} {D : va_G} {cy : Nat → ClassId} (o : Nat) (d : Nat → Nat) (PT : va_W) (tq : Nat → Option TV) (count_ : Int32) (members_ : Nat → Option Nat)  (x1 : Int32) (x2 : Int64) (x4 : Int64) (out : Int32) (hT : TP cy PT tq) (X : Cx p m c cX1_valueAt 8 s args wsX1_valueAt RX1 A D cy (RO_X1_valueAt cy o d PT count_ members_)) (h : f_X1_valueAt x1 x2 x4 tq members_ = some out) (K : ∀ (H : Heap) (locs : List Loc) (ls : Array Slot) (pc : Nat), decode cX1_valueAt pc = .ok (.ireturn, 1) → St A D s (RW_X1_valueAt cy o d PT) H locs → W p l e rm_X1_valueAt s m args below meth c H locs 0 0 Q (F0 m pc ls [.int out])) : ∀ (H : Heap) (locs : List Loc) (ls : Array Slot), St A D s (RW_X1_valueAt cy o d PT) H locs → lv_has ls 8 [(0, .ref o), (1, .int x1), (2, .long x2), (4, .long x4)] → W p l e rm_X1_valueAt s m args below meth c H locs 0 0 Q (F0 m 0 ls []) := by
  intro H locs ls Z hl
  have hx := X.1.1
  have hb := X.1.2.1
  unfold f_X1_valueAt at h
  refine lv_iload_n hx hb dX1_valueAt_0 rfl (lv_at hl 1 rfl) ?_
  refine lv_iconst (v := (4 : Int32)) hx hb dX1_valueAt_1 (by decide) ?_
  refine lv_icmp_ge (tgt := 9) hx hb dX1_valueAt_2 (by decide) (fun cnd => ?_) (fun cnd => ?_)
  · replace h := ifp h cnd
    refine lv_lload hx hb dX1_valueAt_9 (lv_at hl 3 rfl) ?_
    exact jw_X1_valueAt_11 o d PT tq count_ members_ x1 x4 _ hT X h K H locs ls Z (lv_sub hl [0, 1] rfl)
  · replace h := ifn h cnd
    refine lv_lload_n hx hb dX1_valueAt_5 rfl (lv_at hl 2 rfl) ?_
    refine lv_goto (tgt := 11) hx hb dX1_valueAt_6 (by decide) ?_
    exact jw_X1_valueAt_11 o d PT tq count_ members_ x1 x2 _ hT X h K H locs ls Z (lv_sub hl [0, 1] rfl)
theorem c_X1_valueAt (l : Launch) (D : va_G) (cy : Nat → ClassId) (o : Nat) (d : Nat → Nat) (PT : va_W) (tq : Nat → Option TV) (count_ : Int32) (members_ : Nat → Option Nat)  (x1 : Int32) (x2 : Int64) (x4 : Int64) (out : Int32) (hT : TP cy PT tq) (h : f_X1_valueAt x1 x2 x4 tq members_ = some out) : CtI l yX1_valueAt wsX1_valueAt rm_X1_valueAt D cy [.ref o, .int x1, .long x2, .long x4] (RW_X1_valueAt cy o d PT) (RO_X1_valueAt cy o d PT count_ members_) (RW_X1_valueAt cy o d PT) out :=
  mk_i (ty := .int) (by decide) rfl rfl (Nat.le_of_ble_eq_true rfl) (fun p e s m args below meth c A Q X K H locs ls Z hl => wt_X1_valueAt o d PT tq count_ members_ x1 x2 x4 out hT X h K H locs ls Z hl)
/-! SubwordCounter$Bundle signatureAt (JJ)I -/
abbrev rm_X1_signatureAt : Room := { frames := 2, cells := 0, slots := 0, locals := 48 }
def RW_X1_signatureAt (cy : Nat → ClassId) (o : Nat) (d : Nat → Nat) (PT : va_W)  : va_W := []
def RO_X1_signatureAt (cy : Nat → ClassId) (o : Nat) (d : Nat → Nat) (PT : va_W) (count_ : Int32) (members_ : Nat → Option Nat) : va_W := [(o, ob 1 (oX1 d count_)), ((d 0), aR cy 4 8 members_)] ++ PT
theorem in_X1_signatureAt_X1 : ∀ w ∈ u_ws RX1 TX1 2, w ∈ wsX1_signatureAt := fun w h => (List.mem_cons_of_mem _ (List.mem_append_left _ (List.mem_append_right _ h)))
theorem lk_X1_signatureAt_X1_members : Lk wsX1_signatureAt RX1 13 1 0 := ⟨RX1, TX1, 2, rfl, by decide, in_X1_signatureAt_X1, mem_at 2 rfl⟩
theorem in_X1_signatureAt_X8 : ∀ w ∈ u_ws RX8 TX8 5, w ∈ wsX1_signatureAt := fun w h => (List.mem_cons_of_mem _ (List.mem_append_right _ h))
theorem lk_X1_signatureAt_X8_range : Lk wsX1_signatureAt RX1 39 7 2 := ⟨RX8, TX8, 5, rfl, by decide, in_X1_signatureAt_X8, mem_at 3 rfl⟩
theorem lk_X1_signatureAt_X1_count : Lk wsX1_signatureAt RX1 17 1 1 := ⟨RX1, TX1, 2, rfl, by decide, in_X1_signatureAt_X1, mem_at 1 rfl⟩
def b_X1_signatureAt_11 (tq : Nat → Option TV) (members_ : Nat → Option Nat) (x1 : Int64) (x3 : Int64)  (x5 : Int32) (x6 : Int32) : Option ((Int32 × Int32) ⊕ (Int32)) :=
  if x6 < 0 then
  (some (.inr x5))
  else
  ((f_X1_valueAt x6 x1 x3 tq members_).bind (fun u1 =>
  ldA members_ 8 x6 (fun r4 =>
  tsA tq r4 (fun a6 tv7 =>
  some (.inl ((u1 + (tv7.2.2.1 * x5)), (x6 + (-1 : Int32))))))))
set_option maxHeartbeats 4000000 in
set_option maxRecDepth 100000 in
theorem wb_X1_signatureAt_11 {p : Program} {l : Launch} {e : Env} {s : State} {m : MethodId} {args : Array Value} {below : List Frame} {meth : Method} {c : Code} {A : Nat → Prop} {Q : State → Prop} {D : va_G} {cy : Nat → ClassId} (o : Nat) (d : Nat → Nat) (PT : va_W) (tq : Nat → Option TV) (count_ : Int32) (members_ : Nat → Option Nat)  (x1 : Int64) (x3 : Int64)  (x5 : Int32) (x6 : Int32) (o1 : (Int32 × Int32) ⊕ (Int32)) (hT : TP cy PT tq) (X : Cx p m c cX1_signatureAt 7 s args wsX1_signatureAt RX1 A D cy (RO_X1_signatureAt cy o d PT count_ members_)) (h : b_X1_signatureAt_11 tq members_ x1 x3 x5 x6 = some o1) (K : Sum.elim (fun v : Int32 × Int32 => ∀ (H : Heap) (locs : List Loc) (ls : Array Slot), St A D s (RW_X1_signatureAt cy o d PT) H locs → lv_has ls 7 [(0, .ref o), (1, .long x1), (3, .long x3), (5, .int v.1), (6, .int v.2)] → W p l e rm_X1_signatureAt s m args below meth c H locs 0 0 Q (F0 m 11 ls [])) (fun v : Int32 => ∀ (H : Heap) (locs : List Loc) (ls : Array Slot), St A D s (RW_X1_signatureAt cy o d PT) H locs → lv_has ls 7 [(5, .int v)] → W p l e rm_X1_signatureAt s m args below meth c H locs 0 0 Q (F0 m 46 ls [])) o1) : ∀ (H : Heap) (locs : List Loc) (ls : Array Slot), St A D s (RW_X1_signatureAt cy o d PT) H locs → lv_has ls 7 [(0, .ref o), (1, .long x1), (3, .long x3), (5, .int x5), (6, .int x6)] → W p l e rm_X1_signatureAt s m args below meth c H locs 0 0 Q (F0 m 11 ls []) := by
  intro H locs ls Z hl
  have hx := X.1.1
  have hb := X.1.2.1
  unfold b_X1_signatureAt_11 at h
  refine lv_iload hx hb dX1_signatureAt_11 (lv_at hl 4 rfl) ?_
  refine lv_if_lt (tgt := 46) hx hb dX1_signatureAt_13 (by decide) (fun cnd => ?_) (fun cnd => ?_)
  · replace h := ifp h cnd
    obtain rfl := Option.some.inj h
    exact (sk_r K) H locs ls Z (lv_sub hl [3] rfl)
  · replace h := ifn h cnd
    refine lv_aload_n hx hb dX1_signatureAt_16 rfl (lv_at hl 0 rfl) ?_
    refine lv_iload hx hb dX1_signatureAt_17 (lv_at hl 4 rfl) ?_
    refine lv_lload_n hx hb dX1_signatureAt_19 rfl (lv_at hl 1 rfl) ?_
    refine lv_lload_n hx hb dX1_signatureAt_20 rfl (lv_at hl 2 rfl) ?_
    obtain ⟨u1, hc2, h⟩ := ob_some h
    refine x_runVi (RW' := (RW_X1_signatureAt cy o d PT)) (wr := []) (isC := []) (isR := []) (isF := []) (rest := []) (As := [.int x6, .long x1, .long x3]) (n := 3) X Z (c_X1_valueAt l D cy o d PT tq count_ members_ x6 x1 x3 u1 hT hc2) gX1_signatureAt_X1_valueAt rfl (by decide +kernel) ⟨Nat.le_of_ble_eq_true rfl, Nat.le_of_ble_eq_true rfl⟩ ⟨rfl, rfl⟩ ⟨Nat.le_of_ble_eq_true rfl, Nat.le_of_ble_eq_true rfl⟩ (x_rvO X Z 0 rfl rfl) ⟨rfl, rfl, (roC (Or.inr (mem_at 0 rfl)) (roC (Or.inr (mem_at 1 rfl)) (fun q hq => Or.inr (List.mem_append_right _ hq)))), rfl, rfl, by decide⟩ ⟨rfl, rfl⟩ rfl hl.1 rfl (Nat.le_of_ble_eq_true rfl) dX1_signatureAt_21 (fun H locs Z => ?_)
    refine lv_aload_n hx hb dX1_signatureAt_24 rfl (lv_at hl 0 rfl) ?_
    refine x_getO X Z 0 0 (v := .ref (d 0)) rfl rfl lk_X1_signatureAt_X1_members dX1_signatureAt_25 ?_
    refine lv_iload hx hb dX1_signatureAt_28 (lv_at hl 4 rfl) ?_
    obtain ⟨hin3, r4, hv5, h⟩ := ld_b h
    obtain ⟨a6, tv7, hr8, ht9, h⟩ := ts_b h
    refine x_raldO X Z 1 4 rfl rfl hin3 hv5 hr8 dX1_signatureAt_30 ?_
    refine x_getM X Z 2 (v := .int tv7.2.2.1) (List.mem_append_right _ (hT a6 tv7 ht9).1) rfl lk_X1_signatureAt_X8_range dX1_signatureAt_31 ?_
    refine lv_iload hx hb dX1_signatureAt_34 (lv_at hl 3 rfl) ?_
    refine lv_imul hx hb dX1_signatureAt_36 ?_
    refine lv_iadd hx hb dX1_signatureAt_37 ?_
    refine lv_istore (lv' := [(5, .int (u1 + (tv7.2.2.1 * x5))), (0, .ref o), (1, .long x1), (3, .long x3), (6, .int x6)]) hx hb dX1_signatureAt_38 hl (by decide) rfl (fun ls hl => ?_)
    refine lv_iinc (v := (x6 + (-1 : Int32))) (lv' := [(6, .int (x6 + (-1 : Int32))), (5, .int (u1 + (tv7.2.2.1 * x5))), (0, .ref o), (1, .long x1), (3, .long x3)]) hx hb dX1_signatureAt_40 hl (k := 4) rfl rfl (by decide) rfl (fun ls hl => ?_)
    refine lv_goto (tgt := 11) hx hb dX1_signatureAt_43 (by decide) ?_
    obtain rfl := Option.some.inj h
    exact sk_l K H locs ls Z (lv_sub hl [2, 3, 4, 1, 0] rfl)
set_option maxHeartbeats 4000000 in
set_option maxRecDepth 100000 in
theorem wl_X1_signatureAt_11 {p : Program} {l : Launch} {e : Env} {s : State} {m : MethodId} {args : Array Value} {below : List Frame} {meth : Method} {c : Code} {A : Nat → Prop} {Q : State → Prop} {D : va_G} {cy : Nat → ClassId} (o : Nat) (d : Nat → Nat) (PT : va_W) (tq : Nat → Option TV) (count_ : Int32) (members_ : Nat → Option Nat)  (x1 : Int64) (x3 : Int64) (n : Nat) (v : Int32 × Int32) (x : Int32) (hT : TP cy PT tq) (X : Cx p m c cX1_signatureAt 7 s args wsX1_signatureAt RX1 A D cy (RO_X1_signatureAt cy o d PT count_ members_)) (h : loopN (fun v => b_X1_signatureAt_11 tq members_ x1 x3 v.1 v.2) n v = some x) (K : ∀ (H : Heap) (locs : List Loc) (ls : Array Slot), St A D s (RW_X1_signatureAt cy o d PT) H locs → lv_has ls 7 [(5, .int x)] → W p l e rm_X1_signatureAt s m args below meth c H locs 0 0 Q (F0 m 46 ls [])) : ∀ (H : Heap) (locs : List Loc) (ls : Array Slot), St A D s (RW_X1_signatureAt cy o d PT) H locs → lv_has ls 7 [(0, .ref o), (1, .long x1), (3, .long x3), (5, .int v.1), (6, .int v.2)] → W p l e rm_X1_signatureAt s m args below meth c H locs 0 0 Q (F0 m 11 ls []) :=
  loop_gen (B := (fun v => b_X1_signatureAt_11 tq members_ x1 x3 v.1 v.2)) (Head := fun v : Int32 × Int32 => ∀ (H : Heap) (locs : List Loc) (ls : Array Slot), St A D s (RW_X1_signatureAt cy o d PT) H locs → lv_has ls 7 [(0, .ref o), (1, .long x1), (3, .long x3), (5, .int v.1), (6, .int v.2)] → W p l e rm_X1_signatureAt s m args below meth c H locs 0 0 Q (F0 m 11 ls [])) (Exit := fun v : Int32 => ∀ (H : Heap) (locs : List Loc) (ls : Array Slot), St A D s (RW_X1_signatureAt cy o d PT) H locs → lv_has ls 7 [(5, .int v)] → W p l e rm_X1_signatureAt s m args below meth c H locs 0 0 Q (F0 m 46 ls [])) (fun v o9 hb1 K1 => wb_X1_signatureAt_11 o d PT tq count_ members_ x1 x3 v.1 v.2 o9 hT X hb1 K1) n v x h K
def f_X1_signatureAt (x1 : Int64) (x3 : Int64) (tq : Nat → Option TV) (count_ : Int32) (members_ : Nat → Option Nat) : Option (Int32) :=
  (loopN (fun v => b_X1_signatureAt_11 tq members_ x1 x3 v.1 v.2) FU ((0 : Int32), (count_ - (1 : Int32)))).bind (fun u10 =>
  some u10)
set_option maxHeartbeats 4000000 in
set_option maxRecDepth 100000 in
theorem wt_X1_signatureAt {p : Program} {l : Launch} {e : Env} {s : State} {m : MethodId} {args : Array Value} {below : List Frame} {meth : Method} {c : Code} {A : Nat → Prop} {Q : State → Prop} {D : va_G} {cy : Nat → ClassId} (o : Nat) (d : Nat → Nat) (PT : va_W) (tq : Nat → Option TV) (count_ : Int32) (members_ : Nat → Option Nat)  (x1 : Int64) (x3 : Int64) (out : Int32) (hT : TP cy PT tq) (X : Cx p m c cX1_signatureAt 7 s args wsX1_signatureAt RX1 A D cy (RO_X1_signatureAt cy o d PT count_ members_)) (h : f_X1_signatureAt x1 x3 tq count_ members_ = some out) (K : ∀ (H : Heap) (locs : List Loc) (ls : Array Slot) (pc : Nat), decode cX1_signatureAt pc = .ok (.ireturn, 1) → St A D s (RW_X1_signatureAt cy o d PT) H locs → W p l e rm_X1_signatureAt s m args below meth c H locs 0 0 Q (F0 m pc ls [.int out])) : ∀ (H : Heap) (locs : List Loc) (ls : Array Slot), St A D s (RW_X1_signatureAt cy o d PT) H locs → lv_has ls 7 [(0, .ref o), (1, .long x1), (3, .long x3)] → W p l e rm_X1_signatureAt s m args below meth c H locs 0 0 Q (F0 m 0 ls []) := by
  intro H locs ls Z hl
  have hx := X.1.1
  have hb := X.1.2.1
  unfold f_X1_signatureAt at h
  refine lv_iconst (v := (0 : Int32)) hx hb dX1_signatureAt_0 (by decide) ?_
  refine lv_istore (lv' := [(5, .int (0 : Int32)), (0, .ref o), (1, .long x1), (3, .long x3)]) hx hb dX1_signatureAt_1 hl (by decide) rfl (fun ls hl => ?_)
  refine lv_aload_n hx hb dX1_signatureAt_3 rfl (lv_at hl 1 rfl) ?_
  refine x_getO X Z 0 1 (v := .int count_) rfl rfl lk_X1_signatureAt_X1_count dX1_signatureAt_4 ?_
  refine lv_iconst (v := (1 : Int32)) hx hb dX1_signatureAt_7 (by decide) ?_
  refine lv_isub hx hb dX1_signatureAt_8 ?_
  refine lv_istore (lv' := [(6, .int (count_ - (1 : Int32))), (5, .int (0 : Int32)), (0, .ref o), (1, .long x1), (3, .long x3)]) hx hb dX1_signatureAt_9 hl (by decide) rfl (fun ls hl => ?_)
  obtain ⟨u10, hL11, h⟩ := ob_some h
  refine wl_X1_signatureAt_11 o d PT tq count_ members_ x1 x3 FU ((0 : Int32), (count_ - (1 : Int32))) u10 hT X hL11 (fun H locs ls Z hl => ?_) H locs ls Z (lv_sub hl [2, 3, 4, 1, 0] rfl)
  refine lv_iload hx hb dX1_signatureAt_46 (lv_at hl 0 rfl) ?_
  obtain rfl := Option.some.inj h
  exact K H locs ls _ dX1_signatureAt_48 Z
theorem c_X1_signatureAt (l : Launch) (D : va_G) (cy : Nat → ClassId) (o : Nat) (d : Nat → Nat) (PT : va_W) (tq : Nat → Option TV) (count_ : Int32) (members_ : Nat → Option Nat)  (x1 : Int64) (x3 : Int64) (out : Int32) (hT : TP cy PT tq) (h : f_X1_signatureAt x1 x3 tq count_ members_ = some out) : CtI l yX1_signatureAt wsX1_signatureAt rm_X1_signatureAt D cy [.ref o, .long x1, .long x3] (RW_X1_signatureAt cy o d PT) (RO_X1_signatureAt cy o d PT count_ members_) (RW_X1_signatureAt cy o d PT) out :=
  mk_i (ty := .int) (by decide) rfl rfl (Nat.le_of_ble_eq_true rfl) (fun p e s m args below meth c A Q X K H locs ls Z hl => wt_X1_signatureAt o d PT tq count_ members_ x1 x3 out hT X h K H locs ls Z hl)
/-! SubwordCounter$WordList sign (LSubwordCounter$Bundle;)V -/
abbrev rm_X10_sign : Room := { frames := 3, cells := 0, slots := 0, locals := 74 }
def RW_X10_sign (cy : Nat → ClassId) (o : Nat) (q_p1 : Nat) (d : Nat → Nat) (d_p1 : Nat → Nat) (PT : va_W) (signatures_ : Nat → Int32) : va_W := [((d 2), aI cy 2187 signatures_)]
def RO_X10_sign (cy : Nat → ClassId) (o : Nat) (q_p1 : Nat) (d : Nat → Nat) (d_p1 : Nat → Nat) (PT : va_W) (count_ : Int32) (pairFirst_ : Int32) (pairSecond_ : Int32) (p1_count_ : Int32) (low_ : Nat → Int64) (high_ : Nat → Int64) (p1_members_ : Nat → Option Nat) : va_W := [(o, ob 9 (oX10 d count_ pairFirst_ pairSecond_)), (q_p1, ob 1 (oX1 d_p1 p1_count_)), ((d 0), aJ cy 2187 low_), ((d 1), aJ cy 2187 high_), ((d_p1 0), aR cy 4 8 p1_members_)] ++ PT
theorem in_X10_sign_X10 : ∀ w ∈ u_ws RX10 TX10 7, w ∈ wsX10_sign := fun w h => (List.mem_cons_of_mem _ (List.mem_append_left _ (List.mem_append_left _ (List.mem_append_right _ h))))
theorem lk_X10_sign_X10_count : Lk wsX10_sign RX10 23 9 4 := ⟨RX10, TX10, 7, rfl, by decide, in_X10_sign_X10, mem_at 1 rfl⟩
theorem lk_X10_sign_X10_signatures : Lk wsX10_sign RX10 16 9 2 := ⟨RX10, TX10, 7, rfl, by decide, in_X10_sign_X10, mem_at 2 rfl⟩
theorem lk_X10_sign_X10_low : Lk wsX10_sign RX10 9 9 0 := ⟨RX10, TX10, 7, rfl, by decide, in_X10_sign_X10, mem_at 3 rfl⟩
theorem lk_X10_sign_X10_high : Lk wsX10_sign RX10 13 9 1 := ⟨RX10, TX10, 7, rfl, by decide, in_X10_sign_X10, mem_at 4 rfl⟩
def b_X10_sign_2 (tq : Nat → Option TV) (count_ : Int32) (p1_count_ : Int32) (low_ : Nat → Int64) (high_ : Nat → Int64) (p1_members_ : Nat → Option Nat) (signatures_ : Nat → Int32) (x2 : Int32) : Option (((Nat → Int32) × Int32) ⊕ ((Nat → Int32))) :=
  if count_ ≤ x2 then
  (some (.inr signatures_))
  else
  (ldA low_ 2187 x2 (fun v2 =>
  ldA high_ 2187 x2 (fun v5 =>
  (f_X1_signatureAt v2 v5 tq p1_count_ p1_members_).bind (fun u7 =>
  stA signatures_ 2187 x2 u7 (fun signatures_10 =>
  some (.inl (signatures_10, (x2 + (1 : Int32)))))))))
set_option maxHeartbeats 4000000 in
set_option maxRecDepth 100000 in
theorem wb_X10_sign_2 {p : Program} {l : Launch} {e : Env} {s : State} {m : MethodId} {args : Array Value} {below : List Frame} {meth : Method} {c : Code} {A : Nat → Prop} {Q : State → Prop} {D : va_G} {cy : Nat → ClassId} (o : Nat) (q_p1 : Nat) (d : Nat → Nat) (d_p1 : Nat → Nat) (PT : va_W) (tq : Nat → Option TV) (count_ : Int32) (pairFirst_ : Int32) (pairSecond_ : Int32) (p1_count_ : Int32) (low_ : Nat → Int64) (high_ : Nat → Int64) (p1_members_ : Nat → Option Nat)  (signatures_ : Nat → Int32) (x2 : Int32) (o1 : ((Nat → Int32) × Int32) ⊕ ((Nat → Int32))) (hT : TP cy PT tq) (X : Cx p m c cX10_sign 3 s args wsX10_sign RX10 A D cy (RO_X10_sign cy o q_p1 d d_p1 PT count_ pairFirst_ pairSecond_ p1_count_ low_ high_ p1_members_)) (h : b_X10_sign_2 tq count_ p1_count_ low_ high_ p1_members_ signatures_ x2 = some o1) (K : Sum.elim (fun v : (Nat → Int32) × Int32 => ∀ (H : Heap) (locs : List Loc) (ls : Array Slot), St A D s (RW_X10_sign cy o q_p1 d d_p1 PT v.1) H locs → lv_has ls 3 [(0, .ref o), (1, .ref q_p1), (2, .int v.2)] → W p l e rm_X10_sign s m args below meth c H locs 0 0 Q (F0 m 2 ls [])) (fun v : (Nat → Int32) => ∀ (H : Heap) (locs : List Loc) (ls : Array Slot), St A D s (RW_X10_sign cy o q_p1 d d_p1 PT v) H locs → lv_has ls 3 [] → W p l e rm_X10_sign s m args below meth c H locs 0 0 Q (F0 m 38 ls [])) o1) : ∀ (H : Heap) (locs : List Loc) (ls : Array Slot), St A D s (RW_X10_sign cy o q_p1 d d_p1 PT signatures_) H locs → lv_has ls 3 [(0, .ref o), (1, .ref q_p1), (2, .int x2)] → W p l e rm_X10_sign s m args below meth c H locs 0 0 Q (F0 m 2 ls []) := by
  intro H locs ls Z hl
  have hx := X.1.1
  have hb := X.1.2.1
  unfold b_X10_sign_2 at h
  refine lv_iload_n hx hb dX10_sign_2 rfl (lv_at hl 2 rfl) ?_
  refine lv_aload_n hx hb dX10_sign_3 rfl (lv_at hl 0 rfl) ?_
  refine x_getO X Z 0 4 (v := .int count_) rfl rfl lk_X10_sign_X10_count dX10_sign_4 ?_
  refine lv_icmp_ge (tgt := 38) hx hb dX10_sign_7 (by decide) (fun cnd => ?_) (fun cnd => ?_)
  · replace h := ifp h cnd
    obtain rfl := Option.some.inj h
    exact (sk_r K) H locs ls Z (lv_sub hl [] rfl)
  · replace h := ifn h cnd
    refine lv_aload_n hx hb dX10_sign_10 rfl (lv_at hl 0 rfl) ?_
    refine x_getO X Z 0 2 (v := .ref (d 2)) rfl rfl lk_X10_sign_X10_signatures dX10_sign_11 ?_
    refine lv_iload_n hx hb dX10_sign_14 rfl (lv_at hl 2 rfl) ?_
    refine lv_aload_n hx hb dX10_sign_15 rfl (lv_at hl 1 rfl) ?_
    refine lv_aload_n hx hb dX10_sign_16 rfl (lv_at hl 0 rfl) ?_
    refine x_getO X Z 0 0 (v := .ref (d 0)) rfl rfl lk_X10_sign_X10_low dX10_sign_17 ?_
    refine lv_iload_n hx hb dX10_sign_20 rfl (lv_at hl 2 rfl) ?_
    obtain ⟨hin1, v2, hv3, h⟩ := ld_b h
    refine x_laldO X Z 2 rfl hin1 hv3 dX10_sign_21 ?_
    refine lv_aload_n hx hb dX10_sign_22 rfl (lv_at hl 0 rfl) ?_
    refine x_getO X Z 0 1 (v := .ref (d 1)) rfl rfl lk_X10_sign_X10_high dX10_sign_23 ?_
    refine lv_iload_n hx hb dX10_sign_26 rfl (lv_at hl 2 rfl) ?_
    obtain ⟨hin4, v5, hv6, h⟩ := ld_b h
    refine x_laldO X Z 3 rfl hin4 hv6 dX10_sign_27 ?_
    obtain ⟨u7, hc8, h⟩ := ob_some h
    refine x_runVi (RW' := (RW_X10_sign cy o q_p1 d d_p1 PT signatures_)) (wr := [((d 2), aI cy 2187 signatures_)]) (isC := []) (isR := [0]) (isF := [0]) (rest := [.int x2, .ref (d 2)]) (As := [.long v2, .long v5]) (n := 2) X Z (c_X1_signatureAt l D cy q_p1 d_p1 PT tq p1_count_ p1_members_ v2 v5 u7 hT hc8) gX10_sign_X1_signatureAt rfl (by decide +kernel) ⟨Nat.le_of_ble_eq_true rfl, Nat.le_of_ble_eq_true rfl⟩ ⟨rfl, rfl⟩ ⟨Nat.le_of_ble_eq_true rfl, Nat.le_of_ble_eq_true rfl⟩ (x_rvO X Z 1 rfl rfl) ⟨rfl, rfl, (roC (Or.inr (mem_at 1 rfl)) (roC (Or.inr (mem_at 4 rfl)) (fun q hq => Or.inr (List.mem_append_right _ hq)))), rfl, rfl, by decide⟩ ⟨rfl, rfl⟩ rfl hl.1 rfl (Nat.le_of_ble_eq_true rfl) dX10_sign_28 (fun H locs Z => ?_)
    obtain ⟨hin9, signatures_10, hv11, h⟩ := st_b h
    refine x_iast X Z 0 (RW_X10_sign cy o q_p1 d d_p1 PT signatures_10) rfl hin9 hv11 rfl dX10_sign_31 (fun H locs Z => ?_)
    refine lv_iinc (v := (x2 + (1 : Int32))) (lv' := [(2, .int (x2 + (1 : Int32))), (0, .ref o), (1, .ref q_p1)]) hx hb dX10_sign_32 hl (k := 2) rfl rfl (by decide) rfl (fun ls hl => ?_)
    refine lv_goto (tgt := 2) hx hb dX10_sign_35 (by decide) ?_
    obtain rfl := Option.some.inj h
    exact sk_l K H locs ls Z (lv_sub hl [1, 2, 0] rfl)
set_option maxHeartbeats 4000000 in
set_option maxRecDepth 100000 in
theorem wl_X10_sign_2 {p : Program} {l : Launch} {e : Env} {s : State} {m : MethodId} {args : Array Value} {below : List Frame} {meth : Method} {c : Code} {A : Nat → Prop} {Q : State → Prop} {D : va_G} {cy : Nat → ClassId} (o : Nat) (q_p1 : Nat) (d : Nat → Nat) (d_p1 : Nat → Nat) (PT : va_W) (tq : Nat → Option TV) (count_ : Int32) (pairFirst_ : Int32) (pairSecond_ : Int32) (p1_count_ : Int32) (low_ : Nat → Int64) (high_ : Nat → Int64) (p1_members_ : Nat → Option Nat)  (n : Nat) (v : (Nat → Int32) × Int32) (x : (Nat → Int32)) (hT : TP cy PT tq) (X : Cx p m c cX10_sign 3 s args wsX10_sign RX10 A D cy (RO_X10_sign cy o q_p1 d d_p1 PT count_ pairFirst_ pairSecond_ p1_count_ low_ high_ p1_members_)) (h : loopN (fun v => b_X10_sign_2 tq count_ p1_count_ low_ high_ p1_members_ v.1 v.2) n v = some x) (K : ∀ (H : Heap) (locs : List Loc) (ls : Array Slot), St A D s (RW_X10_sign cy o q_p1 d d_p1 PT x) H locs → lv_has ls 3 [] → W p l e rm_X10_sign s m args below meth c H locs 0 0 Q (F0 m 38 ls [])) : ∀ (H : Heap) (locs : List Loc) (ls : Array Slot), St A D s (RW_X10_sign cy o q_p1 d d_p1 PT v.1) H locs → lv_has ls 3 [(0, .ref o), (1, .ref q_p1), (2, .int v.2)] → W p l e rm_X10_sign s m args below meth c H locs 0 0 Q (F0 m 2 ls []) :=
  loop_gen (B := (fun v => b_X10_sign_2 tq count_ p1_count_ low_ high_ p1_members_ v.1 v.2)) (Head := fun v : (Nat → Int32) × Int32 => ∀ (H : Heap) (locs : List Loc) (ls : Array Slot), St A D s (RW_X10_sign cy o q_p1 d d_p1 PT v.1) H locs → lv_has ls 3 [(0, .ref o), (1, .ref q_p1), (2, .int v.2)] → W p l e rm_X10_sign s m args below meth c H locs 0 0 Q (F0 m 2 ls [])) (Exit := fun v : (Nat → Int32) => ∀ (H : Heap) (locs : List Loc) (ls : Array Slot), St A D s (RW_X10_sign cy o q_p1 d d_p1 PT v) H locs → lv_has ls 3 [] → W p l e rm_X10_sign s m args below meth c H locs 0 0 Q (F0 m 38 ls [])) (fun v o9 hb1 K1 => wb_X10_sign_2 o q_p1 d d_p1 PT tq count_ pairFirst_ pairSecond_ p1_count_ low_ high_ p1_members_ v.1 v.2 o9 hT X hb1 K1) n v x h K
def f_X10_sign (tq : Nat → Option TV) (count_ : Int32) (p1_count_ : Int32) (low_ : Nat → Int64) (high_ : Nat → Int64) (p1_members_ : Nat → Option Nat) (signatures_ : Nat → Int32) : Option ((Nat → Int32)) :=
  (loopN (fun v => b_X10_sign_2 tq count_ p1_count_ low_ high_ p1_members_ v.1 v.2) FU (signatures_, (0 : Int32))).bind (fun u12 =>
  some u12)
set_option maxHeartbeats 4000000 in
set_option maxRecDepth 100000 in
theorem wt_X10_sign {p : Program} {l : Launch} {e : Env} {s : State} {m : MethodId} {args : Array Value} {below : List Frame} {meth : Method} {c : Code} {A : Nat → Prop} {Q : State → Prop} {D : va_G} {cy : Nat → ClassId} (o : Nat) (q_p1 : Nat) (d : Nat → Nat) (d_p1 : Nat → Nat) (PT : va_W) (tq : Nat → Option TV) (count_ : Int32) (pairFirst_ : Int32) (pairSecond_ : Int32) (p1_count_ : Int32) (low_ : Nat → Int64) (high_ : Nat → Int64) (p1_members_ : Nat → Option Nat) (signatures_ : Nat → Int32) (out : (Nat → Int32)) (hT : TP cy PT tq) (X : Cx p m c cX10_sign 3 s args wsX10_sign RX10 A D cy (RO_X10_sign cy o q_p1 d d_p1 PT count_ pairFirst_ pairSecond_ p1_count_ low_ high_ p1_members_)) (h : f_X10_sign tq count_ p1_count_ low_ high_ p1_members_ signatures_ = some out) (K : ∀ (H : Heap) (locs : List Loc) (ls : Array Slot) (pc : Nat), decode cX10_sign pc = .ok (.return_, 1) → St A D s (RW_X10_sign cy o q_p1 d d_p1 PT out) H locs → W p l e rm_X10_sign s m args below meth c H locs 0 0 Q (F0 m pc ls [])) : ∀ (H : Heap) (locs : List Loc) (ls : Array Slot), St A D s (RW_X10_sign cy o q_p1 d d_p1 PT signatures_) H locs → lv_has ls 3 [(0, .ref o), (1, .ref q_p1)] → W p l e rm_X10_sign s m args below meth c H locs 0 0 Q (F0 m 0 ls []) := by
  intro H locs ls Z hl
  have hx := X.1.1
  have hb := X.1.2.1
  unfold f_X10_sign at h
  refine lv_iconst (v := (0 : Int32)) hx hb dX10_sign_0 (by decide) ?_
  refine lv_istore_n (lv' := [(2, .int (0 : Int32)), (0, .ref o), (1, .ref q_p1)]) hx hb dX10_sign_1 rfl hl (by decide) rfl (fun ls hl => ?_)
  obtain ⟨u12, hL13, h⟩ := ob_some h
  refine wl_X10_sign_2 o q_p1 d d_p1 PT tq count_ pairFirst_ pairSecond_ p1_count_ low_ high_ p1_members_ FU (signatures_, (0 : Int32)) u12 hT X hL13 (fun H locs ls Z hl => ?_) H locs ls Z (lv_sub hl [1, 2, 0] rfl)
  obtain rfl := Option.some.inj h
  exact K H locs ls _ dX10_sign_38 Z
theorem c_X10_sign (l : Launch) (D : va_G) (cy : Nat → ClassId) (o : Nat) (q_p1 : Nat) (d : Nat → Nat) (d_p1 : Nat → Nat) (PT : va_W) (tq : Nat → Option TV) (count_ : Int32) (pairFirst_ : Int32) (pairSecond_ : Int32) (p1_count_ : Int32) (low_ : Nat → Int64) (high_ : Nat → Int64) (p1_members_ : Nat → Option Nat) (signatures_ : Nat → Int32) (out : (Nat → Int32)) (hT : TP cy PT tq) (h : f_X10_sign tq count_ p1_count_ low_ high_ p1_members_ signatures_ = some out) : CtV l yX10_sign wsX10_sign rm_X10_sign D cy [.ref o, .ref q_p1] (RW_X10_sign cy o q_p1 d d_p1 PT signatures_) (RO_X10_sign cy o q_p1 d d_p1 PT count_ pairFirst_ pairSecond_ p1_count_ low_ high_ p1_members_) (RW_X10_sign cy o q_p1 d d_p1 PT out) :=
  mk_v (by decide) rfl (Nat.le_of_ble_eq_true rfl) (fun p e s m args below meth c A Q X K H locs ls Z hl => wt_X10_sign o q_p1 d d_p1 PT tq count_ pairFirst_ pairSecond_ p1_count_ low_ high_ p1_members_ signatures_ out hT X h K H locs ls Z hl)
/-! SubwordCounter$WordList start ()V -/
abbrev rm_X10_start : Room := { frames := 0, cells := 0, slots := 0, locals := 0 }
def RW_X10_start (cy : Nat → ClassId) (o : Nat) (d : Nat → Nat) (count_ : Int32) (pairFirst_ : Int32) (pairSecond_ : Int32) (low_ : Nat → Int64) (high_ : Nat → Int64) : va_W := [(o, ob 9 (oX10 d count_ pairFirst_ pairSecond_)), ((d 0), aJ cy 2187 low_), ((d 1), aJ cy 2187 high_)]
def RO_X10_start (cy : Nat → ClassId) (o : Nat) (d : Nat → Nat)  : va_W := []
theorem in_X10_start_X10 : ∀ w ∈ u_ws RX10 TX10 7, w ∈ wsX10_start := fun w h => (List.mem_cons_of_mem _ (List.mem_append_right _ h))
theorem lk_X10_start_X10_low : Lk wsX10_start RX10 9 9 0 := ⟨RX10, TX10, 7, rfl, by decide, in_X10_start_X10, mem_at 1 rfl⟩
theorem lk_X10_start_X10_high : Lk wsX10_start RX10 13 9 1 := ⟨RX10, TX10, 7, rfl, by decide, in_X10_start_X10, mem_at 2 rfl⟩
theorem lp_X10_start_X10_count : Lp wsX10_start RX10 23 9 4 .int := ⟨RX10, TX10, 7, tyX10, rfl, by decide, in_X10_start_X10, mem_at 3 rfl, tyX10_ok, nmX10, rfl, by decide +kernel⟩
def f_X10_start (count_ : Int32) (low_ : Nat → Int64) (high_ : Nat → Int64) : Option (Int32 × (Nat → Int64) × (Nat → Int64)) :=
  stA low_ 2187 (0 : Int32) (0 : Int64) (fun low_2 =>
  stA high_ 2187 (0 : Int32) (0 : Int64) (fun high_5 =>
  some ((1 : Int32), low_2, high_5)))
set_option maxHeartbeats 4000000 in
set_option maxRecDepth 100000 in
theorem wt_X10_start {p : Program} {l : Launch} {e : Env} {s : State} {m : MethodId} {args : Array Value} {below : List Frame} {meth : Method} {c : Code} {A : Nat → Prop} {Q : State → Prop} {D : va_G} {cy : Nat → ClassId} (o : Nat) (d : Nat → Nat)  (count_ : Int32) (pairFirst_ : Int32) (pairSecond_ : Int32) (low_ : Nat → Int64) (high_ : Nat → Int64) (out : Int32 × (Nat → Int64) × (Nat → Int64)) (X : Cx p m c cX10_start 1 s args wsX10_start RX10 A D cy (RO_X10_start cy o d)) (h : f_X10_start count_ low_ high_ = some out) (K : ∀ (H : Heap) (locs : List Loc) (ls : Array Slot) (pc : Nat), decode cX10_start pc = .ok (.return_, 1) → St A D s (RW_X10_start cy o d out.1 pairFirst_ pairSecond_ out.2.1 out.2.2) H locs → W p l e rm_X10_start s m args below meth c H locs 0 0 Q (F0 m pc ls [])) : ∀ (H : Heap) (locs : List Loc) (ls : Array Slot), St A D s (RW_X10_start cy o d count_ pairFirst_ pairSecond_ low_ high_) H locs → lv_has ls 1 [(0, .ref o)] → W p l e rm_X10_start s m args below meth c H locs 0 0 Q (F0 m 0 ls []) := by
  intro H locs ls Z hl
  have hx := X.1.1
  have hb := X.1.2.1
  unfold f_X10_start at h
  refine lv_aload_n hx hb dX10_start_0 rfl (lv_at hl 0 rfl) ?_
  refine x_get X Z 0 0 (v := .ref (d 0)) rfl rfl lk_X10_start_X10_low dX10_start_1 ?_
  refine lv_iconst (v := (0 : Int32)) hx hb dX10_start_4 (by decide) ?_
  refine lv_lconst (v := (0 : Int64)) hx hb dX10_start_5 (by decide) ?_
  obtain ⟨hin1, low_2, hv3, h⟩ := st_b h
  refine x_last X Z 1 (RW_X10_start cy o d count_ pairFirst_ pairSecond_ low_2 high_) rfl hin1 hv3 rfl dX10_start_6 (fun H locs Z => ?_)
  refine lv_aload_n hx hb dX10_start_7 rfl (lv_at hl 0 rfl) ?_
  refine x_get X Z 0 1 (v := .ref (d 1)) rfl rfl lk_X10_start_X10_high dX10_start_8 ?_
  refine lv_iconst (v := (0 : Int32)) hx hb dX10_start_11 (by decide) ?_
  refine lv_lconst (v := (0 : Int64)) hx hb dX10_start_12 (by decide) ?_
  obtain ⟨hin4, high_5, hv6, h⟩ := st_b h
  refine x_last X Z 2 (RW_X10_start cy o d count_ pairFirst_ pairSecond_ low_2 high_5) rfl hin4 hv6 rfl dX10_start_13 (fun H locs Z => ?_)
  refine lv_aload_n hx hb dX10_start_14 rfl (lv_at hl 0 rfl) ?_
  refine lv_iconst (v := (1 : Int32)) hx hb dX10_start_15 (by decide) ?_
  refine x_put X Z 0 4 (RW_X10_start cy o d (1 : Int32) pairFirst_ pairSecond_ low_2 high_5) rfl lp_X10_start_X10_count (Nat.le_of_ble_eq_true rfl) rfl dX10_start_16 (fun H locs Z => ?_)
  obtain rfl := Option.some.inj h
  exact K H locs ls _ dX10_start_19 Z
theorem c_X10_start (l : Launch) (D : va_G) (cy : Nat → ClassId) (o : Nat) (d : Nat → Nat)  (count_ : Int32) (pairFirst_ : Int32) (pairSecond_ : Int32) (low_ : Nat → Int64) (high_ : Nat → Int64) (out : Int32 × (Nat → Int64) × (Nat → Int64)) (h : f_X10_start count_ low_ high_ = some out) : CtV l yX10_start wsX10_start rm_X10_start D cy [.ref o] (RW_X10_start cy o d count_ pairFirst_ pairSecond_ low_ high_) (RO_X10_start cy o d) (RW_X10_start cy o d out.1 pairFirst_ pairSecond_ out.2.1 out.2.2) :=
  mk_v (by decide) rfl (Nat.le_of_ble_eq_true rfl) (fun p e s m args below meth c A Q X K H locs ls Z hl => wt_X10_start o d count_ pairFirst_ pairSecond_ low_ high_ out X h K H locs ls Z hl)
/-! SubwordCounter$WordList list (LSubwordCounter$Bundle;II)V -/
abbrev rm_X10_list : Room := { frames := 5, cells := 0, slots := 0, locals := 126 }
def RW_X10_list (cy : Nat → ClassId) (o : Nat) (q_p1 : Nat) (d : Nat → Nat) (d_p1 : Nat → Nat) (PT : va_W) (count_ : Int32) (pairFirst_ : Int32) (pairSecond_ : Int32) (low_ : Nat → Int64) (high_ : Nat → Int64) (signatures_ : Nat → Int32) : va_W := [(o, ob 9 (oX10 d count_ pairFirst_ pairSecond_)), ((d 0), aJ cy 2187 low_), ((d 1), aJ cy 2187 high_), ((d 2), aI cy 2187 signatures_)]
def RO_X10_list (cy : Nat → ClassId) (o : Nat) (q_p1 : Nat) (d : Nat → Nat) (d_p1 : Nat → Nat) (PT : va_W) (p1_count_ : Int32) (p1_members_ : Nat → Option Nat) : va_W := [(q_p1, ob 1 (oX1 d_p1 p1_count_)), ((d_p1 0), aR cy 4 8 p1_members_)] ++ PT
def b_X10_list_7 (tq : Nat → Option TV) (p1_count_ : Int32) (p1_members_ : Nat → Option Nat) (x2 : Int32) (x3 : Int32) (count_ : Int32) (low_ : Nat → Int64) (high_ : Nat → Int64) (x4 : Int32) : Option ((Int32 × (Nat → Int64) × (Nat → Int64) × Int32) ⊕ (Int32 × (Nat → Int64) × (Nat → Int64))) :=
  if x3 ≤ x4 then
  (some (.inr (count_, low_, high_)))
  else
  ((f_X10_lengthen x2 tq p1_count_ p1_members_ count_ low_ high_).bind (fun u1 =>
  some (.inl (u1.1, u1.2.1, u1.2.2, (x4 + (1 : Int32))))))
set_option maxHeartbeats 4000000 in
set_option maxRecDepth 100000 in
theorem wb_X10_list_7 {p : Program} {l : Launch} {e : Env} {s : State} {m : MethodId} {args : Array Value} {below : List Frame} {meth : Method} {c : Code} {A : Nat → Prop} {Q : State → Prop} {D : va_G} {cy : Nat → ClassId} (o : Nat) (q_p1 : Nat) (d : Nat → Nat) (d_p1 : Nat → Nat) (PT : va_W) (tq : Nat → Option TV) (p1_count_ : Int32) (p1_members_ : Nat → Option Nat) (pairFirst_ : Int32) (pairSecond_ : Int32) (signatures_ : Nat → Int32) (x2 : Int32) (x3 : Int32) (count_ : Int32) (low_ : Nat → Int64) (high_ : Nat → Int64) (x4 : Int32) (o1 : (Int32 × (Nat → Int64) × (Nat → Int64) × Int32) ⊕ (Int32 × (Nat → Int64) × (Nat → Int64))) (hT : TP cy PT tq) (X : Cx p m c cX10_list 5 s args wsX10_list RX10 A D cy (RO_X10_list cy o q_p1 d d_p1 PT p1_count_ p1_members_)) (h : b_X10_list_7 tq p1_count_ p1_members_ x2 x3 count_ low_ high_ x4 = some o1) (K : Sum.elim (fun v : Int32 × (Nat → Int64) × (Nat → Int64) × Int32 => ∀ (H : Heap) (locs : List Loc) (ls : Array Slot), St A D s (RW_X10_list cy o q_p1 d d_p1 PT v.1 pairFirst_ pairSecond_ v.2.1 v.2.2.1 signatures_) H locs → lv_has ls 5 [(0, .ref o), (1, .ref q_p1), (2, .int x2), (3, .int x3), (4, .int v.2.2.2)] → W p l e rm_X10_list s m args below meth c H locs 0 0 Q (F0 m 7 ls [])) (fun v : Int32 × (Nat → Int64) × (Nat → Int64) => ∀ (H : Heap) (locs : List Loc) (ls : Array Slot), St A D s (RW_X10_list cy o q_p1 d d_p1 PT v.1 pairFirst_ pairSecond_ v.2.1 v.2.2 signatures_) H locs → lv_has ls 5 [(0, .ref o), (1, .ref q_p1)] → W p l e rm_X10_list s m args below meth c H locs 0 0 Q (F0 m 25 ls [])) o1) : ∀ (H : Heap) (locs : List Loc) (ls : Array Slot), St A D s (RW_X10_list cy o q_p1 d d_p1 PT count_ pairFirst_ pairSecond_ low_ high_ signatures_) H locs → lv_has ls 5 [(0, .ref o), (1, .ref q_p1), (2, .int x2), (3, .int x3), (4, .int x4)] → W p l e rm_X10_list s m args below meth c H locs 0 0 Q (F0 m 7 ls []) := by
  intro H locs ls Z hl
  have hx := X.1.1
  have hb := X.1.2.1
  unfold b_X10_list_7 at h
  refine lv_iload hx hb dX10_list_7 (lv_at hl 4 rfl) ?_
  refine lv_iload_n hx hb dX10_list_9 rfl (lv_at hl 3 rfl) ?_
  refine lv_icmp_ge (tgt := 25) hx hb dX10_list_10 (by decide) (fun cnd => ?_) (fun cnd => ?_)
  · replace h := ifp h cnd
    obtain rfl := Option.some.inj h
    exact (sk_r K) H locs ls Z (lv_sub hl [0, 1] rfl)
  · replace h := ifn h cnd
    refine lv_aload_n hx hb dX10_list_13 rfl (lv_at hl 0 rfl) ?_
    refine lv_aload_n hx hb dX10_list_14 rfl (lv_at hl 1 rfl) ?_
    refine lv_iload_n hx hb dX10_list_15 rfl (lv_at hl 2 rfl) ?_
    obtain ⟨u1, hc2, h⟩ := ob_some h
    refine x_runVv (RW' := (RW_X10_list cy o q_p1 d d_p1 PT u1.1 pairFirst_ pairSecond_ u1.2.1 u1.2.2 signatures_)) (wr := [((d 2), aI cy 2187 signatures_)]) (isC := [0, 1, 2]) (isR := [3]) (isF := [1, 2, 3, 0]) (rest := []) (As := [.ref q_p1, .int x2]) (n := 2) X Z (c_X10_lengthen l D cy o q_p1 d d_p1 PT tq p1_count_ p1_members_ count_ pairFirst_ pairSecond_ low_ high_ x2 u1 hT hc2) gX10_list_X10_lengthen rfl (by decide +kernel) ⟨Nat.le_of_ble_eq_true rfl, Nat.le_of_ble_eq_true rfl⟩ ⟨rfl, rfl⟩ ⟨Nat.le_of_ble_eq_true rfl, Nat.le_of_ble_eq_true rfl⟩ (x_rv X Z 0 rfl rfl) ⟨rfl, rfl, (roC (Or.inr (mem_at 0 rfl)) (roC (Or.inr (mem_at 1 rfl)) (fun q hq => Or.inr (List.mem_append_right _ hq)))), rfl, rfl, by decide⟩ ⟨rfl, rfl⟩ rfl hl.1 rfl (Nat.le_of_ble_eq_true rfl) dX10_list_16 (fun H locs Z => ?_)
    refine lv_iinc (v := (x4 + (1 : Int32))) (lv' := [(4, .int (x4 + (1 : Int32))), (0, .ref o), (1, .ref q_p1), (2, .int x2), (3, .int x3)]) hx hb dX10_list_19 hl (k := 4) rfl rfl (by decide) rfl (fun ls hl => ?_)
    refine lv_goto (tgt := 7) hx hb dX10_list_22 (by decide) ?_
    obtain rfl := Option.some.inj h
    exact sk_l K H locs ls Z (lv_sub hl [1, 2, 3, 4, 0] rfl)
set_option maxHeartbeats 4000000 in
set_option maxRecDepth 100000 in
theorem wl_X10_list_7 {p : Program} {l : Launch} {e : Env} {s : State} {m : MethodId} {args : Array Value} {below : List Frame} {meth : Method} {c : Code} {A : Nat → Prop} {Q : State → Prop} {D : va_G} {cy : Nat → ClassId} (o : Nat) (q_p1 : Nat) (d : Nat → Nat) (d_p1 : Nat → Nat) (PT : va_W) (tq : Nat → Option TV) (p1_count_ : Int32) (p1_members_ : Nat → Option Nat) (pairFirst_ : Int32) (pairSecond_ : Int32) (signatures_ : Nat → Int32) (x2 : Int32) (x3 : Int32) (n : Nat) (v : Int32 × (Nat → Int64) × (Nat → Int64) × Int32) (x : Int32 × (Nat → Int64) × (Nat → Int64)) (hT : TP cy PT tq) (X : Cx p m c cX10_list 5 s args wsX10_list RX10 A D cy (RO_X10_list cy o q_p1 d d_p1 PT p1_count_ p1_members_)) (h : loopN (fun v => b_X10_list_7 tq p1_count_ p1_members_ x2 x3 v.1 v.2.1 v.2.2.1 v.2.2.2) n v = some x) (K : ∀ (H : Heap) (locs : List Loc) (ls : Array Slot), St A D s (RW_X10_list cy o q_p1 d d_p1 PT x.1 pairFirst_ pairSecond_ x.2.1 x.2.2 signatures_) H locs → lv_has ls 5 [(0, .ref o), (1, .ref q_p1)] → W p l e rm_X10_list s m args below meth c H locs 0 0 Q (F0 m 25 ls [])) : ∀ (H : Heap) (locs : List Loc) (ls : Array Slot), St A D s (RW_X10_list cy o q_p1 d d_p1 PT v.1 pairFirst_ pairSecond_ v.2.1 v.2.2.1 signatures_) H locs → lv_has ls 5 [(0, .ref o), (1, .ref q_p1), (2, .int x2), (3, .int x3), (4, .int v.2.2.2)] → W p l e rm_X10_list s m args below meth c H locs 0 0 Q (F0 m 7 ls []) :=
  loop_gen (B := (fun v => b_X10_list_7 tq p1_count_ p1_members_ x2 x3 v.1 v.2.1 v.2.2.1 v.2.2.2)) (Head := fun v : Int32 × (Nat → Int64) × (Nat → Int64) × Int32 => ∀ (H : Heap) (locs : List Loc) (ls : Array Slot), St A D s (RW_X10_list cy o q_p1 d d_p1 PT v.1 pairFirst_ pairSecond_ v.2.1 v.2.2.1 signatures_) H locs → lv_has ls 5 [(0, .ref o), (1, .ref q_p1), (2, .int x2), (3, .int x3), (4, .int v.2.2.2)] → W p l e rm_X10_list s m args below meth c H locs 0 0 Q (F0 m 7 ls [])) (Exit := fun v : Int32 × (Nat → Int64) × (Nat → Int64) => ∀ (H : Heap) (locs : List Loc) (ls : Array Slot), St A D s (RW_X10_list cy o q_p1 d d_p1 PT v.1 pairFirst_ pairSecond_ v.2.1 v.2.2 signatures_) H locs → lv_has ls 5 [(0, .ref o), (1, .ref q_p1)] → W p l e rm_X10_list s m args below meth c H locs 0 0 Q (F0 m 25 ls [])) (fun v o9 hb1 K1 => wb_X10_list_7 o q_p1 d d_p1 PT tq p1_count_ p1_members_ pairFirst_ pairSecond_ signatures_ x2 x3 v.1 v.2.1 v.2.2.1 v.2.2.2 o9 hT X hb1 K1) n v x h K
def f_X10_list (x2 : Int32) (x3 : Int32) (tq : Nat → Option TV) (p1_count_ : Int32) (p1_members_ : Nat → Option Nat) (count_ : Int32) (low_ : Nat → Int64) (high_ : Nat → Int64) (signatures_ : Nat → Int32) : Option (Int32 × (Nat → Int64) × (Nat → Int64) × (Nat → Int32)) :=
  (f_X10_start count_ low_ high_).bind (fun u3 =>
  (loopN (fun v => b_X10_list_7 tq p1_count_ p1_members_ x2 x3 v.1 v.2.1 v.2.2.1 v.2.2.2) FU (u3.1, u3.2.1, u3.2.2, (0 : Int32))).bind (fun u5 =>
  (f_X10_sign tq u5.1 p1_count_ u5.2.1 u5.2.2 p1_members_ signatures_).bind (fun u7 =>
  some (u5.1, u5.2.1, u5.2.2, u7))))
set_option maxHeartbeats 4000000 in
set_option maxRecDepth 100000 in
theorem wt_X10_list {p : Program} {l : Launch} {e : Env} {s : State} {m : MethodId} {args : Array Value} {below : List Frame} {meth : Method} {c : Code} {A : Nat → Prop} {Q : State → Prop} {D : va_G} {cy : Nat → ClassId} (o : Nat) (q_p1 : Nat) (d : Nat → Nat) (d_p1 : Nat → Nat) (PT : va_W) (tq : Nat → Option TV) (p1_count_ : Int32) (p1_members_ : Nat → Option Nat) (count_ : Int32) (pairFirst_ : Int32) (pairSecond_ : Int32) (low_ : Nat → Int64) (high_ : Nat → Int64) (signatures_ : Nat → Int32) (x2 : Int32) (x3 : Int32) (out : Int32 × (Nat → Int64) × (Nat → Int64) × (Nat → Int32)) (hT : TP cy PT tq) (X : Cx p m c cX10_list 5 s args wsX10_list RX10 A D cy (RO_X10_list cy o q_p1 d d_p1 PT p1_count_ p1_members_)) (h : f_X10_list x2 x3 tq p1_count_ p1_members_ count_ low_ high_ signatures_ = some out) (K : ∀ (H : Heap) (locs : List Loc) (ls : Array Slot) (pc : Nat), decode cX10_list pc = .ok (.return_, 1) → St A D s (RW_X10_list cy o q_p1 d d_p1 PT out.1 pairFirst_ pairSecond_ out.2.1 out.2.2.1 out.2.2.2) H locs → W p l e rm_X10_list s m args below meth c H locs 0 0 Q (F0 m pc ls [])) : ∀ (H : Heap) (locs : List Loc) (ls : Array Slot), St A D s (RW_X10_list cy o q_p1 d d_p1 PT count_ pairFirst_ pairSecond_ low_ high_ signatures_) H locs → lv_has ls 5 [(0, .ref o), (1, .ref q_p1), (2, .int x2), (3, .int x3)] → W p l e rm_X10_list s m args below meth c H locs 0 0 Q (F0 m 0 ls []) := by
  intro H locs ls Z hl
  have hx := X.1.1
  have hb := X.1.2.1
  unfold f_X10_list at h
  refine lv_aload_n hx hb dX10_list_0 rfl (lv_at hl 0 rfl) ?_
  obtain ⟨u3, hc4, h⟩ := ob_some h
  refine x_runVv (RW' := (RW_X10_list cy o q_p1 d d_p1 PT u3.1 pairFirst_ pairSecond_ u3.2.1 u3.2.2 signatures_)) (wr := [((d 2), aI cy 2187 signatures_)]) (isC := [0, 1, 2]) (isR := [3]) (isF := [1, 2, 3, 0]) (rest := []) (As := []) (n := 0) X Z (c_X10_start l D cy o d count_ pairFirst_ pairSecond_ low_ high_ u3 hc4) gX10_list_X10_start rfl (by decide +kernel) ⟨Nat.le_of_ble_eq_true rfl, Nat.le_of_ble_eq_true rfl⟩ ⟨rfl, rfl⟩ ⟨Nat.le_of_ble_eq_true rfl, Nat.le_of_ble_eq_true rfl⟩ (x_rv X Z 0 rfl rfl) ⟨rfl, rfl, roN, rfl, rfl, by decide⟩ ⟨rfl, rfl⟩ rfl hl.1 rfl (Nat.le_of_ble_eq_true rfl) dX10_list_1 (fun H locs Z => ?_)
  refine lv_iconst (v := (0 : Int32)) hx hb dX10_list_4 (by decide) ?_
  refine lv_istore (lv' := [(4, .int (0 : Int32)), (0, .ref o), (1, .ref q_p1), (2, .int x2), (3, .int x3)]) hx hb dX10_list_5 hl (by decide) rfl (fun ls hl => ?_)
  obtain ⟨u5, hL6, h⟩ := ob_some h
  refine wl_X10_list_7 o q_p1 d d_p1 PT tq p1_count_ p1_members_ pairFirst_ pairSecond_ signatures_ x2 x3 FU (u3.1, u3.2.1, u3.2.2, (0 : Int32)) u5 hT X hL6 (fun H locs ls Z hl => ?_) H locs ls Z (lv_sub hl [1, 2, 3, 4, 0] rfl)
  refine lv_aload_n hx hb dX10_list_25 rfl (lv_at hl 0 rfl) ?_
  refine lv_aload_n hx hb dX10_list_26 rfl (lv_at hl 1 rfl) ?_
  obtain ⟨u7, hc8, h⟩ := ob_some h
  refine x_runVv (RW' := (RW_X10_list cy o q_p1 d d_p1 PT u5.1 pairFirst_ pairSecond_ u5.2.1 u5.2.2 u7)) (wr := [(o, ob 9 (oX10 d u5.1 pairFirst_ pairSecond_)), ((d 0), aJ cy 2187 u5.2.1), ((d 1), aJ cy 2187 u5.2.2)]) (isC := [3]) (isR := [0, 1, 2]) (isF := [0, 1, 2, 3]) (rest := []) (As := [.ref q_p1]) (n := 1) X Z (c_X10_sign l D cy o q_p1 d d_p1 PT tq u5.1 pairFirst_ pairSecond_ p1_count_ u5.2.1 u5.2.2 p1_members_ signatures_ u7 hT hc8) gX10_list_X10_sign rfl (by decide +kernel) ⟨Nat.le_of_ble_eq_true rfl, Nat.le_of_ble_eq_true rfl⟩ ⟨rfl, rfl⟩ ⟨Nat.le_of_ble_eq_true rfl, Nat.le_of_ble_eq_true rfl⟩ (x_rv X Z 0 rfl rfl) ⟨rfl, rfl, (roC (Or.inl (mem_at 0 rfl)) (roC (Or.inr (mem_at 0 rfl)) (roC (Or.inl (mem_at 1 rfl)) (roC (Or.inl (mem_at 2 rfl)) (roC (Or.inr (mem_at 1 rfl)) (fun q hq => Or.inr (List.mem_append_right _ hq))))))), rfl, rfl, by decide⟩ ⟨rfl, rfl⟩ rfl hl.1 rfl (Nat.le_of_ble_eq_true rfl) dX10_list_27 (fun H locs Z => ?_)
  obtain rfl := Option.some.inj h
  exact K H locs ls _ dX10_list_30 Z
theorem c_X10_list (l : Launch) (D : va_G) (cy : Nat → ClassId) (o : Nat) (q_p1 : Nat) (d : Nat → Nat) (d_p1 : Nat → Nat) (PT : va_W) (tq : Nat → Option TV) (p1_count_ : Int32) (p1_members_ : Nat → Option Nat) (count_ : Int32) (pairFirst_ : Int32) (pairSecond_ : Int32) (low_ : Nat → Int64) (high_ : Nat → Int64) (signatures_ : Nat → Int32) (x2 : Int32) (x3 : Int32) (out : Int32 × (Nat → Int64) × (Nat → Int64) × (Nat → Int32)) (hT : TP cy PT tq) (h : f_X10_list x2 x3 tq p1_count_ p1_members_ count_ low_ high_ signatures_ = some out) : CtV l yX10_list wsX10_list rm_X10_list D cy [.ref o, .ref q_p1, .int x2, .int x3] (RW_X10_list cy o q_p1 d d_p1 PT count_ pairFirst_ pairSecond_ low_ high_ signatures_) (RO_X10_list cy o q_p1 d d_p1 PT p1_count_ p1_members_) (RW_X10_list cy o q_p1 d d_p1 PT out.1 pairFirst_ pairSecond_ out.2.1 out.2.2.1 out.2.2.2) :=
  mk_v (by decide) rfl (Nat.le_of_ble_eq_true rfl) (fun p e s m args below meth c A Q X K H locs ls Z hl => wt_X10_list o q_p1 d d_p1 PT tq p1_count_ p1_members_ count_ pairFirst_ pairSecond_ low_ high_ signatures_ x2 x3 out hT X h K H locs ls Z hl)
/-! SubwordCounter classes (I)I -/
abbrev rm_X11_classes : Room := { frames := 6, cells := 0, slots := 0, locals := 150 }
def RW_X11_classes (cy : Nat → ClassId) (o : Nat) (d : Nat → Nat) (d_now : Nat → Nat) (d_listing : Nat → Nat) (d_now_tests : Nat → Nat) (mono : Value) (PT : va_W) (listing_count_ : Int32) (listing_pairFirst_ : Int32) (listing_pairSecond_ : Int32) (listing_low_ : Nat → Int64) (listing_high_ : Nat → Int64) (listing_signatures_ : Nat → Int32) (listing_slots_ : Nat → Int32) : va_W := [((d 7), ob 9 (oX10 d_listing listing_count_ listing_pairFirst_ listing_pairSecond_)), ((d_listing 0), aJ cy 2187 listing_low_), ((d_listing 1), aJ cy 2187 listing_high_), ((d_listing 2), aI cy 2187 listing_signatures_), ((d_listing 3), aI cy 4096 listing_slots_)]
def RO_X11_classes (cy : Nat → ClassId) (o : Nat) (d : Nat → Nat) (d_now : Nat → Nat) (d_listing : Nat → Nat) (d_now_tests : Nat → Nat) (mono : Value) (PT : va_W) (snapshotTaken_ : Int32) (inputLength_ : Int32) (now_letters_ : Int32) (now_tests_count_ : Int32) (now_tests_members_ : Nat → Option Nat) : va_W := [(o, ob 10 (oX11 d mono snapshotTaken_ inputLength_)), ((d 0), ob 5 (oX5 d_now now_letters_)), ((d_now 2), ob 1 (oX1 d_now_tests now_tests_count_)), ((d_now_tests 0), aR cy 4 8 now_tests_members_)] ++ PT
theorem in_X11_classes_X11 : ∀ w ∈ u_ws RX11 TX11 12, w ∈ wsX11_classes := fun w h => (List.mem_cons_of_mem _ (List.mem_append_left _ (List.mem_append_left _ (List.mem_append_left _ (List.mem_append_left _ (List.mem_append_right _ h))))))
theorem lk_X11_classes_X11_listing : Lk wsX11_classes RX11 47 10 7 := ⟨RX11, TX11, 12, rfl, by decide, in_X11_classes_X11, mem_at 1 rfl⟩
theorem lk_X11_classes_X11_now : Lk wsX11_classes RX11 10 10 0 := ⟨RX11, TX11, 12, rfl, by decide, in_X11_classes_X11, mem_at 2 rfl⟩
theorem in_X11_classes_X5 : ∀ w ∈ u_ws RX5 TX5 4, w ∈ wsX11_classes := fun w h => (List.mem_cons_of_mem _ (List.mem_append_left _ (List.mem_append_left _ (List.mem_append_left _ (List.mem_append_right _ h)))))
theorem lk_X11_classes_X5_tests : Lk wsX11_classes RX11 127 5 2 := ⟨RX5, TX5, 4, rfl, by decide, in_X11_classes_X5, mem_at 3 rfl⟩
theorem lk_X11_classes_X5_letters : Lk wsX11_classes RX11 74 5 0 := ⟨RX5, TX5, 4, rfl, by decide, in_X11_classes_X5, mem_at 4 rfl⟩
def f_X11_classes (x1 : Int32) (tq : Nat → Option TV) (now_letters_ : Int32) (now_tests_count_ : Int32) (now_tests_members_ : Nat → Option Nat) (listing_count_ : Int32) (listing_low_ : Nat → Int64) (listing_high_ : Nat → Int64) (listing_signatures_ : Nat → Int32) (listing_slots_ : Nat → Int32) : Option (Int32 × Int32 × (Nat → Int64) × (Nat → Int64) × (Nat → Int32) × (Nat → Int32)) :=
  if x1 < 0 then
  (some ((-1 : Int32), listing_count_, listing_low_, listing_high_, listing_signatures_, listing_slots_))
  else
  (if x1 ≤ (7 : Int32) then
  ((f_X10_list now_letters_ x1 tq now_tests_count_ now_tests_members_ listing_count_ listing_low_ listing_high_ listing_signatures_).bind (fun u1 =>
  (f_X10_distinctSignatures u1.1 u1.2.2.2 listing_slots_).bind (fun u3 =>
  some (u3.1, u1.1, u1.2.1, u1.2.2.1, u1.2.2.2, u3.2))))
  else
  (some ((-1 : Int32), listing_count_, listing_low_, listing_high_, listing_signatures_, listing_slots_)))
set_option maxHeartbeats 4000000 in
set_option maxRecDepth 100000 in
theorem wt_X11_classes {p : Program} {l : Launch} {e : Env} {s : State} {m : MethodId} {args : Array Value} {below : List Frame} {meth : Method} {c : Code} {A : Nat → Prop} {Q : State → Prop} {D : va_G} {cy : Nat → ClassId} (o : Nat) (d : Nat → Nat) (d_now : Nat → Nat) (d_listing : Nat → Nat) (d_now_tests : Nat → Nat) (mono : Value) (PT : va_W) (tq : Nat → Option TV) (snapshotTaken_ : Int32) (inputLength_ : Int32) (now_letters_ : Int32) (now_tests_count_ : Int32) (now_tests_members_ : Nat → Option Nat) (listing_count_ : Int32) (listing_pairFirst_ : Int32) (listing_pairSecond_ : Int32) (listing_low_ : Nat → Int64) (listing_high_ : Nat → Int64) (listing_signatures_ : Nat → Int32) (listing_slots_ : Nat → Int32) (x1 : Int32) (out : Int32 × Int32 × (Nat → Int64) × (Nat → Int64) × (Nat → Int32) × (Nat → Int32)) (hT : TP cy PT tq) (X : Cx p m c cX11_classes 2 s args wsX11_classes RX11 A D cy (RO_X11_classes cy o d d_now d_listing d_now_tests mono PT snapshotTaken_ inputLength_ now_letters_ now_tests_count_ now_tests_members_)) (h : f_X11_classes x1 tq now_letters_ now_tests_count_ now_tests_members_ listing_count_ listing_low_ listing_high_ listing_signatures_ listing_slots_ = some out) (K : ∀ (H : Heap) (locs : List Loc) (ls : Array Slot) (pc : Nat), decode cX11_classes pc = .ok (.ireturn, 1) → St A D s (RW_X11_classes cy o d d_now d_listing d_now_tests mono PT out.2.1 listing_pairFirst_ listing_pairSecond_ out.2.2.1 out.2.2.2.1 out.2.2.2.2.1 out.2.2.2.2.2) H locs → W p l e rm_X11_classes s m args below meth c H locs 0 0 Q (F0 m pc ls [.int out.1])) : ∀ (H : Heap) (locs : List Loc) (ls : Array Slot), St A D s (RW_X11_classes cy o d d_now d_listing d_now_tests mono PT listing_count_ listing_pairFirst_ listing_pairSecond_ listing_low_ listing_high_ listing_signatures_ listing_slots_) H locs → lv_has ls 2 [(0, .ref o), (1, .int x1)] → W p l e rm_X11_classes s m args below meth c H locs 0 0 Q (F0 m 0 ls []) := by
  intro H locs ls Z hl
  have hx := X.1.1
  have hb := X.1.2.1
  unfold f_X11_classes at h
  refine lv_iload_n hx hb dX11_classes_0 rfl (lv_at hl 1 rfl) ?_
  refine lv_if_lt (tgt := 10) hx hb dX11_classes_1 (by decide) (fun cnd => ?_) (fun cnd => ?_)
  · replace h := ifp h cnd
    refine lv_iconst (v := (-1 : Int32)) hx hb dX11_classes_10 (by decide) ?_
    obtain rfl := Option.some.inj h
    exact K H locs ls _ dX11_classes_11 Z
  · replace h := ifn h cnd
    refine lv_iload_n hx hb dX11_classes_4 rfl (lv_at hl 1 rfl) ?_
    refine lv_bipush (v := (7 : Int32)) hx hb dX11_classes_5 (by decide) ?_
    refine lv_icmp_le (tgt := 12) hx hb dX11_classes_7 (by decide) (fun cnd => ?_) (fun cnd => ?_)
    · replace h := ifp h cnd
      refine lv_aload_n hx hb dX11_classes_12 rfl (lv_at hl 0 rfl) ?_
      refine x_getO X Z 0 7 (v := .ref (d 7)) rfl rfl lk_X11_classes_X11_listing dX11_classes_13 ?_
      refine lv_aload_n hx hb dX11_classes_16 rfl (lv_at hl 0 rfl) ?_
      refine x_getO X Z 0 0 (v := .ref (d 0)) rfl rfl lk_X11_classes_X11_now dX11_classes_17 ?_
      refine x_getO X Z 1 2 (v := .ref (d_now 2)) rfl rfl lk_X11_classes_X5_tests dX11_classes_20 ?_
      refine lv_aload_n hx hb dX11_classes_23 rfl (lv_at hl 0 rfl) ?_
      refine x_getO X Z 0 0 (v := .ref (d 0)) rfl rfl lk_X11_classes_X11_now dX11_classes_24 ?_
      refine x_getO X Z 1 0 (v := .int now_letters_) rfl rfl lk_X11_classes_X5_letters dX11_classes_27 ?_
      refine lv_iload_n hx hb dX11_classes_30 rfl (lv_at hl 1 rfl) ?_
      obtain ⟨u1, hc2, h⟩ := ob_some h
      refine x_runVv (RW' := (RW_X11_classes cy o d d_now d_listing d_now_tests mono PT u1.1 listing_pairFirst_ listing_pairSecond_ u1.2.1 u1.2.2.1 u1.2.2.2 listing_slots_)) (wr := [((d_listing 3), aI cy 4096 listing_slots_)]) (isC := [0, 1, 2, 3]) (isR := [4]) (isF := [1, 2, 3, 4, 0]) (rest := []) (As := [.ref (d_now 2), .int now_letters_, .int x1]) (n := 3) X Z (c_X10_list l D cy (d 7) (d_now 2) d_listing d_now_tests PT tq now_tests_count_ now_tests_members_ listing_count_ listing_pairFirst_ listing_pairSecond_ listing_low_ listing_high_ listing_signatures_ now_letters_ x1 u1 hT hc2) gX11_classes_X10_list rfl (by decide +kernel) ⟨Nat.le_of_ble_eq_true rfl, Nat.le_of_ble_eq_true rfl⟩ ⟨rfl, rfl⟩ ⟨Nat.le_of_ble_eq_true rfl, Nat.le_of_ble_eq_true rfl⟩ (x_rv X Z 0 rfl rfl) ⟨rfl, rfl, (roC (Or.inr (mem_at 2 rfl)) (roC (Or.inr (mem_at 3 rfl)) (fun q hq => Or.inr (List.mem_append_right _ hq)))), rfl, rfl, by decide⟩ ⟨rfl, rfl⟩ rfl hl.1 rfl (Nat.le_of_ble_eq_true rfl) dX11_classes_31 (fun H locs Z => ?_)
      refine lv_aload_n hx hb dX11_classes_34 rfl (lv_at hl 0 rfl) ?_
      refine x_getO X Z 0 7 (v := .ref (d 7)) rfl rfl lk_X11_classes_X11_listing dX11_classes_35 ?_
      obtain ⟨u3, hc4, h⟩ := ob_some h
      refine x_runVi (RW' := (RW_X11_classes cy o d d_now d_listing d_now_tests mono PT u1.1 listing_pairFirst_ listing_pairSecond_ u1.2.1 u1.2.2.1 u1.2.2.2 u3.2)) (wr := [((d 7), ob 9 (oX10 d_listing u1.1 listing_pairFirst_ listing_pairSecond_)), ((d_listing 0), aJ cy 2187 u1.2.1), ((d_listing 1), aJ cy 2187 u1.2.2.1), ((d_listing 2), aI cy 2187 u1.2.2.2)]) (isC := [4]) (isR := [0, 1, 2, 3]) (isF := [0, 1, 2, 3, 4]) (rest := []) (As := []) (n := 0) X Z (c_X10_distinctSignatures l D cy (d 7) d_listing u1.1 listing_pairFirst_ listing_pairSecond_ u1.2.2.2 listing_slots_ u3 hc4) gX11_classes_X10_distinctSignatures rfl (by decide +kernel) ⟨Nat.le_of_ble_eq_true rfl, Nat.le_of_ble_eq_true rfl⟩ ⟨rfl, rfl⟩ ⟨Nat.le_of_ble_eq_true rfl, Nat.le_of_ble_eq_true rfl⟩ (x_rv X Z 0 rfl rfl) ⟨rfl, rfl, (roC (Or.inl (mem_at 0 rfl)) (roC (Or.inl (mem_at 3 rfl)) roN)), rfl, rfl, by decide⟩ ⟨rfl, rfl⟩ rfl hl.1 rfl (Nat.le_of_ble_eq_true rfl) dX11_classes_38 (fun H locs Z => ?_)
      obtain rfl := Option.some.inj h
      exact K H locs ls _ dX11_classes_41 Z
    · replace h := ifn h cnd
      refine lv_iconst (v := (-1 : Int32)) hx hb dX11_classes_10 (by decide) ?_
      obtain rfl := Option.some.inj h
      exact K H locs ls _ dX11_classes_11 Z
theorem c_X11_classes (l : Launch) (D : va_G) (cy : Nat → ClassId) (o : Nat) (d : Nat → Nat) (d_now : Nat → Nat) (d_listing : Nat → Nat) (d_now_tests : Nat → Nat) (mono : Value) (PT : va_W) (tq : Nat → Option TV) (snapshotTaken_ : Int32) (inputLength_ : Int32) (now_letters_ : Int32) (now_tests_count_ : Int32) (now_tests_members_ : Nat → Option Nat) (listing_count_ : Int32) (listing_pairFirst_ : Int32) (listing_pairSecond_ : Int32) (listing_low_ : Nat → Int64) (listing_high_ : Nat → Int64) (listing_signatures_ : Nat → Int32) (listing_slots_ : Nat → Int32) (x1 : Int32) (out : Int32 × Int32 × (Nat → Int64) × (Nat → Int64) × (Nat → Int32) × (Nat → Int32)) (hT : TP cy PT tq) (h : f_X11_classes x1 tq now_letters_ now_tests_count_ now_tests_members_ listing_count_ listing_low_ listing_high_ listing_signatures_ listing_slots_ = some out) : CtI l yX11_classes wsX11_classes rm_X11_classes D cy [.ref o, .int x1] (RW_X11_classes cy o d d_now d_listing d_now_tests mono PT listing_count_ listing_pairFirst_ listing_pairSecond_ listing_low_ listing_high_ listing_signatures_ listing_slots_) (RO_X11_classes cy o d d_now d_listing d_now_tests mono PT snapshotTaken_ inputLength_ now_letters_ now_tests_count_ now_tests_members_) (RW_X11_classes cy o d d_now d_listing d_now_tests mono PT out.2.1 listing_pairFirst_ listing_pairSecond_ out.2.2.1 out.2.2.2.1 out.2.2.2.2.1 out.2.2.2.2.2) out.1 :=
  mk_i (ty := .int) (by decide) rfl rfl (Nat.le_of_ble_eq_true rfl) (fun p e s m args below meth c A Q X K H locs ls Z hl => wt_X11_classes o d d_now d_listing d_now_tests mono PT tq snapshotTaken_ inputLength_ now_letters_ now_tests_count_ now_tests_members_ listing_count_ listing_pairFirst_ listing_pairSecond_ listing_low_ listing_high_ listing_signatures_ listing_slots_ x1 out hT X h K H locs ls Z hl)
/-! SubwordCounter$WordList wordsWith (I)I -/
abbrev rm_X10_wordsWith : Room := { frames := 0, cells := 0, slots := 0, locals := 0 }
def RW_X10_wordsWith (cy : Nat → ClassId) (o : Nat) (d : Nat → Nat)  : va_W := []
def RO_X10_wordsWith (cy : Nat → ClassId) (o : Nat) (d : Nat → Nat) (count_ : Int32) (pairFirst_ : Int32) (pairSecond_ : Int32) (signatures_ : Nat → Int32) : va_W := [(o, ob 9 (oX10 d count_ pairFirst_ pairSecond_)), ((d 2), aI cy 2187 signatures_)]
theorem in_X10_wordsWith_X10 : ∀ w ∈ u_ws RX10 TX10 7, w ∈ wsX10_wordsWith := fun w h => (List.mem_cons_of_mem _ (List.mem_append_right _ h))
theorem lk_X10_wordsWith_X10_count : Lk wsX10_wordsWith RX10 23 9 4 := ⟨RX10, TX10, 7, rfl, by decide, in_X10_wordsWith_X10, mem_at 1 rfl⟩
theorem lk_X10_wordsWith_X10_signatures : Lk wsX10_wordsWith RX10 16 9 2 := ⟨RX10, TX10, 7, rfl, by decide, in_X10_wordsWith_X10, mem_at 2 rfl⟩
def b_X10_wordsWith_4 (count_ : Int32) (signatures_ : Nat → Int32) (x1 : Int32)  (x2 : Int32) (x3 : Int32) : Option ((Int32 × Int32) ⊕ (Int32)) :=
  if count_ ≤ x3 then
  (some (.inr x2))
  else
  (ldA signatures_ 2187 x3 (fun v2 =>
  if v2 = x1 then
  (some (.inl ((x2 + (1 : Int32)), (x3 + (1 : Int32)))))
  else
  (some (.inl (x2, (x3 + (1 : Int32)))))))
set_option maxHeartbeats 4000000 in
set_option maxRecDepth 100000 in
theorem wb_X10_wordsWith_4 {p : Program} {l : Launch} {e : Env} {s : State} {m : MethodId} {args : Array Value} {below : List Frame} {meth : Method} {c : Code} {A : Nat → Prop} {Q : State → Prop} {D : va_G} {cy : Nat → ClassId} (o : Nat) (d : Nat → Nat) (count_ : Int32) (pairFirst_ : Int32) (pairSecond_ : Int32) (signatures_ : Nat → Int32)  (x1 : Int32)  (x2 : Int32) (x3 : Int32) (o1 : (Int32 × Int32) ⊕ (Int32)) (X : Cx p m c cX10_wordsWith 4 s args wsX10_wordsWith RX10 A D cy (RO_X10_wordsWith cy o d count_ pairFirst_ pairSecond_ signatures_)) (h : b_X10_wordsWith_4 count_ signatures_ x1 x2 x3 = some o1) (K : Sum.elim (fun v : Int32 × Int32 => ∀ (H : Heap) (locs : List Loc) (ls : Array Slot), St A D s (RW_X10_wordsWith cy o d) H locs → lv_has ls 4 [(0, .ref o), (1, .int x1), (2, .int v.1), (3, .int v.2)] → W p l e rm_X10_wordsWith s m args below meth c H locs 0 0 Q (F0 m 4 ls [])) (fun v : Int32 => ∀ (H : Heap) (locs : List Loc) (ls : Array Slot), St A D s (RW_X10_wordsWith cy o d) H locs → lv_has ls 4 [(2, .int v)] → W p l e rm_X10_wordsWith s m args below meth c H locs 0 0 Q (F0 m 31 ls [])) o1) : ∀ (H : Heap) (locs : List Loc) (ls : Array Slot), St A D s (RW_X10_wordsWith cy o d) H locs → lv_has ls 4 [(0, .ref o), (1, .int x1), (2, .int x2), (3, .int x3)] → W p l e rm_X10_wordsWith s m args below meth c H locs 0 0 Q (F0 m 4 ls []) := by
  intro H locs ls Z hl
  have hx := X.1.1
  have hb := X.1.2.1
  unfold b_X10_wordsWith_4 at h
  refine lv_iload_n hx hb dX10_wordsWith_4 rfl (lv_at hl 3 rfl) ?_
  refine lv_aload_n hx hb dX10_wordsWith_5 rfl (lv_at hl 0 rfl) ?_
  refine x_getO X Z 0 4 (v := .int count_) rfl rfl lk_X10_wordsWith_X10_count dX10_wordsWith_6 ?_
  refine lv_icmp_ge (tgt := 31) hx hb dX10_wordsWith_9 (by decide) (fun cnd => ?_) (fun cnd => ?_)
  · replace h := ifp h cnd
    obtain rfl := Option.some.inj h
    exact (sk_r K) H locs ls Z (lv_sub hl [2] rfl)
  · replace h := ifn h cnd
    refine lv_aload_n hx hb dX10_wordsWith_12 rfl (lv_at hl 0 rfl) ?_
    refine x_getO X Z 0 2 (v := .ref (d 2)) rfl rfl lk_X10_wordsWith_X10_signatures dX10_wordsWith_13 ?_
    refine lv_iload_n hx hb dX10_wordsWith_16 rfl (lv_at hl 3 rfl) ?_
    obtain ⟨hin1, v2, hv3, h⟩ := ld_b h
    refine x_ialdO X Z 1 rfl hin1 hv3 dX10_wordsWith_17 ?_
    refine lv_iload_n hx hb dX10_wordsWith_18 rfl (lv_at hl 1 rfl) ?_
    refine lv_icmp_ne (tgt := 25) hx hb dX10_wordsWith_19 (by decide) (fun cnd => ?_) (fun cnd => ?_)
    · replace h := ifn h cnd
      refine lv_iinc (v := (x3 + (1 : Int32))) (lv' := [(3, .int (x3 + (1 : Int32))), (0, .ref o), (1, .int x1), (2, .int x2)]) hx hb dX10_wordsWith_25 hl (k := 3) rfl rfl (by decide) rfl (fun ls hl => ?_)
      refine lv_goto (tgt := 4) hx hb dX10_wordsWith_28 (by decide) ?_
      obtain rfl := Option.some.inj h
      exact sk_l K H locs ls Z (lv_sub hl [1, 2, 3, 0] rfl)
    · replace h := ifp h cnd
      refine lv_iinc (v := (x2 + (1 : Int32))) (lv' := [(2, .int (x2 + (1 : Int32))), (0, .ref o), (1, .int x1), (3, .int x3)]) hx hb dX10_wordsWith_22 hl (k := 2) rfl rfl (by decide) rfl (fun ls hl => ?_)
      refine lv_iinc (v := (x3 + (1 : Int32))) (lv' := [(3, .int (x3 + (1 : Int32))), (2, .int (x2 + (1 : Int32))), (0, .ref o), (1, .int x1)]) hx hb dX10_wordsWith_25 hl (k := 3) rfl rfl (by decide) rfl (fun ls hl => ?_)
      refine lv_goto (tgt := 4) hx hb dX10_wordsWith_28 (by decide) ?_
      obtain rfl := Option.some.inj h
      exact sk_l K H locs ls Z (lv_sub hl [2, 3, 1, 0] rfl)
set_option maxHeartbeats 4000000 in
set_option maxRecDepth 100000 in
theorem wl_X10_wordsWith_4 {p : Program} {l : Launch} {e : Env} {s : State} {m : MethodId} {args : Array Value} {below : List Frame} {meth : Method} {c : Code} {A : Nat → Prop} {Q : State → Prop} {D : va_G} {cy : Nat → ClassId} (o : Nat) (d : Nat → Nat) (count_ : Int32) (pairFirst_ : Int32) (pairSecond_ : Int32) (signatures_ : Nat → Int32)  (x1 : Int32) (n : Nat) (v : Int32 × Int32) (x : Int32) (X : Cx p m c cX10_wordsWith 4 s args wsX10_wordsWith RX10 A D cy (RO_X10_wordsWith cy o d count_ pairFirst_ pairSecond_ signatures_)) (h : loopN (fun v => b_X10_wordsWith_4 count_ signatures_ x1 v.1 v.2) n v = some x) (K : ∀ (H : Heap) (locs : List Loc) (ls : Array Slot), St A D s (RW_X10_wordsWith cy o d) H locs → lv_has ls 4 [(2, .int x)] → W p l e rm_X10_wordsWith s m args below meth c H locs 0 0 Q (F0 m 31 ls [])) : ∀ (H : Heap) (locs : List Loc) (ls : Array Slot), St A D s (RW_X10_wordsWith cy o d) H locs → lv_has ls 4 [(0, .ref o), (1, .int x1), (2, .int v.1), (3, .int v.2)] → W p l e rm_X10_wordsWith s m args below meth c H locs 0 0 Q (F0 m 4 ls []) :=
  loop_gen (B := (fun v => b_X10_wordsWith_4 count_ signatures_ x1 v.1 v.2)) (Head := fun v : Int32 × Int32 => ∀ (H : Heap) (locs : List Loc) (ls : Array Slot), St A D s (RW_X10_wordsWith cy o d) H locs → lv_has ls 4 [(0, .ref o), (1, .int x1), (2, .int v.1), (3, .int v.2)] → W p l e rm_X10_wordsWith s m args below meth c H locs 0 0 Q (F0 m 4 ls [])) (Exit := fun v : Int32 => ∀ (H : Heap) (locs : List Loc) (ls : Array Slot), St A D s (RW_X10_wordsWith cy o d) H locs → lv_has ls 4 [(2, .int v)] → W p l e rm_X10_wordsWith s m args below meth c H locs 0 0 Q (F0 m 31 ls [])) (fun v o9 hb1 K1 => wb_X10_wordsWith_4 o d count_ pairFirst_ pairSecond_ signatures_ x1 v.1 v.2 o9 X hb1 K1) n v x h K
def f_X10_wordsWith (x1 : Int32) (count_ : Int32) (signatures_ : Nat → Int32) : Option (Int32) :=
  (loopN (fun v => b_X10_wordsWith_4 count_ signatures_ x1 v.1 v.2) FU ((0 : Int32), (0 : Int32))).bind (fun u4 =>
  some u4)
set_option maxHeartbeats 4000000 in
set_option maxRecDepth 100000 in
theorem wt_X10_wordsWith {p : Program} {l : Launch} {e : Env} {s : State} {m : MethodId} {args : Array Value} {below : List Frame} {meth : Method} {c : Code} {A : Nat → Prop} {Q : State → Prop} {D : va_G} {cy : Nat → ClassId} (o : Nat) (d : Nat → Nat) (count_ : Int32) (pairFirst_ : Int32) (pairSecond_ : Int32) (signatures_ : Nat → Int32)  (x1 : Int32) (out : Int32) (X : Cx p m c cX10_wordsWith 4 s args wsX10_wordsWith RX10 A D cy (RO_X10_wordsWith cy o d count_ pairFirst_ pairSecond_ signatures_)) (h : f_X10_wordsWith x1 count_ signatures_ = some out) (K : ∀ (H : Heap) (locs : List Loc) (ls : Array Slot) (pc : Nat), decode cX10_wordsWith pc = .ok (.ireturn, 1) → St A D s (RW_X10_wordsWith cy o d) H locs → W p l e rm_X10_wordsWith s m args below meth c H locs 0 0 Q (F0 m pc ls [.int out])) : ∀ (H : Heap) (locs : List Loc) (ls : Array Slot), St A D s (RW_X10_wordsWith cy o d) H locs → lv_has ls 4 [(0, .ref o), (1, .int x1)] → W p l e rm_X10_wordsWith s m args below meth c H locs 0 0 Q (F0 m 0 ls []) := by
  intro H locs ls Z hl
  have hx := X.1.1
  have hb := X.1.2.1
  unfold f_X10_wordsWith at h
  refine lv_iconst (v := (0 : Int32)) hx hb dX10_wordsWith_0 (by decide) ?_
  refine lv_istore_n (lv' := [(2, .int (0 : Int32)), (0, .ref o), (1, .int x1)]) hx hb dX10_wordsWith_1 rfl hl (by decide) rfl (fun ls hl => ?_)
  refine lv_iconst (v := (0 : Int32)) hx hb dX10_wordsWith_2 (by decide) ?_
  refine lv_istore_n (lv' := [(3, .int (0 : Int32)), (2, .int (0 : Int32)), (0, .ref o), (1, .int x1)]) hx hb dX10_wordsWith_3 rfl hl (by decide) rfl (fun ls hl => ?_)
  obtain ⟨u4, hL5, h⟩ := ob_some h
  refine wl_X10_wordsWith_4 o d count_ pairFirst_ pairSecond_ signatures_ x1 FU ((0 : Int32), (0 : Int32)) u4 X hL5 (fun H locs ls Z hl => ?_) H locs ls Z (lv_sub hl [2, 3, 1, 0] rfl)
  refine lv_iload_n hx hb dX10_wordsWith_31 rfl (lv_at hl 0 rfl) ?_
  obtain rfl := Option.some.inj h
  exact K H locs ls _ dX10_wordsWith_32 Z
theorem c_X10_wordsWith (l : Launch) (D : va_G) (cy : Nat → ClassId) (o : Nat) (d : Nat → Nat) (count_ : Int32) (pairFirst_ : Int32) (pairSecond_ : Int32) (signatures_ : Nat → Int32)  (x1 : Int32) (out : Int32) (h : f_X10_wordsWith x1 count_ signatures_ = some out) : CtI l yX10_wordsWith wsX10_wordsWith rm_X10_wordsWith D cy [.ref o, .int x1] (RW_X10_wordsWith cy o d) (RO_X10_wordsWith cy o d count_ pairFirst_ pairSecond_ signatures_) (RW_X10_wordsWith cy o d) out :=
  mk_i (ty := .int) (by decide) rfl rfl (Nat.le_of_ble_eq_true rfl) (fun p e s m args below meth c A Q X K H locs ls Z hl => wt_X10_wordsWith o d count_ pairFirst_ pairSecond_ signatures_ x1 out X h K H locs ls Z hl)
/-! SubwordCounter classSize (II)I -/
abbrev rm_X11_classSize : Room := { frames := 6, cells := 0, slots := 0, locals := 150 }
def RW_X11_classSize (cy : Nat → ClassId) (o : Nat) (d : Nat → Nat) (d_now : Nat → Nat) (d_listing : Nat → Nat) (d_now_tests : Nat → Nat) (mono : Value) (PT : va_W) (listing_count_ : Int32) (listing_pairFirst_ : Int32) (listing_pairSecond_ : Int32) (listing_low_ : Nat → Int64) (listing_high_ : Nat → Int64) (listing_signatures_ : Nat → Int32) : va_W := [((d 7), ob 9 (oX10 d_listing listing_count_ listing_pairFirst_ listing_pairSecond_)), ((d_listing 0), aJ cy 2187 listing_low_), ((d_listing 1), aJ cy 2187 listing_high_), ((d_listing 2), aI cy 2187 listing_signatures_)]
def RO_X11_classSize (cy : Nat → ClassId) (o : Nat) (d : Nat → Nat) (d_now : Nat → Nat) (d_listing : Nat → Nat) (d_now_tests : Nat → Nat) (mono : Value) (PT : va_W) (snapshotTaken_ : Int32) (inputLength_ : Int32) (now_letters_ : Int32) (now_tests_count_ : Int32) (now_tests_members_ : Nat → Option Nat) : va_W := [(o, ob 10 (oX11 d mono snapshotTaken_ inputLength_)), ((d 0), ob 5 (oX5 d_now now_letters_)), ((d_now 2), ob 1 (oX1 d_now_tests now_tests_count_)), ((d_now_tests 0), aR cy 4 8 now_tests_members_)] ++ PT
theorem in_X11_classSize_X11 : ∀ w ∈ u_ws RX11 TX11 12, w ∈ wsX11_classSize := fun w h => (List.mem_cons_of_mem _ (List.mem_append_left _ (List.mem_append_left _ (List.mem_append_left _ (List.mem_append_left _ (List.mem_append_right _ h))))))
theorem lk_X11_classSize_X11_listing : Lk wsX11_classSize RX11 47 10 7 := ⟨RX11, TX11, 12, rfl, by decide, in_X11_classSize_X11, mem_at 1 rfl⟩
theorem lk_X11_classSize_X11_now : Lk wsX11_classSize RX11 10 10 0 := ⟨RX11, TX11, 12, rfl, by decide, in_X11_classSize_X11, mem_at 2 rfl⟩
theorem in_X11_classSize_X5 : ∀ w ∈ u_ws RX5 TX5 4, w ∈ wsX11_classSize := fun w h => (List.mem_cons_of_mem _ (List.mem_append_left _ (List.mem_append_left _ (List.mem_append_left _ (List.mem_append_right _ h)))))
theorem lk_X11_classSize_X5_tests : Lk wsX11_classSize RX11 127 5 2 := ⟨RX5, TX5, 4, rfl, by decide, in_X11_classSize_X5, mem_at 3 rfl⟩
theorem lk_X11_classSize_X5_letters : Lk wsX11_classSize RX11 74 5 0 := ⟨RX5, TX5, 4, rfl, by decide, in_X11_classSize_X5, mem_at 4 rfl⟩
def f_X11_classSize (x1 : Int32) (x2 : Int32) (tq : Nat → Option TV) (now_letters_ : Int32) (now_tests_count_ : Int32) (now_tests_members_ : Nat → Option Nat) (listing_count_ : Int32) (listing_low_ : Nat → Int64) (listing_high_ : Nat → Int64) (listing_signatures_ : Nat → Int32) : Option (Int32 × Int32 × (Nat → Int64) × (Nat → Int64) × (Nat → Int32)) :=
  if x1 < 0 then
  (some ((-1 : Int32), listing_count_, listing_low_, listing_high_, listing_signatures_))
  else
  (if x1 ≤ (7 : Int32) then
  ((f_X10_list now_letters_ x1 tq now_tests_count_ now_tests_members_ listing_count_ listing_low_ listing_high_ listing_signatures_).bind (fun u1 =>
  (f_X10_wordsWith x2 u1.1 u1.2.2.2).bind (fun u3 =>
  some (u3, u1.1, u1.2.1, u1.2.2.1, u1.2.2.2))))
  else
  (some ((-1 : Int32), listing_count_, listing_low_, listing_high_, listing_signatures_)))
set_option maxHeartbeats 4000000 in
set_option maxRecDepth 100000 in
theorem wt_X11_classSize {p : Program} {l : Launch} {e : Env} {s : State} {m : MethodId} {args : Array Value} {below : List Frame} {meth : Method} {c : Code} {A : Nat → Prop} {Q : State → Prop} {D : va_G} {cy : Nat → ClassId} (o : Nat) (d : Nat → Nat) (d_now : Nat → Nat) (d_listing : Nat → Nat) (d_now_tests : Nat → Nat) (mono : Value) (PT : va_W) (tq : Nat → Option TV) (snapshotTaken_ : Int32) (inputLength_ : Int32) (now_letters_ : Int32) (now_tests_count_ : Int32) (now_tests_members_ : Nat → Option Nat) (listing_count_ : Int32) (listing_pairFirst_ : Int32) (listing_pairSecond_ : Int32) (listing_low_ : Nat → Int64) (listing_high_ : Nat → Int64) (listing_signatures_ : Nat → Int32) (x1 : Int32) (x2 : Int32) (out : Int32 × Int32 × (Nat → Int64) × (Nat → Int64) × (Nat → Int32)) (hT : TP cy PT tq) (X : Cx p m c cX11_classSize 3 s args wsX11_classSize RX11 A D cy (RO_X11_classSize cy o d d_now d_listing d_now_tests mono PT snapshotTaken_ inputLength_ now_letters_ now_tests_count_ now_tests_members_)) (h : f_X11_classSize x1 x2 tq now_letters_ now_tests_count_ now_tests_members_ listing_count_ listing_low_ listing_high_ listing_signatures_ = some out) (K : ∀ (H : Heap) (locs : List Loc) (ls : Array Slot) (pc : Nat), decode cX11_classSize pc = .ok (.ireturn, 1) → St A D s (RW_X11_classSize cy o d d_now d_listing d_now_tests mono PT out.2.1 listing_pairFirst_ listing_pairSecond_ out.2.2.1 out.2.2.2.1 out.2.2.2.2) H locs → W p l e rm_X11_classSize s m args below meth c H locs 0 0 Q (F0 m pc ls [.int out.1])) : ∀ (H : Heap) (locs : List Loc) (ls : Array Slot), St A D s (RW_X11_classSize cy o d d_now d_listing d_now_tests mono PT listing_count_ listing_pairFirst_ listing_pairSecond_ listing_low_ listing_high_ listing_signatures_) H locs → lv_has ls 3 [(0, .ref o), (1, .int x1), (2, .int x2)] → W p l e rm_X11_classSize s m args below meth c H locs 0 0 Q (F0 m 0 ls []) := by
  intro H locs ls Z hl
  have hx := X.1.1
  have hb := X.1.2.1
  unfold f_X11_classSize at h
  refine lv_iload_n hx hb dX11_classSize_0 rfl (lv_at hl 1 rfl) ?_
  refine lv_if_lt (tgt := 10) hx hb dX11_classSize_1 (by decide) (fun cnd => ?_) (fun cnd => ?_)
  · replace h := ifp h cnd
    refine lv_iconst (v := (-1 : Int32)) hx hb dX11_classSize_10 (by decide) ?_
    obtain rfl := Option.some.inj h
    exact K H locs ls _ dX11_classSize_11 Z
  · replace h := ifn h cnd
    refine lv_iload_n hx hb dX11_classSize_4 rfl (lv_at hl 1 rfl) ?_
    refine lv_bipush (v := (7 : Int32)) hx hb dX11_classSize_5 (by decide) ?_
    refine lv_icmp_le (tgt := 12) hx hb dX11_classSize_7 (by decide) (fun cnd => ?_) (fun cnd => ?_)
    · replace h := ifp h cnd
      refine lv_aload_n hx hb dX11_classSize_12 rfl (lv_at hl 0 rfl) ?_
      refine x_getO X Z 0 7 (v := .ref (d 7)) rfl rfl lk_X11_classSize_X11_listing dX11_classSize_13 ?_
      refine lv_aload_n hx hb dX11_classSize_16 rfl (lv_at hl 0 rfl) ?_
      refine x_getO X Z 0 0 (v := .ref (d 0)) rfl rfl lk_X11_classSize_X11_now dX11_classSize_17 ?_
      refine x_getO X Z 1 2 (v := .ref (d_now 2)) rfl rfl lk_X11_classSize_X5_tests dX11_classSize_20 ?_
      refine lv_aload_n hx hb dX11_classSize_23 rfl (lv_at hl 0 rfl) ?_
      refine x_getO X Z 0 0 (v := .ref (d 0)) rfl rfl lk_X11_classSize_X11_now dX11_classSize_24 ?_
      refine x_getO X Z 1 0 (v := .int now_letters_) rfl rfl lk_X11_classSize_X5_letters dX11_classSize_27 ?_
      refine lv_iload_n hx hb dX11_classSize_30 rfl (lv_at hl 1 rfl) ?_
      obtain ⟨u1, hc2, h⟩ := ob_some h
      refine x_runVv (RW' := (RW_X11_classSize cy o d d_now d_listing d_now_tests mono PT u1.1 listing_pairFirst_ listing_pairSecond_ u1.2.1 u1.2.2.1 u1.2.2.2)) (wr := []) (isC := [0, 1, 2, 3]) (isR := []) (isF := [0, 1, 2, 3]) (rest := []) (As := [.ref (d_now 2), .int now_letters_, .int x1]) (n := 3) X Z (c_X10_list l D cy (d 7) (d_now 2) d_listing d_now_tests PT tq now_tests_count_ now_tests_members_ listing_count_ listing_pairFirst_ listing_pairSecond_ listing_low_ listing_high_ listing_signatures_ now_letters_ x1 u1 hT hc2) gX11_classSize_X10_list rfl (by decide +kernel) ⟨Nat.le_of_ble_eq_true rfl, Nat.le_of_ble_eq_true rfl⟩ ⟨rfl, rfl⟩ ⟨Nat.le_of_ble_eq_true rfl, Nat.le_of_ble_eq_true rfl⟩ (x_rv X Z 0 rfl rfl) ⟨rfl, rfl, (roC (Or.inr (mem_at 2 rfl)) (roC (Or.inr (mem_at 3 rfl)) (fun q hq => Or.inr (List.mem_append_right _ hq)))), rfl, rfl, by decide⟩ ⟨rfl, rfl⟩ rfl hl.1 rfl (Nat.le_of_ble_eq_true rfl) dX11_classSize_31 (fun H locs Z => ?_)
      refine lv_aload_n hx hb dX11_classSize_34 rfl (lv_at hl 0 rfl) ?_
      refine x_getO X Z 0 7 (v := .ref (d 7)) rfl rfl lk_X11_classSize_X11_listing dX11_classSize_35 ?_
      refine lv_iload_n hx hb dX11_classSize_38 rfl (lv_at hl 2 rfl) ?_
      obtain ⟨u3, hc4, h⟩ := ob_some h
      refine x_runVi (RW' := (RW_X11_classSize cy o d d_now d_listing d_now_tests mono PT u1.1 listing_pairFirst_ listing_pairSecond_ u1.2.1 u1.2.2.1 u1.2.2.2)) (wr := [((d 7), ob 9 (oX10 d_listing u1.1 listing_pairFirst_ listing_pairSecond_)), ((d_listing 0), aJ cy 2187 u1.2.1), ((d_listing 1), aJ cy 2187 u1.2.2.1), ((d_listing 2), aI cy 2187 u1.2.2.2)]) (isC := []) (isR := [0, 1, 2, 3]) (isF := [0, 1, 2, 3]) (rest := []) (As := [.int x2]) (n := 1) X Z (c_X10_wordsWith l D cy (d 7) d_listing u1.1 listing_pairFirst_ listing_pairSecond_ u1.2.2.2 x2 u3 hc4) gX11_classSize_X10_wordsWith rfl (by decide +kernel) ⟨Nat.le_of_ble_eq_true rfl, Nat.le_of_ble_eq_true rfl⟩ ⟨rfl, rfl⟩ ⟨Nat.le_of_ble_eq_true rfl, Nat.le_of_ble_eq_true rfl⟩ (x_rv X Z 0 rfl rfl) ⟨rfl, rfl, (roC (Or.inl (mem_at 0 rfl)) (roC (Or.inl (mem_at 3 rfl)) roN)), rfl, rfl, by decide⟩ ⟨rfl, rfl⟩ rfl hl.1 rfl (Nat.le_of_ble_eq_true rfl) dX11_classSize_39 (fun H locs Z => ?_)
      obtain rfl := Option.some.inj h
      exact K H locs ls _ dX11_classSize_42 Z
    · replace h := ifn h cnd
      refine lv_iconst (v := (-1 : Int32)) hx hb dX11_classSize_10 (by decide) ?_
      obtain rfl := Option.some.inj h
      exact K H locs ls _ dX11_classSize_11 Z
theorem c_X11_classSize (l : Launch) (D : va_G) (cy : Nat → ClassId) (o : Nat) (d : Nat → Nat) (d_now : Nat → Nat) (d_listing : Nat → Nat) (d_now_tests : Nat → Nat) (mono : Value) (PT : va_W) (tq : Nat → Option TV) (snapshotTaken_ : Int32) (inputLength_ : Int32) (now_letters_ : Int32) (now_tests_count_ : Int32) (now_tests_members_ : Nat → Option Nat) (listing_count_ : Int32) (listing_pairFirst_ : Int32) (listing_pairSecond_ : Int32) (listing_low_ : Nat → Int64) (listing_high_ : Nat → Int64) (listing_signatures_ : Nat → Int32) (x1 : Int32) (x2 : Int32) (out : Int32 × Int32 × (Nat → Int64) × (Nat → Int64) × (Nat → Int32)) (hT : TP cy PT tq) (h : f_X11_classSize x1 x2 tq now_letters_ now_tests_count_ now_tests_members_ listing_count_ listing_low_ listing_high_ listing_signatures_ = some out) : CtI l yX11_classSize wsX11_classSize rm_X11_classSize D cy [.ref o, .int x1, .int x2] (RW_X11_classSize cy o d d_now d_listing d_now_tests mono PT listing_count_ listing_pairFirst_ listing_pairSecond_ listing_low_ listing_high_ listing_signatures_) (RO_X11_classSize cy o d d_now d_listing d_now_tests mono PT snapshotTaken_ inputLength_ now_letters_ now_tests_count_ now_tests_members_) (RW_X11_classSize cy o d d_now d_listing d_now_tests mono PT out.2.1 listing_pairFirst_ listing_pairSecond_ out.2.2.1 out.2.2.2.1 out.2.2.2.2) out.1 :=
  mk_i (ty := .int) (by decide) rfl rfl (Nat.le_of_ble_eq_true rfl) (fun p e s m args below meth c A Q X K H locs ls Z hl => wt_X11_classSize o d d_now d_listing d_now_tests mono PT tq snapshotTaken_ inputLength_ now_letters_ now_tests_count_ now_tests_members_ listing_count_ listing_pairFirst_ listing_pairSecond_ listing_low_ listing_high_ listing_signatures_ x1 x2 out hT X h K H locs ls Z hl)
/-! SubwordCounter$WordList findPair ()Z -/
abbrev rm_X10_findPair : Room := { frames := 1, cells := 0, slots := 0, locals := 24 }
def RW_X10_findPair (cy : Nat → ClassId) (o : Nat) (d : Nat → Nat) (count_ : Int32) (pairFirst_ : Int32) (pairSecond_ : Int32) (slots_ : Nat → Int32) : va_W := [(o, ob 9 (oX10 d count_ pairFirst_ pairSecond_)), ((d 3), aI cy 4096 slots_)]
def RO_X10_findPair (cy : Nat → ClassId) (o : Nat) (d : Nat → Nat) (signatures_ : Nat → Int32) : va_W := [((d 2), aI cy 2187 signatures_)]
theorem in_X10_findPair_X10 : ∀ w ∈ u_ws RX10 TX10 7, w ∈ wsX10_findPair := fun w h => (List.mem_cons_of_mem _ (List.mem_append_right _ h))
theorem lk_X10_findPair_X10_count : Lk wsX10_findPair RX10 23 9 4 := ⟨RX10, TX10, 7, rfl, by decide, in_X10_findPair_X10, mem_at 2 rfl⟩
theorem lk_X10_findPair_X10_pairFirst : Lk wsX10_findPair RX10 27 9 5 := ⟨RX10, TX10, 7, rfl, by decide, in_X10_findPair_X10, mem_at 3 rfl⟩
theorem lp_X10_findPair_X10_pairFirst : Lp wsX10_findPair RX10 27 9 5 .int := ⟨RX10, TX10, 7, tyX10, rfl, by decide, in_X10_findPair_X10, mem_at 3 rfl, tyX10_ok, nmX10, rfl, by decide +kernel⟩
theorem lp_X10_findPair_X10_pairSecond : Lp wsX10_findPair RX10 30 9 6 .int := ⟨RX10, TX10, 7, tyX10, rfl, by decide, in_X10_findPair_X10, mem_at 4 rfl, tyX10_ok, nmX10, rfl, by decide +kernel⟩
theorem lk_X10_findPair_X10_slots : Lk wsX10_findPair RX10 20 9 3 := ⟨RX10, TX10, 7, rfl, by decide, in_X10_findPair_X10, mem_at 1 rfl⟩
def b_X10_findPair_18 (signatures_ : Nat → Int32) (count_ : Int32) (pairFirst_ : Int32) (pairSecond_ : Int32) (slots_ : Nat → Int32) (x1 : Int32) : Option ((Int32 × Int32 × (Nat → Int32) × Int32) ⊕ (Int32 × Int32 × (Nat → Int32))) :=
  if count_ ≤ x1 then
  (some (.inr (pairFirst_, pairSecond_, slots_)))
  else
  ((f_X10_firstWithSignatureOf x1 signatures_ slots_).bind (fun u1 =>
  if x1 ≤ u1.1 then
  (some (.inl (pairFirst_, pairSecond_, u1.2, (x1 + (1 : Int32)))))
  else
  (if pairFirst_ ≤ u1.1 then
  (some (.inl (pairFirst_, pairSecond_, u1.2, (x1 + (1 : Int32)))))
  else
  (some (.inl (u1.1, x1, u1.2, (x1 + (1 : Int32))))))))
set_option maxHeartbeats 4000000 in
set_option maxRecDepth 100000 in
theorem wb_X10_findPair_18 {p : Program} {l : Launch} {e : Env} {s : State} {m : MethodId} {args : Array Value} {below : List Frame} {meth : Method} {c : Code} {A : Nat → Prop} {Q : State → Prop} {D : va_G} {cy : Nat → ClassId} (o : Nat) (d : Nat → Nat) (signatures_ : Nat → Int32) (count_ : Int32) (pairFirst_ : Int32) (pairSecond_ : Int32) (slots_ : Nat → Int32) (x1 : Int32) (o1 : (Int32 × Int32 × (Nat → Int32) × Int32) ⊕ (Int32 × Int32 × (Nat → Int32))) (X : Cx p m c cX10_findPair 3 s args wsX10_findPair RX10 A D cy (RO_X10_findPair cy o d signatures_)) (h : b_X10_findPair_18 signatures_ count_ pairFirst_ pairSecond_ slots_ x1 = some o1) (K : Sum.elim (fun v : Int32 × Int32 × (Nat → Int32) × Int32 => ∀ (H : Heap) (locs : List Loc) (ls : Array Slot), St A D s (RW_X10_findPair cy o d count_ v.1 v.2.1 v.2.2.1) H locs → lv_has ls 3 [(0, .ref o), (1, .int v.2.2.2)] → W p l e rm_X10_findPair s m args below meth c H locs 0 0 Q (F0 m 18 ls [])) (fun v : Int32 × Int32 × (Nat → Int32) => ∀ (H : Heap) (locs : List Loc) (ls : Array Slot), St A D s (RW_X10_findPair cy o d count_ v.1 v.2.1 v.2.2) H locs → lv_has ls 3 [(0, .ref o)] → W p l e rm_X10_findPair s m args below meth c H locs 0 0 Q (F0 m 61 ls [])) o1) : ∀ (H : Heap) (locs : List Loc) (ls : Array Slot), St A D s (RW_X10_findPair cy o d count_ pairFirst_ pairSecond_ slots_) H locs → lv_has ls 3 [(0, .ref o), (1, .int x1)] → W p l e rm_X10_findPair s m args below meth c H locs 0 0 Q (F0 m 18 ls []) := by
  intro H locs ls Z hl
  have hx := X.1.1
  have hb := X.1.2.1
  unfold b_X10_findPair_18 at h
  refine lv_iload_n hx hb dX10_findPair_18 rfl (lv_at hl 1 rfl) ?_
  refine lv_aload_n hx hb dX10_findPair_19 rfl (lv_at hl 0 rfl) ?_
  refine x_get X Z 0 4 (v := .int count_) rfl rfl lk_X10_findPair_X10_count dX10_findPair_20 ?_
  refine lv_icmp_ge (tgt := 61) hx hb dX10_findPair_23 (by decide) (fun cnd => ?_) (fun cnd => ?_)
  · replace h := ifp h cnd
    obtain rfl := Option.some.inj h
    exact (sk_r K) H locs ls Z (lv_sub hl [0] rfl)
  · replace h := ifn h cnd
    refine lv_aload_n hx hb dX10_findPair_26 rfl (lv_at hl 0 rfl) ?_
    refine lv_iload_n hx hb dX10_findPair_27 rfl (lv_at hl 1 rfl) ?_
    obtain ⟨u1, hc2, h⟩ := ob_some h
    refine x_runVi (RW' := (RW_X10_findPair cy o d count_ pairFirst_ pairSecond_ u1.2)) (wr := [(o, ob 9 (oX10 d count_ pairFirst_ pairSecond_))]) (isC := [1]) (isR := [0]) (isF := [0, 1]) (rest := []) (As := [.int x1]) (n := 1) X Z (c_X10_firstWithSignatureOf l D cy o d count_ pairFirst_ pairSecond_ signatures_ slots_ x1 u1 hc2) gX10_findPair_X10_firstWithSignatureOf rfl (by decide +kernel) ⟨Nat.le_of_ble_eq_true rfl, Nat.le_of_ble_eq_true rfl⟩ ⟨rfl, rfl⟩ ⟨Nat.le_of_ble_eq_true rfl, Nat.le_of_ble_eq_true rfl⟩ (x_rv X Z 0 rfl rfl) ⟨rfl, rfl, (roC (Or.inl (mem_at 0 rfl)) (roC (Or.inr (mem_at 0 rfl)) roN)), rfl, rfl, by decide⟩ ⟨rfl, rfl⟩ rfl hl.1 rfl (Nat.le_of_ble_eq_true rfl) dX10_findPair_28 (fun H locs Z => ?_)
    refine lv_istore_n (lv' := [(2, .int u1.1), (0, .ref o), (1, .int x1)]) hx hb dX10_findPair_31 rfl hl (by decide) rfl (fun ls hl => ?_)
    refine lv_iload_n hx hb dX10_findPair_32 rfl (lv_at hl 0 rfl) ?_
    refine lv_iload_n hx hb dX10_findPair_33 rfl (lv_at hl 2 rfl) ?_
    refine lv_icmp_ge (tgt := 55) hx hb dX10_findPair_34 (by decide) (fun cnd => ?_) (fun cnd => ?_)
    · replace h := ifp h cnd
      refine lv_iinc (v := (x1 + (1 : Int32))) (lv' := [(1, .int (x1 + (1 : Int32))), (2, .int u1.1), (0, .ref o)]) hx hb dX10_findPair_55 hl (k := 2) rfl rfl (by decide) rfl (fun ls hl => ?_)
      refine lv_goto (tgt := 18) hx hb dX10_findPair_58 (by decide) ?_
      obtain rfl := Option.some.inj h
      exact sk_l K H locs ls Z (lv_sub hl [2, 0] rfl)
    · replace h := ifn h cnd
      refine lv_iload_n hx hb dX10_findPair_37 rfl (lv_at hl 0 rfl) ?_
      refine lv_aload_n hx hb dX10_findPair_38 rfl (lv_at hl 1 rfl) ?_
      refine x_get X Z 0 5 (v := .int pairFirst_) rfl rfl lk_X10_findPair_X10_pairFirst dX10_findPair_39 ?_
      refine lv_icmp_ge (tgt := 55) hx hb dX10_findPair_42 (by decide) (fun cnd => ?_) (fun cnd => ?_)
      · replace h := ifp h cnd
        refine lv_iinc (v := (x1 + (1 : Int32))) (lv' := [(1, .int (x1 + (1 : Int32))), (2, .int u1.1), (0, .ref o)]) hx hb dX10_findPair_55 hl (k := 2) rfl rfl (by decide) rfl (fun ls hl => ?_)
        refine lv_goto (tgt := 18) hx hb dX10_findPair_58 (by decide) ?_
        obtain rfl := Option.some.inj h
        exact sk_l K H locs ls Z (lv_sub hl [2, 0] rfl)
      · replace h := ifn h cnd
        refine lv_aload_n hx hb dX10_findPair_45 rfl (lv_at hl 1 rfl) ?_
        refine lv_iload_n hx hb dX10_findPair_46 rfl (lv_at hl 0 rfl) ?_
        refine x_put X Z 0 5 (RW_X10_findPair cy o d count_ u1.1 pairSecond_ u1.2) rfl lp_X10_findPair_X10_pairFirst (Nat.le_of_ble_eq_true rfl) rfl dX10_findPair_47 (fun H locs Z => ?_)
        refine lv_aload_n hx hb dX10_findPair_50 rfl (lv_at hl 1 rfl) ?_
        refine lv_iload_n hx hb dX10_findPair_51 rfl (lv_at hl 2 rfl) ?_
        refine x_put X Z 0 6 (RW_X10_findPair cy o d count_ u1.1 x1 u1.2) rfl lp_X10_findPair_X10_pairSecond (Nat.le_of_ble_eq_true rfl) rfl dX10_findPair_52 (fun H locs Z => ?_)
        refine lv_iinc (v := (x1 + (1 : Int32))) (lv' := [(1, .int (x1 + (1 : Int32))), (2, .int u1.1), (0, .ref o)]) hx hb dX10_findPair_55 hl (k := 2) rfl rfl (by decide) rfl (fun ls hl => ?_)
        refine lv_goto (tgt := 18) hx hb dX10_findPair_58 (by decide) ?_
        obtain rfl := Option.some.inj h
        exact sk_l K H locs ls Z (lv_sub hl [2, 0] rfl)
set_option maxHeartbeats 4000000 in
set_option maxRecDepth 100000 in
theorem wl_X10_findPair_18 {p : Program} {l : Launch} {e : Env} {s : State} {m : MethodId} {args : Array Value} {below : List Frame} {meth : Method} {c : Code} {A : Nat → Prop} {Q : State → Prop} {D : va_G} {cy : Nat → ClassId} (o : Nat) (d : Nat → Nat) (signatures_ : Nat → Int32) (count_ : Int32) (n : Nat) (v : Int32 × Int32 × (Nat → Int32) × Int32) (x : Int32 × Int32 × (Nat → Int32)) (X : Cx p m c cX10_findPair 3 s args wsX10_findPair RX10 A D cy (RO_X10_findPair cy o d signatures_)) (h : loopN (fun v => b_X10_findPair_18 signatures_ count_ v.1 v.2.1 v.2.2.1 v.2.2.2) n v = some x) (K : ∀ (H : Heap) (locs : List Loc) (ls : Array Slot), St A D s (RW_X10_findPair cy o d count_ x.1 x.2.1 x.2.2) H locs → lv_has ls 3 [(0, .ref o)] → W p l e rm_X10_findPair s m args below meth c H locs 0 0 Q (F0 m 61 ls [])) : ∀ (H : Heap) (locs : List Loc) (ls : Array Slot), St A D s (RW_X10_findPair cy o d count_ v.1 v.2.1 v.2.2.1) H locs → lv_has ls 3 [(0, .ref o), (1, .int v.2.2.2)] → W p l e rm_X10_findPair s m args below meth c H locs 0 0 Q (F0 m 18 ls []) :=
  loop_gen (B := (fun v => b_X10_findPair_18 signatures_ count_ v.1 v.2.1 v.2.2.1 v.2.2.2)) (Head := fun v : Int32 × Int32 × (Nat → Int32) × Int32 => ∀ (H : Heap) (locs : List Loc) (ls : Array Slot), St A D s (RW_X10_findPair cy o d count_ v.1 v.2.1 v.2.2.1) H locs → lv_has ls 3 [(0, .ref o), (1, .int v.2.2.2)] → W p l e rm_X10_findPair s m args below meth c H locs 0 0 Q (F0 m 18 ls [])) (Exit := fun v : Int32 × Int32 × (Nat → Int32) => ∀ (H : Heap) (locs : List Loc) (ls : Array Slot), St A D s (RW_X10_findPair cy o d count_ v.1 v.2.1 v.2.2) H locs → lv_has ls 3 [(0, .ref o)] → W p l e rm_X10_findPair s m args below meth c H locs 0 0 Q (F0 m 61 ls [])) (fun v o9 hb1 K1 => wb_X10_findPair_18 o d signatures_ count_ v.1 v.2.1 v.2.2.1 v.2.2.2 o9 X hb1 K1) n v x h K
def f_X10_findPair (signatures_ : Nat → Int32) (count_ : Int32) (pairFirst_ : Int32) (pairSecond_ : Int32) (slots_ : Nat → Int32) : Option (Int32 × Int32 × Int32 × (Nat → Int32)) :=
  (f_J7_fill_53178 (-1 : Int32) 4096 slots_).bind (fun u3 =>
  (loopN (fun v => b_X10_findPair_18 signatures_ count_ v.1 v.2.1 v.2.2.1 v.2.2.2) FU (count_, pairSecond_, u3, (0 : Int32))).bind (fun u5 =>
  if count_ ≤ u5.1 then
  (some ((0 : Int32), u5.1, u5.2.1, u5.2.2))
  else
  (some ((1 : Int32), u5.1, u5.2.1, u5.2.2))))
set_option maxHeartbeats 4000000 in
set_option maxRecDepth 100000 in
theorem wt_X10_findPair {p : Program} {l : Launch} {e : Env} {s : State} {m : MethodId} {args : Array Value} {below : List Frame} {meth : Method} {c : Code} {A : Nat → Prop} {Q : State → Prop} {D : va_G} {cy : Nat → ClassId} (o : Nat) (d : Nat → Nat) (signatures_ : Nat → Int32) (count_ : Int32) (pairFirst_ : Int32) (pairSecond_ : Int32) (slots_ : Nat → Int32) (out : Int32 × Int32 × Int32 × (Nat → Int32)) (X : Cx p m c cX10_findPair 3 s args wsX10_findPair RX10 A D cy (RO_X10_findPair cy o d signatures_)) (h : f_X10_findPair signatures_ count_ pairFirst_ pairSecond_ slots_ = some out) (K : ∀ (H : Heap) (locs : List Loc) (ls : Array Slot) (pc : Nat), decode cX10_findPair pc = .ok (.ireturn, 1) → (out.1 = 0 ∨ out.1 = 1) → St A D s (RW_X10_findPair cy o d count_ out.2.1 out.2.2.1 out.2.2.2) H locs → W p l e rm_X10_findPair s m args below meth c H locs 0 0 Q (F0 m pc ls [.int out.1])) : ∀ (H : Heap) (locs : List Loc) (ls : Array Slot), St A D s (RW_X10_findPair cy o d count_ pairFirst_ pairSecond_ slots_) H locs → lv_has ls 3 [(0, .ref o)] → W p l e rm_X10_findPair s m args below meth c H locs 0 0 Q (F0 m 0 ls []) := by
  intro H locs ls Z hl
  have hx := X.1.1
  have hb := X.1.2.1
  unfold f_X10_findPair at h
  refine lv_aload_n hx hb dX10_findPair_0 rfl (lv_at hl 0 rfl) ?_
  refine x_get X Z 0 3 (v := .ref (d 3)) rfl rfl lk_X10_findPair_X10_slots dX10_findPair_1 ?_
  refine lv_iconst (v := (-1 : Int32)) hx hb dX10_findPair_4 (by decide) ?_
  obtain ⟨u3, hc4, h⟩ := ob_some h
  refine x_runSv (RW' := (RW_X10_findPair cy o d count_ pairFirst_ pairSecond_ u3)) (wr := [(o, ob 9 (oX10 d count_ pairFirst_ pairSecond_))]) (isC := [1]) (isR := [0]) (isF := [0, 1]) (rest := []) (As := [.ref (d 3), .int (-1 : Int32)]) (n := 2) X Z (c_J7_fill_53178 l D cy (d 3) 4096 slots_ (-1 : Int32) u3 hc4) gX10_findPair_J7_fill_53178 rfl (by decide +kernel) ⟨Nat.le_of_ble_eq_true rfl, Nat.le_of_ble_eq_true rfl⟩ ⟨rfl, rfl⟩ ⟨Nat.le_of_ble_eq_true rfl, Nat.le_of_ble_eq_true rfl⟩ ⟨rfl, rfl, roN, rfl, rfl, by decide⟩ ⟨rfl, rfl⟩ rfl hl.1 rfl (Nat.le_of_ble_eq_true rfl) dX10_findPair_5 (fun H locs Z => ?_)
  refine lv_aload_n hx hb dX10_findPair_8 rfl (lv_at hl 0 rfl) ?_
  refine lv_aload_n hx hb dX10_findPair_9 rfl (lv_at hl 0 rfl) ?_
  refine x_get X Z 0 4 (v := .int count_) rfl rfl lk_X10_findPair_X10_count dX10_findPair_10 ?_
  refine x_put X Z 0 5 (RW_X10_findPair cy o d count_ count_ pairSecond_ u3) rfl lp_X10_findPair_X10_pairFirst (Nat.le_of_ble_eq_true rfl) rfl dX10_findPair_13 (fun H locs Z => ?_)
  refine lv_iconst (v := (0 : Int32)) hx hb dX10_findPair_16 (by decide) ?_
  refine lv_istore_n (lv' := [(1, .int (0 : Int32)), (0, .ref o)]) hx hb dX10_findPair_17 rfl hl (by decide) rfl (fun ls hl => ?_)
  obtain ⟨u5, hL6, h⟩ := ob_some h
  refine wl_X10_findPair_18 o d signatures_ count_ FU (count_, pairSecond_, u3, (0 : Int32)) u5 X hL6 (fun H locs ls Z hl => ?_) H locs ls Z (lv_sub hl [1, 0] rfl)
  refine lv_aload_n hx hb dX10_findPair_61 rfl (lv_at hl 0 rfl) ?_
  refine x_get X Z 0 5 (v := .int u5.1) rfl rfl lk_X10_findPair_X10_pairFirst dX10_findPair_62 ?_
  refine lv_aload_n hx hb dX10_findPair_65 rfl (lv_at hl 0 rfl) ?_
  refine x_get X Z 0 4 (v := .int count_) rfl rfl lk_X10_findPair_X10_count dX10_findPair_66 ?_
  refine lv_icmp_ge (tgt := 76) hx hb dX10_findPair_69 (by decide) (fun cnd => ?_) (fun cnd => ?_)
  · replace h := ifp h cnd
    refine lv_iconst (v := (0 : Int32)) hx hb dX10_findPair_76 (by decide) ?_
    obtain rfl := Option.some.inj h
    exact K H locs ls _ dX10_findPair_77 (Or.inl rfl) Z
  · replace h := ifn h cnd
    refine lv_iconst (v := (1 : Int32)) hx hb dX10_findPair_72 (by decide) ?_
    refine lv_goto (tgt := 77) hx hb dX10_findPair_73 (by decide) ?_
    obtain rfl := Option.some.inj h
    exact K H locs ls _ dX10_findPair_77 (Or.inr rfl) Z
theorem c_X10_findPair (l : Launch) (D : va_G) (cy : Nat → ClassId) (o : Nat) (d : Nat → Nat) (signatures_ : Nat → Int32) (count_ : Int32) (pairFirst_ : Int32) (pairSecond_ : Int32) (slots_ : Nat → Int32) (out : Int32 × Int32 × Int32 × (Nat → Int32)) (h : f_X10_findPair signatures_ count_ pairFirst_ pairSecond_ slots_ = some out) : CtI l yX10_findPair wsX10_findPair rm_X10_findPair D cy [.ref o] (RW_X10_findPair cy o d count_ pairFirst_ pairSecond_ slots_) (RO_X10_findPair cy o d signatures_) (RW_X10_findPair cy o d count_ out.2.1 out.2.2.1 out.2.2.2) out.1 :=
  mk_z (by decide) rfl (Nat.le_of_ble_eq_true rfl) (fun p e s m args below meth c A Q X K H locs ls Z hl => wt_X10_findPair o d signatures_ count_ pairFirst_ pairSecond_ slots_ out X h K H locs ls Z hl)
/-! SubwordCounter findCollision ()I -/
abbrev rm_X11_findCollision : Room := { frames := 5, cells := 0, slots := 0, locals := 126 }
def RW_X11_findCollision (cy : Nat → ClassId) (o : Nat) (q_now_words_C0 : Nat) (q_now_words_C1 : Nat) (d : Nat → Nat) (d_now_words_C0 : Nat → Nat) (d_now_words_C1 : Nat → Nat) (d_now : Nat → Nat) (d_listing : Nat → Nat) (d_now_tests : Nat → Nat) (mono : Value) (PT : va_W) (now_words_C0_size_ : Int32) (now_words_C1_size_ : Int32) (listing_count_ : Int32) (listing_pairFirst_ : Int32) (listing_pairSecond_ : Int32) (now_words_C0_letters_ : Nat → Int32) (now_words_C1_letters_ : Nat → Int32) (listing_low_ : Nat → Int64) (listing_high_ : Nat → Int64) (listing_signatures_ : Nat → Int32) (listing_slots_ : Nat → Int32) : va_W := [(q_now_words_C0, ob 8 (oX9 d_now_words_C0 now_words_C0_size_)), (q_now_words_C1, ob 8 (oX9 d_now_words_C1 now_words_C1_size_)), ((d 7), ob 9 (oX10 d_listing listing_count_ listing_pairFirst_ listing_pairSecond_)), ((d_now_words_C0 0), aI cy 12 now_words_C0_letters_), ((d_now_words_C1 0), aI cy 12 now_words_C1_letters_), ((d_listing 0), aJ cy 2187 listing_low_), ((d_listing 1), aJ cy 2187 listing_high_), ((d_listing 2), aI cy 2187 listing_signatures_), ((d_listing 3), aI cy 4096 listing_slots_)]
def RO_X11_findCollision (cy : Nat → ClassId) (o : Nat) (q_now_words_C0 : Nat) (q_now_words_C1 : Nat) (d : Nat → Nat) (d_now_words_C0 : Nat → Nat) (d_now_words_C1 : Nat → Nat) (d_now : Nat → Nat) (d_listing : Nat → Nat) (d_now_tests : Nat → Nat) (mono : Value) (PT : va_W) (snapshotTaken_ : Int32) (inputLength_ : Int32) (now_letters_ : Int32) (now_words_ : Nat → Option Nat) (now_tests_count_ : Int32) (now_tests_members_ : Nat → Option Nat) : va_W := [(o, ob 10 (oX11 d mono snapshotTaken_ inputLength_)), ((d 0), ob 5 (oX5 d_now now_letters_)), ((d_now 1), aR cy 5 3 now_words_), ((d_now 2), ob 1 (oX1 d_now_tests now_tests_count_)), ((d_now_tests 0), aR cy 4 8 now_tests_members_)] ++ PT
theorem in_X11_findCollision_X11 : ∀ w ∈ u_ws RX11 TX11 12, w ∈ wsX11_findCollision := fun w h => (List.mem_cons_of_mem _ (List.mem_append_left _ (List.mem_append_left _ (List.mem_append_left _ (List.mem_append_left _ (List.mem_append_left _ (List.mem_append_right _ h)))))))
theorem lk_X11_findCollision_X11_listing : Lk wsX11_findCollision RX11 47 10 7 := ⟨RX11, TX11, 12, rfl, by decide, in_X11_findCollision_X11, mem_at 1 rfl⟩
theorem lk_X11_findCollision_X11_now : Lk wsX11_findCollision RX11 10 10 0 := ⟨RX11, TX11, 12, rfl, by decide, in_X11_findCollision_X11, mem_at 2 rfl⟩
theorem in_X11_findCollision_X5 : ∀ w ∈ u_ws RX5 TX5 4, w ∈ wsX11_findCollision := fun w h => (List.mem_cons_of_mem _ (List.mem_append_left _ (List.mem_append_left _ (List.mem_append_left _ (List.mem_append_left _ (List.mem_append_right _ h))))))
theorem lk_X11_findCollision_X5_tests : Lk wsX11_findCollision RX11 127 5 2 := ⟨RX5, TX5, 4, rfl, by decide, in_X11_findCollision_X5, mem_at 3 rfl⟩
theorem lk_X11_findCollision_X5_letters : Lk wsX11_findCollision RX11 74 5 0 := ⟨RX5, TX5, 4, rfl, by decide, in_X11_findCollision_X5, mem_at 4 rfl⟩
theorem lk_X11_findCollision_X5_words : Lk wsX11_findCollision RX11 85 5 1 := ⟨RX5, TX5, 4, rfl, by decide, in_X11_findCollision_X5, mem_at 5 rfl⟩
theorem in_X11_findCollision_X10 : ∀ w ∈ u_ws RX10 TX10 7, w ∈ wsX11_findCollision := fun w h => (List.mem_cons_of_mem _ (List.mem_append_left _ (List.mem_append_left _ (List.mem_append_left _ (List.mem_append_right _ h)))))
theorem lk_X11_findCollision_X10_pairFirst : Lk wsX11_findCollision RX11 198 9 5 := ⟨RX10, TX10, 7, rfl, by decide, in_X11_findCollision_X10, mem_at 6 rfl⟩
theorem lk_X11_findCollision_X10_pairSecond : Lk wsX11_findCollision RX11 201 9 6 := ⟨RX10, TX10, 7, rfl, by decide, in_X11_findCollision_X10, mem_at 7 rfl⟩
def b_X11_findCollision_9 (q_now_words_C0 : Nat) (q_now_words_C1 : Nat) (tq : Nat → Option TV) (now_letters_ : Int32) (now_tests_count_ : Int32) (now_tests_members_ : Nat → Option Nat) (listing_count_ : Int32) (listing_pairFirst_ : Int32) (listing_pairSecond_ : Int32) (listing_low_ : Nat → Int64) (listing_high_ : Nat → Int64) (listing_signatures_ : Nat → Int32) (listing_slots_ : Nat → Int32) (x1 : Int32) : Option ((Int32 × Int32 × Int32 × (Nat → Int64) × (Nat → Int64) × (Nat → Int32) × (Nat → Int32) × Int32) ⊕ ((Int32 × Int32 × Int32 × (Nat → Int64) × (Nat → Int64) × (Nat → Int32) × (Nat → Int32) × Int32) ⊕ (Int32 × Int32 × Int32 × (Nat → Int64) × (Nat → Int64) × (Nat → Int32) × (Nat → Int32)))) :=
  if (7 : Int32) < x1 then
  (some (.inr (.inr (listing_count_, listing_pairFirst_, listing_pairSecond_, listing_low_, listing_high_, listing_signatures_, listing_slots_))))
  else
  ((f_X10_lengthen now_letters_ tq now_tests_count_ now_tests_members_ listing_count_ listing_low_ listing_high_).bind (fun u1 =>
  (f_X10_sign tq u1.1 now_tests_count_ u1.2.1 u1.2.2 now_tests_members_ listing_signatures_).bind (fun u3 =>
  (f_X10_findPair u3 u1.1 listing_pairFirst_ listing_pairSecond_ listing_slots_).bind (fun u5 =>
  if u5.1 = 0 then
  (some (.inl (u1.1, u5.2.1, u5.2.2.1, u1.2.1, u1.2.2, u3, u5.2.2.2, (x1 + (1 : Int32)))))
  else
  (some (.inr (.inl (u1.1, u5.2.1, u5.2.2.1, u1.2.1, u1.2.2, u3, u5.2.2.2, x1))))))))
set_option maxHeartbeats 4000000 in
set_option maxRecDepth 100000 in
theorem wb_X11_findCollision_9 {p : Program} {l : Launch} {e : Env} {s : State} {m : MethodId} {args : Array Value} {below : List Frame} {meth : Method} {c : Code} {A : Nat → Prop} {Q : State → Prop} {D : va_G} {cy : Nat → ClassId} (o : Nat) (q_now_words_C0 : Nat) (q_now_words_C1 : Nat) (d : Nat → Nat) (d_now_words_C0 : Nat → Nat) (d_now_words_C1 : Nat → Nat) (d_now : Nat → Nat) (d_listing : Nat → Nat) (d_now_tests : Nat → Nat) (mono : Value) (PT : va_W) (tq : Nat → Option TV) (snapshotTaken_ : Int32) (inputLength_ : Int32) (now_letters_ : Int32) (now_words_ : Nat → Option Nat) (now_tests_count_ : Int32) (now_tests_members_ : Nat → Option Nat) (now_words_C0_size_ : Int32) (now_words_C1_size_ : Int32) (now_words_C0_letters_ : Nat → Int32) (now_words_C1_letters_ : Nat → Int32) (listing_count_ : Int32) (listing_pairFirst_ : Int32) (listing_pairSecond_ : Int32) (listing_low_ : Nat → Int64) (listing_high_ : Nat → Int64) (listing_signatures_ : Nat → Int32) (listing_slots_ : Nat → Int32) (x1 : Int32) (o1 : (Int32 × Int32 × Int32 × (Nat → Int64) × (Nat → Int64) × (Nat → Int32) × (Nat → Int32) × Int32) ⊕ ((Int32 × Int32 × Int32 × (Nat → Int64) × (Nat → Int64) × (Nat → Int32) × (Nat → Int32) × Int32) ⊕ (Int32 × Int32 × Int32 × (Nat → Int64) × (Nat → Int64) × (Nat → Int32) × (Nat → Int32)))) (hT : TP cy PT tq) (X : Cx p m c cX11_findCollision 2 s args wsX11_findCollision RX11 A D cy (RO_X11_findCollision cy o q_now_words_C0 q_now_words_C1 d d_now_words_C0 d_now_words_C1 d_now d_listing d_now_tests mono PT snapshotTaken_ inputLength_ now_letters_ now_words_ now_tests_count_ now_tests_members_)) (h : b_X11_findCollision_9 q_now_words_C0 q_now_words_C1 tq now_letters_ now_tests_count_ now_tests_members_ listing_count_ listing_pairFirst_ listing_pairSecond_ listing_low_ listing_high_ listing_signatures_ listing_slots_ x1 = some o1) (K : Sum.elim (fun v : Int32 × Int32 × Int32 × (Nat → Int64) × (Nat → Int64) × (Nat → Int32) × (Nat → Int32) × Int32 => ∀ (H : Heap) (locs : List Loc) (ls : Array Slot), St A D s (RW_X11_findCollision cy o q_now_words_C0 q_now_words_C1 d d_now_words_C0 d_now_words_C1 d_now d_listing d_now_tests mono PT now_words_C0_size_ now_words_C1_size_ v.1 v.2.1 v.2.2.1 now_words_C0_letters_ now_words_C1_letters_ v.2.2.2.1 v.2.2.2.2.1 v.2.2.2.2.2.1 v.2.2.2.2.2.2.1) H locs → lv_has ls 2 [(0, .ref o), (1, .int v.2.2.2.2.2.2.2)] → W p l e rm_X11_findCollision s m args below meth c H locs 0 0 Q (F0 m 9 ls [])) (fun v : (Int32 × Int32 × Int32 × (Nat → Int64) × (Nat → Int64) × (Nat → Int32) × (Nat → Int32) × Int32) ⊕ (Int32 × Int32 × Int32 × (Nat → Int64) × (Nat → Int64) × (Nat → Int32) × (Nat → Int32)) => Sum.elim (fun w : Int32 × Int32 × Int32 × (Nat → Int64) × (Nat → Int64) × (Nat → Int32) × (Nat → Int32) × Int32 => ∀ (H : Heap) (locs : List Loc) (ls : Array Slot), St A D s (RW_X11_findCollision cy o q_now_words_C0 q_now_words_C1 d d_now_words_C0 d_now_words_C1 d_now d_listing d_now_tests mono PT now_words_C0_size_ now_words_C1_size_ w.1 w.2.1 w.2.2.1 now_words_C0_letters_ now_words_C1_letters_ w.2.2.2.1 w.2.2.2.2.1 w.2.2.2.2.2.1 w.2.2.2.2.2.2.1) H locs → lv_has ls 2 [(0, .ref o), (1, .int w.2.2.2.2.2.2.2)] → W p l e rm_X11_findCollision s m args below meth c H locs 0 0 Q (F0 m 60 ls [])) (fun w => ∀ (H : Heap) (locs : List Loc) (ls : Array Slot), St A D s (RW_X11_findCollision cy o q_now_words_C0 q_now_words_C1 d d_now_words_C0 d_now_words_C1 d_now d_listing d_now_tests mono PT now_words_C0_size_ now_words_C1_size_ w.1 w.2.1 w.2.2.1 now_words_C0_letters_ now_words_C1_letters_ w.2.2.2.1 w.2.2.2.2.1 w.2.2.2.2.2.1 w.2.2.2.2.2.2) H locs → lv_has ls 2 [] → W p l e rm_X11_findCollision s m args below meth c H locs 0 0 Q (F0 m 122 ls [])) v) o1) : ∀ (H : Heap) (locs : List Loc) (ls : Array Slot), St A D s (RW_X11_findCollision cy o q_now_words_C0 q_now_words_C1 d d_now_words_C0 d_now_words_C1 d_now d_listing d_now_tests mono PT now_words_C0_size_ now_words_C1_size_ listing_count_ listing_pairFirst_ listing_pairSecond_ now_words_C0_letters_ now_words_C1_letters_ listing_low_ listing_high_ listing_signatures_ listing_slots_) H locs → lv_has ls 2 [(0, .ref o), (1, .int x1)] → W p l e rm_X11_findCollision s m args below meth c H locs 0 0 Q (F0 m 9 ls []) := by
  intro H locs ls Z hl
  have hx := X.1.1
  have hb := X.1.2.1
  unfold b_X11_findCollision_9 at h
  refine lv_iload_n hx hb dX11_findCollision_9 rfl (lv_at hl 1 rfl) ?_
  refine lv_bipush (v := (7 : Int32)) hx hb dX11_findCollision_10 (by decide) ?_
  refine lv_icmp_gt (tgt := 122) hx hb dX11_findCollision_12 (by decide) (fun cnd => ?_) (fun cnd => ?_)
  · replace h := ifp h cnd
    obtain rfl := Option.some.inj h
    exact (sk_r (sk_r K)) H locs ls Z (lv_sub hl [] rfl)
  · replace h := ifn h cnd
    refine lv_aload_n hx hb dX11_findCollision_15 rfl (lv_at hl 0 rfl) ?_
    refine x_getO X Z 0 7 (v := .ref (d 7)) rfl rfl lk_X11_findCollision_X11_listing dX11_findCollision_16 ?_
    refine lv_aload_n hx hb dX11_findCollision_19 rfl (lv_at hl 0 rfl) ?_
    refine x_getO X Z 0 0 (v := .ref (d 0)) rfl rfl lk_X11_findCollision_X11_now dX11_findCollision_20 ?_
    refine x_getO X Z 1 2 (v := .ref (d_now 2)) rfl rfl lk_X11_findCollision_X5_tests dX11_findCollision_23 ?_
    refine lv_aload_n hx hb dX11_findCollision_26 rfl (lv_at hl 0 rfl) ?_
    refine x_getO X Z 0 0 (v := .ref (d 0)) rfl rfl lk_X11_findCollision_X11_now dX11_findCollision_27 ?_
    refine x_getO X Z 1 0 (v := .int now_letters_) rfl rfl lk_X11_findCollision_X5_letters dX11_findCollision_30 ?_
    obtain ⟨u1, hc2, h⟩ := ob_some h
    refine x_runVv (RW' := (RW_X11_findCollision cy o q_now_words_C0 q_now_words_C1 d d_now_words_C0 d_now_words_C1 d_now d_listing d_now_tests mono PT now_words_C0_size_ now_words_C1_size_ u1.1 listing_pairFirst_ listing_pairSecond_ now_words_C0_letters_ now_words_C1_letters_ u1.2.1 u1.2.2 listing_signatures_ listing_slots_)) (wr := [(q_now_words_C0, ob 8 (oX9 d_now_words_C0 now_words_C0_size_)), (q_now_words_C1, ob 8 (oX9 d_now_words_C1 now_words_C1_size_)), ((d_now_words_C0 0), aI cy 12 now_words_C0_letters_), ((d_now_words_C1 0), aI cy 12 now_words_C1_letters_), ((d_listing 2), aI cy 2187 listing_signatures_), ((d_listing 3), aI cy 4096 listing_slots_)]) (isC := [2, 5, 6]) (isR := [0, 1, 3, 4, 7, 8]) (isF := [0, 1, 6, 2, 3, 7, 8, 4, 5]) (rest := []) (As := [.ref (d_now 2), .int now_letters_]) (n := 2) X Z (c_X10_lengthen l D cy (d 7) (d_now 2) d_listing d_now_tests PT tq now_tests_count_ now_tests_members_ listing_count_ listing_pairFirst_ listing_pairSecond_ listing_low_ listing_high_ now_letters_ u1 hT hc2) gX11_findCollision_X10_lengthen rfl (by decide +kernel) ⟨Nat.le_of_ble_eq_true rfl, Nat.le_of_ble_eq_true rfl⟩ ⟨rfl, rfl⟩ ⟨Nat.le_of_ble_eq_true rfl, Nat.le_of_ble_eq_true rfl⟩ (x_rv X Z 2 rfl rfl) ⟨rfl, rfl, (roC (Or.inr (mem_at 3 rfl)) (roC (Or.inr (mem_at 4 rfl)) (fun q hq => Or.inr (List.mem_append_right _ hq)))), rfl, rfl, by decide⟩ ⟨rfl, rfl⟩ rfl hl.1 rfl (Nat.le_of_ble_eq_true rfl) dX11_findCollision_33 (fun H locs Z => ?_)
    refine lv_aload_n hx hb dX11_findCollision_36 rfl (lv_at hl 0 rfl) ?_
    refine x_getO X Z 0 7 (v := .ref (d 7)) rfl rfl lk_X11_findCollision_X11_listing dX11_findCollision_37 ?_
    refine lv_aload_n hx hb dX11_findCollision_40 rfl (lv_at hl 0 rfl) ?_
    refine x_getO X Z 0 0 (v := .ref (d 0)) rfl rfl lk_X11_findCollision_X11_now dX11_findCollision_41 ?_
    refine x_getO X Z 1 2 (v := .ref (d_now 2)) rfl rfl lk_X11_findCollision_X5_tests dX11_findCollision_44 ?_
    obtain ⟨u3, hc4, h⟩ := ob_some h
    refine x_runVv (RW' := (RW_X11_findCollision cy o q_now_words_C0 q_now_words_C1 d d_now_words_C0 d_now_words_C1 d_now d_listing d_now_tests mono PT now_words_C0_size_ now_words_C1_size_ u1.1 listing_pairFirst_ listing_pairSecond_ now_words_C0_letters_ now_words_C1_letters_ u1.2.1 u1.2.2 u3 listing_slots_)) (wr := [(q_now_words_C0, ob 8 (oX9 d_now_words_C0 now_words_C0_size_)), (q_now_words_C1, ob 8 (oX9 d_now_words_C1 now_words_C1_size_)), ((d 7), ob 9 (oX10 d_listing u1.1 listing_pairFirst_ listing_pairSecond_)), ((d_now_words_C0 0), aI cy 12 now_words_C0_letters_), ((d_now_words_C1 0), aI cy 12 now_words_C1_letters_), ((d_listing 0), aJ cy 2187 u1.2.1), ((d_listing 1), aJ cy 2187 u1.2.2), ((d_listing 3), aI cy 4096 listing_slots_)]) (isC := [7]) (isR := [0, 1, 2, 3, 4, 5, 6, 8]) (isF := [0, 1, 2, 3, 4, 5, 6, 8, 7]) (rest := []) (As := [.ref (d_now 2)]) (n := 1) X Z (c_X10_sign l D cy (d 7) (d_now 2) d_listing d_now_tests PT tq u1.1 listing_pairFirst_ listing_pairSecond_ now_tests_count_ u1.2.1 u1.2.2 now_tests_members_ listing_signatures_ u3 hT hc4) gX11_findCollision_X10_sign rfl (by decide +kernel) ⟨Nat.le_of_ble_eq_true rfl, Nat.le_of_ble_eq_true rfl⟩ ⟨rfl, rfl⟩ ⟨Nat.le_of_ble_eq_true rfl, Nat.le_of_ble_eq_true rfl⟩ (x_rv X Z 2 rfl rfl) ⟨rfl, rfl, (roC (Or.inl (mem_at 2 rfl)) (roC (Or.inr (mem_at 3 rfl)) (roC (Or.inl (mem_at 5 rfl)) (roC (Or.inl (mem_at 6 rfl)) (roC (Or.inr (mem_at 4 rfl)) (fun q hq => Or.inr (List.mem_append_right _ hq))))))), rfl, rfl, by decide⟩ ⟨rfl, rfl⟩ rfl hl.1 rfl (Nat.le_of_ble_eq_true rfl) dX11_findCollision_47 (fun H locs Z => ?_)
    refine lv_aload_n hx hb dX11_findCollision_50 rfl (lv_at hl 0 rfl) ?_
    refine x_getO X Z 0 7 (v := .ref (d 7)) rfl rfl lk_X11_findCollision_X11_listing dX11_findCollision_51 ?_
    obtain ⟨u5, hc6, h⟩ := ob_some h
    refine x_runVi (RW' := (RW_X11_findCollision cy o q_now_words_C0 q_now_words_C1 d d_now_words_C0 d_now_words_C1 d_now d_listing d_now_tests mono PT now_words_C0_size_ now_words_C1_size_ u1.1 u5.2.1 u5.2.2.1 now_words_C0_letters_ now_words_C1_letters_ u1.2.1 u1.2.2 u3 u5.2.2.2)) (wr := [(q_now_words_C0, ob 8 (oX9 d_now_words_C0 now_words_C0_size_)), (q_now_words_C1, ob 8 (oX9 d_now_words_C1 now_words_C1_size_)), ((d_now_words_C0 0), aI cy 12 now_words_C0_letters_), ((d_now_words_C1 0), aI cy 12 now_words_C1_letters_), ((d_listing 0), aJ cy 2187 u1.2.1), ((d_listing 1), aJ cy 2187 u1.2.2), ((d_listing 2), aI cy 2187 u3)]) (isC := [2, 8]) (isR := [0, 1, 3, 4, 5, 6, 7]) (isF := [0, 1, 7, 2, 3, 4, 5, 6, 8]) (rest := []) (As := []) (n := 0) X Z (c_X10_findPair l D cy (d 7) d_listing u3 u1.1 listing_pairFirst_ listing_pairSecond_ listing_slots_ u5 hc6) gX11_findCollision_X10_findPair rfl (by decide +kernel) ⟨Nat.le_of_ble_eq_true rfl, Nat.le_of_ble_eq_true rfl⟩ ⟨rfl, rfl⟩ ⟨Nat.le_of_ble_eq_true rfl, Nat.le_of_ble_eq_true rfl⟩ (x_rv X Z 2 rfl rfl) ⟨rfl, rfl, (roC (Or.inl (mem_at 6 rfl)) roN), rfl, rfl, by decide⟩ ⟨rfl, rfl⟩ rfl hl.1 rfl (Nat.le_of_ble_eq_true rfl) dX11_findCollision_54 (fun H locs Z => ?_)
    refine lv_if_eq (tgt := 116) hx hb dX11_findCollision_57 (by decide) (fun cnd => ?_) (fun cnd => ?_)
    · replace h := ifp h cnd
      refine lv_iinc (v := (x1 + (1 : Int32))) (lv' := [(1, .int (x1 + (1 : Int32))), (0, .ref o)]) hx hb dX11_findCollision_116 hl (k := 1) rfl rfl (by decide) rfl (fun ls hl => ?_)
      refine lv_goto (tgt := 9) hx hb dX11_findCollision_119 (by decide) ?_
      obtain rfl := Option.some.inj h
      exact sk_l K H locs ls Z (lv_sub hl [1, 0] rfl)
    · replace h := ifn h cnd
      obtain rfl := Option.some.inj h
      exact (sk_l (sk_r K)) H locs ls Z (lv_sub hl [0, 1] rfl)
set_option maxHeartbeats 4000000 in
set_option maxRecDepth 100000 in
theorem wl_X11_findCollision_9 {p : Program} {l : Launch} {e : Env} {s : State} {m : MethodId} {args : Array Value} {below : List Frame} {meth : Method} {c : Code} {A : Nat → Prop} {Q : State → Prop} {D : va_G} {cy : Nat → ClassId} (o : Nat) (q_now_words_C0 : Nat) (q_now_words_C1 : Nat) (d : Nat → Nat) (d_now_words_C0 : Nat → Nat) (d_now_words_C1 : Nat → Nat) (d_now : Nat → Nat) (d_listing : Nat → Nat) (d_now_tests : Nat → Nat) (mono : Value) (PT : va_W) (tq : Nat → Option TV) (snapshotTaken_ : Int32) (inputLength_ : Int32) (now_letters_ : Int32) (now_words_ : Nat → Option Nat) (now_tests_count_ : Int32) (now_tests_members_ : Nat → Option Nat) (now_words_C0_size_ : Int32) (now_words_C1_size_ : Int32) (now_words_C0_letters_ : Nat → Int32) (now_words_C1_letters_ : Nat → Int32) (n : Nat) (v : Int32 × Int32 × Int32 × (Nat → Int64) × (Nat → Int64) × (Nat → Int32) × (Nat → Int32) × Int32) (x : (Int32 × Int32 × Int32 × (Nat → Int64) × (Nat → Int64) × (Nat → Int32) × (Nat → Int32) × Int32) ⊕ (Int32 × Int32 × Int32 × (Nat → Int64) × (Nat → Int64) × (Nat → Int32) × (Nat → Int32))) (hT : TP cy PT tq) (X : Cx p m c cX11_findCollision 2 s args wsX11_findCollision RX11 A D cy (RO_X11_findCollision cy o q_now_words_C0 q_now_words_C1 d d_now_words_C0 d_now_words_C1 d_now d_listing d_now_tests mono PT snapshotTaken_ inputLength_ now_letters_ now_words_ now_tests_count_ now_tests_members_)) (h : loopN (fun v => b_X11_findCollision_9 q_now_words_C0 q_now_words_C1 tq now_letters_ now_tests_count_ now_tests_members_ v.1 v.2.1 v.2.2.1 v.2.2.2.1 v.2.2.2.2.1 v.2.2.2.2.2.1 v.2.2.2.2.2.2.1 v.2.2.2.2.2.2.2) n v = some x) (K : Sum.elim (fun w : Int32 × Int32 × Int32 × (Nat → Int64) × (Nat → Int64) × (Nat → Int32) × (Nat → Int32) × Int32 => ∀ (H : Heap) (locs : List Loc) (ls : Array Slot), St A D s (RW_X11_findCollision cy o q_now_words_C0 q_now_words_C1 d d_now_words_C0 d_now_words_C1 d_now d_listing d_now_tests mono PT now_words_C0_size_ now_words_C1_size_ w.1 w.2.1 w.2.2.1 now_words_C0_letters_ now_words_C1_letters_ w.2.2.2.1 w.2.2.2.2.1 w.2.2.2.2.2.1 w.2.2.2.2.2.2.1) H locs → lv_has ls 2 [(0, .ref o), (1, .int w.2.2.2.2.2.2.2)] → W p l e rm_X11_findCollision s m args below meth c H locs 0 0 Q (F0 m 60 ls [])) (fun w => ∀ (H : Heap) (locs : List Loc) (ls : Array Slot), St A D s (RW_X11_findCollision cy o q_now_words_C0 q_now_words_C1 d d_now_words_C0 d_now_words_C1 d_now d_listing d_now_tests mono PT now_words_C0_size_ now_words_C1_size_ w.1 w.2.1 w.2.2.1 now_words_C0_letters_ now_words_C1_letters_ w.2.2.2.1 w.2.2.2.2.1 w.2.2.2.2.2.1 w.2.2.2.2.2.2) H locs → lv_has ls 2 [] → W p l e rm_X11_findCollision s m args below meth c H locs 0 0 Q (F0 m 122 ls [])) x) : ∀ (H : Heap) (locs : List Loc) (ls : Array Slot), St A D s (RW_X11_findCollision cy o q_now_words_C0 q_now_words_C1 d d_now_words_C0 d_now_words_C1 d_now d_listing d_now_tests mono PT now_words_C0_size_ now_words_C1_size_ v.1 v.2.1 v.2.2.1 now_words_C0_letters_ now_words_C1_letters_ v.2.2.2.1 v.2.2.2.2.1 v.2.2.2.2.2.1 v.2.2.2.2.2.2.1) H locs → lv_has ls 2 [(0, .ref o), (1, .int v.2.2.2.2.2.2.2)] → W p l e rm_X11_findCollision s m args below meth c H locs 0 0 Q (F0 m 9 ls []) :=
  loop_gen (B := (fun v => b_X11_findCollision_9 q_now_words_C0 q_now_words_C1 tq now_letters_ now_tests_count_ now_tests_members_ v.1 v.2.1 v.2.2.1 v.2.2.2.1 v.2.2.2.2.1 v.2.2.2.2.2.1 v.2.2.2.2.2.2.1 v.2.2.2.2.2.2.2)) (Head := fun v : Int32 × Int32 × Int32 × (Nat → Int64) × (Nat → Int64) × (Nat → Int32) × (Nat → Int32) × Int32 => ∀ (H : Heap) (locs : List Loc) (ls : Array Slot), St A D s (RW_X11_findCollision cy o q_now_words_C0 q_now_words_C1 d d_now_words_C0 d_now_words_C1 d_now d_listing d_now_tests mono PT now_words_C0_size_ now_words_C1_size_ v.1 v.2.1 v.2.2.1 now_words_C0_letters_ now_words_C1_letters_ v.2.2.2.1 v.2.2.2.2.1 v.2.2.2.2.2.1 v.2.2.2.2.2.2.1) H locs → lv_has ls 2 [(0, .ref o), (1, .int v.2.2.2.2.2.2.2)] → W p l e rm_X11_findCollision s m args below meth c H locs 0 0 Q (F0 m 9 ls [])) (Exit := fun v : (Int32 × Int32 × Int32 × (Nat → Int64) × (Nat → Int64) × (Nat → Int32) × (Nat → Int32) × Int32) ⊕ (Int32 × Int32 × Int32 × (Nat → Int64) × (Nat → Int64) × (Nat → Int32) × (Nat → Int32)) => Sum.elim (fun w : Int32 × Int32 × Int32 × (Nat → Int64) × (Nat → Int64) × (Nat → Int32) × (Nat → Int32) × Int32 => ∀ (H : Heap) (locs : List Loc) (ls : Array Slot), St A D s (RW_X11_findCollision cy o q_now_words_C0 q_now_words_C1 d d_now_words_C0 d_now_words_C1 d_now d_listing d_now_tests mono PT now_words_C0_size_ now_words_C1_size_ w.1 w.2.1 w.2.2.1 now_words_C0_letters_ now_words_C1_letters_ w.2.2.2.1 w.2.2.2.2.1 w.2.2.2.2.2.1 w.2.2.2.2.2.2.1) H locs → lv_has ls 2 [(0, .ref o), (1, .int w.2.2.2.2.2.2.2)] → W p l e rm_X11_findCollision s m args below meth c H locs 0 0 Q (F0 m 60 ls [])) (fun w => ∀ (H : Heap) (locs : List Loc) (ls : Array Slot), St A D s (RW_X11_findCollision cy o q_now_words_C0 q_now_words_C1 d d_now_words_C0 d_now_words_C1 d_now d_listing d_now_tests mono PT now_words_C0_size_ now_words_C1_size_ w.1 w.2.1 w.2.2.1 now_words_C0_letters_ now_words_C1_letters_ w.2.2.2.1 w.2.2.2.2.1 w.2.2.2.2.2.1 w.2.2.2.2.2.2) H locs → lv_has ls 2 [] → W p l e rm_X11_findCollision s m args below meth c H locs 0 0 Q (F0 m 122 ls [])) v) (fun v o9 hb1 K1 => wb_X11_findCollision_9 o q_now_words_C0 q_now_words_C1 d d_now_words_C0 d_now_words_C1 d_now d_listing d_now_tests mono PT tq snapshotTaken_ inputLength_ now_letters_ now_words_ now_tests_count_ now_tests_members_ now_words_C0_size_ now_words_C1_size_ now_words_C0_letters_ now_words_C1_letters_ v.1 v.2.1 v.2.2.1 v.2.2.2.1 v.2.2.2.2.1 v.2.2.2.2.2.1 v.2.2.2.2.2.2.1 v.2.2.2.2.2.2.2 o9 hT X hb1 K1) n v x h K
def f_X11_findCollision (q_now_words_C0 : Nat) (q_now_words_C1 : Nat) (tq : Nat → Option TV) (now_letters_ : Int32) (now_words_ : Nat → Option Nat) (now_tests_count_ : Int32) (now_tests_members_ : Nat → Option Nat) (now_words_C0_size_ : Int32) (now_words_C1_size_ : Int32) (listing_count_ : Int32) (listing_pairFirst_ : Int32) (listing_pairSecond_ : Int32) (now_words_C0_letters_ : Nat → Int32) (now_words_C1_letters_ : Nat → Int32) (listing_low_ : Nat → Int64) (listing_high_ : Nat → Int64) (listing_signatures_ : Nat → Int32) (listing_slots_ : Nat → Int32) : Option (Int32 × Int32 × Int32 × Int32 × Int32 × Int32 × (Nat → Int32) × (Nat → Int32) × (Nat → Int64) × (Nat → Int64) × (Nat → Int32) × (Nat → Int32)) :=
  (f_X10_start listing_count_ listing_low_ listing_high_).bind (fun u7 =>
  (loopN (fun v => b_X11_findCollision_9 q_now_words_C0 q_now_words_C1 tq now_letters_ now_tests_count_ now_tests_members_ v.1 v.2.1 v.2.2.1 v.2.2.2.1 v.2.2.2.2.1 v.2.2.2.2.2.1 v.2.2.2.2.2.2.1 v.2.2.2.2.2.2.2) FU (u7.1, listing_pairFirst_, listing_pairSecond_, u7.2.1, u7.2.2, listing_signatures_, listing_slots_, (1 : Int32))).bind (fun u9 =>
  Sum.elim (fun u9 =>
  ldA now_words_ 3 (0 : Int32) (fun r12 =>
  asR r12 q_now_words_C0 (
  (f_X9_setListed u9.2.2.2.2.2.2.2 u9.2.1 now_letters_ now_words_C0_size_ now_words_C0_letters_).bind (fun u15 =>
  ldA now_words_ 3 (1 : Int32) (fun r18 =>
  asR r18 q_now_words_C1 (
  (f_X9_setListed u9.2.2.2.2.2.2.2 u9.2.2.1 now_letters_ now_words_C1_size_ now_words_C1_letters_).bind (fun u21 =>
  some (u9.2.2.2.2.2.2.2, u15.1, u21.1, u9.1, u9.2.1, u9.2.2.1, u15.2, u21.2, u9.2.2.2.1, u9.2.2.2.2.1, u9.2.2.2.2.2.1, u9.2.2.2.2.2.2.1)))))))) (fun u9 =>
  some ((-2 : Int32), now_words_C0_size_, now_words_C1_size_, u9.1, u9.2.1, u9.2.2.1, now_words_C0_letters_, now_words_C1_letters_, u9.2.2.2.1, u9.2.2.2.2.1, u9.2.2.2.2.2.1, u9.2.2.2.2.2.2)) u9))
set_option maxHeartbeats 4000000 in
set_option maxRecDepth 100000 in
theorem wt_X11_findCollision {p : Program} {l : Launch} {e : Env} {s : State} {m : MethodId} {args : Array Value} {below : List Frame} {meth : Method} {c : Code} {A : Nat → Prop} {Q : State → Prop} {D : va_G} {cy : Nat → ClassId} (o : Nat) (q_now_words_C0 : Nat) (q_now_words_C1 : Nat) (d : Nat → Nat) (d_now_words_C0 : Nat → Nat) (d_now_words_C1 : Nat → Nat) (d_now : Nat → Nat) (d_listing : Nat → Nat) (d_now_tests : Nat → Nat) (mono : Value) (PT : va_W) (tq : Nat → Option TV) (snapshotTaken_ : Int32) (inputLength_ : Int32) (now_letters_ : Int32) (now_words_ : Nat → Option Nat) (now_tests_count_ : Int32) (now_tests_members_ : Nat → Option Nat) (now_words_C0_size_ : Int32) (now_words_C1_size_ : Int32) (listing_count_ : Int32) (listing_pairFirst_ : Int32) (listing_pairSecond_ : Int32) (now_words_C0_letters_ : Nat → Int32) (now_words_C1_letters_ : Nat → Int32) (listing_low_ : Nat → Int64) (listing_high_ : Nat → Int64) (listing_signatures_ : Nat → Int32) (listing_slots_ : Nat → Int32) (out : Int32 × Int32 × Int32 × Int32 × Int32 × Int32 × (Nat → Int32) × (Nat → Int32) × (Nat → Int64) × (Nat → Int64) × (Nat → Int32) × (Nat → Int32)) (hT : TP cy PT tq) (X : Cx p m c cX11_findCollision 2 s args wsX11_findCollision RX11 A D cy (RO_X11_findCollision cy o q_now_words_C0 q_now_words_C1 d d_now_words_C0 d_now_words_C1 d_now d_listing d_now_tests mono PT snapshotTaken_ inputLength_ now_letters_ now_words_ now_tests_count_ now_tests_members_)) (h : f_X11_findCollision q_now_words_C0 q_now_words_C1 tq now_letters_ now_words_ now_tests_count_ now_tests_members_ now_words_C0_size_ now_words_C1_size_ listing_count_ listing_pairFirst_ listing_pairSecond_ now_words_C0_letters_ now_words_C1_letters_ listing_low_ listing_high_ listing_signatures_ listing_slots_ = some out) (K : ∀ (H : Heap) (locs : List Loc) (ls : Array Slot) (pc : Nat), decode cX11_findCollision pc = .ok (.ireturn, 1) → St A D s (RW_X11_findCollision cy o q_now_words_C0 q_now_words_C1 d d_now_words_C0 d_now_words_C1 d_now d_listing d_now_tests mono PT out.2.1 out.2.2.1 out.2.2.2.1 out.2.2.2.2.1 out.2.2.2.2.2.1 out.2.2.2.2.2.2.1 out.2.2.2.2.2.2.2.1 out.2.2.2.2.2.2.2.2.1 out.2.2.2.2.2.2.2.2.2.1 out.2.2.2.2.2.2.2.2.2.2.1 out.2.2.2.2.2.2.2.2.2.2.2) H locs → W p l e rm_X11_findCollision s m args below meth c H locs 0 0 Q (F0 m pc ls [.int out.1])) : ∀ (H : Heap) (locs : List Loc) (ls : Array Slot), St A D s (RW_X11_findCollision cy o q_now_words_C0 q_now_words_C1 d d_now_words_C0 d_now_words_C1 d_now d_listing d_now_tests mono PT now_words_C0_size_ now_words_C1_size_ listing_count_ listing_pairFirst_ listing_pairSecond_ now_words_C0_letters_ now_words_C1_letters_ listing_low_ listing_high_ listing_signatures_ listing_slots_) H locs → lv_has ls 2 [(0, .ref o)] → W p l e rm_X11_findCollision s m args below meth c H locs 0 0 Q (F0 m 0 ls []) := by
  intro H locs ls Z hl
  have hx := X.1.1
  have hb := X.1.2.1
  unfold f_X11_findCollision at h
  refine lv_aload_n hx hb dX11_findCollision_0 rfl (lv_at hl 0 rfl) ?_
  refine x_getO X Z 0 7 (v := .ref (d 7)) rfl rfl lk_X11_findCollision_X11_listing dX11_findCollision_1 ?_
  obtain ⟨u7, hc8, h⟩ := ob_some h
  refine x_runVv (RW' := (RW_X11_findCollision cy o q_now_words_C0 q_now_words_C1 d d_now_words_C0 d_now_words_C1 d_now d_listing d_now_tests mono PT now_words_C0_size_ now_words_C1_size_ u7.1 listing_pairFirst_ listing_pairSecond_ now_words_C0_letters_ now_words_C1_letters_ u7.2.1 u7.2.2 listing_signatures_ listing_slots_)) (wr := [(q_now_words_C0, ob 8 (oX9 d_now_words_C0 now_words_C0_size_)), (q_now_words_C1, ob 8 (oX9 d_now_words_C1 now_words_C1_size_)), ((d_now_words_C0 0), aI cy 12 now_words_C0_letters_), ((d_now_words_C1 0), aI cy 12 now_words_C1_letters_), ((d_listing 2), aI cy 2187 listing_signatures_), ((d_listing 3), aI cy 4096 listing_slots_)]) (isC := [2, 5, 6]) (isR := [0, 1, 3, 4, 7, 8]) (isF := [0, 1, 6, 2, 3, 7, 8, 4, 5]) (rest := []) (As := []) (n := 0) X Z (c_X10_start l D cy (d 7) d_listing listing_count_ listing_pairFirst_ listing_pairSecond_ listing_low_ listing_high_ u7 hc8) gX11_findCollision_X10_start rfl (by decide +kernel) ⟨Nat.le_of_ble_eq_true rfl, Nat.le_of_ble_eq_true rfl⟩ ⟨rfl, rfl⟩ ⟨Nat.le_of_ble_eq_true rfl, Nat.le_of_ble_eq_true rfl⟩ (x_rv X Z 2 rfl rfl) ⟨rfl, rfl, roN, rfl, rfl, by decide⟩ ⟨rfl, rfl⟩ rfl hl.1 rfl (Nat.le_of_ble_eq_true rfl) dX11_findCollision_4 (fun H locs Z => ?_)
  refine lv_iconst (v := (1 : Int32)) hx hb dX11_findCollision_7 (by decide) ?_
  refine lv_istore_n (lv' := [(1, .int (1 : Int32)), (0, .ref o)]) hx hb dX11_findCollision_8 rfl hl (by decide) rfl (fun ls hl => ?_)
  obtain ⟨u9, hL10, h⟩ := ob_some h
  rcases u9 with u9 | u9
  · replace h := se_l h
    refine wl_X11_findCollision_9 o q_now_words_C0 q_now_words_C1 d d_now_words_C0 d_now_words_C1 d_now d_listing d_now_tests mono PT tq snapshotTaken_ inputLength_ now_letters_ now_words_ now_tests_count_ now_tests_members_ now_words_C0_size_ now_words_C1_size_ now_words_C0_letters_ now_words_C1_letters_ FU (u7.1, listing_pairFirst_, listing_pairSecond_, u7.2.1, u7.2.2, listing_signatures_, listing_slots_, (1 : Int32)) (.inl u9) hT X hL10 (sk_li (fun H locs ls Z hl => ?_)) H locs ls Z (lv_sub hl [1, 0] rfl)
    refine lv_aload_n hx hb dX11_findCollision_60 rfl (lv_at hl 0 rfl) ?_
    refine x_getO X Z 0 0 (v := .ref (d 0)) rfl rfl lk_X11_findCollision_X11_now dX11_findCollision_61 ?_
    refine x_getO X Z 1 1 (v := .ref (d_now 1)) rfl rfl lk_X11_findCollision_X5_words dX11_findCollision_64 ?_
    refine lv_iconst (v := (0 : Int32)) hx hb dX11_findCollision_67 (by decide) ?_
    obtain ⟨hin11, r12, hv13, h⟩ := ld_b h
    obtain ⟨ha14, h⟩ := as_b h
    refine x_raldO X Z 2 5 rfl rfl hin11 hv13 ha14 dX11_findCollision_68 ?_
    refine lv_iload_n hx hb dX11_findCollision_69 rfl (lv_at hl 1 rfl) ?_
    refine lv_aload_n hx hb dX11_findCollision_70 rfl (lv_at hl 0 rfl) ?_
    refine x_getO X Z 0 7 (v := .ref (d 7)) rfl rfl lk_X11_findCollision_X11_listing dX11_findCollision_71 ?_
    refine x_get X Z 2 5 (v := .int u9.2.1) rfl rfl lk_X11_findCollision_X10_pairFirst dX11_findCollision_74 ?_
    refine lv_aload_n hx hb dX11_findCollision_77 rfl (lv_at hl 0 rfl) ?_
    refine x_getO X Z 0 0 (v := .ref (d 0)) rfl rfl lk_X11_findCollision_X11_now dX11_findCollision_78 ?_
    refine x_getO X Z 1 0 (v := .int now_letters_) rfl rfl lk_X11_findCollision_X5_letters dX11_findCollision_81 ?_
    obtain ⟨u15, hc16, h⟩ := ob_some h
    refine x_runVv (RW' := (RW_X11_findCollision cy o q_now_words_C0 q_now_words_C1 d d_now_words_C0 d_now_words_C1 d_now d_listing d_now_tests mono PT u15.1 now_words_C1_size_ u9.1 u9.2.1 u9.2.2.1 u15.2 now_words_C1_letters_ u9.2.2.2.1 u9.2.2.2.2.1 u9.2.2.2.2.2.1 u9.2.2.2.2.2.2.1)) (wr := [(q_now_words_C1, ob 8 (oX9 d_now_words_C1 now_words_C1_size_)), ((d 7), ob 9 (oX10 d_listing u9.1 u9.2.1 u9.2.2.1)), ((d_now_words_C1 0), aI cy 12 now_words_C1_letters_), ((d_listing 0), aJ cy 2187 u9.2.2.2.1), ((d_listing 1), aJ cy 2187 u9.2.2.2.2.1), ((d_listing 2), aI cy 2187 u9.2.2.2.2.2.1), ((d_listing 3), aI cy 4096 u9.2.2.2.2.2.2.1)]) (isC := [0, 3]) (isR := [1, 2, 4, 5, 6, 7, 8]) (isF := [7, 0, 1, 8, 2, 3, 4, 5, 6]) (rest := []) (As := [.int u9.2.2.2.2.2.2.2, .int u9.2.1, .int now_letters_]) (n := 3) X Z (c_X9_setListed l D cy q_now_words_C0 d_now_words_C0 now_words_C0_size_ now_words_C0_letters_ u9.2.2.2.2.2.2.2 u9.2.1 now_letters_ u15 hc16) gX11_findCollision_X9_setListed rfl (by decide +kernel) ⟨Nat.le_of_ble_eq_true rfl, Nat.le_of_ble_eq_true rfl⟩ ⟨rfl, rfl⟩ ⟨Nat.le_of_ble_eq_true rfl, Nat.le_of_ble_eq_true rfl⟩ (x_rv X Z 0 rfl rfl) ⟨rfl, rfl, roN, rfl, rfl, by decide⟩ ⟨rfl, rfl⟩ rfl hl.1 rfl (Nat.le_of_ble_eq_true rfl) dX11_findCollision_84 (fun H locs Z => ?_)
    refine lv_aload_n hx hb dX11_findCollision_87 rfl (lv_at hl 0 rfl) ?_
    refine x_getO X Z 0 0 (v := .ref (d 0)) rfl rfl lk_X11_findCollision_X11_now dX11_findCollision_88 ?_
    refine x_getO X Z 1 1 (v := .ref (d_now 1)) rfl rfl lk_X11_findCollision_X5_words dX11_findCollision_91 ?_
    refine lv_iconst (v := (1 : Int32)) hx hb dX11_findCollision_94 (by decide) ?_
    obtain ⟨hin17, r18, hv19, h⟩ := ld_b h
    obtain ⟨ha20, h⟩ := as_b h
    refine x_raldO X Z 2 5 rfl rfl hin17 hv19 ha20 dX11_findCollision_95 ?_
    refine lv_iload_n hx hb dX11_findCollision_96 rfl (lv_at hl 1 rfl) ?_
    refine lv_aload_n hx hb dX11_findCollision_97 rfl (lv_at hl 0 rfl) ?_
    refine x_getO X Z 0 7 (v := .ref (d 7)) rfl rfl lk_X11_findCollision_X11_listing dX11_findCollision_98 ?_
    refine x_get X Z 2 6 (v := .int u9.2.2.1) rfl rfl lk_X11_findCollision_X10_pairSecond dX11_findCollision_101 ?_
    refine lv_aload_n hx hb dX11_findCollision_104 rfl (lv_at hl 0 rfl) ?_
    refine x_getO X Z 0 0 (v := .ref (d 0)) rfl rfl lk_X11_findCollision_X11_now dX11_findCollision_105 ?_
    refine x_getO X Z 1 0 (v := .int now_letters_) rfl rfl lk_X11_findCollision_X5_letters dX11_findCollision_108 ?_
    obtain ⟨u21, hc22, h⟩ := ob_some h
    refine x_runVv (RW' := (RW_X11_findCollision cy o q_now_words_C0 q_now_words_C1 d d_now_words_C0 d_now_words_C1 d_now d_listing d_now_tests mono PT u15.1 u21.1 u9.1 u9.2.1 u9.2.2.1 u15.2 u21.2 u9.2.2.2.1 u9.2.2.2.2.1 u9.2.2.2.2.2.1 u9.2.2.2.2.2.2.1)) (wr := [(q_now_words_C0, ob 8 (oX9 d_now_words_C0 u15.1)), ((d 7), ob 9 (oX10 d_listing u9.1 u9.2.1 u9.2.2.1)), ((d_now_words_C0 0), aI cy 12 u15.2), ((d_listing 0), aJ cy 2187 u9.2.2.2.1), ((d_listing 1), aJ cy 2187 u9.2.2.2.2.1), ((d_listing 2), aI cy 2187 u9.2.2.2.2.2.1), ((d_listing 3), aI cy 4096 u9.2.2.2.2.2.2.1)]) (isC := [1, 4]) (isR := [0, 2, 3, 5, 6, 7, 8]) (isF := [0, 7, 1, 2, 8, 3, 4, 5, 6]) (rest := []) (As := [.int u9.2.2.2.2.2.2.2, .int u9.2.2.1, .int now_letters_]) (n := 3) X Z (c_X9_setListed l D cy q_now_words_C1 d_now_words_C1 now_words_C1_size_ now_words_C1_letters_ u9.2.2.2.2.2.2.2 u9.2.2.1 now_letters_ u21 hc22) gX11_findCollision_X9_setListed rfl (by decide +kernel) ⟨Nat.le_of_ble_eq_true rfl, Nat.le_of_ble_eq_true rfl⟩ ⟨rfl, rfl⟩ ⟨Nat.le_of_ble_eq_true rfl, Nat.le_of_ble_eq_true rfl⟩ (x_rv X Z 1 rfl rfl) ⟨rfl, rfl, roN, rfl, rfl, by decide⟩ ⟨rfl, rfl⟩ rfl hl.1 rfl (Nat.le_of_ble_eq_true rfl) dX11_findCollision_111 (fun H locs Z => ?_)
    refine lv_iload_n hx hb dX11_findCollision_114 rfl (lv_at hl 1 rfl) ?_
    obtain rfl := Option.some.inj h
    exact K H locs ls _ dX11_findCollision_115 Z
  · replace h := se_r h
    refine wl_X11_findCollision_9 o q_now_words_C0 q_now_words_C1 d d_now_words_C0 d_now_words_C1 d_now d_listing d_now_tests mono PT tq snapshotTaken_ inputLength_ now_letters_ now_words_ now_tests_count_ now_tests_members_ now_words_C0_size_ now_words_C1_size_ now_words_C0_letters_ now_words_C1_letters_ FU (u7.1, listing_pairFirst_, listing_pairSecond_, u7.2.1, u7.2.2, listing_signatures_, listing_slots_, (1 : Int32)) (.inr u9) hT X hL10 (sk_ri (fun H locs ls Z hl => ?_)) H locs ls Z (lv_sub hl [1, 0] rfl)
    refine lv_bipush (v := (-2 : Int32)) hx hb dX11_findCollision_122 (by decide) ?_
    obtain rfl := Option.some.inj h
    exact K H locs ls _ dX11_findCollision_124 Z
theorem c_X11_findCollision (l : Launch) (D : va_G) (cy : Nat → ClassId) (o : Nat) (q_now_words_C0 : Nat) (q_now_words_C1 : Nat) (d : Nat → Nat) (d_now_words_C0 : Nat → Nat) (d_now_words_C1 : Nat → Nat) (d_now : Nat → Nat) (d_listing : Nat → Nat) (d_now_tests : Nat → Nat) (mono : Value) (PT : va_W) (tq : Nat → Option TV) (snapshotTaken_ : Int32) (inputLength_ : Int32) (now_letters_ : Int32) (now_words_ : Nat → Option Nat) (now_tests_count_ : Int32) (now_tests_members_ : Nat → Option Nat) (now_words_C0_size_ : Int32) (now_words_C1_size_ : Int32) (listing_count_ : Int32) (listing_pairFirst_ : Int32) (listing_pairSecond_ : Int32) (now_words_C0_letters_ : Nat → Int32) (now_words_C1_letters_ : Nat → Int32) (listing_low_ : Nat → Int64) (listing_high_ : Nat → Int64) (listing_signatures_ : Nat → Int32) (listing_slots_ : Nat → Int32) (out : Int32 × Int32 × Int32 × Int32 × Int32 × Int32 × (Nat → Int32) × (Nat → Int32) × (Nat → Int64) × (Nat → Int64) × (Nat → Int32) × (Nat → Int32)) (hT : TP cy PT tq) (h : f_X11_findCollision q_now_words_C0 q_now_words_C1 tq now_letters_ now_words_ now_tests_count_ now_tests_members_ now_words_C0_size_ now_words_C1_size_ listing_count_ listing_pairFirst_ listing_pairSecond_ now_words_C0_letters_ now_words_C1_letters_ listing_low_ listing_high_ listing_signatures_ listing_slots_ = some out) : CtI l yX11_findCollision wsX11_findCollision rm_X11_findCollision D cy [.ref o] (RW_X11_findCollision cy o q_now_words_C0 q_now_words_C1 d d_now_words_C0 d_now_words_C1 d_now d_listing d_now_tests mono PT now_words_C0_size_ now_words_C1_size_ listing_count_ listing_pairFirst_ listing_pairSecond_ now_words_C0_letters_ now_words_C1_letters_ listing_low_ listing_high_ listing_signatures_ listing_slots_) (RO_X11_findCollision cy o q_now_words_C0 q_now_words_C1 d d_now_words_C0 d_now_words_C1 d_now d_listing d_now_tests mono PT snapshotTaken_ inputLength_ now_letters_ now_words_ now_tests_count_ now_tests_members_) (RW_X11_findCollision cy o q_now_words_C0 q_now_words_C1 d d_now_words_C0 d_now_words_C1 d_now d_listing d_now_tests mono PT out.2.1 out.2.2.1 out.2.2.2.1 out.2.2.2.2.1 out.2.2.2.2.2.1 out.2.2.2.2.2.2.1 out.2.2.2.2.2.2.2.1 out.2.2.2.2.2.2.2.2.1 out.2.2.2.2.2.2.2.2.2.1 out.2.2.2.2.2.2.2.2.2.2.1 out.2.2.2.2.2.2.2.2.2.2.2) out.1 :=
  mk_i (ty := .int) (by decide) rfl rfl (Nat.le_of_ble_eq_true rfl) (fun p e s m args below meth c A Q X K H locs ls Z hl => wt_X11_findCollision o q_now_words_C0 q_now_words_C1 d d_now_words_C0 d_now_words_C1 d_now d_listing d_now_tests mono PT tq snapshotTaken_ inputLength_ now_letters_ now_words_ now_tests_count_ now_tests_members_ now_words_C0_size_ now_words_C1_size_ listing_count_ listing_pairFirst_ listing_pairSecond_ now_words_C0_letters_ now_words_C1_letters_ listing_low_ listing_high_ listing_signatures_ listing_slots_ out hT X h K H locs ls Z hl)
/-! SubwordCounter$Automaton settle (IJJ)I -/
abbrev rm_X0_settle : Room := { frames := 0, cells := 0, slots := 0, locals := 0 }
def RW_X0_settle (cy : Nat → ClassId) (o : Nat) (d : Nat → Nat) (letters_ : Int32) (states_ : Int32) (low_ : Nat → Int64) (high_ : Nat → Int64) (slots_ : Nat → Int32) : va_W := [(o, ob 0 (oX0 d letters_ states_)), ((d 6), aJ cy 2000 low_), ((d 7), aJ cy 2000 high_), ((d 10), aI cy 4096 slots_)]
def RO_X0_settle (cy : Nat → ClassId) (o : Nat) (d : Nat → Nat)  : va_W := []
theorem in_X0_settle_X0 : ∀ w ∈ u_ws RX0 TX0 13, w ∈ wsX0_settle := fun w h => (List.mem_cons_of_mem _ (List.mem_append_right _ h))
theorem lk_X0_settle_X0_states : Lk wsX0_settle RX0 22 0 2 := ⟨RX0, TX0, 13, rfl, by decide, in_X0_settle_X0, mem_at 1 rfl⟩
theorem lk_X0_settle_X0_slots : Lk wsX0_settle RX0 48 0 10 := ⟨RX0, TX0, 13, rfl, by decide, in_X0_settle_X0, mem_at 2 rfl⟩
theorem lk_X0_settle_X0_low : Lk wsX0_settle RX0 35 0 6 := ⟨RX0, TX0, 13, rfl, by decide, in_X0_settle_X0, mem_at 3 rfl⟩
theorem lk_X0_settle_X0_high : Lk wsX0_settle RX0 39 0 7 := ⟨RX0, TX0, 13, rfl, by decide, in_X0_settle_X0, mem_at 4 rfl⟩
theorem lp_X0_settle_X0_states : Lp wsX0_settle RX0 22 0 2 .int := ⟨RX0, TX0, 13, tyX0, rfl, by decide, in_X0_settle_X0, mem_at 1 rfl, tyX0_ok, nmX0, rfl, by decide +kernel⟩
def f_X0_settle (x1 : Int32) (x2 : Int64) (x4 : Int64) (states_ : Int32) (low_ : Nat → Int64) (high_ : Nat → Int64) (slots_ : Nat → Int32) : Option (Int32 × Int32 × (Nat → Int64) × (Nat → Int64) × (Nat → Int32)) :=
  if states_ < (2000 : Int32) then
  (stA slots_ 4096 x1 states_ (fun slots_2 =>
  stA low_ 2000 states_ x2 (fun low_5 =>
  stA high_ 2000 states_ x4 (fun high_8 =>
  some (((states_ + (1 : Int32)) - (1 : Int32)), (states_ + (1 : Int32)), low_5, high_8, slots_2)))))
  else
  (some ((-1 : Int32), states_, low_, high_, slots_))
set_option maxHeartbeats 4000000 in
set_option maxRecDepth 100000 in
theorem wt_X0_settle {p : Program} {l : Launch} {e : Env} {s : State} {m : MethodId} {args : Array Value} {below : List Frame} {meth : Method} {c : Code} {A : Nat → Prop} {Q : State → Prop} {D : va_G} {cy : Nat → ClassId} (o : Nat) (d : Nat → Nat)  (letters_ : Int32) (states_ : Int32) (low_ : Nat → Int64) (high_ : Nat → Int64) (slots_ : Nat → Int32) (x1 : Int32) (x2 : Int64) (x4 : Int64) (out : Int32 × Int32 × (Nat → Int64) × (Nat → Int64) × (Nat → Int32)) (X : Cx p m c cX0_settle 6 s args wsX0_settle RX0 A D cy (RO_X0_settle cy o d)) (h : f_X0_settle x1 x2 x4 states_ low_ high_ slots_ = some out) (K : ∀ (H : Heap) (locs : List Loc) (ls : Array Slot) (pc : Nat), decode cX0_settle pc = .ok (.ireturn, 1) → St A D s (RW_X0_settle cy o d letters_ out.2.1 out.2.2.1 out.2.2.2.1 out.2.2.2.2) H locs → W p l e rm_X0_settle s m args below meth c H locs 0 0 Q (F0 m pc ls [.int out.1])) : ∀ (H : Heap) (locs : List Loc) (ls : Array Slot), St A D s (RW_X0_settle cy o d letters_ states_ low_ high_ slots_) H locs → lv_has ls 6 [(0, .ref o), (1, .int x1), (2, .long x2), (4, .long x4)] → W p l e rm_X0_settle s m args below meth c H locs 0 0 Q (F0 m 0 ls []) := by
  intro H locs ls Z hl
  have hx := X.1.1
  have hb := X.1.2.1
  unfold f_X0_settle at h
  refine lv_aload_n hx hb dX0_settle_0 rfl (lv_at hl 0 rfl) ?_
  refine x_get X Z 0 2 (v := .int states_) rfl rfl lk_X0_settle_X0_states dX0_settle_1 ?_
  refine lv_sipush (v := (2000 : Int32)) hx hb dX0_settle_4 (by decide) ?_
  refine lv_icmp_lt (tgt := 12) hx hb dX0_settle_7 (by decide) (fun cnd => ?_) (fun cnd => ?_)
  · replace h := ifp h cnd
    refine lv_aload_n hx hb dX0_settle_12 rfl (lv_at hl 0 rfl) ?_
    refine x_get X Z 0 10 (v := .ref (d 10)) rfl rfl lk_X0_settle_X0_slots dX0_settle_13 ?_
    refine lv_iload_n hx hb dX0_settle_16 rfl (lv_at hl 1 rfl) ?_
    refine lv_aload_n hx hb dX0_settle_17 rfl (lv_at hl 0 rfl) ?_
    refine x_get X Z 0 2 (v := .int states_) rfl rfl lk_X0_settle_X0_states dX0_settle_18 ?_
    obtain ⟨hin1, slots_2, hv3, h⟩ := st_b h
    refine x_iast X Z 3 (RW_X0_settle cy o d letters_ states_ low_ high_ slots_2) rfl hin1 hv3 rfl dX0_settle_21 (fun H locs Z => ?_)
    refine lv_aload_n hx hb dX0_settle_22 rfl (lv_at hl 0 rfl) ?_
    refine x_get X Z 0 6 (v := .ref (d 6)) rfl rfl lk_X0_settle_X0_low dX0_settle_23 ?_
    refine lv_aload_n hx hb dX0_settle_26 rfl (lv_at hl 0 rfl) ?_
    refine x_get X Z 0 2 (v := .int states_) rfl rfl lk_X0_settle_X0_states dX0_settle_27 ?_
    refine lv_lload_n hx hb dX0_settle_30 rfl (lv_at hl 2 rfl) ?_
    obtain ⟨hin4, low_5, hv6, h⟩ := st_b h
    refine x_last X Z 1 (RW_X0_settle cy o d letters_ states_ low_5 high_ slots_2) rfl hin4 hv6 rfl dX0_settle_31 (fun H locs Z => ?_)
    refine lv_aload_n hx hb dX0_settle_32 rfl (lv_at hl 0 rfl) ?_
    refine x_get X Z 0 7 (v := .ref (d 7)) rfl rfl lk_X0_settle_X0_high dX0_settle_33 ?_
    refine lv_aload_n hx hb dX0_settle_36 rfl (lv_at hl 0 rfl) ?_
    refine x_get X Z 0 2 (v := .int states_) rfl rfl lk_X0_settle_X0_states dX0_settle_37 ?_
    refine lv_lload hx hb dX0_settle_40 (lv_at hl 3 rfl) ?_
    obtain ⟨hin7, high_8, hv9, h⟩ := st_b h
    refine x_last X Z 2 (RW_X0_settle cy o d letters_ states_ low_5 high_8 slots_2) rfl hin7 hv9 rfl dX0_settle_42 (fun H locs Z => ?_)
    refine lv_aload_n hx hb dX0_settle_43 rfl (lv_at hl 0 rfl) ?_
    refine lv_dup hx hb dX0_settle_44 rfl ?_
    refine x_get X Z 0 2 (v := .int states_) rfl rfl lk_X0_settle_X0_states dX0_settle_45 ?_
    refine lv_iconst (v := (1 : Int32)) hx hb dX0_settle_48 (by decide) ?_
    refine lv_iadd hx hb dX0_settle_49 ?_
    refine x_put X Z 0 2 (RW_X0_settle cy o d letters_ (states_ + (1 : Int32)) low_5 high_8 slots_2) rfl lp_X0_settle_X0_states (Nat.le_of_ble_eq_true rfl) rfl dX0_settle_50 (fun H locs Z => ?_)
    refine lv_aload_n hx hb dX0_settle_53 rfl (lv_at hl 0 rfl) ?_
    refine x_get X Z 0 2 (v := .int (states_ + (1 : Int32))) rfl rfl lk_X0_settle_X0_states dX0_settle_54 ?_
    refine lv_iconst (v := (1 : Int32)) hx hb dX0_settle_57 (by decide) ?_
    refine lv_isub hx hb dX0_settle_58 ?_
    obtain rfl := Option.some.inj h
    exact K H locs ls _ dX0_settle_59 Z
  · replace h := ifn h cnd
    refine lv_iconst (v := (-1 : Int32)) hx hb dX0_settle_10 (by decide) ?_
    obtain rfl := Option.some.inj h
    exact K H locs ls _ dX0_settle_11 Z
theorem c_X0_settle (l : Launch) (D : va_G) (cy : Nat → ClassId) (o : Nat) (d : Nat → Nat)  (letters_ : Int32) (states_ : Int32) (low_ : Nat → Int64) (high_ : Nat → Int64) (slots_ : Nat → Int32) (x1 : Int32) (x2 : Int64) (x4 : Int64) (out : Int32 × Int32 × (Nat → Int64) × (Nat → Int64) × (Nat → Int32)) (h : f_X0_settle x1 x2 x4 states_ low_ high_ slots_ = some out) : CtI l yX0_settle wsX0_settle rm_X0_settle D cy [.ref o, .int x1, .long x2, .long x4] (RW_X0_settle cy o d letters_ states_ low_ high_ slots_) (RO_X0_settle cy o d) (RW_X0_settle cy o d letters_ out.2.1 out.2.2.1 out.2.2.2.1 out.2.2.2.2) out.1 :=
  mk_i (ty := .int) (by decide) rfl rfl (Nat.le_of_ble_eq_true rfl) (fun p e s m args below meth c A Q X K H locs ls Z hl => wt_X0_settle o d letters_ states_ low_ high_ slots_ x1 x2 x4 out X h K H locs ls Z hl)
/-! SubwordCounter$Automaton reach (JJ)I -/
abbrev rm_X0_reach : Room := { frames := 1, cells := 0, slots := 0, locals := 25 }
def RW_X0_reach (cy : Nat → ClassId) (o : Nat) (d : Nat → Nat) (letters_ : Int32) (states_ : Int32) (low_ : Nat → Int64) (high_ : Nat → Int64) (slots_ : Nat → Int32) : va_W := [(o, ob 0 (oX0 d letters_ states_)), ((d 6), aJ cy 2000 low_), ((d 7), aJ cy 2000 high_), ((d 10), aI cy 4096 slots_)]
def RO_X0_reach (cy : Nat → ClassId) (o : Nat) (d : Nat → Nat)  : va_W := []
theorem in_X0_reach_X0 : ∀ w ∈ u_ws RX0 TX0 13, w ∈ wsX0_reach := fun w h => (List.mem_cons_of_mem _ (List.mem_append_right _ h))
theorem lk_X0_reach_X0_slots : Lk wsX0_reach RX0 48 0 10 := ⟨RX0, TX0, 13, rfl, by decide, in_X0_reach_X0, mem_at 4 rfl⟩
theorem lk_X0_reach_X0_low : Lk wsX0_reach RX0 35 0 6 := ⟨RX0, TX0, 13, rfl, by decide, in_X0_reach_X0, mem_at 5 rfl⟩
theorem lk_X0_reach_X0_high : Lk wsX0_reach RX0 39 0 7 := ⟨RX0, TX0, 13, rfl, by decide, in_X0_reach_X0, mem_at 6 rfl⟩
def b_X0_reach_38 (low_ : Nat → Int64) (high_ : Nat → Int64) (slots_ : Nat → Int32) (x1 : Int64) (x3 : Int64) (x7 : Int32)  (x8 : Int32) : Option ((Int32) ⊕ ((Int32) ⊕ (Int32) ⊕ (Unit))) :=
  if (4096 : Int32) ≤ x8 then
  (some (.inr (.inr (.inr ()))))
  else
  (ldA slots_ 4096 ((x7 + x8) &&& (4095 : Int32)) (fun v2 =>
  if 0 ≤ v2 then
  (ldA low_ 2000 v2 (fun v5 =>
  if (lg_cmp v5 x1) = 0 then
  (ldA high_ 2000 v2 (fun v8 =>
  if (lg_cmp v8 x3) = 0 then
  (some (.inr (.inr (.inl v2))))
  else
  (some (.inl (x8 + (1 : Int32))))))
  else
  (some (.inl (x8 + (1 : Int32))))))
  else
  (some (.inr (.inl ((x7 + x8) &&& (4095 : Int32)))))))
set_option maxHeartbeats 4000000 in
set_option maxRecDepth 100000 in
theorem wb_X0_reach_38 {p : Program} {l : Launch} {e : Env} {s : State} {m : MethodId} {args : Array Value} {below : List Frame} {meth : Method} {c : Code} {A : Nat → Prop} {Q : State → Prop} {D : va_G} {cy : Nat → ClassId} (o : Nat) (d : Nat → Nat)  (letters_ : Int32) (states_ : Int32) (low_ : Nat → Int64) (high_ : Nat → Int64) (slots_ : Nat → Int32) (x1 : Int64) (x3 : Int64) (x7 : Int32)  (x8 : Int32) (o1 : (Int32) ⊕ ((Int32) ⊕ (Int32) ⊕ (Unit))) (X : Cx p m c cX0_reach 11 s args wsX0_reach RX0 A D cy (RO_X0_reach cy o d)) (h : b_X0_reach_38 low_ high_ slots_ x1 x3 x7 x8 = some o1) (K : Sum.elim (fun v : Int32 => ∀ (H : Heap) (locs : List Loc) (ls : Array Slot), St A D s (RW_X0_reach cy o d letters_ states_ low_ high_ slots_) H locs → lv_has ls 11 [(0, .ref o), (1, .long x1), (3, .long x3), (7, .int x7), (8, .int v)] → W p l e rm_X0_reach s m args below meth c H locs 0 0 Q (F0 m 38 ls [])) (fun v : (Int32) ⊕ (Int32) ⊕ (Unit) => Sum.elim (fun w : Int32 => ∀ (H : Heap) (locs : List Loc) (ls : Array Slot), St A D s (RW_X0_reach cy o d letters_ states_ low_ high_ slots_) H locs → lv_has ls 11 [(0, .ref o), (1, .long x1), (3, .long x3), (9, .int w)] → W p l e rm_X0_reach s m args below meth c H locs 0 0 Q (F0 m 71 ls [])) (fun w => Sum.elim (fun w : Int32 => ∀ (H : Heap) (locs : List Loc) (ls : Array Slot), St A D s (RW_X0_reach cy o d letters_ states_ low_ high_ slots_) H locs → lv_has ls 11 [(10, .int w)] → W p l e rm_X0_reach s m args below meth c H locs 0 0 Q (F0 m 104 ls [])) (fun w => ∀ (H : Heap) (locs : List Loc) (ls : Array Slot), St A D s (RW_X0_reach cy o d letters_ states_ low_ high_ slots_) H locs → lv_has ls 11 [] → W p l e rm_X0_reach s m args below meth c H locs 0 0 Q (F0 m 113 ls [])) w) v) o1) : ∀ (H : Heap) (locs : List Loc) (ls : Array Slot), St A D s (RW_X0_reach cy o d letters_ states_ low_ high_ slots_) H locs → lv_has ls 11 [(0, .ref o), (1, .long x1), (3, .long x3), (7, .int x7), (8, .int x8)] → W p l e rm_X0_reach s m args below meth c H locs 0 0 Q (F0 m 38 ls []) := by
  intro H locs ls Z hl
  have hx := X.1.1
  have hb := X.1.2.1
  unfold b_X0_reach_38 at h
  refine lv_iload hx hb dX0_reach_38 (lv_at hl 4 rfl) ?_
  refine lv_sipush (v := (4096 : Int32)) hx hb dX0_reach_40 (by decide) ?_
  refine lv_icmp_ge (tgt := 113) hx hb dX0_reach_43 (by decide) (fun cnd => ?_) (fun cnd => ?_)
  · replace h := ifp h cnd
    obtain rfl := Option.some.inj h
    exact (sk_r (sk_r (sk_r K))) H locs ls Z (lv_sub hl [] rfl)
  · replace h := ifn h cnd
    refine lv_iload hx hb dX0_reach_46 (lv_at hl 3 rfl) ?_
    refine lv_iload hx hb dX0_reach_48 (lv_at hl 4 rfl) ?_
    refine lv_iadd hx hb dX0_reach_50 ?_
    refine lv_sipush (v := (4095 : Int32)) hx hb dX0_reach_51 (by decide) ?_
    refine lv_iand hx hb dX0_reach_54 ?_
    refine lv_istore (lv' := [(9, .int ((x7 + x8) &&& (4095 : Int32))), (0, .ref o), (1, .long x1), (3, .long x3), (7, .int x7), (8, .int x8)]) hx hb dX0_reach_55 hl (by decide) rfl (fun ls hl => ?_)
    refine lv_aload_n hx hb dX0_reach_57 rfl (lv_at hl 1 rfl) ?_
    refine x_get X Z 0 10 (v := .ref (d 10)) rfl rfl lk_X0_reach_X0_slots dX0_reach_58 ?_
    refine lv_iload hx hb dX0_reach_61 (lv_at hl 0 rfl) ?_
    obtain ⟨hin1, v2, hv3, h⟩ := ld_b h
    refine x_iald X Z 3 rfl hin1 hv3 dX0_reach_63 ?_
    refine lv_istore (lv' := [(10, .int v2), (9, .int ((x7 + x8) &&& (4095 : Int32))), (0, .ref o), (1, .long x1), (3, .long x3), (7, .int x7), (8, .int x8)]) hx hb dX0_reach_64 hl (by decide) rfl (fun ls hl => ?_)
    refine lv_iload hx hb dX0_reach_66 (lv_at hl 0 rfl) ?_
    refine lv_if_ge (tgt := 80) hx hb dX0_reach_68 (by decide) (fun cnd => ?_) (fun cnd => ?_)
    · replace h := ifp h cnd
      refine lv_aload_n hx hb dX0_reach_80 rfl (lv_at hl 2 rfl) ?_
      refine x_get X Z 0 6 (v := .ref (d 6)) rfl rfl lk_X0_reach_X0_low dX0_reach_81 ?_
      refine lv_iload hx hb dX0_reach_84 (lv_at hl 0 rfl) ?_
      obtain ⟨hin4, v5, hv6, h⟩ := ld_b h
      refine x_lald X Z 1 rfl hin4 hv6 dX0_reach_86 ?_
      refine lv_lload_n hx hb dX0_reach_87 rfl (lv_at hl 3 rfl) ?_
      refine W.lcmp hx hb dX0_reach_88 ?_
      refine lv_if_ne (tgt := 107) hx hb dX0_reach_89 (by decide) (fun cnd => ?_) (fun cnd => ?_)
      · replace h := ifn h cnd
        refine lv_iinc (v := (x8 + (1 : Int32))) (lv' := [(8, .int (x8 + (1 : Int32))), (10, .int v2), (9, .int ((x7 + x8) &&& (4095 : Int32))), (0, .ref o), (1, .long x1), (3, .long x3), (7, .int x7)]) hx hb dX0_reach_107 hl (k := 6) rfl rfl (by decide) rfl (fun ls hl => ?_)
        refine lv_goto (tgt := 38) hx hb dX0_reach_110 (by decide) ?_
        obtain rfl := Option.some.inj h
        exact sk_l K H locs ls Z (lv_sub hl [3, 4, 5, 6, 0] rfl)
      · replace h := ifp h cnd
        refine lv_aload_n hx hb dX0_reach_92 rfl (lv_at hl 2 rfl) ?_
        refine x_get X Z 0 7 (v := .ref (d 7)) rfl rfl lk_X0_reach_X0_high dX0_reach_93 ?_
        refine lv_iload hx hb dX0_reach_96 (lv_at hl 0 rfl) ?_
        obtain ⟨hin7, v8, hv9, h⟩ := ld_b h
        refine x_lald X Z 2 rfl hin7 hv9 dX0_reach_98 ?_
        refine lv_lload_n hx hb dX0_reach_99 rfl (lv_at hl 4 rfl) ?_
        refine W.lcmp hx hb dX0_reach_100 ?_
        refine lv_if_ne (tgt := 107) hx hb dX0_reach_101 (by decide) (fun cnd => ?_) (fun cnd => ?_)
        · replace h := ifn h cnd
          refine lv_iinc (v := (x8 + (1 : Int32))) (lv' := [(8, .int (x8 + (1 : Int32))), (10, .int v2), (9, .int ((x7 + x8) &&& (4095 : Int32))), (0, .ref o), (1, .long x1), (3, .long x3), (7, .int x7)]) hx hb dX0_reach_107 hl (k := 6) rfl rfl (by decide) rfl (fun ls hl => ?_)
          refine lv_goto (tgt := 38) hx hb dX0_reach_110 (by decide) ?_
          obtain rfl := Option.some.inj h
          exact sk_l K H locs ls Z (lv_sub hl [3, 4, 5, 6, 0] rfl)
        · replace h := ifp h cnd
          obtain rfl := Option.some.inj h
          exact (sk_l (sk_r (sk_r K))) H locs ls Z (lv_sub hl [0] rfl)
    · replace h := ifn h cnd
      obtain rfl := Option.some.inj h
      exact (sk_l (sk_r K)) H locs ls Z (lv_sub hl [2, 3, 4, 1] rfl)
set_option maxHeartbeats 4000000 in
set_option maxRecDepth 100000 in
theorem wl_X0_reach_38 {p : Program} {l : Launch} {e : Env} {s : State} {m : MethodId} {args : Array Value} {below : List Frame} {meth : Method} {c : Code} {A : Nat → Prop} {Q : State → Prop} {D : va_G} {cy : Nat → ClassId} (o : Nat) (d : Nat → Nat)  (letters_ : Int32) (states_ : Int32) (low_ : Nat → Int64) (high_ : Nat → Int64) (slots_ : Nat → Int32) (x1 : Int64) (x3 : Int64) (x7 : Int32) (n : Nat) (v : Int32) (x : (Int32) ⊕ (Int32) ⊕ (Unit)) (X : Cx p m c cX0_reach 11 s args wsX0_reach RX0 A D cy (RO_X0_reach cy o d)) (h : loopN (fun v => b_X0_reach_38 low_ high_ slots_ x1 x3 x7 v) n v = some x) (K : Sum.elim (fun w : Int32 => ∀ (H : Heap) (locs : List Loc) (ls : Array Slot), St A D s (RW_X0_reach cy o d letters_ states_ low_ high_ slots_) H locs → lv_has ls 11 [(0, .ref o), (1, .long x1), (3, .long x3), (9, .int w)] → W p l e rm_X0_reach s m args below meth c H locs 0 0 Q (F0 m 71 ls [])) (fun w => Sum.elim (fun w : Int32 => ∀ (H : Heap) (locs : List Loc) (ls : Array Slot), St A D s (RW_X0_reach cy o d letters_ states_ low_ high_ slots_) H locs → lv_has ls 11 [(10, .int w)] → W p l e rm_X0_reach s m args below meth c H locs 0 0 Q (F0 m 104 ls [])) (fun w => ∀ (H : Heap) (locs : List Loc) (ls : Array Slot), St A D s (RW_X0_reach cy o d letters_ states_ low_ high_ slots_) H locs → lv_has ls 11 [] → W p l e rm_X0_reach s m args below meth c H locs 0 0 Q (F0 m 113 ls [])) w) x) : ∀ (H : Heap) (locs : List Loc) (ls : Array Slot), St A D s (RW_X0_reach cy o d letters_ states_ low_ high_ slots_) H locs → lv_has ls 11 [(0, .ref o), (1, .long x1), (3, .long x3), (7, .int x7), (8, .int v)] → W p l e rm_X0_reach s m args below meth c H locs 0 0 Q (F0 m 38 ls []) :=
  loop_gen (B := (fun v => b_X0_reach_38 low_ high_ slots_ x1 x3 x7 v)) (Head := fun v : Int32 => ∀ (H : Heap) (locs : List Loc) (ls : Array Slot), St A D s (RW_X0_reach cy o d letters_ states_ low_ high_ slots_) H locs → lv_has ls 11 [(0, .ref o), (1, .long x1), (3, .long x3), (7, .int x7), (8, .int v)] → W p l e rm_X0_reach s m args below meth c H locs 0 0 Q (F0 m 38 ls [])) (Exit := fun v : (Int32) ⊕ (Int32) ⊕ (Unit) => Sum.elim (fun w : Int32 => ∀ (H : Heap) (locs : List Loc) (ls : Array Slot), St A D s (RW_X0_reach cy o d letters_ states_ low_ high_ slots_) H locs → lv_has ls 11 [(0, .ref o), (1, .long x1), (3, .long x3), (9, .int w)] → W p l e rm_X0_reach s m args below meth c H locs 0 0 Q (F0 m 71 ls [])) (fun w => Sum.elim (fun w : Int32 => ∀ (H : Heap) (locs : List Loc) (ls : Array Slot), St A D s (RW_X0_reach cy o d letters_ states_ low_ high_ slots_) H locs → lv_has ls 11 [(10, .int w)] → W p l e rm_X0_reach s m args below meth c H locs 0 0 Q (F0 m 104 ls [])) (fun w => ∀ (H : Heap) (locs : List Loc) (ls : Array Slot), St A D s (RW_X0_reach cy o d letters_ states_ low_ high_ slots_) H locs → lv_has ls 11 [] → W p l e rm_X0_reach s m args below meth c H locs 0 0 Q (F0 m 113 ls [])) w) v) (fun v o9 hb1 K1 => wb_X0_reach_38 o d letters_ states_ low_ high_ slots_ x1 x3 x7 v o9 X hb1 K1) n v x h K
def f_X0_reach (x1 : Int64) (x3 : Int64) (states_ : Int32) (low_ : Nat → Int64) (high_ : Nat → Int64) (slots_ : Nat → Int32) : Option (Int32 × Int32 × (Nat → Int64) × (Nat → Int64) × (Nat → Int32)) :=
  (loopN (fun v => b_X0_reach_38 low_ high_ slots_ x1 x3 ((ushL ((((x1 * (-7046029254386353131 : Int64)) + (x3 * (-4417276706812531889 : Int64))) ^^^ (ushL ((x1 * (-7046029254386353131 : Int64)) + (x3 * (-4417276706812531889 : Int64))) (29 : Int32))) * (-4658895280553007687 : Int64)) (52 : Int32)).toInt32) v) FU (0 : Int32)).bind (fun u10 =>
  Sum.elim (fun u10 =>
  (f_X0_settle u10 x1 x3 states_ low_ high_ slots_).bind (fun u12 =>
  some (u12.1, u12.2.1, u12.2.2.1, u12.2.2.2.1, u12.2.2.2.2))) (fun u10 =>
  Sum.elim (fun u10 =>
  some (u10, states_, low_, high_, slots_)) (fun u10 =>
  some ((-1 : Int32), states_, low_, high_, slots_)) u10) u10)
set_option maxHeartbeats 4000000 in
set_option maxRecDepth 100000 in
theorem wt_X0_reach {p : Program} {l : Launch} {e : Env} {s : State} {m : MethodId} {args : Array Value} {below : List Frame} {meth : Method} {c : Code} {A : Nat → Prop} {Q : State → Prop} {D : va_G} {cy : Nat → ClassId} (o : Nat) (d : Nat → Nat)  (letters_ : Int32) (states_ : Int32) (low_ : Nat → Int64) (high_ : Nat → Int64) (slots_ : Nat → Int32) (x1 : Int64) (x3 : Int64) (out : Int32 × Int32 × (Nat → Int64) × (Nat → Int64) × (Nat → Int32)) (X : Cx p m c cX0_reach 11 s args wsX0_reach RX0 A D cy (RO_X0_reach cy o d)) (h : f_X0_reach x1 x3 states_ low_ high_ slots_ = some out) (K : ∀ (H : Heap) (locs : List Loc) (ls : Array Slot) (pc : Nat), decode cX0_reach pc = .ok (.ireturn, 1) → St A D s (RW_X0_reach cy o d letters_ out.2.1 out.2.2.1 out.2.2.2.1 out.2.2.2.2) H locs → W p l e rm_X0_reach s m args below meth c H locs 0 0 Q (F0 m pc ls [.int out.1])) : ∀ (H : Heap) (locs : List Loc) (ls : Array Slot), St A D s (RW_X0_reach cy o d letters_ states_ low_ high_ slots_) H locs → lv_has ls 11 [(0, .ref o), (1, .long x1), (3, .long x3)] → W p l e rm_X0_reach s m args below meth c H locs 0 0 Q (F0 m 0 ls []) := by
  intro H locs ls Z hl
  have hx := X.1.1
  have hb := X.1.2.1
  unfold f_X0_reach at h
  refine lv_lload_n hx hb dX0_reach_0 rfl (lv_at hl 1 rfl) ?_
  refine lv_ldc2 (v := (-7046029254386353131 : Int64)) hx hb X.1.2.2.2.1 (X.1.2.2.2.2 _ (mem_at 1 rfl)) dX0_reach_1 ?_
  refine lv_lmul hx hb dX0_reach_4 ?_
  refine lv_lload_n hx hb dX0_reach_5 rfl (lv_at hl 2 rfl) ?_
  refine lv_ldc2 (v := (-4417276706812531889 : Int64)) hx hb X.1.2.2.2.1 (X.1.2.2.2.2 _ (mem_at 2 rfl)) dX0_reach_6 ?_
  refine lv_lmul hx hb dX0_reach_9 ?_
  refine lv_ladd hx hb dX0_reach_10 ?_
  refine lv_lstore (lv' := [(5, .long ((x1 * (-7046029254386353131 : Int64)) + (x3 * (-4417276706812531889 : Int64)))), (0, .ref o), (1, .long x1), (3, .long x3)]) hx hb dX0_reach_11 hl (by decide) rfl (fun ls hl => ?_)
  refine lv_lload hx hb dX0_reach_13 (lv_at hl 0 rfl) ?_
  refine lv_lload hx hb dX0_reach_15 (lv_at hl 0 rfl) ?_
  refine lv_bipush (v := (29 : Int32)) hx hb dX0_reach_17 (by decide) ?_
  refine lv_lushr (v := (ushL ((x1 * (-7046029254386353131 : Int64)) + (x3 * (-4417276706812531889 : Int64))) (29 : Int32))) hx hb dX0_reach_19 rfl ?_
  refine lv_lxor hx hb dX0_reach_20 ?_
  refine lv_ldc2 (v := (-4658895280553007687 : Int64)) hx hb X.1.2.2.2.1 (X.1.2.2.2.2 _ (mem_at 3 rfl)) dX0_reach_21 ?_
  refine lv_lmul hx hb dX0_reach_24 ?_
  refine lv_lstore (lv' := [(5, .long ((((x1 * (-7046029254386353131 : Int64)) + (x3 * (-4417276706812531889 : Int64))) ^^^ (ushL ((x1 * (-7046029254386353131 : Int64)) + (x3 * (-4417276706812531889 : Int64))) (29 : Int32))) * (-4658895280553007687 : Int64))), (0, .ref o), (1, .long x1), (3, .long x3)]) hx hb dX0_reach_25 hl (by decide) rfl (fun ls hl => ?_)
  refine lv_lload hx hb dX0_reach_27 (lv_at hl 0 rfl) ?_
  refine lv_bipush (v := (52 : Int32)) hx hb dX0_reach_29 (by decide) ?_
  refine lv_lushr (v := (ushL ((((x1 * (-7046029254386353131 : Int64)) + (x3 * (-4417276706812531889 : Int64))) ^^^ (ushL ((x1 * (-7046029254386353131 : Int64)) + (x3 * (-4417276706812531889 : Int64))) (29 : Int32))) * (-4658895280553007687 : Int64)) (52 : Int32))) hx hb dX0_reach_31 rfl ?_
  refine lv_l2i (v := ((ushL ((((x1 * (-7046029254386353131 : Int64)) + (x3 * (-4417276706812531889 : Int64))) ^^^ (ushL ((x1 * (-7046029254386353131 : Int64)) + (x3 * (-4417276706812531889 : Int64))) (29 : Int32))) * (-4658895280553007687 : Int64)) (52 : Int32)).toInt32)) hx hb dX0_reach_32 rfl ?_
  refine lv_istore (lv' := [(7, .int ((ushL ((((x1 * (-7046029254386353131 : Int64)) + (x3 * (-4417276706812531889 : Int64))) ^^^ (ushL ((x1 * (-7046029254386353131 : Int64)) + (x3 * (-4417276706812531889 : Int64))) (29 : Int32))) * (-4658895280553007687 : Int64)) (52 : Int32)).toInt32)), (5, .long ((((x1 * (-7046029254386353131 : Int64)) + (x3 * (-4417276706812531889 : Int64))) ^^^ (ushL ((x1 * (-7046029254386353131 : Int64)) + (x3 * (-4417276706812531889 : Int64))) (29 : Int32))) * (-4658895280553007687 : Int64))), (0, .ref o), (1, .long x1), (3, .long x3)]) hx hb dX0_reach_33 hl (by decide) rfl (fun ls hl => ?_)
  refine lv_iconst (v := (0 : Int32)) hx hb dX0_reach_35 (by decide) ?_
  refine lv_istore (lv' := [(8, .int (0 : Int32)), (7, .int ((ushL ((((x1 * (-7046029254386353131 : Int64)) + (x3 * (-4417276706812531889 : Int64))) ^^^ (ushL ((x1 * (-7046029254386353131 : Int64)) + (x3 * (-4417276706812531889 : Int64))) (29 : Int32))) * (-4658895280553007687 : Int64)) (52 : Int32)).toInt32)), (5, .long ((((x1 * (-7046029254386353131 : Int64)) + (x3 * (-4417276706812531889 : Int64))) ^^^ (ushL ((x1 * (-7046029254386353131 : Int64)) + (x3 * (-4417276706812531889 : Int64))) (29 : Int32))) * (-4658895280553007687 : Int64))), (0, .ref o), (1, .long x1), (3, .long x3)]) hx hb dX0_reach_36 hl (by decide) rfl (fun ls hl => ?_)
  obtain ⟨u10, hL11, h⟩ := ob_some h
  rcases u10 with u10 | u10
  · replace h := se_l h
    refine wl_X0_reach_38 o d letters_ states_ low_ high_ slots_ x1 x3 ((ushL ((((x1 * (-7046029254386353131 : Int64)) + (x3 * (-4417276706812531889 : Int64))) ^^^ (ushL ((x1 * (-7046029254386353131 : Int64)) + (x3 * (-4417276706812531889 : Int64))) (29 : Int32))) * (-4658895280553007687 : Int64)) (52 : Int32)).toInt32) FU (0 : Int32) (.inl u10) X hL11 (sk_li (fun H locs ls Z hl => ?_)) H locs ls Z (lv_sub hl [3, 4, 5, 1, 0] rfl)
    refine lv_aload_n hx hb dX0_reach_71 rfl (lv_at hl 0 rfl) ?_
    refine lv_iload hx hb dX0_reach_72 (lv_at hl 3 rfl) ?_
    refine lv_lload_n hx hb dX0_reach_74 rfl (lv_at hl 1 rfl) ?_
    refine lv_lload_n hx hb dX0_reach_75 rfl (lv_at hl 2 rfl) ?_
    obtain ⟨u12, hc13, h⟩ := ob_some h
    refine x_runVi (RW' := (RW_X0_reach cy o d letters_ u12.2.1 u12.2.2.1 u12.2.2.2.1 u12.2.2.2.2)) (wr := []) (isC := [0, 1, 2, 3]) (isR := []) (isF := [0, 1, 2, 3]) (rest := []) (As := [.int u10, .long x1, .long x3]) (n := 3) X Z (c_X0_settle l D cy o d letters_ states_ low_ high_ slots_ u10 x1 x3 u12 hc13) gX0_reach_X0_settle rfl (by decide +kernel) ⟨Nat.le_of_ble_eq_true rfl, Nat.le_of_ble_eq_true rfl⟩ ⟨rfl, rfl⟩ ⟨Nat.le_of_ble_eq_true rfl, Nat.le_of_ble_eq_true rfl⟩ (x_rv X Z 0 rfl rfl) ⟨rfl, rfl, roN, rfl, rfl, by decide⟩ ⟨rfl, rfl⟩ rfl hl.1 rfl (Nat.le_of_ble_eq_true rfl) dX0_reach_76 (fun H locs Z => ?_)
    obtain rfl := Option.some.inj h
    exact K H locs ls _ dX0_reach_79 Z
  · replace h := se_r h
    rcases u10 with u10 | u10
    · replace h := se_l h
      refine wl_X0_reach_38 o d letters_ states_ low_ high_ slots_ x1 x3 ((ushL ((((x1 * (-7046029254386353131 : Int64)) + (x3 * (-4417276706812531889 : Int64))) ^^^ (ushL ((x1 * (-7046029254386353131 : Int64)) + (x3 * (-4417276706812531889 : Int64))) (29 : Int32))) * (-4658895280553007687 : Int64)) (52 : Int32)).toInt32) FU (0 : Int32) (.inr (.inl u10)) X hL11 (sk_ri (sk_li (fun H locs ls Z hl => ?_))) H locs ls Z (lv_sub hl [3, 4, 5, 1, 0] rfl)
      refine lv_iload hx hb dX0_reach_104 (lv_at hl 0 rfl) ?_
      obtain rfl := Option.some.inj h
      exact K H locs ls _ dX0_reach_106 Z
    · replace h := se_r h
      refine wl_X0_reach_38 o d letters_ states_ low_ high_ slots_ x1 x3 ((ushL ((((x1 * (-7046029254386353131 : Int64)) + (x3 * (-4417276706812531889 : Int64))) ^^^ (ushL ((x1 * (-7046029254386353131 : Int64)) + (x3 * (-4417276706812531889 : Int64))) (29 : Int32))) * (-4658895280553007687 : Int64)) (52 : Int32)).toInt32) FU (0 : Int32) (.inr (.inr u10)) X hL11 (sk_ri (sk_ri (fun H locs ls Z hl => ?_))) H locs ls Z (lv_sub hl [3, 4, 5, 1, 0] rfl)
      refine lv_iconst (v := (-1 : Int32)) hx hb dX0_reach_113 (by decide) ?_
      obtain rfl := Option.some.inj h
      exact K H locs ls _ dX0_reach_114 Z
theorem c_X0_reach (l : Launch) (D : va_G) (cy : Nat → ClassId) (o : Nat) (d : Nat → Nat)  (letters_ : Int32) (states_ : Int32) (low_ : Nat → Int64) (high_ : Nat → Int64) (slots_ : Nat → Int32) (x1 : Int64) (x3 : Int64) (out : Int32 × Int32 × (Nat → Int64) × (Nat → Int64) × (Nat → Int32)) (h : f_X0_reach x1 x3 states_ low_ high_ slots_ = some out) : CtI l yX0_reach wsX0_reach rm_X0_reach D cy [.ref o, .long x1, .long x3] (RW_X0_reach cy o d letters_ states_ low_ high_ slots_) (RO_X0_reach cy o d) (RW_X0_reach cy o d letters_ out.2.1 out.2.2.1 out.2.2.2.1 out.2.2.2.2) out.1 :=
  mk_i (ty := .int) (by decide) rfl rfl (Nat.le_of_ble_eq_true rfl) (fun p e s m args below meth c A Q X K H locs ls Z hl => wt_X0_reach o d letters_ states_ low_ high_ slots_ x1 x3 out X h K H locs ls Z hl)
