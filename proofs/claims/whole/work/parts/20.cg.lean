set_option linter.unusedVariables false
/-! SubwordCounter firstWord (II)I -/
abbrev rm_X11_firstWord__e : Room := { frames := 1, cells := 0, slots := 0, locals := 20 }
def RW_X11_firstWord__e (cy : Nat → ClassId) (o : Nat) (d : Nat → Nat) (d_now : Nat → Nat) (mono : Value)  : va_W := []
def RO_X11_firstWord__e (cy : Nat → ClassId) (o : Nat) (d : Nat → Nat) (d_now : Nat → Nat) (mono : Value) (snapshotTaken_ : Int32) (inputLength_ : Int32) (now_letters_ : Int32) (now_languages_ : Nat → Option Nat) : va_W := [(o, ob 10 (oX11 d mono snapshotTaken_ inputLength_)), ((d 0), ob 5 (oX5 d_now now_letters_)), ((d_now 3), aR cy 2 4 now_languages_)]
theorem in_X11_firstWord__e_X11 : ∀ w ∈ u_ws RX11 TX11 12, w ∈ wsX11_firstWord := fun w h => (List.mem_cons_of_mem _ (List.mem_append_left _ (List.mem_append_left _ (List.mem_append_left _ (List.mem_append_left _ (List.mem_append_left _ (List.mem_append_left _ (List.mem_append_right _ h))))))))
theorem lk_X11_firstWord__e_X11_now : Lk wsX11_firstWord RX11 10 10 0 := ⟨RX11, TX11, 12, rfl, by decide, in_X11_firstWord__e_X11, mem_at 1 rfl⟩
theorem in_X11_firstWord__e_X5 : ∀ w ∈ u_ws RX5 TX5 4, w ∈ wsX11_firstWord := fun w h => (List.mem_cons_of_mem _ (List.mem_append_left _ (List.mem_append_left _ (List.mem_append_left _ (List.mem_append_left _ (List.mem_append_left _ (List.mem_append_right _ h)))))))
theorem lk_X11_firstWord__e_X5_languages : Lk wsX11_firstWord RX11 232 5 3 := ⟨RX5, TX5, 4, rfl, by decide, in_X11_firstWord__e_X5, mem_at 2 rfl⟩
def f_X11_firstWord__e (x1 : Int32) (x2 : Int32) (now_languages_ : Nat → Option Nat) : Option (Int32) :=
  (f_X11_isLanguage x1).bind (fun u1 =>
  if u1 = 0 then
  (some (-1 : Int32))
  else
  ((f_X11_isWord x2).bind (fun u3 =>
  if u3 = 0 then
  (some (-1 : Int32))
  else
  (ldA now_languages_ 4 x1 (fun r6 =>
  nlA r6 (
  some (-5 : Int32)) (
  none))))))
set_option maxHeartbeats 4000000 in
set_option maxRecDepth 100000 in
theorem wt_X11_firstWord__e {p : Program} {l : Launch} {e : Env} {s : State} {m : MethodId} {args : Array Value} {below : List Frame} {meth : Method} {c : Code} {A : Nat → Prop} {Q : State → Prop} {D : va_G} {cy : Nat → ClassId} (o : Nat) (d : Nat → Nat) (d_now : Nat → Nat) (mono : Value) (snapshotTaken_ : Int32) (inputLength_ : Int32) (now_letters_ : Int32) (now_languages_ : Nat → Option Nat)  (x1 : Int32) (x2 : Int32) (out : Int32) (X : Cx p m c cX11_firstWord 4 s args wsX11_firstWord RX11 A D cy (RO_X11_firstWord__e cy o d d_now mono snapshotTaken_ inputLength_ now_letters_ now_languages_)) (h : f_X11_firstWord__e x1 x2 now_languages_ = some out) (K : ∀ (H : Heap) (locs : List Loc) (ls : Array Slot) (pc : Nat), decode cX11_firstWord pc = .ok (.ireturn, 1) → St A D s (RW_X11_firstWord__e cy o d d_now mono) H locs → W p l e rm_X11_firstWord__e s m args below meth c H locs 0 0 Q (F0 m pc ls [.int out])) : ∀ (H : Heap) (locs : List Loc) (ls : Array Slot), St A D s (RW_X11_firstWord__e cy o d d_now mono) H locs → lv_has ls 4 [(0, .ref o), (1, .int x1), (2, .int x2)] → W p l e rm_X11_firstWord__e s m args below meth c H locs 0 0 Q (F0 m 0 ls []) := by
  intro H locs ls Z hl
  have hx := X.1.1
  have hb := X.1.2.1
  unfold f_X11_firstWord__e at h
  refine lv_iload_n hx hb dX11_firstWord_0 rfl (lv_at hl 1 rfl) ?_
  obtain ⟨u1, hc2, h⟩ := ob_some h
  refine x_runSi (RW' := (RW_X11_firstWord__e cy o d d_now mono)) (wr := []) (isC := []) (isR := []) (isF := []) (rest := []) (As := [.int x1]) (n := 1) X Z (c_X11_isLanguage l D cy x1 u1 hc2) gX11_firstWord_X11_isLanguage rfl (by decide +kernel) ⟨Nat.le_of_ble_eq_true rfl, Nat.le_of_ble_eq_true rfl⟩ ⟨rfl, rfl⟩ ⟨Nat.le_of_ble_eq_true rfl, Nat.le_of_ble_eq_true rfl⟩ ⟨rfl, rfl, roN, rfl, rfl, by decide⟩ ⟨rfl, rfl⟩ rfl hl.1 rfl (Nat.le_of_ble_eq_true rfl) dX11_firstWord_1 (fun H locs Z => ?_)
  refine lv_if_eq (tgt := 14) hx hb dX11_firstWord_4 (by decide) (fun cnd => ?_) (fun cnd => ?_)
  · replace h := ifp h cnd
    refine lv_iconst (v := (-1 : Int32)) hx hb dX11_firstWord_14 (by decide) ?_
    obtain rfl := Option.some.inj h
    exact K H locs ls _ dX11_firstWord_15 Z
  · replace h := ifn h cnd
    refine lv_iload_n hx hb dX11_firstWord_7 rfl (lv_at hl 2 rfl) ?_
    obtain ⟨u3, hc4, h⟩ := ob_some h
    refine x_runSi (RW' := (RW_X11_firstWord__e cy o d d_now mono)) (wr := []) (isC := []) (isR := []) (isF := []) (rest := []) (As := [.int x2]) (n := 1) X Z (c_X11_isWord l D cy x2 u3 hc4) gX11_firstWord_X11_isWord rfl (by decide +kernel) ⟨Nat.le_of_ble_eq_true rfl, Nat.le_of_ble_eq_true rfl⟩ ⟨rfl, rfl⟩ ⟨Nat.le_of_ble_eq_true rfl, Nat.le_of_ble_eq_true rfl⟩ ⟨rfl, rfl, roN, rfl, rfl, by decide⟩ ⟨rfl, rfl⟩ rfl hl.1 rfl (Nat.le_of_ble_eq_true rfl) dX11_firstWord_8 (fun H locs Z => ?_)
    refine lv_if_ne (tgt := 16) hx hb dX11_firstWord_11 (by decide) (fun cnd => ?_) (fun cnd => ?_)
    · replace h := ifn h cnd
      refine lv_aload_n hx hb dX11_firstWord_16 rfl (lv_at hl 0 rfl) ?_
      refine x_getO X Z 0 0 (v := .ref (d 0)) rfl rfl lk_X11_firstWord__e_X11_now dX11_firstWord_17 ?_
      refine x_getO X Z 1 3 (v := .ref (d_now 3)) rfl rfl lk_X11_firstWord__e_X5_languages dX11_firstWord_20 ?_
      refine lv_iload_n hx hb dX11_firstWord_23 rfl (lv_at hl 1 rfl) ?_
      obtain ⟨hin5, r6, hv7, h⟩ := ld_b h
      refine x_raldqO X Z 2 2 rfl rfl hin5 hv7 dX11_firstWord_24 (fun hr8 => ?_) (fun b9 hr8 => ?_)
      · replace h := nl_n h hr8
        refine lv_astore_nN (lv' := [(3, .null), (0, .ref o), (1, .int x1), (2, .int x2)]) hx hb dX11_firstWord_25 rfl hl (by decide) rfl (fun ls hl => ?_)
        refine lv_aload_nN hx hb dX11_firstWord_26 rfl (lv_at hl 0 rfl) ?_
        refine lv_ifnonnullN hx hb dX11_firstWord_27 ?_
        refine lv_bipush (v := (-5 : Int32)) hx hb dX11_firstWord_30 (by decide) ?_
        obtain rfl := Option.some.inj h
        exact K H locs ls _ dX11_firstWord_32 Z
      · replace h := nl_s h hr8
        refine lv_astore_n (lv' := [(3, .ref b9), (0, .ref o), (1, .int x1), (2, .int x2)]) hx hb dX11_firstWord_25 rfl hl (by decide) rfl (fun ls hl => ?_)
        refine lv_aload_n hx hb dX11_firstWord_26 rfl (lv_at hl 0 rfl) ?_
        refine lv_ifnonnull (tgt := 33) hx hb dX11_firstWord_27 (by decide) ?_
        refine lv_aload_n hx hb dX11_firstWord_33 rfl (lv_at hl 1 rfl) ?_
        refine lv_aload_n hx hb dX11_firstWord_34 rfl (lv_at hl 0 rfl) ?_
        cases h
    · replace h := ifp h cnd
      refine lv_iconst (v := (-1 : Int32)) hx hb dX11_firstWord_14 (by decide) ?_
      obtain rfl := Option.some.inj h
      exact K H locs ls _ dX11_firstWord_15 Z
theorem c_X11_firstWord__e (l : Launch) (D : va_G) (cy : Nat → ClassId) (o : Nat) (d : Nat → Nat) (d_now : Nat → Nat) (mono : Value) (snapshotTaken_ : Int32) (inputLength_ : Int32) (now_letters_ : Int32) (now_languages_ : Nat → Option Nat)  (x1 : Int32) (x2 : Int32) (out : Int32) (h : f_X11_firstWord__e x1 x2 now_languages_ = some out) : CtI l yX11_firstWord wsX11_firstWord rm_X11_firstWord__e D cy [.ref o, .int x1, .int x2] (RW_X11_firstWord__e cy o d d_now mono) (RO_X11_firstWord__e cy o d d_now mono snapshotTaken_ inputLength_ now_letters_ now_languages_) (RW_X11_firstWord__e cy o d d_now mono) out :=
  mk_i (ty := .int) (by decide) rfl rfl (Nat.le_of_ble_eq_true rfl) (fun p e s m args below meth c A Q X K H locs ls Z hl => wt_X11_firstWord__e o d d_now mono snapshotTaken_ inputLength_ now_letters_ now_languages_ x1 x2 out X h K H locs ls Z hl)
/-! SubwordCounter firstDifference (III)I -/
abbrev rm_X11_firstDifference__e : Room := { frames := 1, cells := 0, slots := 0, locals := 20 }
def RW_X11_firstDifference__e (cy : Nat → ClassId) (o : Nat) (d : Nat → Nat) (d_now : Nat → Nat) (mono : Value)  : va_W := []
def RO_X11_firstDifference__e (cy : Nat → ClassId) (o : Nat) (d : Nat → Nat) (d_now : Nat → Nat) (mono : Value) (snapshotTaken_ : Int32) (inputLength_ : Int32) (now_letters_ : Int32) (now_languages_ : Nat → Option Nat) : va_W := [(o, ob 10 (oX11 d mono snapshotTaken_ inputLength_)), ((d 0), ob 5 (oX5 d_now now_letters_)), ((d_now 3), aR cy 2 4 now_languages_)]
theorem in_X11_firstDifference__e_X11 : ∀ w ∈ u_ws RX11 TX11 12, w ∈ wsX11_firstDifference := fun w h => (List.mem_cons_of_mem _ (List.mem_append_left _ (List.mem_append_left _ (List.mem_append_left _ (List.mem_append_left _ (List.mem_append_left _ (List.mem_append_left _ (List.mem_append_right _ h))))))))
theorem lk_X11_firstDifference__e_X11_now : Lk wsX11_firstDifference RX11 10 10 0 := ⟨RX11, TX11, 12, rfl, by decide, in_X11_firstDifference__e_X11, mem_at 1 rfl⟩
theorem in_X11_firstDifference__e_X5 : ∀ w ∈ u_ws RX5 TX5 4, w ∈ wsX11_firstDifference := fun w h => (List.mem_cons_of_mem _ (List.mem_append_left _ (List.mem_append_left _ (List.mem_append_left _ (List.mem_append_left _ (List.mem_append_left _ (List.mem_append_right _ h)))))))
theorem lk_X11_firstDifference__e_X5_languages : Lk wsX11_firstDifference RX11 232 5 3 := ⟨RX5, TX5, 4, rfl, by decide, in_X11_firstDifference__e_X5, mem_at 2 rfl⟩
def f_X11_firstDifference__e (x1 : Int32) (x2 : Int32) (x3 : Int32) (now_languages_ : Nat → Option Nat) : Option (Int32) :=
  (f_X11_isLanguage x1).bind (fun u1 =>
  if u1 = 0 then
  (some (-1 : Int32))
  else
  ((f_X11_isLanguage x2).bind (fun u3 =>
  if u3 = 0 then
  (some (-1 : Int32))
  else
  ((f_X11_isWord x3).bind (fun u5 =>
  if u5 = 0 then
  (some (-1 : Int32))
  else
  (ldA now_languages_ 4 x1 (fun r8 =>
  nlA r8 (
  ldA now_languages_ 4 x2 (fun r13 =>
  nlA r13 (
  some (-5 : Int32)) (
  some (-5 : Int32)))) (
  ldA now_languages_ 4 x2 (fun r18 =>
  nlA r18 (
  some (-5 : Int32)) (
  none))))))))))
set_option maxHeartbeats 4000000 in
set_option maxRecDepth 100000 in
theorem wt_X11_firstDifference__e {p : Program} {l : Launch} {e : Env} {s : State} {m : MethodId} {args : Array Value} {below : List Frame} {meth : Method} {c : Code} {A : Nat → Prop} {Q : State → Prop} {D : va_G} {cy : Nat → ClassId} (o : Nat) (d : Nat → Nat) (d_now : Nat → Nat) (mono : Value) (snapshotTaken_ : Int32) (inputLength_ : Int32) (now_letters_ : Int32) (now_languages_ : Nat → Option Nat)  (x1 : Int32) (x2 : Int32) (x3 : Int32) (out : Int32) (X : Cx p m c cX11_firstDifference 6 s args wsX11_firstDifference RX11 A D cy (RO_X11_firstDifference__e cy o d d_now mono snapshotTaken_ inputLength_ now_letters_ now_languages_)) (h : f_X11_firstDifference__e x1 x2 x3 now_languages_ = some out) (K : ∀ (H : Heap) (locs : List Loc) (ls : Array Slot) (pc : Nat), decode cX11_firstDifference pc = .ok (.ireturn, 1) → St A D s (RW_X11_firstDifference__e cy o d d_now mono) H locs → W p l e rm_X11_firstDifference__e s m args below meth c H locs 0 0 Q (F0 m pc ls [.int out])) : ∀ (H : Heap) (locs : List Loc) (ls : Array Slot), St A D s (RW_X11_firstDifference__e cy o d d_now mono) H locs → lv_has ls 6 [(0, .ref o), (1, .int x1), (2, .int x2), (3, .int x3)] → W p l e rm_X11_firstDifference__e s m args below meth c H locs 0 0 Q (F0 m 0 ls []) := by
  intro H locs ls Z hl
  have hx := X.1.1
  have hb := X.1.2.1
  unfold f_X11_firstDifference__e at h
  refine lv_iload_n hx hb dX11_firstDifference_0 rfl (lv_at hl 1 rfl) ?_
  obtain ⟨u1, hc2, h⟩ := ob_some h
  refine x_runSi (RW' := (RW_X11_firstDifference__e cy o d d_now mono)) (wr := []) (isC := []) (isR := []) (isF := []) (rest := []) (As := [.int x1]) (n := 1) X Z (c_X11_isLanguage l D cy x1 u1 hc2) gX11_firstDifference_X11_isLanguage rfl (by decide +kernel) ⟨Nat.le_of_ble_eq_true rfl, Nat.le_of_ble_eq_true rfl⟩ ⟨rfl, rfl⟩ ⟨Nat.le_of_ble_eq_true rfl, Nat.le_of_ble_eq_true rfl⟩ ⟨rfl, rfl, roN, rfl, rfl, by decide⟩ ⟨rfl, rfl⟩ rfl hl.1 rfl (Nat.le_of_ble_eq_true rfl) dX11_firstDifference_1 (fun H locs Z => ?_)
  refine lv_if_eq (tgt := 21) hx hb dX11_firstDifference_4 (by decide) (fun cnd => ?_) (fun cnd => ?_)
  · replace h := ifp h cnd
    refine lv_iconst (v := (-1 : Int32)) hx hb dX11_firstDifference_21 (by decide) ?_
    obtain rfl := Option.some.inj h
    exact K H locs ls _ dX11_firstDifference_22 Z
  · replace h := ifn h cnd
    refine lv_iload_n hx hb dX11_firstDifference_7 rfl (lv_at hl 2 rfl) ?_
    obtain ⟨u3, hc4, h⟩ := ob_some h
    refine x_runSi (RW' := (RW_X11_firstDifference__e cy o d d_now mono)) (wr := []) (isC := []) (isR := []) (isF := []) (rest := []) (As := [.int x2]) (n := 1) X Z (c_X11_isLanguage l D cy x2 u3 hc4) gX11_firstDifference_X11_isLanguage rfl (by decide +kernel) ⟨Nat.le_of_ble_eq_true rfl, Nat.le_of_ble_eq_true rfl⟩ ⟨rfl, rfl⟩ ⟨Nat.le_of_ble_eq_true rfl, Nat.le_of_ble_eq_true rfl⟩ ⟨rfl, rfl, roN, rfl, rfl, by decide⟩ ⟨rfl, rfl⟩ rfl hl.1 rfl (Nat.le_of_ble_eq_true rfl) dX11_firstDifference_8 (fun H locs Z => ?_)
    refine lv_if_eq (tgt := 21) hx hb dX11_firstDifference_11 (by decide) (fun cnd => ?_) (fun cnd => ?_)
    · replace h := ifp h cnd
      refine lv_iconst (v := (-1 : Int32)) hx hb dX11_firstDifference_21 (by decide) ?_
      obtain rfl := Option.some.inj h
      exact K H locs ls _ dX11_firstDifference_22 Z
    · replace h := ifn h cnd
      refine lv_iload_n hx hb dX11_firstDifference_14 rfl (lv_at hl 3 rfl) ?_
      obtain ⟨u5, hc6, h⟩ := ob_some h
      refine x_runSi (RW' := (RW_X11_firstDifference__e cy o d d_now mono)) (wr := []) (isC := []) (isR := []) (isF := []) (rest := []) (As := [.int x3]) (n := 1) X Z (c_X11_isWord l D cy x3 u5 hc6) gX11_firstDifference_X11_isWord rfl (by decide +kernel) ⟨Nat.le_of_ble_eq_true rfl, Nat.le_of_ble_eq_true rfl⟩ ⟨rfl, rfl⟩ ⟨Nat.le_of_ble_eq_true rfl, Nat.le_of_ble_eq_true rfl⟩ ⟨rfl, rfl, roN, rfl, rfl, by decide⟩ ⟨rfl, rfl⟩ rfl hl.1 rfl (Nat.le_of_ble_eq_true rfl) dX11_firstDifference_15 (fun H locs Z => ?_)
      refine lv_if_ne (tgt := 23) hx hb dX11_firstDifference_18 (by decide) (fun cnd => ?_) (fun cnd => ?_)
      · replace h := ifn h cnd
        refine lv_aload_n hx hb dX11_firstDifference_23 rfl (lv_at hl 0 rfl) ?_
        refine x_getO X Z 0 0 (v := .ref (d 0)) rfl rfl lk_X11_firstDifference__e_X11_now dX11_firstDifference_24 ?_
        refine x_getO X Z 1 3 (v := .ref (d_now 3)) rfl rfl lk_X11_firstDifference__e_X5_languages dX11_firstDifference_27 ?_
        refine lv_iload_n hx hb dX11_firstDifference_30 rfl (lv_at hl 1 rfl) ?_
        obtain ⟨hin7, r8, hv9, h⟩ := ld_b h
        refine x_raldqO X Z 2 2 rfl rfl hin7 hv9 dX11_firstDifference_31 (fun hr10 => ?_) (fun b11 hr10 => ?_)
        · replace h := nl_n h hr10
          refine lv_astoreN (lv' := [(4, .null), (0, .ref o), (1, .int x1), (2, .int x2), (3, .int x3)]) hx hb dX11_firstDifference_32 hl (by decide) rfl (fun ls hl => ?_)
          refine lv_aload_n hx hb dX11_firstDifference_34 rfl (lv_at hl 1 rfl) ?_
          refine x_getO X Z 0 0 (v := .ref (d 0)) rfl rfl lk_X11_firstDifference__e_X11_now dX11_firstDifference_35 ?_
          refine x_getO X Z 1 3 (v := .ref (d_now 3)) rfl rfl lk_X11_firstDifference__e_X5_languages dX11_firstDifference_38 ?_
          refine lv_iload_n hx hb dX11_firstDifference_41 rfl (lv_at hl 3 rfl) ?_
          obtain ⟨hin12, r13, hv14, h⟩ := ld_b h
          refine x_raldqO X Z 2 2 rfl rfl hin12 hv14 dX11_firstDifference_42 (fun hr15 => ?_) (fun b16 hr15 => ?_)
          · replace h := nl_n h hr15
            refine lv_astoreN (lv' := [(5, .null), (4, .null), (0, .ref o), (1, .int x1), (2, .int x2), (3, .int x3)]) hx hb dX11_firstDifference_43 hl (by decide) rfl (fun ls hl => ?_)
            refine lv_aloadN hx hb dX11_firstDifference_45 (lv_at hl 1 rfl) ?_
            refine lv_ifnullN (tgt := 55) hx hb dX11_firstDifference_47 (by decide) ?_
            refine lv_bipush (v := (-5 : Int32)) hx hb dX11_firstDifference_55 (by decide) ?_
            obtain rfl := Option.some.inj h
            exact K H locs ls _ dX11_firstDifference_57 Z
          · replace h := nl_s h hr15
            refine lv_astore (lv' := [(5, .ref b16), (4, .null), (0, .ref o), (1, .int x1), (2, .int x2), (3, .int x3)]) hx hb dX11_firstDifference_43 hl (by decide) rfl (fun ls hl => ?_)
            refine lv_aloadN hx hb dX11_firstDifference_45 (lv_at hl 1 rfl) ?_
            refine lv_ifnullN (tgt := 55) hx hb dX11_firstDifference_47 (by decide) ?_
            refine lv_bipush (v := (-5 : Int32)) hx hb dX11_firstDifference_55 (by decide) ?_
            obtain rfl := Option.some.inj h
            exact K H locs ls _ dX11_firstDifference_57 Z
        · replace h := nl_s h hr10
          refine lv_astore (lv' := [(4, .ref b11), (0, .ref o), (1, .int x1), (2, .int x2), (3, .int x3)]) hx hb dX11_firstDifference_32 hl (by decide) rfl (fun ls hl => ?_)
          refine lv_aload_n hx hb dX11_firstDifference_34 rfl (lv_at hl 1 rfl) ?_
          refine x_getO X Z 0 0 (v := .ref (d 0)) rfl rfl lk_X11_firstDifference__e_X11_now dX11_firstDifference_35 ?_
          refine x_getO X Z 1 3 (v := .ref (d_now 3)) rfl rfl lk_X11_firstDifference__e_X5_languages dX11_firstDifference_38 ?_
          refine lv_iload_n hx hb dX11_firstDifference_41 rfl (lv_at hl 3 rfl) ?_
          obtain ⟨hin17, r18, hv19, h⟩ := ld_b h
          refine x_raldqO X Z 2 2 rfl rfl hin17 hv19 dX11_firstDifference_42 (fun hr20 => ?_) (fun b21 hr20 => ?_)
          · replace h := nl_n h hr20
            refine lv_astoreN (lv' := [(5, .null), (4, .ref b11), (0, .ref o), (1, .int x1), (2, .int x2), (3, .int x3)]) hx hb dX11_firstDifference_43 hl (by decide) rfl (fun ls hl => ?_)
            refine lv_aload hx hb dX11_firstDifference_45 (lv_at hl 1 rfl) ?_
            refine lv_ifnull hx hb dX11_firstDifference_47 ?_
            refine lv_aloadN hx hb dX11_firstDifference_50 (lv_at hl 0 rfl) ?_
            refine lv_ifnonnullN hx hb dX11_firstDifference_52 ?_
            refine lv_bipush (v := (-5 : Int32)) hx hb dX11_firstDifference_55 (by decide) ?_
            obtain rfl := Option.some.inj h
            exact K H locs ls _ dX11_firstDifference_57 Z
          · replace h := nl_s h hr20
            refine lv_astore (lv' := [(5, .ref b21), (4, .ref b11), (0, .ref o), (1, .int x1), (2, .int x2), (3, .int x3)]) hx hb dX11_firstDifference_43 hl (by decide) rfl (fun ls hl => ?_)
            refine lv_aload hx hb dX11_firstDifference_45 (lv_at hl 1 rfl) ?_
            refine lv_ifnull hx hb dX11_firstDifference_47 ?_
            refine lv_aload hx hb dX11_firstDifference_50 (lv_at hl 0 rfl) ?_
            refine lv_ifnonnull (tgt := 58) hx hb dX11_firstDifference_52 (by decide) ?_
            refine lv_aload_n hx hb dX11_firstDifference_58 rfl (lv_at hl 2 rfl) ?_
            refine lv_aload hx hb dX11_firstDifference_59 (lv_at hl 1 rfl) ?_
            refine lv_aload hx hb dX11_firstDifference_61 (lv_at hl 0 rfl) ?_
            cases h
      · replace h := ifp h cnd
        refine lv_iconst (v := (-1 : Int32)) hx hb dX11_firstDifference_21 (by decide) ?_
        obtain rfl := Option.some.inj h
        exact K H locs ls _ dX11_firstDifference_22 Z
theorem c_X11_firstDifference__e (l : Launch) (D : va_G) (cy : Nat → ClassId) (o : Nat) (d : Nat → Nat) (d_now : Nat → Nat) (mono : Value) (snapshotTaken_ : Int32) (inputLength_ : Int32) (now_letters_ : Int32) (now_languages_ : Nat → Option Nat)  (x1 : Int32) (x2 : Int32) (x3 : Int32) (out : Int32) (h : f_X11_firstDifference__e x1 x2 x3 now_languages_ = some out) : CtI l yX11_firstDifference wsX11_firstDifference rm_X11_firstDifference__e D cy [.ref o, .int x1, .int x2, .int x3] (RW_X11_firstDifference__e cy o d d_now mono) (RO_X11_firstDifference__e cy o d d_now mono snapshotTaken_ inputLength_ now_letters_ now_languages_) (RW_X11_firstDifference__e cy o d d_now mono) out :=
  mk_i (ty := .int) (by decide) rfl rfl (Nat.le_of_ble_eq_true rfl) (fun p e s m args below meth c A Q X K H locs ls Z hl => wt_X11_firstDifference__e o d d_now mono snapshotTaken_ inputLength_ now_letters_ now_languages_ x1 x2 x3 out X h K H locs ls Z hl)
/-! SubwordCounter complement (II)I -/
abbrev rm_X11_complement__e : Room := { frames := 1, cells := 0, slots := 0, locals := 20 }
def RW_X11_complement__e (cy : Nat → ClassId) (o : Nat) (d : Nat → Nat) (d_now : Nat → Nat) (mono : Value)  : va_W := []
def RO_X11_complement__e (cy : Nat → ClassId) (o : Nat) (d : Nat → Nat) (d_now : Nat → Nat) (mono : Value) (snapshotTaken_ : Int32) (inputLength_ : Int32) (now_letters_ : Int32) (now_languages_ : Nat → Option Nat) : va_W := [(o, ob 10 (oX11 d mono snapshotTaken_ inputLength_)), ((d 0), ob 5 (oX5 d_now now_letters_)), ((d_now 3), aR cy 2 4 now_languages_)]
theorem in_X11_complement__e_X11 : ∀ w ∈ u_ws RX11 TX11 12, w ∈ wsX11_complement := fun w h => (List.mem_cons_of_mem _ (List.mem_append_left _ (List.mem_append_left _ (List.mem_append_right _ h))))
theorem lk_X11_complement__e_X11_now : Lk wsX11_complement RX11 10 10 0 := ⟨RX11, TX11, 12, rfl, by decide, in_X11_complement__e_X11, mem_at 1 rfl⟩
theorem in_X11_complement__e_X5 : ∀ w ∈ u_ws RX5 TX5 4, w ∈ wsX11_complement := fun w h => (List.mem_cons_of_mem _ (List.mem_append_left _ (List.mem_append_right _ h)))
theorem lk_X11_complement__e_X5_languages : Lk wsX11_complement RX11 232 5 3 := ⟨RX5, TX5, 4, rfl, by decide, in_X11_complement__e_X5, mem_at 2 rfl⟩
def f_X11_complement__e (x1 : Int32) (x2 : Int32) (now_languages_ : Nat → Option Nat) : Option (Int32) :=
  (f_X11_isLanguage x1).bind (fun u1 =>
  if u1 = 0 then
  (some (-1 : Int32))
  else
  ((f_X11_isLanguage x2).bind (fun u3 =>
  if u3 = 0 then
  (some (-1 : Int32))
  else
  (ldA now_languages_ 4 x2 (fun r6 =>
  nlA r6 (
  some (-5 : Int32)) (
  none))))))
set_option maxHeartbeats 4000000 in
set_option maxRecDepth 100000 in
theorem wt_X11_complement__e {p : Program} {l : Launch} {e : Env} {s : State} {m : MethodId} {args : Array Value} {below : List Frame} {meth : Method} {c : Code} {A : Nat → Prop} {Q : State → Prop} {D : va_G} {cy : Nat → ClassId} (o : Nat) (d : Nat → Nat) (d_now : Nat → Nat) (mono : Value) (snapshotTaken_ : Int32) (inputLength_ : Int32) (now_letters_ : Int32) (now_languages_ : Nat → Option Nat)  (x1 : Int32) (x2 : Int32) (out : Int32) (X : Cx p m c cX11_complement 4 s args wsX11_complement RX11 A D cy (RO_X11_complement__e cy o d d_now mono snapshotTaken_ inputLength_ now_letters_ now_languages_)) (h : f_X11_complement__e x1 x2 now_languages_ = some out) (K : ∀ (H : Heap) (locs : List Loc) (ls : Array Slot) (pc : Nat), decode cX11_complement pc = .ok (.ireturn, 1) → St A D s (RW_X11_complement__e cy o d d_now mono) H locs → W p l e rm_X11_complement__e s m args below meth c H locs 0 0 Q (F0 m pc ls [.int out])) : ∀ (H : Heap) (locs : List Loc) (ls : Array Slot), St A D s (RW_X11_complement__e cy o d d_now mono) H locs → lv_has ls 4 [(0, .ref o), (1, .int x1), (2, .int x2)] → W p l e rm_X11_complement__e s m args below meth c H locs 0 0 Q (F0 m 0 ls []) := by
  intro H locs ls Z hl
  have hx := X.1.1
  have hb := X.1.2.1
  unfold f_X11_complement__e at h
  refine lv_iload_n hx hb dX11_complement_0 rfl (lv_at hl 1 rfl) ?_
  obtain ⟨u1, hc2, h⟩ := ob_some h
  refine x_runSi (RW' := (RW_X11_complement__e cy o d d_now mono)) (wr := []) (isC := []) (isR := []) (isF := []) (rest := []) (As := [.int x1]) (n := 1) X Z (c_X11_isLanguage l D cy x1 u1 hc2) gX11_complement_X11_isLanguage rfl (by decide +kernel) ⟨Nat.le_of_ble_eq_true rfl, Nat.le_of_ble_eq_true rfl⟩ ⟨rfl, rfl⟩ ⟨Nat.le_of_ble_eq_true rfl, Nat.le_of_ble_eq_true rfl⟩ ⟨rfl, rfl, roN, rfl, rfl, by decide⟩ ⟨rfl, rfl⟩ rfl hl.1 rfl (Nat.le_of_ble_eq_true rfl) dX11_complement_1 (fun H locs Z => ?_)
  refine lv_if_eq (tgt := 14) hx hb dX11_complement_4 (by decide) (fun cnd => ?_) (fun cnd => ?_)
  · replace h := ifp h cnd
    refine lv_iconst (v := (-1 : Int32)) hx hb dX11_complement_14 (by decide) ?_
    obtain rfl := Option.some.inj h
    exact K H locs ls _ dX11_complement_15 Z
  · replace h := ifn h cnd
    refine lv_iload_n hx hb dX11_complement_7 rfl (lv_at hl 2 rfl) ?_
    obtain ⟨u3, hc4, h⟩ := ob_some h
    refine x_runSi (RW' := (RW_X11_complement__e cy o d d_now mono)) (wr := []) (isC := []) (isR := []) (isF := []) (rest := []) (As := [.int x2]) (n := 1) X Z (c_X11_isLanguage l D cy x2 u3 hc4) gX11_complement_X11_isLanguage rfl (by decide +kernel) ⟨Nat.le_of_ble_eq_true rfl, Nat.le_of_ble_eq_true rfl⟩ ⟨rfl, rfl⟩ ⟨Nat.le_of_ble_eq_true rfl, Nat.le_of_ble_eq_true rfl⟩ ⟨rfl, rfl, roN, rfl, rfl, by decide⟩ ⟨rfl, rfl⟩ rfl hl.1 rfl (Nat.le_of_ble_eq_true rfl) dX11_complement_8 (fun H locs Z => ?_)
    refine lv_if_ne (tgt := 16) hx hb dX11_complement_11 (by decide) (fun cnd => ?_) (fun cnd => ?_)
    · replace h := ifn h cnd
      refine lv_aload_n hx hb dX11_complement_16 rfl (lv_at hl 0 rfl) ?_
      refine x_getO X Z 0 0 (v := .ref (d 0)) rfl rfl lk_X11_complement__e_X11_now dX11_complement_17 ?_
      refine x_getO X Z 1 3 (v := .ref (d_now 3)) rfl rfl lk_X11_complement__e_X5_languages dX11_complement_20 ?_
      refine lv_iload_n hx hb dX11_complement_23 rfl (lv_at hl 2 rfl) ?_
      obtain ⟨hin5, r6, hv7, h⟩ := ld_b h
      refine x_raldqO X Z 2 2 rfl rfl hin5 hv7 dX11_complement_24 (fun hr8 => ?_) (fun b9 hr8 => ?_)
      · replace h := nl_n h hr8
        refine lv_astore_nN (lv' := [(3, .null), (0, .ref o), (1, .int x1), (2, .int x2)]) hx hb dX11_complement_25 rfl hl (by decide) rfl (fun ls hl => ?_)
        refine lv_aload_nN hx hb dX11_complement_26 rfl (lv_at hl 0 rfl) ?_
        refine lv_ifnonnullN hx hb dX11_complement_27 ?_
        refine lv_bipush (v := (-5 : Int32)) hx hb dX11_complement_30 (by decide) ?_
        obtain rfl := Option.some.inj h
        exact K H locs ls _ dX11_complement_32 Z
      · replace h := nl_s h hr8
        refine lv_astore_n (lv' := [(3, .ref b9), (0, .ref o), (1, .int x1), (2, .int x2)]) hx hb dX11_complement_25 rfl hl (by decide) rfl (fun ls hl => ?_)
        refine lv_aload_n hx hb dX11_complement_26 rfl (lv_at hl 0 rfl) ?_
        refine lv_ifnonnull (tgt := 33) hx hb dX11_complement_27 (by decide) ?_
        refine lv_aload_n hx hb dX11_complement_33 rfl (lv_at hl 1 rfl) ?_
        refine x_getO X Z 0 0 (v := .ref (d 0)) rfl rfl lk_X11_complement__e_X11_now dX11_complement_34 ?_
        refine x_getO X Z 1 3 (v := .ref (d_now 3)) rfl rfl lk_X11_complement__e_X5_languages dX11_complement_37 ?_
        refine lv_iload_n hx hb dX11_complement_40 rfl (lv_at hl 2 rfl) ?_
        refine lv_aload_n hx hb dX11_complement_41 rfl (lv_at hl 0 rfl) ?_
        cases h
    · replace h := ifp h cnd
      refine lv_iconst (v := (-1 : Int32)) hx hb dX11_complement_14 (by decide) ?_
      obtain rfl := Option.some.inj h
      exact K H locs ls _ dX11_complement_15 Z
theorem c_X11_complement__e (l : Launch) (D : va_G) (cy : Nat → ClassId) (o : Nat) (d : Nat → Nat) (d_now : Nat → Nat) (mono : Value) (snapshotTaken_ : Int32) (inputLength_ : Int32) (now_letters_ : Int32) (now_languages_ : Nat → Option Nat)  (x1 : Int32) (x2 : Int32) (out : Int32) (h : f_X11_complement__e x1 x2 now_languages_ = some out) : CtI l yX11_complement wsX11_complement rm_X11_complement__e D cy [.ref o, .int x1, .int x2] (RW_X11_complement__e cy o d d_now mono) (RO_X11_complement__e cy o d d_now mono snapshotTaken_ inputLength_ now_letters_ now_languages_) (RW_X11_complement__e cy o d d_now mono) out :=
  mk_i (ty := .int) (by decide) rfl rfl (Nat.le_of_ble_eq_true rfl) (fun p e s m args below meth c A Q X K H locs ls Z hl => wt_X11_complement__e o d d_now mono snapshotTaken_ inputLength_ now_letters_ now_languages_ x1 x2 out X h K H locs ls Z hl)
/-! SubwordCounter combine (IIII)I -/
abbrev rm_X11_combine__e : Room := { frames := 1, cells := 0, slots := 0, locals := 20 }
def RW_X11_combine__e (cy : Nat → ClassId) (o : Nat) (d : Nat → Nat) (d_now : Nat → Nat) (mono : Value)  : va_W := []
def RO_X11_combine__e (cy : Nat → ClassId) (o : Nat) (d : Nat → Nat) (d_now : Nat → Nat) (mono : Value) (snapshotTaken_ : Int32) (inputLength_ : Int32) (now_letters_ : Int32) (now_languages_ : Nat → Option Nat) : va_W := [(o, ob 10 (oX11 d mono snapshotTaken_ inputLength_)), ((d 0), ob 5 (oX5 d_now now_letters_)), ((d_now 3), aR cy 2 4 now_languages_)]
theorem in_X11_combine__e_X11 : ∀ w ∈ u_ws RX11 TX11 12, w ∈ wsX11_combine := fun w h => (List.mem_cons_of_mem _ (List.mem_append_left _ (List.mem_append_left _ (List.mem_append_right _ h))))
theorem lk_X11_combine__e_X11_now : Lk wsX11_combine RX11 10 10 0 := ⟨RX11, TX11, 12, rfl, by decide, in_X11_combine__e_X11, mem_at 1 rfl⟩
theorem in_X11_combine__e_X5 : ∀ w ∈ u_ws RX5 TX5 4, w ∈ wsX11_combine := fun w h => (List.mem_cons_of_mem _ (List.mem_append_left _ (List.mem_append_right _ h)))
theorem lk_X11_combine__e_X5_languages : Lk wsX11_combine RX11 232 5 3 := ⟨RX5, TX5, 4, rfl, by decide, in_X11_combine__e_X5, mem_at 2 rfl⟩
def f_X11_combine__e (x1 : Int32) (x2 : Int32) (x3 : Int32) (x4 : Int32) (now_languages_ : Nat → Option Nat) : Option (Int32) :=
  (f_X11_isLanguage x2).bind (fun u1 =>
  if u1 = 0 then
  (some (-1 : Int32))
  else
  ((f_X11_isLanguage x3).bind (fun u3 =>
  if u3 = 0 then
  (some (-1 : Int32))
  else
  ((f_X11_isLanguage x4).bind (fun u5 =>
  if u5 = 0 then
  (some (-1 : Int32))
  else
  (ldA now_languages_ 4 x3 (fun r8 =>
  nlA r8 (
  ldA now_languages_ 4 x4 (fun r13 =>
  nlA r13 (
  some (-5 : Int32)) (
  some (-5 : Int32)))) (
  ldA now_languages_ 4 x4 (fun r18 =>
  nlA r18 (
  some (-5 : Int32)) (
  none))))))))))
set_option maxHeartbeats 4000000 in
set_option maxRecDepth 100000 in
theorem wt_X11_combine__e {p : Program} {l : Launch} {e : Env} {s : State} {m : MethodId} {args : Array Value} {below : List Frame} {meth : Method} {c : Code} {A : Nat → Prop} {Q : State → Prop} {D : va_G} {cy : Nat → ClassId} (o : Nat) (d : Nat → Nat) (d_now : Nat → Nat) (mono : Value) (snapshotTaken_ : Int32) (inputLength_ : Int32) (now_letters_ : Int32) (now_languages_ : Nat → Option Nat)  (x1 : Int32) (x2 : Int32) (x3 : Int32) (x4 : Int32) (out : Int32) (X : Cx p m c cX11_combine 7 s args wsX11_combine RX11 A D cy (RO_X11_combine__e cy o d d_now mono snapshotTaken_ inputLength_ now_letters_ now_languages_)) (h : f_X11_combine__e x1 x2 x3 x4 now_languages_ = some out) (K : ∀ (H : Heap) (locs : List Loc) (ls : Array Slot) (pc : Nat), decode cX11_combine pc = .ok (.ireturn, 1) → St A D s (RW_X11_combine__e cy o d d_now mono) H locs → W p l e rm_X11_combine__e s m args below meth c H locs 0 0 Q (F0 m pc ls [.int out])) : ∀ (H : Heap) (locs : List Loc) (ls : Array Slot), St A D s (RW_X11_combine__e cy o d d_now mono) H locs → lv_has ls 7 [(0, .ref o), (1, .int x1), (2, .int x2), (3, .int x3), (4, .int x4)] → W p l e rm_X11_combine__e s m args below meth c H locs 0 0 Q (F0 m 0 ls []) := by
  intro H locs ls Z hl
  have hx := X.1.1
  have hb := X.1.2.1
  unfold f_X11_combine__e at h
  refine lv_iload_n hx hb dX11_combine_0 rfl (lv_at hl 2 rfl) ?_
  obtain ⟨u1, hc2, h⟩ := ob_some h
  refine x_runSi (RW' := (RW_X11_combine__e cy o d d_now mono)) (wr := []) (isC := []) (isR := []) (isF := []) (rest := []) (As := [.int x2]) (n := 1) X Z (c_X11_isLanguage l D cy x2 u1 hc2) gX11_combine_X11_isLanguage rfl (by decide +kernel) ⟨Nat.le_of_ble_eq_true rfl, Nat.le_of_ble_eq_true rfl⟩ ⟨rfl, rfl⟩ ⟨Nat.le_of_ble_eq_true rfl, Nat.le_of_ble_eq_true rfl⟩ ⟨rfl, rfl, roN, rfl, rfl, by decide⟩ ⟨rfl, rfl⟩ rfl hl.1 rfl (Nat.le_of_ble_eq_true rfl) dX11_combine_1 (fun H locs Z => ?_)
  refine lv_if_eq (tgt := 22) hx hb dX11_combine_4 (by decide) (fun cnd => ?_) (fun cnd => ?_)
  · replace h := ifp h cnd
    refine lv_iconst (v := (-1 : Int32)) hx hb dX11_combine_22 (by decide) ?_
    obtain rfl := Option.some.inj h
    exact K H locs ls _ dX11_combine_23 Z
  · replace h := ifn h cnd
    refine lv_iload_n hx hb dX11_combine_7 rfl (lv_at hl 3 rfl) ?_
    obtain ⟨u3, hc4, h⟩ := ob_some h
    refine x_runSi (RW' := (RW_X11_combine__e cy o d d_now mono)) (wr := []) (isC := []) (isR := []) (isF := []) (rest := []) (As := [.int x3]) (n := 1) X Z (c_X11_isLanguage l D cy x3 u3 hc4) gX11_combine_X11_isLanguage rfl (by decide +kernel) ⟨Nat.le_of_ble_eq_true rfl, Nat.le_of_ble_eq_true rfl⟩ ⟨rfl, rfl⟩ ⟨Nat.le_of_ble_eq_true rfl, Nat.le_of_ble_eq_true rfl⟩ ⟨rfl, rfl, roN, rfl, rfl, by decide⟩ ⟨rfl, rfl⟩ rfl hl.1 rfl (Nat.le_of_ble_eq_true rfl) dX11_combine_8 (fun H locs Z => ?_)
    refine lv_if_eq (tgt := 22) hx hb dX11_combine_11 (by decide) (fun cnd => ?_) (fun cnd => ?_)
    · replace h := ifp h cnd
      refine lv_iconst (v := (-1 : Int32)) hx hb dX11_combine_22 (by decide) ?_
      obtain rfl := Option.some.inj h
      exact K H locs ls _ dX11_combine_23 Z
    · replace h := ifn h cnd
      refine lv_iload hx hb dX11_combine_14 (lv_at hl 4 rfl) ?_
      obtain ⟨u5, hc6, h⟩ := ob_some h
      refine x_runSi (RW' := (RW_X11_combine__e cy o d d_now mono)) (wr := []) (isC := []) (isR := []) (isF := []) (rest := []) (As := [.int x4]) (n := 1) X Z (c_X11_isLanguage l D cy x4 u5 hc6) gX11_combine_X11_isLanguage rfl (by decide +kernel) ⟨Nat.le_of_ble_eq_true rfl, Nat.le_of_ble_eq_true rfl⟩ ⟨rfl, rfl⟩ ⟨Nat.le_of_ble_eq_true rfl, Nat.le_of_ble_eq_true rfl⟩ ⟨rfl, rfl, roN, rfl, rfl, by decide⟩ ⟨rfl, rfl⟩ rfl hl.1 rfl (Nat.le_of_ble_eq_true rfl) dX11_combine_16 (fun H locs Z => ?_)
      refine lv_if_ne (tgt := 24) hx hb dX11_combine_19 (by decide) (fun cnd => ?_) (fun cnd => ?_)
      · replace h := ifn h cnd
        refine lv_aload_n hx hb dX11_combine_24 rfl (lv_at hl 0 rfl) ?_
        refine x_getO X Z 0 0 (v := .ref (d 0)) rfl rfl lk_X11_combine__e_X11_now dX11_combine_25 ?_
        refine x_getO X Z 1 3 (v := .ref (d_now 3)) rfl rfl lk_X11_combine__e_X5_languages dX11_combine_28 ?_
        refine lv_iload_n hx hb dX11_combine_31 rfl (lv_at hl 3 rfl) ?_
        obtain ⟨hin7, r8, hv9, h⟩ := ld_b h
        refine x_raldqO X Z 2 2 rfl rfl hin7 hv9 dX11_combine_32 (fun hr10 => ?_) (fun b11 hr10 => ?_)
        · replace h := nl_n h hr10
          refine lv_astoreN (lv' := [(5, .null), (0, .ref o), (1, .int x1), (2, .int x2), (3, .int x3), (4, .int x4)]) hx hb dX11_combine_33 hl (by decide) rfl (fun ls hl => ?_)
          refine lv_aload_n hx hb dX11_combine_35 rfl (lv_at hl 1 rfl) ?_
          refine x_getO X Z 0 0 (v := .ref (d 0)) rfl rfl lk_X11_combine__e_X11_now dX11_combine_36 ?_
          refine x_getO X Z 1 3 (v := .ref (d_now 3)) rfl rfl lk_X11_combine__e_X5_languages dX11_combine_39 ?_
          refine lv_iload hx hb dX11_combine_42 (lv_at hl 5 rfl) ?_
          obtain ⟨hin12, r13, hv14, h⟩ := ld_b h
          refine x_raldqO X Z 2 2 rfl rfl hin12 hv14 dX11_combine_44 (fun hr15 => ?_) (fun b16 hr15 => ?_)
          · replace h := nl_n h hr15
            refine lv_astoreN (lv' := [(6, .null), (5, .null), (0, .ref o), (1, .int x1), (2, .int x2), (3, .int x3), (4, .int x4)]) hx hb dX11_combine_45 hl (by decide) rfl (fun ls hl => ?_)
            refine lv_aloadN hx hb dX11_combine_47 (lv_at hl 1 rfl) ?_
            refine lv_ifnullN (tgt := 57) hx hb dX11_combine_49 (by decide) ?_
            refine lv_bipush (v := (-5 : Int32)) hx hb dX11_combine_57 (by decide) ?_
            obtain rfl := Option.some.inj h
            exact K H locs ls _ dX11_combine_59 Z
          · replace h := nl_s h hr15
            refine lv_astore (lv' := [(6, .ref b16), (5, .null), (0, .ref o), (1, .int x1), (2, .int x2), (3, .int x3), (4, .int x4)]) hx hb dX11_combine_45 hl (by decide) rfl (fun ls hl => ?_)
            refine lv_aloadN hx hb dX11_combine_47 (lv_at hl 1 rfl) ?_
            refine lv_ifnullN (tgt := 57) hx hb dX11_combine_49 (by decide) ?_
            refine lv_bipush (v := (-5 : Int32)) hx hb dX11_combine_57 (by decide) ?_
            obtain rfl := Option.some.inj h
            exact K H locs ls _ dX11_combine_59 Z
        · replace h := nl_s h hr10
          refine lv_astore (lv' := [(5, .ref b11), (0, .ref o), (1, .int x1), (2, .int x2), (3, .int x3), (4, .int x4)]) hx hb dX11_combine_33 hl (by decide) rfl (fun ls hl => ?_)
          refine lv_aload_n hx hb dX11_combine_35 rfl (lv_at hl 1 rfl) ?_
          refine x_getO X Z 0 0 (v := .ref (d 0)) rfl rfl lk_X11_combine__e_X11_now dX11_combine_36 ?_
          refine x_getO X Z 1 3 (v := .ref (d_now 3)) rfl rfl lk_X11_combine__e_X5_languages dX11_combine_39 ?_
          refine lv_iload hx hb dX11_combine_42 (lv_at hl 5 rfl) ?_
          obtain ⟨hin17, r18, hv19, h⟩ := ld_b h
          refine x_raldqO X Z 2 2 rfl rfl hin17 hv19 dX11_combine_44 (fun hr20 => ?_) (fun b21 hr20 => ?_)
          · replace h := nl_n h hr20
            refine lv_astoreN (lv' := [(6, .null), (5, .ref b11), (0, .ref o), (1, .int x1), (2, .int x2), (3, .int x3), (4, .int x4)]) hx hb dX11_combine_45 hl (by decide) rfl (fun ls hl => ?_)
            refine lv_aload hx hb dX11_combine_47 (lv_at hl 1 rfl) ?_
            refine lv_ifnull hx hb dX11_combine_49 ?_
            refine lv_aloadN hx hb dX11_combine_52 (lv_at hl 0 rfl) ?_
            refine lv_ifnonnullN hx hb dX11_combine_54 ?_
            refine lv_bipush (v := (-5 : Int32)) hx hb dX11_combine_57 (by decide) ?_
            obtain rfl := Option.some.inj h
            exact K H locs ls _ dX11_combine_59 Z
          · replace h := nl_s h hr20
            refine lv_astore (lv' := [(6, .ref b21), (5, .ref b11), (0, .ref o), (1, .int x1), (2, .int x2), (3, .int x3), (4, .int x4)]) hx hb dX11_combine_45 hl (by decide) rfl (fun ls hl => ?_)
            refine lv_aload hx hb dX11_combine_47 (lv_at hl 1 rfl) ?_
            refine lv_ifnull hx hb dX11_combine_49 ?_
            refine lv_aload hx hb dX11_combine_52 (lv_at hl 0 rfl) ?_
            refine lv_ifnonnull (tgt := 60) hx hb dX11_combine_54 (by decide) ?_
            refine lv_aload hx hb dX11_combine_60 (lv_at hl 1 rfl) ?_
            cases h
      · replace h := ifp h cnd
        refine lv_iconst (v := (-1 : Int32)) hx hb dX11_combine_22 (by decide) ?_
        obtain rfl := Option.some.inj h
        exact K H locs ls _ dX11_combine_23 Z
theorem c_X11_combine__e (l : Launch) (D : va_G) (cy : Nat → ClassId) (o : Nat) (d : Nat → Nat) (d_now : Nat → Nat) (mono : Value) (snapshotTaken_ : Int32) (inputLength_ : Int32) (now_letters_ : Int32) (now_languages_ : Nat → Option Nat)  (x1 : Int32) (x2 : Int32) (x3 : Int32) (x4 : Int32) (out : Int32) (h : f_X11_combine__e x1 x2 x3 x4 now_languages_ = some out) : CtI l yX11_combine wsX11_combine rm_X11_combine__e D cy [.ref o, .int x1, .int x2, .int x3, .int x4] (RW_X11_combine__e cy o d d_now mono) (RO_X11_combine__e cy o d d_now mono snapshotTaken_ inputLength_ now_letters_ now_languages_) (RW_X11_combine__e cy o d d_now mono) out :=
  mk_i (ty := .int) (by decide) rfl rfl (Nat.le_of_ble_eq_true rfl) (fun p e s m args below meth c A Q X K H locs ls Z hl => wt_X11_combine__e o d d_now mono snapshotTaken_ inputLength_ now_letters_ now_languages_ x1 x2 x3 x4 out X h K H locs ls Z hl)
/-! SubwordCounter fillCounts (II)I -/
abbrev rm_X11_fillCounts__e : Room := { frames := 1, cells := 0, slots := 0, locals := 20 }
def RW_X11_fillCounts__e (cy : Nat → ClassId) (o : Nat) (q_rows_L1 : Nat) (d : Nat → Nat) (d_rows_L1 : Nat → Nat) (d_now : Nat → Nat) (mono : Value)  : va_W := []
def RO_X11_fillCounts__e (cy : Nat → ClassId) (o : Nat) (q_rows_L1 : Nat) (d : Nat → Nat) (d_rows_L1 : Nat → Nat) (d_now : Nat → Nat) (mono : Value) (snapshotTaken_ : Int32) (inputLength_ : Int32) (rows_L1_type_ : Int32) (rows_L1_size_ : Int32) (now_letters_ : Int32) (rows_ : Nat → Option Nat) (now_languages_ : Nat → Option Nat) : va_W := [(o, ob 10 (oX11 d mono snapshotTaken_ inputLength_)), (q_rows_L1, ob 6 (oX6 d_rows_L1 rows_L1_type_ rows_L1_size_)), ((d 0), ob 5 (oX5 d_now now_letters_)), ((d 5), aR cy 3 3 rows_), ((d_now 3), aR cy 2 4 now_languages_)]
theorem in_X11_fillCounts__e_X11 : ∀ w ∈ u_ws RX11 TX11 12, w ∈ wsX11_fillCounts := fun w h => (List.mem_cons_of_mem _ (List.mem_append_left _ (List.mem_append_left _ (List.mem_append_left _ (List.mem_append_left _ (List.mem_append_left _ (List.mem_append_left _ (List.mem_append_right _ h))))))))
theorem lk_X11_fillCounts__e_X11_now : Lk wsX11_fillCounts RX11 10 10 0 := ⟨RX11, TX11, 12, rfl, by decide, in_X11_fillCounts__e_X11, mem_at 1 rfl⟩
theorem in_X11_fillCounts__e_X5 : ∀ w ∈ u_ws RX5 TX5 4, w ∈ wsX11_fillCounts := fun w h => (List.mem_cons_of_mem _ (List.mem_append_left _ (List.mem_append_left _ (List.mem_append_left _ (List.mem_append_left _ (List.mem_append_left _ (List.mem_append_right _ h)))))))
theorem lk_X11_fillCounts__e_X5_languages : Lk wsX11_fillCounts RX11 232 5 3 := ⟨RX5, TX5, 4, rfl, by decide, in_X11_fillCounts__e_X5, mem_at 2 rfl⟩
theorem lk_X11_fillCounts__e_X11_rows : Lk wsX11_fillCounts RX11 33 10 5 := ⟨RX11, TX11, 12, rfl, by decide, in_X11_fillCounts__e_X11, mem_at 3 rfl⟩
theorem in_X11_fillCounts__e_X6 : ∀ w ∈ u_ws RX6 TX6 3, w ∈ wsX11_fillCounts := fun w h => (List.mem_cons_of_mem _ (List.mem_append_left _ (List.mem_append_left _ (List.mem_append_left _ (List.mem_append_left _ (List.mem_append_right _ h))))))
theorem lk_X11_fillCounts__e_X6_type : Lk wsX11_fillCounts RX11 287 6 0 := ⟨RX6, TX6, 3, rfl, by decide, in_X11_fillCounts__e_X6, mem_at 4 rfl⟩
def f_X11_fillCounts__e (x1 : Int32) (x2 : Int32) (q_rows_L1 : Nat) (rows_L1_type_ : Int32) (rows_ : Nat → Option Nat) (now_languages_ : Nat → Option Nat) : Option (Int32) :=
  (f_X11_isRow x1).bind (fun u1 =>
  if u1 = 0 then
  (some (-1 : Int32))
  else
  ((f_X11_isLanguage x2).bind (fun u3 =>
  if u3 = 0 then
  (some (-1 : Int32))
  else
  (ldA now_languages_ 4 x2 (fun r6 =>
  nlA r6 (
  some (-5 : Int32)) (
  ldA rows_ 3 x1 (fun r11 =>
  asR r11 q_rows_L1 (
  if rows_L1_type_ = (-1 : Int32) then
  (some (-11 : Int32))
  else
  (none)))))))))
set_option maxHeartbeats 4000000 in
set_option maxRecDepth 100000 in
theorem wt_X11_fillCounts__e {p : Program} {l : Launch} {e : Env} {s : State} {m : MethodId} {args : Array Value} {below : List Frame} {meth : Method} {c : Code} {A : Nat → Prop} {Q : State → Prop} {D : va_G} {cy : Nat → ClassId} (o : Nat) (q_rows_L1 : Nat) (d : Nat → Nat) (d_rows_L1 : Nat → Nat) (d_now : Nat → Nat) (mono : Value) (snapshotTaken_ : Int32) (inputLength_ : Int32) (rows_L1_type_ : Int32) (rows_L1_size_ : Int32) (now_letters_ : Int32) (rows_ : Nat → Option Nat) (now_languages_ : Nat → Option Nat)  (x1 : Int32) (x2 : Int32) (out : Int32) (X : Cx p m c cX11_fillCounts 6 s args wsX11_fillCounts RX11 A D cy (RO_X11_fillCounts__e cy o q_rows_L1 d d_rows_L1 d_now mono snapshotTaken_ inputLength_ rows_L1_type_ rows_L1_size_ now_letters_ rows_ now_languages_)) (h : f_X11_fillCounts__e x1 x2 q_rows_L1 rows_L1_type_ rows_ now_languages_ = some out) (K : ∀ (H : Heap) (locs : List Loc) (ls : Array Slot) (pc : Nat), decode cX11_fillCounts pc = .ok (.ireturn, 1) → St A D s (RW_X11_fillCounts__e cy o q_rows_L1 d d_rows_L1 d_now mono) H locs → W p l e rm_X11_fillCounts__e s m args below meth c H locs 0 0 Q (F0 m pc ls [.int out])) : ∀ (H : Heap) (locs : List Loc) (ls : Array Slot), St A D s (RW_X11_fillCounts__e cy o q_rows_L1 d d_rows_L1 d_now mono) H locs → lv_has ls 6 [(0, .ref o), (1, .int x1), (2, .int x2)] → W p l e rm_X11_fillCounts__e s m args below meth c H locs 0 0 Q (F0 m 0 ls []) := by
  intro H locs ls Z hl
  have hx := X.1.1
  have hb := X.1.2.1
  unfold f_X11_fillCounts__e at h
  refine lv_iload_n hx hb dX11_fillCounts_0 rfl (lv_at hl 1 rfl) ?_
  obtain ⟨u1, hc2, h⟩ := ob_some h
  refine x_runSi (RW' := (RW_X11_fillCounts__e cy o q_rows_L1 d d_rows_L1 d_now mono)) (wr := []) (isC := []) (isR := []) (isF := []) (rest := []) (As := [.int x1]) (n := 1) X Z (c_X11_isRow l D cy x1 u1 hc2) gX11_fillCounts_X11_isRow rfl (by decide +kernel) ⟨Nat.le_of_ble_eq_true rfl, Nat.le_of_ble_eq_true rfl⟩ ⟨rfl, rfl⟩ ⟨Nat.le_of_ble_eq_true rfl, Nat.le_of_ble_eq_true rfl⟩ ⟨rfl, rfl, roN, rfl, rfl, by decide⟩ ⟨rfl, rfl⟩ rfl hl.1 rfl (Nat.le_of_ble_eq_true rfl) dX11_fillCounts_1 (fun H locs Z => ?_)
  refine lv_if_eq (tgt := 14) hx hb dX11_fillCounts_4 (by decide) (fun cnd => ?_) (fun cnd => ?_)
  · replace h := ifp h cnd
    refine lv_iconst (v := (-1 : Int32)) hx hb dX11_fillCounts_14 (by decide) ?_
    obtain rfl := Option.some.inj h
    exact K H locs ls _ dX11_fillCounts_15 Z
  · replace h := ifn h cnd
    refine lv_iload_n hx hb dX11_fillCounts_7 rfl (lv_at hl 2 rfl) ?_
    obtain ⟨u3, hc4, h⟩ := ob_some h
    refine x_runSi (RW' := (RW_X11_fillCounts__e cy o q_rows_L1 d d_rows_L1 d_now mono)) (wr := []) (isC := []) (isR := []) (isF := []) (rest := []) (As := [.int x2]) (n := 1) X Z (c_X11_isLanguage l D cy x2 u3 hc4) gX11_fillCounts_X11_isLanguage rfl (by decide +kernel) ⟨Nat.le_of_ble_eq_true rfl, Nat.le_of_ble_eq_true rfl⟩ ⟨rfl, rfl⟩ ⟨Nat.le_of_ble_eq_true rfl, Nat.le_of_ble_eq_true rfl⟩ ⟨rfl, rfl, roN, rfl, rfl, by decide⟩ ⟨rfl, rfl⟩ rfl hl.1 rfl (Nat.le_of_ble_eq_true rfl) dX11_fillCounts_8 (fun H locs Z => ?_)
    refine lv_if_ne (tgt := 16) hx hb dX11_fillCounts_11 (by decide) (fun cnd => ?_) (fun cnd => ?_)
    · replace h := ifn h cnd
      refine lv_aload_n hx hb dX11_fillCounts_16 rfl (lv_at hl 0 rfl) ?_
      refine x_getO X Z 0 0 (v := .ref (d 0)) rfl rfl lk_X11_fillCounts__e_X11_now dX11_fillCounts_17 ?_
      refine x_getO X Z 2 3 (v := .ref (d_now 3)) rfl rfl lk_X11_fillCounts__e_X5_languages dX11_fillCounts_20 ?_
      refine lv_iload_n hx hb dX11_fillCounts_23 rfl (lv_at hl 2 rfl) ?_
      obtain ⟨hin5, r6, hv7, h⟩ := ld_b h
      refine x_raldqO X Z 4 2 rfl rfl hin5 hv7 dX11_fillCounts_24 (fun hr8 => ?_) (fun b9 hr8 => ?_)
      · replace h := nl_n h hr8
        refine lv_astore_nN (lv' := [(3, .null), (0, .ref o), (1, .int x1), (2, .int x2)]) hx hb dX11_fillCounts_25 rfl hl (by decide) rfl (fun ls hl => ?_)
        refine lv_aload_nN hx hb dX11_fillCounts_26 rfl (lv_at hl 0 rfl) ?_
        refine lv_ifnonnullN hx hb dX11_fillCounts_27 ?_
        refine lv_bipush (v := (-5 : Int32)) hx hb dX11_fillCounts_30 (by decide) ?_
        obtain rfl := Option.some.inj h
        exact K H locs ls _ dX11_fillCounts_32 Z
      · replace h := nl_s h hr8
        refine lv_astore_n (lv' := [(3, .ref b9), (0, .ref o), (1, .int x1), (2, .int x2)]) hx hb dX11_fillCounts_25 rfl hl (by decide) rfl (fun ls hl => ?_)
        refine lv_aload_n hx hb dX11_fillCounts_26 rfl (lv_at hl 0 rfl) ?_
        refine lv_ifnonnull (tgt := 33) hx hb dX11_fillCounts_27 (by decide) ?_
        refine lv_aload_n hx hb dX11_fillCounts_33 rfl (lv_at hl 1 rfl) ?_
        refine x_getO X Z 0 5 (v := .ref (d 5)) rfl rfl lk_X11_fillCounts__e_X11_rows dX11_fillCounts_34 ?_
        refine lv_iload_n hx hb dX11_fillCounts_37 rfl (lv_at hl 2 rfl) ?_
        obtain ⟨hin10, r11, hv12, h⟩ := ld_b h
        obtain ⟨ha13, h⟩ := as_b h
        refine x_raldO X Z 3 3 rfl rfl hin10 hv12 ha13 dX11_fillCounts_38 ?_
        refine lv_astore (lv' := [(4, .ref q_rows_L1), (3, .ref b9), (0, .ref o), (1, .int x1), (2, .int x2)]) hx hb dX11_fillCounts_39 hl (by decide) rfl (fun ls hl => ?_)
        refine lv_aload hx hb dX11_fillCounts_41 (lv_at hl 0 rfl) ?_
        refine x_getO X Z 1 0 (v := .int rows_L1_type_) rfl rfl lk_X11_fillCounts__e_X6_type dX11_fillCounts_43 ?_
        refine lv_iconst (v := (-1 : Int32)) hx hb dX11_fillCounts_46 (by decide) ?_
        refine lv_icmp_ne (tgt := 53) hx hb dX11_fillCounts_47 (by decide) (fun cnd => ?_) (fun cnd => ?_)
        · replace h := ifn h cnd
          refine lv_aload_n hx hb dX11_fillCounts_53 rfl (lv_at hl 2 rfl) ?_
          refine lv_aload_n hx hb dX11_fillCounts_54 rfl (lv_at hl 1 rfl) ?_
          cases h
        · replace h := ifp h cnd
          refine lv_bipush (v := (-11 : Int32)) hx hb dX11_fillCounts_50 (by decide) ?_
          obtain rfl := Option.some.inj h
          exact K H locs ls _ dX11_fillCounts_52 Z
    · replace h := ifp h cnd
      refine lv_iconst (v := (-1 : Int32)) hx hb dX11_fillCounts_14 (by decide) ?_
      obtain rfl := Option.some.inj h
      exact K H locs ls _ dX11_fillCounts_15 Z
theorem c_X11_fillCounts__e (l : Launch) (D : va_G) (cy : Nat → ClassId) (o : Nat) (q_rows_L1 : Nat) (d : Nat → Nat) (d_rows_L1 : Nat → Nat) (d_now : Nat → Nat) (mono : Value) (snapshotTaken_ : Int32) (inputLength_ : Int32) (rows_L1_type_ : Int32) (rows_L1_size_ : Int32) (now_letters_ : Int32) (rows_ : Nat → Option Nat) (now_languages_ : Nat → Option Nat)  (x1 : Int32) (x2 : Int32) (out : Int32) (h : f_X11_fillCounts__e x1 x2 q_rows_L1 rows_L1_type_ rows_ now_languages_ = some out) : CtI l yX11_fillCounts wsX11_fillCounts rm_X11_fillCounts__e D cy [.ref o, .int x1, .int x2] (RW_X11_fillCounts__e cy o q_rows_L1 d d_rows_L1 d_now mono) (RO_X11_fillCounts__e cy o q_rows_L1 d d_rows_L1 d_now mono snapshotTaken_ inputLength_ rows_L1_type_ rows_L1_size_ now_letters_ rows_ now_languages_) (RW_X11_fillCounts__e cy o q_rows_L1 d d_rows_L1 d_now mono) out :=
  mk_i (ty := .int) (by decide) rfl rfl (Nat.le_of_ble_eq_true rfl) (fun p e s m args below meth c A Q X K H locs ls Z hl => wt_X11_fillCounts__e o q_rows_L1 d d_rows_L1 d_now mono snapshotTaken_ inputLength_ rows_L1_type_ rows_L1_size_ now_letters_ rows_ now_languages_ x1 x2 out X h K H locs ls Z hl)
/-! SubwordCounter intersect (III)I -/
abbrev rm_X11_intersect__e : Room := { frames := 2, cells := 0, slots := 0, locals := 46 }
def RW_X11_intersect__e (cy : Nat → ClassId) (o : Nat) (d : Nat → Nat) (d_now : Nat → Nat) (mono : Value)  : va_W := []
def RO_X11_intersect__e (cy : Nat → ClassId) (o : Nat) (d : Nat → Nat) (d_now : Nat → Nat) (mono : Value) (snapshotTaken_ : Int32) (inputLength_ : Int32) (now_letters_ : Int32) (now_languages_ : Nat → Option Nat) : va_W := [(o, ob 10 (oX11 d mono snapshotTaken_ inputLength_)), ((d 0), ob 5 (oX5 d_now now_letters_)), ((d_now 3), aR cy 2 4 now_languages_)]
def f_X11_intersect__e (x1 : Int32) (x2 : Int32) (x3 : Int32) (now_languages_ : Nat → Option Nat) : Option (Int32) :=
  (f_X11_combine__e (2 : Int32) x1 x2 x3 now_languages_).bind (fun u1 =>
  some u1)
set_option maxHeartbeats 4000000 in
set_option maxRecDepth 100000 in
theorem wt_X11_intersect__e {p : Program} {l : Launch} {e : Env} {s : State} {m : MethodId} {args : Array Value} {below : List Frame} {meth : Method} {c : Code} {A : Nat → Prop} {Q : State → Prop} {D : va_G} {cy : Nat → ClassId} (o : Nat) (d : Nat → Nat) (d_now : Nat → Nat) (mono : Value) (snapshotTaken_ : Int32) (inputLength_ : Int32) (now_letters_ : Int32) (now_languages_ : Nat → Option Nat)  (x1 : Int32) (x2 : Int32) (x3 : Int32) (out : Int32) (X : Cx p m c cX11_intersect 4 s args wsX11_intersect RX11 A D cy (RO_X11_intersect__e cy o d d_now mono snapshotTaken_ inputLength_ now_letters_ now_languages_)) (h : f_X11_intersect__e x1 x2 x3 now_languages_ = some out) (K : ∀ (H : Heap) (locs : List Loc) (ls : Array Slot) (pc : Nat), decode cX11_intersect pc = .ok (.ireturn, 1) → St A D s (RW_X11_intersect__e cy o d d_now mono) H locs → W p l e rm_X11_intersect__e s m args below meth c H locs 0 0 Q (F0 m pc ls [.int out])) : ∀ (H : Heap) (locs : List Loc) (ls : Array Slot), St A D s (RW_X11_intersect__e cy o d d_now mono) H locs → lv_has ls 4 [(0, .ref o), (1, .int x1), (2, .int x2), (3, .int x3)] → W p l e rm_X11_intersect__e s m args below meth c H locs 0 0 Q (F0 m 0 ls []) := by
  intro H locs ls Z hl
  have hx := X.1.1
  have hb := X.1.2.1
  unfold f_X11_intersect__e at h
  refine lv_aload_n hx hb dX11_intersect_0 rfl (lv_at hl 0 rfl) ?_
  refine lv_iconst (v := (2 : Int32)) hx hb dX11_intersect_1 (by decide) ?_
  refine lv_iload_n hx hb dX11_intersect_2 rfl (lv_at hl 1 rfl) ?_
  refine lv_iload_n hx hb dX11_intersect_3 rfl (lv_at hl 2 rfl) ?_
  refine lv_iload_n hx hb dX11_intersect_4 rfl (lv_at hl 3 rfl) ?_
  obtain ⟨u1, hc2, h⟩ := ob_some h
  refine x_runVi (RW' := (RW_X11_intersect__e cy o d d_now mono)) (wr := []) (isC := []) (isR := []) (isF := []) (rest := []) (As := [.int (2 : Int32), .int x1, .int x2, .int x3]) (n := 4) X Z (c_X11_combine__e l D cy o d d_now mono snapshotTaken_ inputLength_ now_letters_ now_languages_ (2 : Int32) x1 x2 x3 u1 hc2) gX11_intersect_X11_combine rfl (by decide +kernel) ⟨Nat.le_of_ble_eq_true rfl, Nat.le_of_ble_eq_true rfl⟩ ⟨rfl, rfl⟩ ⟨Nat.le_of_ble_eq_true rfl, Nat.le_of_ble_eq_true rfl⟩ (x_rvO X Z 0 rfl rfl) ⟨rfl, rfl, (roC (Or.inr (mem_at 0 rfl)) (roC (Or.inr (mem_at 1 rfl)) (roC (Or.inr (mem_at 2 rfl)) roN))), rfl, rfl, by decide⟩ ⟨rfl, rfl⟩ rfl hl.1 rfl (Nat.le_of_ble_eq_true rfl) dX11_intersect_5 (fun H locs Z => ?_)
  obtain rfl := Option.some.inj h
  exact K H locs ls _ dX11_intersect_8 Z
theorem c_X11_intersect__e (l : Launch) (D : va_G) (cy : Nat → ClassId) (o : Nat) (d : Nat → Nat) (d_now : Nat → Nat) (mono : Value) (snapshotTaken_ : Int32) (inputLength_ : Int32) (now_letters_ : Int32) (now_languages_ : Nat → Option Nat)  (x1 : Int32) (x2 : Int32) (x3 : Int32) (out : Int32) (h : f_X11_intersect__e x1 x2 x3 now_languages_ = some out) : CtI l yX11_intersect wsX11_intersect rm_X11_intersect__e D cy [.ref o, .int x1, .int x2, .int x3] (RW_X11_intersect__e cy o d d_now mono) (RO_X11_intersect__e cy o d d_now mono snapshotTaken_ inputLength_ now_letters_ now_languages_) (RW_X11_intersect__e cy o d d_now mono) out :=
  mk_i (ty := .int) (by decide) rfl rfl (Nat.le_of_ble_eq_true rfl) (fun p e s m args below meth c A Q X K H locs ls Z hl => wt_X11_intersect__e o d d_now mono snapshotTaken_ inputLength_ now_letters_ now_languages_ x1 x2 x3 out X h K H locs ls Z hl)
/-! SubwordCounter unite (III)I -/
abbrev rm_X11_unite__e : Room := { frames := 2, cells := 0, slots := 0, locals := 46 }
def RW_X11_unite__e (cy : Nat → ClassId) (o : Nat) (d : Nat → Nat) (d_now : Nat → Nat) (mono : Value)  : va_W := []
def RO_X11_unite__e (cy : Nat → ClassId) (o : Nat) (d : Nat → Nat) (d_now : Nat → Nat) (mono : Value) (snapshotTaken_ : Int32) (inputLength_ : Int32) (now_letters_ : Int32) (now_languages_ : Nat → Option Nat) : va_W := [(o, ob 10 (oX11 d mono snapshotTaken_ inputLength_)), ((d 0), ob 5 (oX5 d_now now_letters_)), ((d_now 3), aR cy 2 4 now_languages_)]
def f_X11_unite__e (x1 : Int32) (x2 : Int32) (x3 : Int32) (now_languages_ : Nat → Option Nat) : Option (Int32) :=
  (f_X11_combine__e (3 : Int32) x1 x2 x3 now_languages_).bind (fun u1 =>
  some u1)
set_option maxHeartbeats 4000000 in
set_option maxRecDepth 100000 in
theorem wt_X11_unite__e {p : Program} {l : Launch} {e : Env} {s : State} {m : MethodId} {args : Array Value} {below : List Frame} {meth : Method} {c : Code} {A : Nat → Prop} {Q : State → Prop} {D : va_G} {cy : Nat → ClassId} (o : Nat) (d : Nat → Nat) (d_now : Nat → Nat) (mono : Value) (snapshotTaken_ : Int32) (inputLength_ : Int32) (now_letters_ : Int32) (now_languages_ : Nat → Option Nat)  (x1 : Int32) (x2 : Int32) (x3 : Int32) (out : Int32) (X : Cx p m c cX11_unite 4 s args wsX11_unite RX11 A D cy (RO_X11_unite__e cy o d d_now mono snapshotTaken_ inputLength_ now_letters_ now_languages_)) (h : f_X11_unite__e x1 x2 x3 now_languages_ = some out) (K : ∀ (H : Heap) (locs : List Loc) (ls : Array Slot) (pc : Nat), decode cX11_unite pc = .ok (.ireturn, 1) → St A D s (RW_X11_unite__e cy o d d_now mono) H locs → W p l e rm_X11_unite__e s m args below meth c H locs 0 0 Q (F0 m pc ls [.int out])) : ∀ (H : Heap) (locs : List Loc) (ls : Array Slot), St A D s (RW_X11_unite__e cy o d d_now mono) H locs → lv_has ls 4 [(0, .ref o), (1, .int x1), (2, .int x2), (3, .int x3)] → W p l e rm_X11_unite__e s m args below meth c H locs 0 0 Q (F0 m 0 ls []) := by
  intro H locs ls Z hl
  have hx := X.1.1
  have hb := X.1.2.1
  unfold f_X11_unite__e at h
  refine lv_aload_n hx hb dX11_unite_0 rfl (lv_at hl 0 rfl) ?_
  refine lv_iconst (v := (3 : Int32)) hx hb dX11_unite_1 (by decide) ?_
  refine lv_iload_n hx hb dX11_unite_2 rfl (lv_at hl 1 rfl) ?_
  refine lv_iload_n hx hb dX11_unite_3 rfl (lv_at hl 2 rfl) ?_
  refine lv_iload_n hx hb dX11_unite_4 rfl (lv_at hl 3 rfl) ?_
  obtain ⟨u1, hc2, h⟩ := ob_some h
  refine x_runVi (RW' := (RW_X11_unite__e cy o d d_now mono)) (wr := []) (isC := []) (isR := []) (isF := []) (rest := []) (As := [.int (3 : Int32), .int x1, .int x2, .int x3]) (n := 4) X Z (c_X11_combine__e l D cy o d d_now mono snapshotTaken_ inputLength_ now_letters_ now_languages_ (3 : Int32) x1 x2 x3 u1 hc2) gX11_unite_X11_combine rfl (by decide +kernel) ⟨Nat.le_of_ble_eq_true rfl, Nat.le_of_ble_eq_true rfl⟩ ⟨rfl, rfl⟩ ⟨Nat.le_of_ble_eq_true rfl, Nat.le_of_ble_eq_true rfl⟩ (x_rvO X Z 0 rfl rfl) ⟨rfl, rfl, (roC (Or.inr (mem_at 0 rfl)) (roC (Or.inr (mem_at 1 rfl)) (roC (Or.inr (mem_at 2 rfl)) roN))), rfl, rfl, by decide⟩ ⟨rfl, rfl⟩ rfl hl.1 rfl (Nat.le_of_ble_eq_true rfl) dX11_unite_5 (fun H locs Z => ?_)
  obtain rfl := Option.some.inj h
  exact K H locs ls _ dX11_unite_8 Z
theorem c_X11_unite__e (l : Launch) (D : va_G) (cy : Nat → ClassId) (o : Nat) (d : Nat → Nat) (d_now : Nat → Nat) (mono : Value) (snapshotTaken_ : Int32) (inputLength_ : Int32) (now_letters_ : Int32) (now_languages_ : Nat → Option Nat)  (x1 : Int32) (x2 : Int32) (x3 : Int32) (out : Int32) (h : f_X11_unite__e x1 x2 x3 now_languages_ = some out) : CtI l yX11_unite wsX11_unite rm_X11_unite__e D cy [.ref o, .int x1, .int x2, .int x3] (RW_X11_unite__e cy o d d_now mono) (RO_X11_unite__e cy o d d_now mono snapshotTaken_ inputLength_ now_letters_ now_languages_) (RW_X11_unite__e cy o d d_now mono) out :=
  mk_i (ty := .int) (by decide) rfl rfl (Nat.le_of_ble_eq_true rfl) (fun p e s m args below meth c A Q X K H locs ls Z hl => wt_X11_unite__e o d d_now mono snapshotTaken_ inputLength_ now_letters_ now_languages_ x1 x2 x3 out X h K H locs ls Z hl)
