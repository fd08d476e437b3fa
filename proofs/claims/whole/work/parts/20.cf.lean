set_option linter.unusedVariables false
/-! SubwordCounter restoreSnapshot ()I -/
abbrev rm_X11_restoreSnapshot : Room := { frames := 3, cells := 0, slots := 0, locals := 69 }
def RW_X11_restoreSnapshot (cy : Nat → ClassId) (o : Nat) (q_now_words_C0 : Nat) (q_now_words_C1 : Nat) (q_now_words_C2 : Nat) (q_saved_words_C0 : Nat) (q_saved_words_C1 : Nat) (q_saved_words_C2 : Nat) (d : Nat → Nat) (d_now_words_C0 : Nat → Nat) (d_now_words_C1 : Nat → Nat) (d_now_words_C2 : Nat → Nat) (d_saved_words_C0 : Nat → Nat) (d_saved_words_C1 : Nat → Nat) (d_saved_words_C2 : Nat → Nat) (d_now : Nat → Nat) (d_saved : Nat → Nat) (d_now_tests : Nat → Nat) (d_saved_tests : Nat → Nat) (mono : Value) (PT : va_W) (now_words_C0_size_ : Int32) (now_words_C1_size_ : Int32) (now_words_C2_size_ : Int32) (now_letters_ : Int32) (now_words_C0_letters_ : Nat → Int32) (now_words_C1_letters_ : Nat → Int32) (now_words_C2_letters_ : Nat → Int32) (saved_words_C0_letters_ : Nat → Int32) (saved_words_C1_letters_ : Nat → Int32) (saved_words_C2_letters_ : Nat → Int32) (now_tests_count_ : Int32) (now_languages_ : Nat → Option Nat) (saved_languages_ : Nat → Option Nat) (now_tests_members_ : Nat → Option Nat) (saved_tests_members_ : Nat → Option Nat) : va_W := [(q_now_words_C0, ob 8 (oX9 d_now_words_C0 now_words_C0_size_)), (q_now_words_C1, ob 8 (oX9 d_now_words_C1 now_words_C1_size_)), (q_now_words_C2, ob 8 (oX9 d_now_words_C2 now_words_C2_size_)), ((d 0), ob 5 (oX5 d_now now_letters_)), ((d_now_words_C0 0), aI cy 12 now_words_C0_letters_), ((d_now_words_C1 0), aI cy 12 now_words_C1_letters_), ((d_now_words_C2 0), aI cy 12 now_words_C2_letters_), ((d_saved_words_C0 0), aI cy 12 saved_words_C0_letters_), ((d_saved_words_C1 0), aI cy 12 saved_words_C1_letters_), ((d_saved_words_C2 0), aI cy 12 saved_words_C2_letters_), ((d_now 2), ob 1 (oX1 d_now_tests now_tests_count_)), ((d_now 3), aR cy 2 4 now_languages_), ((d_saved 3), aR cy 2 4 saved_languages_), ((d_now_tests 0), aR cy 4 8 now_tests_members_), ((d_saved_tests 0), aR cy 4 8 saved_tests_members_)]
def RO_X11_restoreSnapshot (cy : Nat → ClassId) (o : Nat) (q_now_words_C0 : Nat) (q_now_words_C1 : Nat) (q_now_words_C2 : Nat) (q_saved_words_C0 : Nat) (q_saved_words_C1 : Nat) (q_saved_words_C2 : Nat) (d : Nat → Nat) (d_now_words_C0 : Nat → Nat) (d_now_words_C1 : Nat → Nat) (d_now_words_C2 : Nat → Nat) (d_saved_words_C0 : Nat → Nat) (d_saved_words_C1 : Nat → Nat) (d_saved_words_C2 : Nat → Nat) (d_now : Nat → Nat) (d_saved : Nat → Nat) (d_now_tests : Nat → Nat) (d_saved_tests : Nat → Nat) (mono : Value) (PT : va_W) (snapshotTaken_ : Int32) (inputLength_ : Int32) (saved_words_C0_size_ : Int32) (saved_words_C1_size_ : Int32) (saved_words_C2_size_ : Int32) (saved_letters_ : Int32) (now_words_ : Nat → Option Nat) (saved_words_ : Nat → Option Nat) (saved_tests_count_ : Int32) : va_W := [(o, ob 10 (oX11 d mono snapshotTaken_ inputLength_)), (q_saved_words_C0, ob 8 (oX9 d_saved_words_C0 saved_words_C0_size_)), (q_saved_words_C1, ob 8 (oX9 d_saved_words_C1 saved_words_C1_size_)), (q_saved_words_C2, ob 8 (oX9 d_saved_words_C2 saved_words_C2_size_)), ((d 1), ob 5 (oX5 d_saved saved_letters_)), ((d_now 1), aR cy 5 3 now_words_), ((d_saved 1), aR cy 5 3 saved_words_), ((d_saved 2), ob 1 (oX1 d_saved_tests saved_tests_count_))] ++ PT
theorem in_X11_restoreSnapshot_X11 : ∀ w ∈ u_ws RX11 TX11 12, w ∈ wsX11_restoreSnapshot := fun w h => (List.mem_cons_of_mem _ (List.mem_append_left _ (List.mem_append_left _ (List.mem_append_left _ (List.mem_append_right _ h)))))
theorem lk_X11_restoreSnapshot_X11_snapshotTaken : Lk wsX11_restoreSnapshot RX11 19 10 2 := ⟨RX11, TX11, 12, rfl, by decide, in_X11_restoreSnapshot_X11, mem_at 1 rfl⟩
theorem lk_X11_restoreSnapshot_X11_now : Lk wsX11_restoreSnapshot RX11 10 10 0 := ⟨RX11, TX11, 12, rfl, by decide, in_X11_restoreSnapshot_X11, mem_at 2 rfl⟩
theorem lk_X11_restoreSnapshot_X11_saved : Lk wsX11_restoreSnapshot RX11 16 10 1 := ⟨RX11, TX11, 12, rfl, by decide, in_X11_restoreSnapshot_X11, mem_at 3 rfl⟩
def f_X11_restoreSnapshot (q_now_words_C0 : Nat) (q_now_words_C1 : Nat) (q_now_words_C2 : Nat) (q_saved_words_C0 : Nat) (q_saved_words_C1 : Nat) (q_saved_words_C2 : Nat) (tq : Nat → Option TV) (lq : Nat → Bool) (snapshotTaken_ : Int32) (saved_words_C0_size_ : Int32) (saved_words_C1_size_ : Int32) (saved_words_C2_size_ : Int32) (saved_letters_ : Int32) (now_words_ : Nat → Option Nat) (saved_words_ : Nat → Option Nat) (saved_tests_count_ : Int32) (saved_words_C0_letters_ : Nat → Int32) (saved_words_C1_letters_ : Nat → Int32) (saved_words_C2_letters_ : Nat → Int32) (saved_languages_ : Nat → Option Nat) (saved_tests_members_ : Nat → Option Nat) (now_words_C0_size_ : Int32) (now_words_C1_size_ : Int32) (now_words_C2_size_ : Int32) (now_letters_ : Int32) (now_words_C0_letters_ : Nat → Int32) (now_words_C1_letters_ : Nat → Int32) (now_words_C2_letters_ : Nat → Int32) (now_tests_count_ : Int32) (now_languages_ : Nat → Option Nat) (now_tests_members_ : Nat → Option Nat) : Option (Int32 × Int32 × Int32 × Int32 × Int32 × (Nat → Int32) × (Nat → Int32) × (Nat → Int32) × Int32 × (Nat → Option Nat) × (Nat → Option Nat)) :=
  if snapshotTaken_ = 0 then
  (some ((-2 : Int32), now_words_C0_size_, now_words_C1_size_, now_words_C2_size_, now_letters_, now_words_C0_letters_, now_words_C1_letters_, now_words_C2_letters_, now_tests_count_, now_languages_, now_tests_members_))
  else
  ((f_X5_copyFrom q_saved_words_C0 q_saved_words_C1 q_saved_words_C2 q_now_words_C0 q_now_words_C1 q_now_words_C2 tq lq saved_letters_ saved_words_C0_size_ saved_words_C1_size_ saved_words_C2_size_ now_words_ saved_words_ saved_tests_count_ saved_languages_ saved_words_C0_letters_ saved_words_C1_letters_ saved_words_C2_letters_ saved_tests_members_ now_letters_ now_words_C0_size_ now_words_C1_size_ now_words_C2_size_ now_tests_count_ now_languages_ now_words_C0_letters_ now_words_C1_letters_ now_words_C2_letters_ now_tests_members_).bind (fun u1 =>
  (f_X5_languagesHeld u1.2.2.2.2.2.1).bind (fun u3 =>
  some (u3, u1.2.1, u1.2.2.1, u1.2.2.2.1, u1.1, u1.2.2.2.2.2.2.1, u1.2.2.2.2.2.2.2.1, u1.2.2.2.2.2.2.2.2.1, u1.2.2.2.2.1, u1.2.2.2.2.2.1, u1.2.2.2.2.2.2.2.2.2))))
set_option maxHeartbeats 4000000 in
set_option maxRecDepth 100000 in
theorem wt_X11_restoreSnapshot {p : Program} {l : Launch} {e : Env} {s : State} {m : MethodId} {args : Array Value} {below : List Frame} {meth : Method} {c : Code} {A : Nat → Prop} {Q : State → Prop} {D : va_G} {cy : Nat → ClassId} (o : Nat) (q_now_words_C0 : Nat) (q_now_words_C1 : Nat) (q_now_words_C2 : Nat) (q_saved_words_C0 : Nat) (q_saved_words_C1 : Nat) (q_saved_words_C2 : Nat) (d : Nat → Nat) (d_now_words_C0 : Nat → Nat) (d_now_words_C1 : Nat → Nat) (d_now_words_C2 : Nat → Nat) (d_saved_words_C0 : Nat → Nat) (d_saved_words_C1 : Nat → Nat) (d_saved_words_C2 : Nat → Nat) (d_now : Nat → Nat) (d_saved : Nat → Nat) (d_now_tests : Nat → Nat) (d_saved_tests : Nat → Nat) (mono : Value) (PT : va_W) (tq : Nat → Option TV) (lq : Nat → Bool) (snapshotTaken_ : Int32) (inputLength_ : Int32) (saved_words_C0_size_ : Int32) (saved_words_C1_size_ : Int32) (saved_words_C2_size_ : Int32) (saved_letters_ : Int32) (now_words_ : Nat → Option Nat) (saved_words_ : Nat → Option Nat) (saved_tests_count_ : Int32) (now_words_C0_size_ : Int32) (now_words_C1_size_ : Int32) (now_words_C2_size_ : Int32) (now_letters_ : Int32) (now_words_C0_letters_ : Nat → Int32) (now_words_C1_letters_ : Nat → Int32) (now_words_C2_letters_ : Nat → Int32) (saved_words_C0_letters_ : Nat → Int32) (saved_words_C1_letters_ : Nat → Int32) (saved_words_C2_letters_ : Nat → Int32) (now_tests_count_ : Int32) (now_languages_ : Nat → Option Nat) (saved_languages_ : Nat → Option Nat) (now_tests_members_ : Nat → Option Nat) (saved_tests_members_ : Nat → Option Nat) (out : Int32 × Int32 × Int32 × Int32 × Int32 × (Nat → Int32) × (Nat → Int32) × (Nat → Int32) × Int32 × (Nat → Option Nat) × (Nat → Option Nat)) (hT : TP cy PT tq) (hU : LQ PT lq) (X : Cx p m c cX11_restoreSnapshot 1 s args wsX11_restoreSnapshot RX11 A D cy (RO_X11_restoreSnapshot cy o q_now_words_C0 q_now_words_C1 q_now_words_C2 q_saved_words_C0 q_saved_words_C1 q_saved_words_C2 d d_now_words_C0 d_now_words_C1 d_now_words_C2 d_saved_words_C0 d_saved_words_C1 d_saved_words_C2 d_now d_saved d_now_tests d_saved_tests mono PT snapshotTaken_ inputLength_ saved_words_C0_size_ saved_words_C1_size_ saved_words_C2_size_ saved_letters_ now_words_ saved_words_ saved_tests_count_)) (h : f_X11_restoreSnapshot q_now_words_C0 q_now_words_C1 q_now_words_C2 q_saved_words_C0 q_saved_words_C1 q_saved_words_C2 tq lq snapshotTaken_ saved_words_C0_size_ saved_words_C1_size_ saved_words_C2_size_ saved_letters_ now_words_ saved_words_ saved_tests_count_ saved_words_C0_letters_ saved_words_C1_letters_ saved_words_C2_letters_ saved_languages_ saved_tests_members_ now_words_C0_size_ now_words_C1_size_ now_words_C2_size_ now_letters_ now_words_C0_letters_ now_words_C1_letters_ now_words_C2_letters_ now_tests_count_ now_languages_ now_tests_members_ = some out) (K : ∀ (H : Heap) (locs : List Loc) (ls : Array Slot) (pc : Nat), decode cX11_restoreSnapshot pc = .ok (.ireturn, 1) → St A D s (RW_X11_restoreSnapshot cy o q_now_words_C0 q_now_words_C1 q_now_words_C2 q_saved_words_C0 q_saved_words_C1 q_saved_words_C2 d d_now_words_C0 d_now_words_C1 d_now_words_C2 d_saved_words_C0 d_saved_words_C1 d_saved_words_C2 d_now d_saved d_now_tests d_saved_tests mono PT out.2.1 out.2.2.1 out.2.2.2.1 out.2.2.2.2.1 out.2.2.2.2.2.1 out.2.2.2.2.2.2.1 out.2.2.2.2.2.2.2.1 saved_words_C0_letters_ saved_words_C1_letters_ saved_words_C2_letters_ out.2.2.2.2.2.2.2.2.1 out.2.2.2.2.2.2.2.2.2.1 saved_languages_ out.2.2.2.2.2.2.2.2.2.2 saved_tests_members_) H locs → W p l e rm_X11_restoreSnapshot s m args below meth c H locs 0 0 Q (F0 m pc ls [.int out.1])) : ∀ (H : Heap) (locs : List Loc) (ls : Array Slot), St A D s (RW_X11_restoreSnapshot cy o q_now_words_C0 q_now_words_C1 q_now_words_C2 q_saved_words_C0 q_saved_words_C1 q_saved_words_C2 d d_now_words_C0 d_now_words_C1 d_now_words_C2 d_saved_words_C0 d_saved_words_C1 d_saved_words_C2 d_now d_saved d_now_tests d_saved_tests mono PT now_words_C0_size_ now_words_C1_size_ now_words_C2_size_ now_letters_ now_words_C0_letters_ now_words_C1_letters_ now_words_C2_letters_ saved_words_C0_letters_ saved_words_C1_letters_ saved_words_C2_letters_ now_tests_count_ now_languages_ saved_languages_ now_tests_members_ saved_tests_members_) H locs → lv_has ls 1 [(0, .ref o)] → W p l e rm_X11_restoreSnapshot s m args below meth c H locs 0 0 Q (F0 m 0 ls []) := by
  intro H locs ls Z hl
  have hx := X.1.1
  have hb := X.1.2.1
  unfold f_X11_restoreSnapshot at h
  refine lv_aload_n hx hb dX11_restoreSnapshot_0 rfl (lv_at hl 0 rfl) ?_
  refine x_getO X Z 0 2 (v := .int snapshotTaken_) rfl rfl lk_X11_restoreSnapshot_X11_snapshotTaken dX11_restoreSnapshot_1 ?_
  refine lv_if_ne (tgt := 10) hx hb dX11_restoreSnapshot_4 (by decide) (fun cnd => ?_) (fun cnd => ?_)
  · replace h := ifn h cnd
    refine lv_aload_n hx hb dX11_restoreSnapshot_10 rfl (lv_at hl 0 rfl) ?_
    refine x_getO X Z 0 0 (v := .ref (d 0)) rfl rfl lk_X11_restoreSnapshot_X11_now dX11_restoreSnapshot_11 ?_
    refine lv_aload_n hx hb dX11_restoreSnapshot_14 rfl (lv_at hl 0 rfl) ?_
    refine x_getO X Z 0 1 (v := .ref (d 1)) rfl rfl lk_X11_restoreSnapshot_X11_saved dX11_restoreSnapshot_15 ?_
    obtain ⟨u1, hc2, h⟩ := ob_some h
    refine x_runVv (RW' := (RW_X11_restoreSnapshot cy o q_now_words_C0 q_now_words_C1 q_now_words_C2 q_saved_words_C0 q_saved_words_C1 q_saved_words_C2 d d_now_words_C0 d_now_words_C1 d_now_words_C2 d_saved_words_C0 d_saved_words_C1 d_saved_words_C2 d_now d_saved d_now_tests d_saved_tests mono PT u1.2.1 u1.2.2.1 u1.2.2.2.1 u1.1 u1.2.2.2.2.2.2.1 u1.2.2.2.2.2.2.2.1 u1.2.2.2.2.2.2.2.2.1 saved_words_C0_letters_ saved_words_C1_letters_ saved_words_C2_letters_ u1.2.2.2.2.1 u1.2.2.2.2.2.1 saved_languages_ u1.2.2.2.2.2.2.2.2.2 saved_tests_members_)) (wr := []) (isC := [3, 0, 1, 2, 10, 11, 12, 7, 8, 9, 4, 5, 6, 13, 14]) (isR := []) (isF := [1, 2, 3, 0, 10, 11, 12, 7, 8, 9, 4, 5, 6, 13, 14]) (rest := []) (As := [.ref (d 1)]) (n := 1) X Z (c_X5_copyFrom l D cy (d 0) (d 1) q_saved_words_C0 q_saved_words_C1 q_saved_words_C2 q_now_words_C0 q_now_words_C1 q_now_words_C2 d_now d_saved d_saved_words_C0 d_saved_words_C1 d_saved_words_C2 d_now_words_C0 d_now_words_C1 d_now_words_C2 d_now_tests d_saved_tests PT tq lq saved_letters_ saved_words_C0_size_ saved_words_C1_size_ saved_words_C2_size_ now_words_ saved_words_ saved_tests_count_ now_letters_ now_words_C0_size_ now_words_C1_size_ now_words_C2_size_ now_tests_count_ now_languages_ saved_languages_ saved_words_C0_letters_ saved_words_C1_letters_ saved_words_C2_letters_ now_words_C0_letters_ now_words_C1_letters_ now_words_C2_letters_ now_tests_members_ saved_tests_members_ u1 hT hU hc2) gX11_restoreSnapshot_X5_copyFrom rfl (by decide +kernel) ⟨Nat.le_of_ble_eq_true rfl, Nat.le_of_ble_eq_true rfl⟩ ⟨rfl, rfl⟩ ⟨Nat.le_of_ble_eq_true rfl, Nat.le_of_ble_eq_true rfl⟩ (x_rv X Z 3 rfl rfl) ⟨rfl, rfl, (roC (Or.inr (mem_at 4 rfl)) (roC (Or.inr (mem_at 1 rfl)) (roC (Or.inr (mem_at 2 rfl)) (roC (Or.inr (mem_at 3 rfl)) (roC (Or.inr (mem_at 5 rfl)) (roC (Or.inr (mem_at 6 rfl)) (roC (Or.inr (mem_at 7 rfl)) (fun q hq => Or.inr (List.mem_append_right _ hq))))))))), rfl, rfl, by decide⟩ ⟨rfl, rfl⟩ rfl hl.1 rfl (Nat.le_of_ble_eq_true rfl) dX11_restoreSnapshot_18 (fun H locs Z => ?_)
    refine lv_aload_n hx hb dX11_restoreSnapshot_21 rfl (lv_at hl 0 rfl) ?_
    refine x_getO X Z 0 0 (v := .ref (d 0)) rfl rfl lk_X11_restoreSnapshot_X11_now dX11_restoreSnapshot_22 ?_
    obtain ⟨u3, hc4, h⟩ := ob_some h
    refine x_runVi (RW' := (RW_X11_restoreSnapshot cy o q_now_words_C0 q_now_words_C1 q_now_words_C2 q_saved_words_C0 q_saved_words_C1 q_saved_words_C2 d d_now_words_C0 d_now_words_C1 d_now_words_C2 d_saved_words_C0 d_saved_words_C1 d_saved_words_C2 d_now d_saved d_now_tests d_saved_tests mono PT u1.2.1 u1.2.2.1 u1.2.2.2.1 u1.1 u1.2.2.2.2.2.2.1 u1.2.2.2.2.2.2.2.1 u1.2.2.2.2.2.2.2.2.1 saved_words_C0_letters_ saved_words_C1_letters_ saved_words_C2_letters_ u1.2.2.2.2.1 u1.2.2.2.2.2.1 saved_languages_ u1.2.2.2.2.2.2.2.2.2 saved_tests_members_)) (wr := [(q_now_words_C0, ob 8 (oX9 d_now_words_C0 u1.2.1)), (q_now_words_C1, ob 8 (oX9 d_now_words_C1 u1.2.2.1)), (q_now_words_C2, ob 8 (oX9 d_now_words_C2 u1.2.2.2.1)), ((d 0), ob 5 (oX5 d_now u1.1)), ((d_now_words_C0 0), aI cy 12 u1.2.2.2.2.2.2.1), ((d_now_words_C1 0), aI cy 12 u1.2.2.2.2.2.2.2.1), ((d_now_words_C2 0), aI cy 12 u1.2.2.2.2.2.2.2.2.1), ((d_saved_words_C0 0), aI cy 12 saved_words_C0_letters_), ((d_saved_words_C1 0), aI cy 12 saved_words_C1_letters_), ((d_saved_words_C2 0), aI cy 12 saved_words_C2_letters_), ((d_now 2), ob 1 (oX1 d_now_tests u1.2.2.2.2.1)), ((d_now 3), aR cy 2 4 u1.2.2.2.2.2.1), ((d_saved 3), aR cy 2 4 saved_languages_), ((d_now_tests 0), aR cy 4 8 u1.2.2.2.2.2.2.2.2.2), ((d_saved_tests 0), aR cy 4 8 saved_tests_members_)]) (isC := []) (isR := [0, 1, 2, 3, 4, 5, 6, 7, 8, 9, 10, 11, 12, 13, 14]) (isF := [0, 1, 2, 3, 4, 5, 6, 7, 8, 9, 10, 11, 12, 13, 14]) (rest := []) (As := []) (n := 0) X Z (c_X5_languagesHeld l D cy (d 0) d_now u1.1 u1.2.2.2.2.2.1 u3 hc4) gX11_restoreSnapshot_X5_languagesHeld rfl (by decide +kernel) ⟨Nat.le_of_ble_eq_true rfl, Nat.le_of_ble_eq_true rfl⟩ ⟨rfl, rfl⟩ ⟨Nat.le_of_ble_eq_true rfl, Nat.le_of_ble_eq_true rfl⟩ (x_rv X Z 3 rfl rfl) ⟨rfl, rfl, (roC (Or.inl (mem_at 3 rfl)) (roC (Or.inl (mem_at 11 rfl)) roN)), rfl, rfl, by decide⟩ ⟨rfl, rfl⟩ rfl hl.1 rfl (Nat.le_of_ble_eq_true rfl) dX11_restoreSnapshot_25 (fun H locs Z => ?_)
    obtain rfl := Option.some.inj h
    exact K H locs ls _ dX11_restoreSnapshot_28 Z
  · replace h := ifp h cnd
    refine lv_bipush (v := (-2 : Int32)) hx hb dX11_restoreSnapshot_7 (by decide) ?_
    obtain rfl := Option.some.inj h
    exact K H locs ls _ dX11_restoreSnapshot_9 Z
theorem c_X11_restoreSnapshot (l : Launch) (D : va_G) (cy : Nat → ClassId) (o : Nat) (q_now_words_C0 : Nat) (q_now_words_C1 : Nat) (q_now_words_C2 : Nat) (q_saved_words_C0 : Nat) (q_saved_words_C1 : Nat) (q_saved_words_C2 : Nat) (d : Nat → Nat) (d_now_words_C0 : Nat → Nat) (d_now_words_C1 : Nat → Nat) (d_now_words_C2 : Nat → Nat) (d_saved_words_C0 : Nat → Nat) (d_saved_words_C1 : Nat → Nat) (d_saved_words_C2 : Nat → Nat) (d_now : Nat → Nat) (d_saved : Nat → Nat) (d_now_tests : Nat → Nat) (d_saved_tests : Nat → Nat) (mono : Value) (PT : va_W) (tq : Nat → Option TV) (lq : Nat → Bool) (snapshotTaken_ : Int32) (inputLength_ : Int32) (saved_words_C0_size_ : Int32) (saved_words_C1_size_ : Int32) (saved_words_C2_size_ : Int32) (saved_letters_ : Int32) (now_words_ : Nat → Option Nat) (saved_words_ : Nat → Option Nat) (saved_tests_count_ : Int32) (now_words_C0_size_ : Int32) (now_words_C1_size_ : Int32) (now_words_C2_size_ : Int32) (now_letters_ : Int32) (now_words_C0_letters_ : Nat → Int32) (now_words_C1_letters_ : Nat → Int32) (now_words_C2_letters_ : Nat → Int32) (saved_words_C0_letters_ : Nat → Int32) (saved_words_C1_letters_ : Nat → Int32) (saved_words_C2_letters_ : Nat → Int32) (now_tests_count_ : Int32) (now_languages_ : Nat → Option Nat) (saved_languages_ : Nat → Option Nat) (now_tests_members_ : Nat → Option Nat) (saved_tests_members_ : Nat → Option Nat) (out : Int32 × Int32 × Int32 × Int32 × Int32 × (Nat → Int32) × (Nat → Int32) × (Nat → Int32) × Int32 × (Nat → Option Nat) × (Nat → Option Nat)) (hT : TP cy PT tq) (hU : LQ PT lq) (h : f_X11_restoreSnapshot q_now_words_C0 q_now_words_C1 q_now_words_C2 q_saved_words_C0 q_saved_words_C1 q_saved_words_C2 tq lq snapshotTaken_ saved_words_C0_size_ saved_words_C1_size_ saved_words_C2_size_ saved_letters_ now_words_ saved_words_ saved_tests_count_ saved_words_C0_letters_ saved_words_C1_letters_ saved_words_C2_letters_ saved_languages_ saved_tests_members_ now_words_C0_size_ now_words_C1_size_ now_words_C2_size_ now_letters_ now_words_C0_letters_ now_words_C1_letters_ now_words_C2_letters_ now_tests_count_ now_languages_ now_tests_members_ = some out) : CtI l yX11_restoreSnapshot wsX11_restoreSnapshot rm_X11_restoreSnapshot D cy [.ref o] (RW_X11_restoreSnapshot cy o q_now_words_C0 q_now_words_C1 q_now_words_C2 q_saved_words_C0 q_saved_words_C1 q_saved_words_C2 d d_now_words_C0 d_now_words_C1 d_now_words_C2 d_saved_words_C0 d_saved_words_C1 d_saved_words_C2 d_now d_saved d_now_tests d_saved_tests mono PT now_words_C0_size_ now_words_C1_size_ now_words_C2_size_ now_letters_ now_words_C0_letters_ now_words_C1_letters_ now_words_C2_letters_ saved_words_C0_letters_ saved_words_C1_letters_ saved_words_C2_letters_ now_tests_count_ now_languages_ saved_languages_ now_tests_members_ saved_tests_members_) (RO_X11_restoreSnapshot cy o q_now_words_C0 q_now_words_C1 q_now_words_C2 q_saved_words_C0 q_saved_words_C1 q_saved_words_C2 d d_now_words_C0 d_now_words_C1 d_now_words_C2 d_saved_words_C0 d_saved_words_C1 d_saved_words_C2 d_now d_saved d_now_tests d_saved_tests mono PT snapshotTaken_ inputLength_ saved_words_C0_size_ saved_words_C1_size_ saved_words_C2_size_ saved_letters_ now_words_ saved_words_ saved_tests_count_) (RW_X11_restoreSnapshot cy o q_now_words_C0 q_now_words_C1 q_now_words_C2 q_saved_words_C0 q_saved_words_C1 q_saved_words_C2 d d_now_words_C0 d_now_words_C1 d_now_words_C2 d_saved_words_C0 d_saved_words_C1 d_saved_words_C2 d_now d_saved d_now_tests d_saved_tests mono PT out.2.1 out.2.2.1 out.2.2.2.1 out.2.2.2.2.1 out.2.2.2.2.2.1 out.2.2.2.2.2.2.1 out.2.2.2.2.2.2.2.1 saved_words_C0_letters_ saved_words_C1_letters_ saved_words_C2_letters_ out.2.2.2.2.2.2.2.2.1 out.2.2.2.2.2.2.2.2.2.1 saved_languages_ out.2.2.2.2.2.2.2.2.2.2 saved_tests_members_) out.1 :=
  mk_i (ty := .int) (by decide) rfl rfl (Nat.le_of_ble_eq_true rfl) (fun p e s m args below meth c A Q X K H locs ls Z hl => wt_X11_restoreSnapshot o q_now_words_C0 q_now_words_C1 q_now_words_C2 q_saved_words_C0 q_saved_words_C1 q_saved_words_C2 d d_now_words_C0 d_now_words_C1 d_now_words_C2 d_saved_words_C0 d_saved_words_C1 d_saved_words_C2 d_now d_saved d_now_tests d_saved_tests mono PT tq lq snapshotTaken_ inputLength_ saved_words_C0_size_ saved_words_C1_size_ saved_words_C2_size_ saved_letters_ now_words_ saved_words_ saved_tests_count_ now_words_C0_size_ now_words_C1_size_ now_words_C2_size_ now_letters_ now_words_C0_letters_ now_words_C1_letters_ now_words_C2_letters_ saved_words_C0_letters_ saved_words_C1_letters_ saved_words_C2_letters_ now_tests_count_ now_languages_ saved_languages_ now_tests_members_ saved_tests_members_ out hT hU X h K H locs ls Z hl)
/-! SubwordCounter$Language cases ()I -/
abbrev rm_X2_cases : Room := { frames := 0, cells := 0, slots := 0, locals := 0 }
def RW_X2_cases (cy : Nat → ClassId) (o : Nat) (d : Nat → Nat)  : va_W := []
def RO_X2_cases (cy : Nat → ClassId) (o : Nat) (d : Nat → Nat) (form_ : Int32) (basics_ : Int32) (table_ : Int32) : va_W := [(o, ob 2 (oX2 d form_ basics_ table_))]
theorem in_X2_cases_X2 : ∀ w ∈ u_ws RX2 TX2 5, w ∈ wsX2_cases := fun w h => (List.mem_cons_of_mem _ (List.mem_append_right _ h))
theorem lk_X2_cases_X2_basics : Lk wsX2_cases RX2 15 2 1 := ⟨RX2, TX2, 5, rfl, by decide, in_X2_cases_X2, mem_at 1 rfl⟩
def f_X2_cases (basics_ : Int32) : Option (Int32) :=
  some ((1 : Int32) <<< (basics_ &&& 31))
set_option maxHeartbeats 4000000 in
set_option maxRecDepth 100000 in
theorem wt_X2_cases {p : Program} {l : Launch} {e : Env} {s : State} {m : MethodId} {args : Array Value} {below : List Frame} {meth : Method} {c : Code} {A : Nat → Prop} {Q : State → Prop} {D : va_G} {cy : Nat → ClassId} (o : Nat) (d : Nat → Nat) (form_ : Int32) (basics_ : Int32) (table_ : Int32)  (out : Int32) (X : Cx p m c cX2_cases 1 s args wsX2_cases RX2 A D cy (RO_X2_cases cy o d form_ basics_ table_)) (h : f_X2_cases basics_ = some out) (K : ∀ (H : Heap) (locs : List Loc) (ls : Array Slot) (pc : Nat), decode cX2_cases pc = .ok (.ireturn, 1) → St A D s (RW_X2_cases cy o d) H locs → W p l e rm_X2_cases s m args below meth c H locs 0 0 Q (F0 m pc ls [.int out])) : ∀ (H : Heap) (locs : List Loc) (ls : Array Slot), St A D s (RW_X2_cases cy o d) H locs → lv_has ls 1 [(0, .ref o)] → W p l e rm_X2_cases s m args below meth c H locs 0 0 Q (F0 m 0 ls []) := by
  intro H locs ls Z hl
  have hx := X.1.1
  have hb := X.1.2.1
  unfold f_X2_cases at h
  refine lv_iconst (v := (1 : Int32)) hx hb dX2_cases_0 (by decide) ?_
  refine lv_aload_n hx hb dX2_cases_1 rfl (lv_at hl 0 rfl) ?_
  refine x_getO X Z 0 1 (v := .int basics_) rfl rfl lk_X2_cases_X2_basics dX2_cases_2 ?_
  refine lv_ishl hx hb dX2_cases_5 ?_
  obtain rfl := Option.some.inj h
  exact K H locs ls _ dX2_cases_6 Z
theorem c_X2_cases (l : Launch) (D : va_G) (cy : Nat → ClassId) (o : Nat) (d : Nat → Nat) (form_ : Int32) (basics_ : Int32) (table_ : Int32)  (out : Int32) (h : f_X2_cases basics_ = some out) : CtI l yX2_cases wsX2_cases rm_X2_cases D cy [.ref o] (RW_X2_cases cy o d) (RO_X2_cases cy o d form_ basics_ table_) (RW_X2_cases cy o d) out :=
  mk_i (ty := .int) (by decide) rfl rfl (Nat.le_of_ble_eq_true rfl) (fun p e s m args below meth c A Q X K H locs ls Z hl => wt_X2_cases o d form_ basics_ table_ out X h K H locs ls Z hl)
/-! SubwordCounter$Language joinedTable (ILSubwordCounter$Language;LSubwordCounter$Language;)I -/
abbrev rm_X2_joinedTable : Room := { frames := 1, cells := 0, slots := 0, locals := 21 }
def RW_X2_joinedTable (cy : Nat → ClassId) (q_p1 : Nat) (q_p2 : Nat) (d_p1 : Nat → Nat) (d_p2 : Nat → Nat)  : va_W := []
def RO_X2_joinedTable (cy : Nat → ClassId) (q_p1 : Nat) (q_p2 : Nat) (d_p1 : Nat → Nat) (d_p2 : Nat → Nat) (p1_form_ : Int32) (p1_basics_ : Int32) (p1_table_ : Int32) (p2_form_ : Int32) (p2_basics_ : Int32) (p2_table_ : Int32) : va_W := [(q_p1, ob 2 (oX2 d_p1 p1_form_ p1_basics_ p1_table_)), (q_p2, ob 2 (oX2 d_p2 p2_form_ p2_basics_ p2_table_))]
theorem in_X2_joinedTable_X2 : ∀ w ∈ u_ws RX2 TX2 5, w ∈ wsX2_joinedTable := fun w h => (List.mem_cons_of_mem _ (List.mem_append_right _ h))
theorem lk_X2_joinedTable_X2_basics : Lk wsX2_joinedTable RX2 15 2 1 := ⟨RX2, TX2, 5, rfl, by decide, in_X2_joinedTable_X2, mem_at 1 rfl⟩
def j_X2_joinedTable_94 (p1_basics_ : Int32) (x3 : Int32) (x4 : Int32) (x5 : Int32) : Option ((Int32 × Int32) ⊕ (Int32)) :=
  some (.inl ((x3 ||| ((1 : Int32) <<< ((x4 ||| (x5 <<< (p1_basics_ &&& 31))) &&& 31))), (x5 + (1 : Int32))))
set_option maxHeartbeats 4000000 in
set_option maxRecDepth 100000 in
theorem jw_X2_joinedTable_94 {p : Program} {l : Launch} {e : Env} {s : State} {m : MethodId} {args : Array Value} {below : List Frame} {meth : Method} {c : Code} {A : Nat → Prop} {Q : State → Prop} {D : va_G} {cy : Nat → ClassId} (q_p1 : Nat) (q_p2 : Nat) (d_p1 : Nat → Nat) (d_p2 : Nat → Nat) (p1_form_ : Int32) (p1_basics_ : Int32) (p1_table_ : Int32) (p2_form_ : Int32) (p2_basics_ : Int32) (p2_table_ : Int32)  (x0 : Int32) (x3 : Int32) (x4 : Int32) (x5 : Int32) (o1 : (Int32 × Int32) ⊕ (Int32)) (X : Cx p m c cX2_joinedTable 8 s args wsX2_joinedTable RX2 A D cy (RO_X2_joinedTable cy q_p1 q_p2 d_p1 d_p2 p1_form_ p1_basics_ p1_table_ p2_form_ p2_basics_ p2_table_)) (h : j_X2_joinedTable_94 p1_basics_ x3 x4 x5 = some o1) (K : Sum.elim (fun v : Int32 × Int32 => ∀ (H : Heap) (locs : List Loc) (ls : Array Slot), St A D s (RW_X2_joinedTable cy q_p1 q_p2 d_p1 d_p2) H locs → lv_has ls 8 [(0, .int x0), (1, .ref q_p1), (2, .ref q_p2), (3, .int v.1), (4, .int x4), (5, .int v.2)] → W p l e rm_X2_joinedTable s m args below meth c H locs 0 0 Q (F0 m 17 ls [])) (fun v : Int32 => ∀ (H : Heap) (locs : List Loc) (ls : Array Slot), St A D s (RW_X2_joinedTable cy q_p1 q_p2 d_p1 d_p2) H locs → lv_has ls 8 [(0, .int x0), (1, .ref q_p1), (2, .ref q_p2), (3, .int v), (4, .int x4)] → W p l e rm_X2_joinedTable s m args below meth c H locs 0 0 Q (F0 m 115 ls [])) o1) : ∀ (H : Heap) (locs : List Loc) (ls : Array Slot), St A D s (RW_X2_joinedTable cy q_p1 q_p2 d_p1 d_p2) H locs → lv_has ls 8 [(0, .int x0), (1, .ref q_p1), (2, .ref q_p2), (3, .int x3), (4, .int x4), (5, .int x5)] → W p l e rm_X2_joinedTable s m args below meth c H locs 0 0 Q (F0 m 94 ls []) := by
  intro H locs ls Z hl
  have hx := X.1.1
  have hb := X.1.2.1
  unfold j_X2_joinedTable_94 at h
  refine lv_iload_n hx hb dX2_joinedTable_94 rfl (lv_at hl 3 rfl) ?_
  refine lv_iconst (v := (1 : Int32)) hx hb dX2_joinedTable_95 (by decide) ?_
  refine lv_iload hx hb dX2_joinedTable_96 (lv_at hl 4 rfl) ?_
  refine lv_iload hx hb dX2_joinedTable_98 (lv_at hl 5 rfl) ?_
  refine lv_aload_n hx hb dX2_joinedTable_100 rfl (lv_at hl 1 rfl) ?_
  refine x_getO X Z 0 1 (v := .int p1_basics_) rfl rfl lk_X2_joinedTable_X2_basics dX2_joinedTable_101 ?_
  refine lv_ishl hx hb dX2_joinedTable_104 ?_
  refine lv_ior hx hb dX2_joinedTable_105 ?_
  refine lv_ishl hx hb dX2_joinedTable_106 ?_
  refine lv_ior hx hb dX2_joinedTable_107 ?_
  refine lv_istore_n (lv' := [(3, .int (x3 ||| ((1 : Int32) <<< ((x4 ||| (x5 <<< (p1_basics_ &&& 31))) &&& 31)))), (0, .int x0), (1, .ref q_p1), (2, .ref q_p2), (4, .int x4), (5, .int x5)]) hx hb dX2_joinedTable_108 rfl hl (by decide) rfl (fun ls hl => ?_)
  refine lv_iinc (v := (x5 + (1 : Int32))) (lv' := [(5, .int (x5 + (1 : Int32))), (3, .int (x3 ||| ((1 : Int32) <<< ((x4 ||| (x5 <<< (p1_basics_ &&& 31))) &&& 31)))), (0, .int x0), (1, .ref q_p1), (2, .ref q_p2), (4, .int x4)]) hx hb dX2_joinedTable_109 hl (k := 5) rfl rfl (by decide) rfl (fun ls hl => ?_)
  refine lv_goto (tgt := 17) hx hb dX2_joinedTable_112 (by decide) ?_
  obtain rfl := Option.some.inj h
  exact sk_l K H locs ls Z (lv_sub hl [2, 3, 4, 1, 5, 0] rfl)
def j_X2_joinedTable_74 (p1_basics_ : Int32) (x0 : Int32) (x3 : Int32) (x4 : Int32) (x5 : Int32) (x6 : Int32) (t0 : Int32) : Option ((Int32 × Int32) ⊕ (Int32)) :=
  if x0 = (2 : Int32) then
  (if x6 = 0 then
  (some (.inl (x3, (x5 + (1 : Int32)))))
  else
  (j_X2_joinedTable_94 p1_basics_ x3 x4 x5))
  else
  (if t0 = 0 then
  (some (.inl (x3, (x5 + (1 : Int32)))))
  else
  (j_X2_joinedTable_94 p1_basics_ x3 x4 x5))
set_option maxHeartbeats 4000000 in
set_option maxRecDepth 100000 in
theorem jw_X2_joinedTable_74 {p : Program} {l : Launch} {e : Env} {s : State} {m : MethodId} {args : Array Value} {below : List Frame} {meth : Method} {c : Code} {A : Nat → Prop} {Q : State → Prop} {D : va_G} {cy : Nat → ClassId} (q_p1 : Nat) (q_p2 : Nat) (d_p1 : Nat → Nat) (d_p2 : Nat → Nat) (p1_form_ : Int32) (p1_basics_ : Int32) (p1_table_ : Int32) (p2_form_ : Int32) (p2_basics_ : Int32) (p2_table_ : Int32)  (x0 : Int32) (x3 : Int32) (x4 : Int32) (x5 : Int32) (x6 : Int32) (t0 : Int32) (o1 : (Int32 × Int32) ⊕ (Int32)) (X : Cx p m c cX2_joinedTable 8 s args wsX2_joinedTable RX2 A D cy (RO_X2_joinedTable cy q_p1 q_p2 d_p1 d_p2 p1_form_ p1_basics_ p1_table_ p2_form_ p2_basics_ p2_table_)) (h : j_X2_joinedTable_74 p1_basics_ x0 x3 x4 x5 x6 t0 = some o1) (K : Sum.elim (fun v : Int32 × Int32 => ∀ (H : Heap) (locs : List Loc) (ls : Array Slot), St A D s (RW_X2_joinedTable cy q_p1 q_p2 d_p1 d_p2) H locs → lv_has ls 8 [(0, .int x0), (1, .ref q_p1), (2, .ref q_p2), (3, .int v.1), (4, .int x4), (5, .int v.2)] → W p l e rm_X2_joinedTable s m args below meth c H locs 0 0 Q (F0 m 17 ls [])) (fun v : Int32 => ∀ (H : Heap) (locs : List Loc) (ls : Array Slot), St A D s (RW_X2_joinedTable cy q_p1 q_p2 d_p1 d_p2) H locs → lv_has ls 8 [(0, .int x0), (1, .ref q_p1), (2, .ref q_p2), (3, .int v), (4, .int x4)] → W p l e rm_X2_joinedTable s m args below meth c H locs 0 0 Q (F0 m 115 ls [])) o1) : ∀ (H : Heap) (locs : List Loc) (ls : Array Slot), St A D s (RW_X2_joinedTable cy q_p1 q_p2 d_p1 d_p2) H locs → lv_has ls 8 [(0, .int x0), (1, .ref q_p1), (2, .ref q_p2), (3, .int x3), (4, .int x4), (5, .int x5), (6, .int x6)] → W p l e rm_X2_joinedTable s m args below meth c H locs 0 0 Q (F0 m 74 ls [.int t0]) := by
  intro H locs ls Z hl
  have hx := X.1.1
  have hb := X.1.2.1
  unfold j_X2_joinedTable_74 at h
  refine lv_istore (lv' := [(7, .int t0), (0, .int x0), (1, .ref q_p1), (2, .ref q_p2), (3, .int x3), (4, .int x4), (5, .int x5), (6, .int x6)]) hx hb dX2_joinedTable_74 hl (by decide) rfl (fun ls hl => ?_)
  refine lv_iload_n hx hb dX2_joinedTable_76 rfl (lv_at hl 1 rfl) ?_
  refine lv_iconst (v := (2 : Int32)) hx hb dX2_joinedTable_77 (by decide) ?_
  refine lv_icmp_ne (tgt := 89) hx hb dX2_joinedTable_78 (by decide) (fun cnd => ?_) (fun cnd => ?_)
  · replace h := ifn h cnd
    refine lv_iload hx hb dX2_joinedTable_89 (lv_at hl 0 rfl) ?_
    refine lv_if_eq (tgt := 109) hx hb dX2_joinedTable_91 (by decide) (fun cnd => ?_) (fun cnd => ?_)
    · replace h := ifp h cnd
      refine lv_iinc (v := (x5 + (1 : Int32))) (lv' := [(5, .int (x5 + (1 : Int32))), (7, .int t0), (0, .int x0), (1, .ref q_p1), (2, .ref q_p2), (3, .int x3), (4, .int x4), (6, .int x6)]) hx hb dX2_joinedTable_109 hl (k := 6) rfl rfl (by decide) rfl (fun ls hl => ?_)
      refine lv_goto (tgt := 17) hx hb dX2_joinedTable_112 (by decide) ?_
      obtain rfl := Option.some.inj h
      exact sk_l K H locs ls Z (lv_sub hl [2, 3, 4, 5, 6, 0] rfl)
    · replace h := ifn h cnd
      exact jw_X2_joinedTable_94 q_p1 q_p2 d_p1 d_p2 p1_form_ p1_basics_ p1_table_ p2_form_ p2_basics_ p2_table_ x0 x3 x4 x5 _ X h K H locs ls Z (lv_sub hl [1, 2, 3, 4, 5, 6] rfl)
  · replace h := ifp h cnd
    refine lv_iload hx hb dX2_joinedTable_81 (lv_at hl 7 rfl) ?_
    refine lv_if_eq (tgt := 109) hx hb dX2_joinedTable_83 (by decide) (fun cnd => ?_) (fun cnd => ?_)
    · replace h := ifp h cnd
      refine lv_iinc (v := (x5 + (1 : Int32))) (lv' := [(5, .int (x5 + (1 : Int32))), (7, .int t0), (0, .int x0), (1, .ref q_p1), (2, .ref q_p2), (3, .int x3), (4, .int x4), (6, .int x6)]) hx hb dX2_joinedTable_109 hl (k := 6) rfl rfl (by decide) rfl (fun ls hl => ?_)
      refine lv_goto (tgt := 17) hx hb dX2_joinedTable_112 (by decide) ?_
      obtain rfl := Option.some.inj h
      exact sk_l K H locs ls Z (lv_sub hl [2, 3, 4, 5, 6, 0] rfl)
    · replace h := ifn h cnd
      refine lv_goto (tgt := 94) hx hb dX2_joinedTable_86 (by decide) ?_
      exact jw_X2_joinedTable_94 q_p1 q_p2 d_p1 d_p2 p1_form_ p1_basics_ p1_table_ p2_form_ p2_basics_ p2_table_ x0 x3 x4 x5 _ X h K H locs ls Z (lv_sub hl [1, 2, 3, 4, 5, 6] rfl)
def j_X2_joinedTable_69 (p1_basics_ : Int32) (x0 : Int32) (x3 : Int32) (x4 : Int32) (x5 : Int32) (x6 : Int32) : Option ((Int32 × Int32) ⊕ (Int32)) :=
  j_X2_joinedTable_74 p1_basics_ x0 x3 x4 x5 x6 (1 : Int32)
set_option maxHeartbeats 4000000 in
set_option maxRecDepth 100000 in
theorem jw_X2_joinedTable_69 {p : Program} {l : Launch} {e : Env} {s : State} {m : MethodId} {args : Array Value} {below : List Frame} {meth : Method} {c : Code} {A : Nat → Prop} {Q : State → Prop} {D : va_G} {cy : Nat → ClassId} (q_p1 : Nat) (q_p2 : Nat) (d_p1 : Nat → Nat) (d_p2 : Nat → Nat) (p1_form_ : Int32) (p1_basics_ : Int32) (p1_table_ : Int32) (p2_form_ : Int32) (p2_basics_ : Int32) (p2_table_ : Int32)  (x0 : Int32) (x3 : Int32) (x4 : Int32) (x5 : Int32) (x6 : Int32) (o1 : (Int32 × Int32) ⊕ (Int32)) (X : Cx p m c cX2_joinedTable 8 s args wsX2_joinedTable RX2 A D cy (RO_X2_joinedTable cy q_p1 q_p2 d_p1 d_p2 p1_form_ p1_basics_ p1_table_ p2_form_ p2_basics_ p2_table_)) (h : j_X2_joinedTable_69 p1_basics_ x0 x3 x4 x5 x6 = some o1) (K : Sum.elim (fun v : Int32 × Int32 => ∀ (H : Heap) (locs : List Loc) (ls : Array Slot), St A D s (RW_X2_joinedTable cy q_p1 q_p2 d_p1 d_p2) H locs → lv_has ls 8 [(0, .int x0), (1, .ref q_p1), (2, .ref q_p2), (3, .int v.1), (4, .int x4), (5, .int v.2)] → W p l e rm_X2_joinedTable s m args below meth c H locs 0 0 Q (F0 m 17 ls [])) (fun v : Int32 => ∀ (H : Heap) (locs : List Loc) (ls : Array Slot), St A D s (RW_X2_joinedTable cy q_p1 q_p2 d_p1 d_p2) H locs → lv_has ls 8 [(0, .int x0), (1, .ref q_p1), (2, .ref q_p2), (3, .int v), (4, .int x4)] → W p l e rm_X2_joinedTable s m args below meth c H locs 0 0 Q (F0 m 115 ls [])) o1) : ∀ (H : Heap) (locs : List Loc) (ls : Array Slot), St A D s (RW_X2_joinedTable cy q_p1 q_p2 d_p1 d_p2) H locs → lv_has ls 8 [(0, .int x0), (1, .ref q_p1), (2, .ref q_p2), (3, .int x3), (4, .int x4), (5, .int x5), (6, .int x6)] → W p l e rm_X2_joinedTable s m args below meth c H locs 0 0 Q (F0 m 69 ls []) := by
  intro H locs ls Z hl
  have hx := X.1.1
  have hb := X.1.2.1
  unfold j_X2_joinedTable_69 at h
  refine lv_iconst (v := (1 : Int32)) hx hb dX2_joinedTable_69 (by decide) ?_
  refine lv_goto (tgt := 74) hx hb dX2_joinedTable_70 (by decide) ?_
  exact jw_X2_joinedTable_74 q_p1 q_p2 d_p1 d_p2 p1_form_ p1_basics_ p1_table_ p2_form_ p2_basics_ p2_table_ x0 x3 x4 x5 x6 (1 : Int32) _ X h K H locs ls Z (lv_sub hl [0, 1, 2, 3, 4, 5, 6] rfl)
def j_X2_joinedTable_49 (p1_basics_ : Int32) (p1_table_ : Int32) (p2_table_ : Int32) (x0 : Int32) (x3 : Int32) (x4 : Int32) (x5 : Int32) (t0 : Int32) : Option ((Int32 × Int32) ⊕ (Int32)) :=
  (f_X2_accepts x4 p1_table_).bind (fun u1 =>
  if u1 = 0 then
  ((f_X2_accepts x5 p2_table_).bind (fun u3 =>
  if u3 = 0 then
  (j_X2_joinedTable_74 p1_basics_ x0 x3 x4 x5 t0 (0 : Int32))
  else
  (j_X2_joinedTable_69 p1_basics_ x0 x3 x4 x5 t0)))
  else
  (j_X2_joinedTable_69 p1_basics_ x0 x3 x4 x5 t0))
set_option maxHeartbeats 4000000 in
set_option maxRecDepth 100000 in
theorem jw_X2_joinedTable_49 {p : Program} {l : Launch} {e : Env} {s : State} {m : MethodId} {args : Array Value} {below : List Frame} {meth : Method} {c : Code} {A : Nat → Prop} {Q : State → Prop} {D : va_G} {cy : Nat → ClassId} (q_p1 : Nat) (q_p2 : Nat) (d_p1 : Nat → Nat) (d_p2 : Nat → Nat) (p1_form_ : Int32) (p1_basics_ : Int32) (p1_table_ : Int32) (p2_form_ : Int32) (p2_basics_ : Int32) (p2_table_ : Int32)  (x0 : Int32) (x3 : Int32) (x4 : Int32) (x5 : Int32) (t0 : Int32) (o1 : (Int32 × Int32) ⊕ (Int32)) (X : Cx p m c cX2_joinedTable 8 s args wsX2_joinedTable RX2 A D cy (RO_X2_joinedTable cy q_p1 q_p2 d_p1 d_p2 p1_form_ p1_basics_ p1_table_ p2_form_ p2_basics_ p2_table_)) (h : j_X2_joinedTable_49 p1_basics_ p1_table_ p2_table_ x0 x3 x4 x5 t0 = some o1) (K : Sum.elim (fun v : Int32 × Int32 => ∀ (H : Heap) (locs : List Loc) (ls : Array Slot), St A D s (RW_X2_joinedTable cy q_p1 q_p2 d_p1 d_p2) H locs → lv_has ls 8 [(0, .int x0), (1, .ref q_p1), (2, .ref q_p2), (3, .int v.1), (4, .int x4), (5, .int v.2)] → W p l e rm_X2_joinedTable s m args below meth c H locs 0 0 Q (F0 m 17 ls [])) (fun v : Int32 => ∀ (H : Heap) (locs : List Loc) (ls : Array Slot), St A D s (RW_X2_joinedTable cy q_p1 q_p2 d_p1 d_p2) H locs → lv_has ls 8 [(0, .int x0), (1, .ref q_p1), (2, .ref q_p2), (3, .int v), (4, .int x4)] → W p l e rm_X2_joinedTable s m args below meth c H locs 0 0 Q (F0 m 115 ls [])) o1) : ∀ (H : Heap) (locs : List Loc) (ls : Array Slot), St A D s (RW_X2_joinedTable cy q_p1 q_p2 d_p1 d_p2) H locs → lv_has ls 8 [(0, .int x0), (1, .ref q_p1), (2, .ref q_p2), (3, .int x3), (4, .int x4), (5, .int x5)] → W p l e rm_X2_joinedTable s m args below meth c H locs 0 0 Q (F0 m 49 ls [.int t0]) := by
  intro H locs ls Z hl
  have hx := X.1.1
  have hb := X.1.2.1
  unfold j_X2_joinedTable_49 at h
  refine lv_istore (lv' := [(6, .int t0), (0, .int x0), (1, .ref q_p1), (2, .ref q_p2), (3, .int x3), (4, .int x4), (5, .int x5)]) hx hb dX2_joinedTable_49 hl (by decide) rfl (fun ls hl => ?_)
  refine lv_aload_n hx hb dX2_joinedTable_51 rfl (lv_at hl 2 rfl) ?_
  refine lv_iload hx hb dX2_joinedTable_52 (lv_at hl 5 rfl) ?_
  obtain ⟨u1, hc2, h⟩ := ob_some h
  refine x_runVi (RW' := (RW_X2_joinedTable cy q_p1 q_p2 d_p1 d_p2)) (wr := []) (isC := []) (isR := []) (isF := []) (rest := []) (As := [.int x4]) (n := 1) X Z (c_X2_accepts l D cy q_p1 d_p1 p1_form_ p1_basics_ p1_table_ x4 u1 hc2) gX2_joinedTable_X2_accepts rfl (by decide +kernel) ⟨Nat.le_of_ble_eq_true rfl, Nat.le_of_ble_eq_true rfl⟩ ⟨rfl, rfl⟩ ⟨Nat.le_of_ble_eq_true rfl, Nat.le_of_ble_eq_true rfl⟩ (x_rvO X Z 0 rfl rfl) ⟨rfl, rfl, (roC (Or.inr (mem_at 0 rfl)) roN), rfl, rfl, by decide⟩ ⟨rfl, rfl⟩ rfl hl.1 rfl (Nat.le_of_ble_eq_true rfl) dX2_joinedTable_54 (fun H locs Z => ?_)
  refine lv_if_ne (tgt := 69) hx hb dX2_joinedTable_57 (by decide) (fun cnd => ?_) (fun cnd => ?_)
  · replace h := ifn h cnd
    exact jw_X2_joinedTable_69 q_p1 q_p2 d_p1 d_p2 p1_form_ p1_basics_ p1_table_ p2_form_ p2_basics_ p2_table_ x0 x3 x4 x5 t0 _ X h K H locs ls Z (lv_sub hl [1, 2, 3, 4, 5, 6, 0] rfl)
  · replace h := ifp h cnd
    refine lv_aload_n hx hb dX2_joinedTable_60 rfl (lv_at hl 3 rfl) ?_
    refine lv_iload hx hb dX2_joinedTable_61 (lv_at hl 6 rfl) ?_
    obtain ⟨u3, hc4, h⟩ := ob_some h
    refine x_runVi (RW' := (RW_X2_joinedTable cy q_p1 q_p2 d_p1 d_p2)) (wr := []) (isC := []) (isR := []) (isF := []) (rest := []) (As := [.int x5]) (n := 1) X Z (c_X2_accepts l D cy q_p2 d_p2 p2_form_ p2_basics_ p2_table_ x5 u3 hc4) gX2_joinedTable_X2_accepts rfl (by decide +kernel) ⟨Nat.le_of_ble_eq_true rfl, Nat.le_of_ble_eq_true rfl⟩ ⟨rfl, rfl⟩ ⟨Nat.le_of_ble_eq_true rfl, Nat.le_of_ble_eq_true rfl⟩ (x_rvO X Z 1 rfl rfl) ⟨rfl, rfl, (roC (Or.inr (mem_at 1 rfl)) roN), rfl, rfl, by decide⟩ ⟨rfl, rfl⟩ rfl hl.1 rfl (Nat.le_of_ble_eq_true rfl) dX2_joinedTable_63 (fun H locs Z => ?_)
    refine lv_if_eq (tgt := 73) hx hb dX2_joinedTable_66 (by decide) (fun cnd => ?_) (fun cnd => ?_)
    · replace h := ifp h cnd
      refine lv_iconst (v := (0 : Int32)) hx hb dX2_joinedTable_73 (by decide) ?_
      exact jw_X2_joinedTable_74 q_p1 q_p2 d_p1 d_p2 p1_form_ p1_basics_ p1_table_ p2_form_ p2_basics_ p2_table_ x0 x3 x4 x5 t0 (0 : Int32) _ X h K H locs ls Z (lv_sub hl [1, 2, 3, 4, 5, 6, 0] rfl)
    · replace h := ifn h cnd
      exact jw_X2_joinedTable_69 q_p1 q_p2 d_p1 d_p2 p1_form_ p1_basics_ p1_table_ p2_form_ p2_basics_ p2_table_ x0 x3 x4 x5 t0 _ X h K H locs ls Z (lv_sub hl [1, 2, 3, 4, 5, 6, 0] rfl)
def j_X2_joinedTable_48 (p1_basics_ : Int32) (p1_table_ : Int32) (p2_table_ : Int32) (x0 : Int32) (x3 : Int32) (x4 : Int32) (x5 : Int32) : Option ((Int32 × Int32) ⊕ (Int32)) :=
  j_X2_joinedTable_49 p1_basics_ p1_table_ p2_table_ x0 x3 x4 x5 (0 : Int32)
set_option maxHeartbeats 4000000 in
set_option maxRecDepth 100000 in
theorem jw_X2_joinedTable_48 {p : Program} {l : Launch} {e : Env} {s : State} {m : MethodId} {args : Array Value} {below : List Frame} {meth : Method} {c : Code} {A : Nat → Prop} {Q : State → Prop} {D : va_G} {cy : Nat → ClassId} (q_p1 : Nat) (q_p2 : Nat) (d_p1 : Nat → Nat) (d_p2 : Nat → Nat) (p1_form_ : Int32) (p1_basics_ : Int32) (p1_table_ : Int32) (p2_form_ : Int32) (p2_basics_ : Int32) (p2_table_ : Int32)  (x0 : Int32) (x3 : Int32) (x4 : Int32) (x5 : Int32) (o1 : (Int32 × Int32) ⊕ (Int32)) (X : Cx p m c cX2_joinedTable 8 s args wsX2_joinedTable RX2 A D cy (RO_X2_joinedTable cy q_p1 q_p2 d_p1 d_p2 p1_form_ p1_basics_ p1_table_ p2_form_ p2_basics_ p2_table_)) (h : j_X2_joinedTable_48 p1_basics_ p1_table_ p2_table_ x0 x3 x4 x5 = some o1) (K : Sum.elim (fun v : Int32 × Int32 => ∀ (H : Heap) (locs : List Loc) (ls : Array Slot), St A D s (RW_X2_joinedTable cy q_p1 q_p2 d_p1 d_p2) H locs → lv_has ls 8 [(0, .int x0), (1, .ref q_p1), (2, .ref q_p2), (3, .int v.1), (4, .int x4), (5, .int v.2)] → W p l e rm_X2_joinedTable s m args below meth c H locs 0 0 Q (F0 m 17 ls [])) (fun v : Int32 => ∀ (H : Heap) (locs : List Loc) (ls : Array Slot), St A D s (RW_X2_joinedTable cy q_p1 q_p2 d_p1 d_p2) H locs → lv_has ls 8 [(0, .int x0), (1, .ref q_p1), (2, .ref q_p2), (3, .int v), (4, .int x4)] → W p l e rm_X2_joinedTable s m args below meth c H locs 0 0 Q (F0 m 115 ls [])) o1) : ∀ (H : Heap) (locs : List Loc) (ls : Array Slot), St A D s (RW_X2_joinedTable cy q_p1 q_p2 d_p1 d_p2) H locs → lv_has ls 8 [(0, .int x0), (1, .ref q_p1), (2, .ref q_p2), (3, .int x3), (4, .int x4), (5, .int x5)] → W p l e rm_X2_joinedTable s m args below meth c H locs 0 0 Q (F0 m 48 ls []) := by
  intro H locs ls Z hl
  have hx := X.1.1
  have hb := X.1.2.1
  unfold j_X2_joinedTable_48 at h
  refine lv_iconst (v := (0 : Int32)) hx hb dX2_joinedTable_48 (by decide) ?_
  exact jw_X2_joinedTable_49 q_p1 q_p2 d_p1 d_p2 p1_form_ p1_basics_ p1_table_ p2_form_ p2_basics_ p2_table_ x0 x3 x4 x5 (0 : Int32) _ X h K H locs ls Z (lv_sub hl [0, 1, 2, 3, 4, 5] rfl)
def b_X2_joinedTable_17 (p1_basics_ : Int32) (p1_table_ : Int32) (p2_basics_ : Int32) (p2_table_ : Int32) (x0 : Int32) (x4 : Int32)  (x3 : Int32) (x5 : Int32) : Option ((Int32 × Int32) ⊕ (Int32)) :=
  (f_X2_cases p2_basics_).bind (fun u5 =>
  if u5 ≤ x5 then
  (some (.inr x3))
  else
  ((f_X2_accepts x4 p1_table_).bind (fun u7 =>
  if u7 = 0 then
  (j_X2_joinedTable_48 p1_basics_ p1_table_ p2_table_ x0 x3 x4 x5)
  else
  ((f_X2_accepts x5 p2_table_).bind (fun u9 =>
  if u9 = 0 then
  (j_X2_joinedTable_48 p1_basics_ p1_table_ p2_table_ x0 x3 x4 x5)
  else
  (j_X2_joinedTable_49 p1_basics_ p1_table_ p2_table_ x0 x3 x4 x5 (1 : Int32)))))))
set_option maxHeartbeats 4000000 in
set_option maxRecDepth 100000 in
theorem wb_X2_joinedTable_17 {p : Program} {l : Launch} {e : Env} {s : State} {m : MethodId} {args : Array Value} {below : List Frame} {meth : Method} {c : Code} {A : Nat → Prop} {Q : State → Prop} {D : va_G} {cy : Nat → ClassId} (q_p1 : Nat) (q_p2 : Nat) (d_p1 : Nat → Nat) (d_p2 : Nat → Nat) (p1_form_ : Int32) (p1_basics_ : Int32) (p1_table_ : Int32) (p2_form_ : Int32) (p2_basics_ : Int32) (p2_table_ : Int32)  (x0 : Int32) (x4 : Int32)  (x3 : Int32) (x5 : Int32) (o1 : (Int32 × Int32) ⊕ (Int32)) (X : Cx p m c cX2_joinedTable 8 s args wsX2_joinedTable RX2 A D cy (RO_X2_joinedTable cy q_p1 q_p2 d_p1 d_p2 p1_form_ p1_basics_ p1_table_ p2_form_ p2_basics_ p2_table_)) (h : b_X2_joinedTable_17 p1_basics_ p1_table_ p2_basics_ p2_table_ x0 x4 x3 x5 = some o1) (K : Sum.elim (fun v : Int32 × Int32 => ∀ (H : Heap) (locs : List Loc) (ls : Array Slot), St A D s (RW_X2_joinedTable cy q_p1 q_p2 d_p1 d_p2) H locs → lv_has ls 8 [(0, .int x0), (1, .ref q_p1), (2, .ref q_p2), (3, .int v.1), (4, .int x4), (5, .int v.2)] → W p l e rm_X2_joinedTable s m args below meth c H locs 0 0 Q (F0 m 17 ls [])) (fun v : Int32 => ∀ (H : Heap) (locs : List Loc) (ls : Array Slot), St A D s (RW_X2_joinedTable cy q_p1 q_p2 d_p1 d_p2) H locs → lv_has ls 8 [(0, .int x0), (1, .ref q_p1), (2, .ref q_p2), (3, .int v), (4, .int x4)] → W p l e rm_X2_joinedTable s m args below meth c H locs 0 0 Q (F0 m 115 ls [])) o1) : ∀ (H : Heap) (locs : List Loc) (ls : Array Slot), St A D s (RW_X2_joinedTable cy q_p1 q_p2 d_p1 d_p2) H locs → lv_has ls 8 [(0, .int x0), (1, .ref q_p1), (2, .ref q_p2), (3, .int x3), (4, .int x4), (5, .int x5)] → W p l e rm_X2_joinedTable s m args below meth c H locs 0 0 Q (F0 m 17 ls []) := by
  intro H locs ls Z hl
  have hx := X.1.1
  have hb := X.1.2.1
  unfold b_X2_joinedTable_17 at h
  refine lv_iload hx hb dX2_joinedTable_17 (lv_at hl 5 rfl) ?_
  refine lv_aload_n hx hb dX2_joinedTable_19 rfl (lv_at hl 2 rfl) ?_
  obtain ⟨u5, hc6, h⟩ := ob_some h
  refine x_runVi (RW' := (RW_X2_joinedTable cy q_p1 q_p2 d_p1 d_p2)) (wr := []) (isC := []) (isR := []) (isF := []) (rest := [.int x5]) (As := []) (n := 0) X Z (c_X2_cases l D cy q_p2 d_p2 p2_form_ p2_basics_ p2_table_ u5 hc6) gX2_joinedTable_X2_cases rfl (by decide +kernel) ⟨Nat.le_of_ble_eq_true rfl, Nat.le_of_ble_eq_true rfl⟩ ⟨rfl, rfl⟩ ⟨Nat.le_of_ble_eq_true rfl, Nat.le_of_ble_eq_true rfl⟩ (x_rvO X Z 1 rfl rfl) ⟨rfl, rfl, (roC (Or.inr (mem_at 1 rfl)) roN), rfl, rfl, by decide⟩ ⟨rfl, rfl⟩ rfl hl.1 rfl (Nat.le_of_ble_eq_true rfl) dX2_joinedTable_20 (fun H locs Z => ?_)
  refine lv_icmp_ge (tgt := 115) hx hb dX2_joinedTable_23 (by decide) (fun cnd => ?_) (fun cnd => ?_)
  · replace h := ifp h cnd
    obtain rfl := Option.some.inj h
    exact (sk_r K) H locs ls Z (lv_sub hl [0, 1, 2, 3, 4] rfl)
  · replace h := ifn h cnd
    refine lv_aload_n hx hb dX2_joinedTable_26 rfl (lv_at hl 1 rfl) ?_
    refine lv_iload hx hb dX2_joinedTable_27 (lv_at hl 4 rfl) ?_
    obtain ⟨u7, hc8, h⟩ := ob_some h
    refine x_runVi (RW' := (RW_X2_joinedTable cy q_p1 q_p2 d_p1 d_p2)) (wr := []) (isC := []) (isR := []) (isF := []) (rest := []) (As := [.int x4]) (n := 1) X Z (c_X2_accepts l D cy q_p1 d_p1 p1_form_ p1_basics_ p1_table_ x4 u7 hc8) gX2_joinedTable_X2_accepts rfl (by decide +kernel) ⟨Nat.le_of_ble_eq_true rfl, Nat.le_of_ble_eq_true rfl⟩ ⟨rfl, rfl⟩ ⟨Nat.le_of_ble_eq_true rfl, Nat.le_of_ble_eq_true rfl⟩ (x_rvO X Z 0 rfl rfl) ⟨rfl, rfl, (roC (Or.inr (mem_at 0 rfl)) roN), rfl, rfl, by decide⟩ ⟨rfl, rfl⟩ rfl hl.1 rfl (Nat.le_of_ble_eq_true rfl) dX2_joinedTable_29 (fun H locs Z => ?_)
    refine lv_if_eq (tgt := 48) hx hb dX2_joinedTable_32 (by decide) (fun cnd => ?_) (fun cnd => ?_)
    · replace h := ifp h cnd
      exact jw_X2_joinedTable_48 q_p1 q_p2 d_p1 d_p2 p1_form_ p1_basics_ p1_table_ p2_form_ p2_basics_ p2_table_ x0 x3 x4 x5 _ X h K H locs ls Z (lv_sub hl [0, 1, 2, 3, 4, 5] rfl)
    · replace h := ifn h cnd
      refine lv_aload_n hx hb dX2_joinedTable_35 rfl (lv_at hl 2 rfl) ?_
      refine lv_iload hx hb dX2_joinedTable_36 (lv_at hl 5 rfl) ?_
      obtain ⟨u9, hc10, h⟩ := ob_some h
      refine x_runVi (RW' := (RW_X2_joinedTable cy q_p1 q_p2 d_p1 d_p2)) (wr := []) (isC := []) (isR := []) (isF := []) (rest := []) (As := [.int x5]) (n := 1) X Z (c_X2_accepts l D cy q_p2 d_p2 p2_form_ p2_basics_ p2_table_ x5 u9 hc10) gX2_joinedTable_X2_accepts rfl (by decide +kernel) ⟨Nat.le_of_ble_eq_true rfl, Nat.le_of_ble_eq_true rfl⟩ ⟨rfl, rfl⟩ ⟨Nat.le_of_ble_eq_true rfl, Nat.le_of_ble_eq_true rfl⟩ (x_rvO X Z 1 rfl rfl) ⟨rfl, rfl, (roC (Or.inr (mem_at 1 rfl)) roN), rfl, rfl, by decide⟩ ⟨rfl, rfl⟩ rfl hl.1 rfl (Nat.le_of_ble_eq_true rfl) dX2_joinedTable_38 (fun H locs Z => ?_)
      refine lv_if_eq (tgt := 48) hx hb dX2_joinedTable_41 (by decide) (fun cnd => ?_) (fun cnd => ?_)
      · replace h := ifp h cnd
        exact jw_X2_joinedTable_48 q_p1 q_p2 d_p1 d_p2 p1_form_ p1_basics_ p1_table_ p2_form_ p2_basics_ p2_table_ x0 x3 x4 x5 _ X h K H locs ls Z (lv_sub hl [0, 1, 2, 3, 4, 5] rfl)
      · replace h := ifn h cnd
        refine lv_iconst (v := (1 : Int32)) hx hb dX2_joinedTable_44 (by decide) ?_
        refine lv_goto (tgt := 49) hx hb dX2_joinedTable_45 (by decide) ?_
        exact jw_X2_joinedTable_49 q_p1 q_p2 d_p1 d_p2 p1_form_ p1_basics_ p1_table_ p2_form_ p2_basics_ p2_table_ x0 x3 x4 x5 (1 : Int32) _ X h K H locs ls Z (lv_sub hl [0, 1, 2, 3, 4, 5] rfl)
set_option maxHeartbeats 4000000 in
set_option maxRecDepth 100000 in
theorem wl_X2_joinedTable_17 {p : Program} {l : Launch} {e : Env} {s : State} {m : MethodId} {args : Array Value} {below : List Frame} {meth : Method} {c : Code} {A : Nat → Prop} {Q : State → Prop} {D : va_G} {cy : Nat → ClassId} (q_p1 : Nat) (q_p2 : Nat) (d_p1 : Nat → Nat) (d_p2 : Nat → Nat) (p1_form_ : Int32) (p1_basics_ : Int32) (p1_table_ : Int32) (p2_form_ : Int32) (p2_basics_ : Int32) (p2_table_ : Int32)  (x0 : Int32) (x4 : Int32) (n : Nat) (v : Int32 × Int32) (x : Int32) (X : Cx p m c cX2_joinedTable 8 s args wsX2_joinedTable RX2 A D cy (RO_X2_joinedTable cy q_p1 q_p2 d_p1 d_p2 p1_form_ p1_basics_ p1_table_ p2_form_ p2_basics_ p2_table_)) (h : loopN (fun v => b_X2_joinedTable_17 p1_basics_ p1_table_ p2_basics_ p2_table_ x0 x4 v.1 v.2) n v = some x) (K : ∀ (H : Heap) (locs : List Loc) (ls : Array Slot), St A D s (RW_X2_joinedTable cy q_p1 q_p2 d_p1 d_p2) H locs → lv_has ls 8 [(0, .int x0), (1, .ref q_p1), (2, .ref q_p2), (3, .int x), (4, .int x4)] → W p l e rm_X2_joinedTable s m args below meth c H locs 0 0 Q (F0 m 115 ls [])) : ∀ (H : Heap) (locs : List Loc) (ls : Array Slot), St A D s (RW_X2_joinedTable cy q_p1 q_p2 d_p1 d_p2) H locs → lv_has ls 8 [(0, .int x0), (1, .ref q_p1), (2, .ref q_p2), (3, .int v.1), (4, .int x4), (5, .int v.2)] → W p l e rm_X2_joinedTable s m args below meth c H locs 0 0 Q (F0 m 17 ls []) :=
  loop_gen (B := (fun v => b_X2_joinedTable_17 p1_basics_ p1_table_ p2_basics_ p2_table_ x0 x4 v.1 v.2)) (Head := fun v : Int32 × Int32 => ∀ (H : Heap) (locs : List Loc) (ls : Array Slot), St A D s (RW_X2_joinedTable cy q_p1 q_p2 d_p1 d_p2) H locs → lv_has ls 8 [(0, .int x0), (1, .ref q_p1), (2, .ref q_p2), (3, .int v.1), (4, .int x4), (5, .int v.2)] → W p l e rm_X2_joinedTable s m args below meth c H locs 0 0 Q (F0 m 17 ls [])) (Exit := fun v : Int32 => ∀ (H : Heap) (locs : List Loc) (ls : Array Slot), St A D s (RW_X2_joinedTable cy q_p1 q_p2 d_p1 d_p2) H locs → lv_has ls 8 [(0, .int x0), (1, .ref q_p1), (2, .ref q_p2), (3, .int v), (4, .int x4)] → W p l e rm_X2_joinedTable s m args below meth c H locs 0 0 Q (F0 m 115 ls [])) (fun v o9 hb1 K1 => wb_X2_joinedTable_17 q_p1 q_p2 d_p1 d_p2 p1_form_ p1_basics_ p1_table_ p2_form_ p2_basics_ p2_table_ x0 x4 v.1 v.2 o9 X hb1 K1) n v x h K
def b_X2_joinedTable_5 (p1_basics_ : Int32) (p1_table_ : Int32) (p2_basics_ : Int32) (p2_table_ : Int32) (x0 : Int32)  (x3 : Int32) (x4 : Int32) : Option ((Int32 × Int32) ⊕ (Int32)) :=
  (f_X2_cases p1_basics_).bind (fun u11 =>
  if u11 ≤ x4 then
  (some (.inr x3))
  else
  ((loopN (fun v => b_X2_joinedTable_17 p1_basics_ p1_table_ p2_basics_ p2_table_ x0 x4 v.1 v.2) FU (x3, (0 : Int32))).bind (fun u13 =>
  some (.inl (u13, (x4 + (1 : Int32)))))))
set_option maxHeartbeats 4000000 in
set_option maxRecDepth 100000 in
theorem wb_X2_joinedTable_5 {p : Program} {l : Launch} {e : Env} {s : State} {m : MethodId} {args : Array Value} {below : List Frame} {meth : Method} {c : Code} {A : Nat → Prop} {Q : State → Prop} {D : va_G} {cy : Nat → ClassId} (q_p1 : Nat) (q_p2 : Nat) (d_p1 : Nat → Nat) (d_p2 : Nat → Nat) (p1_form_ : Int32) (p1_basics_ : Int32) (p1_table_ : Int32) (p2_form_ : Int32) (p2_basics_ : Int32) (p2_table_ : Int32)  (x0 : Int32)  (x3 : Int32) (x4 : Int32) (o1 : (Int32 × Int32) ⊕ (Int32)) (X : Cx p m c cX2_joinedTable 8 s args wsX2_joinedTable RX2 A D cy (RO_X2_joinedTable cy q_p1 q_p2 d_p1 d_p2 p1_form_ p1_basics_ p1_table_ p2_form_ p2_basics_ p2_table_)) (h : b_X2_joinedTable_5 p1_basics_ p1_table_ p2_basics_ p2_table_ x0 x3 x4 = some o1) (K : Sum.elim (fun v : Int32 × Int32 => ∀ (H : Heap) (locs : List Loc) (ls : Array Slot), St A D s (RW_X2_joinedTable cy q_p1 q_p2 d_p1 d_p2) H locs → lv_has ls 8 [(0, .int x0), (1, .ref q_p1), (2, .ref q_p2), (3, .int v.1), (4, .int v.2)] → W p l e rm_X2_joinedTable s m args below meth c H locs 0 0 Q (F0 m 5 ls [])) (fun v : Int32 => ∀ (H : Heap) (locs : List Loc) (ls : Array Slot), St A D s (RW_X2_joinedTable cy q_p1 q_p2 d_p1 d_p2) H locs → lv_has ls 8 [(3, .int v)] → W p l e rm_X2_joinedTable s m args below meth c H locs 0 0 Q (F0 m 121 ls [])) o1) : ∀ (H : Heap) (locs : List Loc) (ls : Array Slot), St A D s (RW_X2_joinedTable cy q_p1 q_p2 d_p1 d_p2) H locs → lv_has ls 8 [(0, .int x0), (1, .ref q_p1), (2, .ref q_p2), (3, .int x3), (4, .int x4)] → W p l e rm_X2_joinedTable s m args below meth c H locs 0 0 Q (F0 m 5 ls []) := by
  intro H locs ls Z hl
  have hx := X.1.1
  have hb := X.1.2.1
  unfold b_X2_joinedTable_5 at h
  refine lv_iload hx hb dX2_joinedTable_5 (lv_at hl 4 rfl) ?_
  refine lv_aload_n hx hb dX2_joinedTable_7 rfl (lv_at hl 1 rfl) ?_
  obtain ⟨u11, hc12, h⟩ := ob_some h
  refine x_runVi (RW' := (RW_X2_joinedTable cy q_p1 q_p2 d_p1 d_p2)) (wr := []) (isC := []) (isR := []) (isF := []) (rest := [.int x4]) (As := []) (n := 0) X Z (c_X2_cases l D cy q_p1 d_p1 p1_form_ p1_basics_ p1_table_ u11 hc12) gX2_joinedTable_X2_cases rfl (by decide +kernel) ⟨Nat.le_of_ble_eq_true rfl, Nat.le_of_ble_eq_true rfl⟩ ⟨rfl, rfl⟩ ⟨Nat.le_of_ble_eq_true rfl, Nat.le_of_ble_eq_true rfl⟩ (x_rvO X Z 0 rfl rfl) ⟨rfl, rfl, (roC (Or.inr (mem_at 0 rfl)) roN), rfl, rfl, by decide⟩ ⟨rfl, rfl⟩ rfl hl.1 rfl (Nat.le_of_ble_eq_true rfl) dX2_joinedTable_8 (fun H locs Z => ?_)
  refine lv_icmp_ge (tgt := 121) hx hb dX2_joinedTable_11 (by decide) (fun cnd => ?_) (fun cnd => ?_)
  · replace h := ifp h cnd
    obtain rfl := Option.some.inj h
    exact (sk_r K) H locs ls Z (lv_sub hl [3] rfl)
  · replace h := ifn h cnd
    refine lv_iconst (v := (0 : Int32)) hx hb dX2_joinedTable_14 (by decide) ?_
    refine lv_istore (lv' := [(5, .int (0 : Int32)), (0, .int x0), (1, .ref q_p1), (2, .ref q_p2), (3, .int x3), (4, .int x4)]) hx hb dX2_joinedTable_15 hl (by decide) rfl (fun ls hl => ?_)
    obtain ⟨u13, hL14, h⟩ := ob_some h
    refine wl_X2_joinedTable_17 q_p1 q_p2 d_p1 d_p2 p1_form_ p1_basics_ p1_table_ p2_form_ p2_basics_ p2_table_ x0 x4 FU (x3, (0 : Int32)) u13 X hL14 (fun H locs ls Z hl => ?_) H locs ls Z (lv_sub hl [1, 2, 3, 4, 5, 0] rfl)
    refine lv_iinc (v := (x4 + (1 : Int32))) (lv' := [(4, .int (x4 + (1 : Int32))), (0, .int x0), (1, .ref q_p1), (2, .ref q_p2), (3, .int u13)]) hx hb dX2_joinedTable_115 hl (k := 4) rfl rfl (by decide) rfl (fun ls hl => ?_)
    refine lv_goto (tgt := 5) hx hb dX2_joinedTable_118 (by decide) ?_
    obtain rfl := Option.some.inj h
    exact sk_l K H locs ls Z (lv_sub hl [1, 2, 3, 4, 0] rfl)
set_option maxHeartbeats 4000000 in
set_option maxRecDepth 100000 in
theorem wl_X2_joinedTable_5 {p : Program} {l : Launch} {e : Env} {s : State} {m : MethodId} {args : Array Value} {below : List Frame} {meth : Method} {c : Code} {A : Nat → Prop} {Q : State → Prop} {D : va_G} {cy : Nat → ClassId} (q_p1 : Nat) (q_p2 : Nat) (d_p1 : Nat → Nat) (d_p2 : Nat → Nat) (p1_form_ : Int32) (p1_basics_ : Int32) (p1_table_ : Int32) (p2_form_ : Int32) (p2_basics_ : Int32) (p2_table_ : Int32)  (x0 : Int32) (n : Nat) (v : Int32 × Int32) (x : Int32) (X : Cx p m c cX2_joinedTable 8 s args wsX2_joinedTable RX2 A D cy (RO_X2_joinedTable cy q_p1 q_p2 d_p1 d_p2 p1_form_ p1_basics_ p1_table_ p2_form_ p2_basics_ p2_table_)) (h : loopN (fun v => b_X2_joinedTable_5 p1_basics_ p1_table_ p2_basics_ p2_table_ x0 v.1 v.2) n v = some x) (K : ∀ (H : Heap) (locs : List Loc) (ls : Array Slot), St A D s (RW_X2_joinedTable cy q_p1 q_p2 d_p1 d_p2) H locs → lv_has ls 8 [(3, .int x)] → W p l e rm_X2_joinedTable s m args below meth c H locs 0 0 Q (F0 m 121 ls [])) : ∀ (H : Heap) (locs : List Loc) (ls : Array Slot), St A D s (RW_X2_joinedTable cy q_p1 q_p2 d_p1 d_p2) H locs → lv_has ls 8 [(0, .int x0), (1, .ref q_p1), (2, .ref q_p2), (3, .int v.1), (4, .int v.2)] → W p l e rm_X2_joinedTable s m args below meth c H locs 0 0 Q (F0 m 5 ls []) :=
  loop_gen (B := (fun v => b_X2_joinedTable_5 p1_basics_ p1_table_ p2_basics_ p2_table_ x0 v.1 v.2)) (Head := fun v : Int32 × Int32 => ∀ (H : Heap) (locs : List Loc) (ls : Array Slot), St A D s (RW_X2_joinedTable cy q_p1 q_p2 d_p1 d_p2) H locs → lv_has ls 8 [(0, .int x0), (1, .ref q_p1), (2, .ref q_p2), (3, .int v.1), (4, .int v.2)] → W p l e rm_X2_joinedTable s m args below meth c H locs 0 0 Q (F0 m 5 ls [])) (Exit := fun v : Int32 => ∀ (H : Heap) (locs : List Loc) (ls : Array Slot), St A D s (RW_X2_joinedTable cy q_p1 q_p2 d_p1 d_p2) H locs → lv_has ls 8 [(3, .int v)] → W p l e rm_X2_joinedTable s m args below meth c H locs 0 0 Q (F0 m 121 ls [])) (fun v o9 hb1 K1 => wb_X2_joinedTable_5 q_p1 q_p2 d_p1 d_p2 p1_form_ p1_basics_ p1_table_ p2_form_ p2_basics_ p2_table_ x0 v.1 v.2 o9 X hb1 K1) n v x h K
def f_X2_joinedTable (x0 : Int32) (p1_basics_ : Int32) (p1_table_ : Int32) (p2_basics_ : Int32) (p2_table_ : Int32) : Option (Int32) :=
  (loopN (fun v => b_X2_joinedTable_5 p1_basics_ p1_table_ p2_basics_ p2_table_ x0 v.1 v.2) FU ((0 : Int32), (0 : Int32))).bind (fun u15 =>
  some u15)
set_option maxHeartbeats 4000000 in
set_option maxRecDepth 100000 in
theorem wt_X2_joinedTable {p : Program} {l : Launch} {e : Env} {s : State} {m : MethodId} {args : Array Value} {below : List Frame} {meth : Method} {c : Code} {A : Nat → Prop} {Q : State → Prop} {D : va_G} {cy : Nat → ClassId} (q_p1 : Nat) (q_p2 : Nat) (d_p1 : Nat → Nat) (d_p2 : Nat → Nat) (p1_form_ : Int32) (p1_basics_ : Int32) (p1_table_ : Int32) (p2_form_ : Int32) (p2_basics_ : Int32) (p2_table_ : Int32)  (x0 : Int32) (out : Int32) (X : Cx p m c cX2_joinedTable 8 s args wsX2_joinedTable RX2 A D cy (RO_X2_joinedTable cy q_p1 q_p2 d_p1 d_p2 p1_form_ p1_basics_ p1_table_ p2_form_ p2_basics_ p2_table_)) (h : f_X2_joinedTable x0 p1_basics_ p1_table_ p2_basics_ p2_table_ = some out) (K : ∀ (H : Heap) (locs : List Loc) (ls : Array Slot) (pc : Nat), decode cX2_joinedTable pc = .ok (.ireturn, 1) → St A D s (RW_X2_joinedTable cy q_p1 q_p2 d_p1 d_p2) H locs → W p l e rm_X2_joinedTable s m args below meth c H locs 0 0 Q (F0 m pc ls [.int out])) : ∀ (H : Heap) (locs : List Loc) (ls : Array Slot), St A D s (RW_X2_joinedTable cy q_p1 q_p2 d_p1 d_p2) H locs → lv_has ls 8 [(0, .int x0), (1, .ref q_p1), (2, .ref q_p2)] → W p l e rm_X2_joinedTable s m args below meth c H locs 0 0 Q (F0 m 0 ls []) := by
  intro H locs ls Z hl
  have hx := X.1.1
  have hb := X.1.2.1
  unfold f_X2_joinedTable at h
  refine lv_iconst (v := (0 : Int32)) hx hb dX2_joinedTable_0 (by decide) ?_
  refine lv_istore_n (lv' := [(3, .int (0 : Int32)), (0, .int x0), (1, .ref q_p1), (2, .ref q_p2)]) hx hb dX2_joinedTable_1 rfl hl (by decide) rfl (fun ls hl => ?_)
  refine lv_iconst (v := (0 : Int32)) hx hb dX2_joinedTable_2 (by decide) ?_
  refine lv_istore (lv' := [(4, .int (0 : Int32)), (3, .int (0 : Int32)), (0, .int x0), (1, .ref q_p1), (2, .ref q_p2)]) hx hb dX2_joinedTable_3 hl (by decide) rfl (fun ls hl => ?_)
  obtain ⟨u15, hL16, h⟩ := ob_some h
  refine wl_X2_joinedTable_5 q_p1 q_p2 d_p1 d_p2 p1_form_ p1_basics_ p1_table_ p2_form_ p2_basics_ p2_table_ x0 FU ((0 : Int32), (0 : Int32)) u15 X hL16 (fun H locs ls Z hl => ?_) H locs ls Z (lv_sub hl [2, 3, 4, 1, 0] rfl)
  refine lv_iload_n hx hb dX2_joinedTable_121 rfl (lv_at hl 0 rfl) ?_
  obtain rfl := Option.some.inj h
  exact K H locs ls _ dX2_joinedTable_122 Z
theorem c_X2_joinedTable (l : Launch) (D : va_G) (cy : Nat → ClassId) (q_p1 : Nat) (q_p2 : Nat) (d_p1 : Nat → Nat) (d_p2 : Nat → Nat) (p1_form_ : Int32) (p1_basics_ : Int32) (p1_table_ : Int32) (p2_form_ : Int32) (p2_basics_ : Int32) (p2_table_ : Int32)  (x0 : Int32) (out : Int32) (h : f_X2_joinedTable x0 p1_basics_ p1_table_ p2_basics_ p2_table_ = some out) : CtI l yX2_joinedTable wsX2_joinedTable rm_X2_joinedTable D cy [.int x0, .ref q_p1, .ref q_p2] (RW_X2_joinedTable cy q_p1 q_p2 d_p1 d_p2) (RO_X2_joinedTable cy q_p1 q_p2 d_p1 d_p2 p1_form_ p1_basics_ p1_table_ p2_form_ p2_basics_ p2_table_) (RW_X2_joinedTable cy q_p1 q_p2 d_p1 d_p2) out :=
  mk_i (ty := .int) (by decide) rfl rfl (Nat.le_of_ble_eq_true rfl) (fun p e s m args below meth c A Q X K H locs ls Z hl => wt_X2_joinedTable q_p1 q_p2 d_p1 d_p2 p1_form_ p1_basics_ p1_table_ p2_form_ p2_basics_ p2_table_ x0 out X h K H locs ls Z hl)
/-! SubwordCounter$Monoid follow (II)V -/
abbrev rm_X3_follow : Room := { frames := 0, cells := 0, slots := 0, locals := 0 }
def RW_X3_follow (cy : Nat → ClassId) (o : Nat) (d : Nat → Nat) (images_ : Nat → Int32) : va_W := [((d 3), aI cy 160400 images_)]
def RO_X3_follow (cy : Nat → ClassId) (o : Nat) (d : Nat → Nat) (count_ : Int32) (points_ : Int32) (generators_ : Nat → Int32) : va_W := [(o, ob 3 (oX3 d count_ points_)), ((d 2), aI cy 1200 generators_)]
theorem in_X3_follow_X3 : ∀ w ∈ u_ws RX3 TX3 5, w ∈ wsX3_follow := fun w h => (List.mem_cons_of_mem _ (List.mem_append_right _ h))
theorem lk_X3_follow_X3_points : Lk wsX3_follow RX3 15 3 1 := ⟨RX3, TX3, 5, rfl, by decide, in_X3_follow_X3, mem_at 1 rfl⟩
theorem lk_X3_follow_X3_images : Lk wsX3_follow RX3 23 3 3 := ⟨RX3, TX3, 5, rfl, by decide, in_X3_follow_X3, mem_at 2 rfl⟩
theorem lk_X3_follow_X3_count : Lk wsX3_follow RX3 9 3 0 := ⟨RX3, TX3, 5, rfl, by decide, in_X3_follow_X3, mem_at 3 rfl⟩
theorem lk_X3_follow_X3_generators : Lk wsX3_follow RX3 18 3 2 := ⟨RX3, TX3, 5, rfl, by decide, in_X3_follow_X3, mem_at 4 rfl⟩
def b_X3_follow_2 (count_ : Int32) (points_ : Int32) (generators_ : Nat → Int32) (x1 : Int32) (x2 : Int32) (images_ : Nat → Int32) (x3 : Int32) : Option (((Nat → Int32) × Int32) ⊕ ((Nat → Int32))) :=
  if points_ ≤ x3 then
  (some (.inr images_))
  else
  (ldA images_ 160400 ((x1 * points_) + x3) (fun v2 =>
  ldA generators_ 1200 ((x2 * (400 : Int32)) + v2) (fun v5 =>
  stA images_ 160400 ((count_ * points_) + x3) v5 (fun images_8 =>
  some (.inl (images_8, (x3 + (1 : Int32))))))))
set_option maxHeartbeats 4000000 in
set_option maxRecDepth 100000 in
theorem wb_X3_follow_2 {p : Program} {l : Launch} {e : Env} {s : State} {m : MethodId} {args : Array Value} {below : List Frame} {meth : Method} {c : Code} {A : Nat → Prop} {Q : State → Prop} {D : va_G} {cy : Nat → ClassId} (o : Nat) (d : Nat → Nat) (count_ : Int32) (points_ : Int32) (generators_ : Nat → Int32)  (x1 : Int32) (x2 : Int32) (images_ : Nat → Int32) (x3 : Int32) (o1 : ((Nat → Int32) × Int32) ⊕ ((Nat → Int32))) (X : Cx p m c cX3_follow 4 s args wsX3_follow RX3 A D cy (RO_X3_follow cy o d count_ points_ generators_)) (h : b_X3_follow_2 count_ points_ generators_ x1 x2 images_ x3 = some o1) (K : Sum.elim (fun v : (Nat → Int32) × Int32 => ∀ (H : Heap) (locs : List Loc) (ls : Array Slot), St A D s (RW_X3_follow cy o d v.1) H locs → lv_has ls 4 [(0, .ref o), (1, .int x1), (2, .int x2), (3, .int v.2)] → W p l e rm_X3_follow s m args below meth c H locs 0 0 Q (F0 m 2 ls [])) (fun v : (Nat → Int32) => ∀ (H : Heap) (locs : List Loc) (ls : Array Slot), St A D s (RW_X3_follow cy o d v) H locs → lv_has ls 4 [] → W p l e rm_X3_follow s m args below meth c H locs 0 0 Q (F0 m 56 ls [])) o1) : ∀ (H : Heap) (locs : List Loc) (ls : Array Slot), St A D s (RW_X3_follow cy o d images_) H locs → lv_has ls 4 [(0, .ref o), (1, .int x1), (2, .int x2), (3, .int x3)] → W p l e rm_X3_follow s m args below meth c H locs 0 0 Q (F0 m 2 ls []) := by
  intro H locs ls Z hl
  have hx := X.1.1
  have hb := X.1.2.1
  unfold b_X3_follow_2 at h
  refine lv_iload_n hx hb dX3_follow_2 rfl (lv_at hl 3 rfl) ?_
  refine lv_aload_n hx hb dX3_follow_3 rfl (lv_at hl 0 rfl) ?_
  refine x_getO X Z 0 1 (v := .int points_) rfl rfl lk_X3_follow_X3_points dX3_follow_4 ?_
  refine lv_icmp_ge (tgt := 56) hx hb dX3_follow_7 (by decide) (fun cnd => ?_) (fun cnd => ?_)
  · replace h := ifp h cnd
    obtain rfl := Option.some.inj h
    exact (sk_r K) H locs ls Z (lv_sub hl [] rfl)
  · replace h := ifn h cnd
    refine lv_aload_n hx hb dX3_follow_10 rfl (lv_at hl 0 rfl) ?_
    refine x_getO X Z 0 3 (v := .ref (d 3)) rfl rfl lk_X3_follow_X3_images dX3_follow_11 ?_
    refine lv_aload_n hx hb dX3_follow_14 rfl (lv_at hl 0 rfl) ?_
    refine x_getO X Z 0 0 (v := .int count_) rfl rfl lk_X3_follow_X3_count dX3_follow_15 ?_
    refine lv_aload_n hx hb dX3_follow_18 rfl (lv_at hl 0 rfl) ?_
    refine x_getO X Z 0 1 (v := .int points_) rfl rfl lk_X3_follow_X3_points dX3_follow_19 ?_
    refine lv_imul hx hb dX3_follow_22 ?_
    refine lv_iload_n hx hb dX3_follow_23 rfl (lv_at hl 3 rfl) ?_
    refine lv_iadd hx hb dX3_follow_24 ?_
    refine lv_aload_n hx hb dX3_follow_25 rfl (lv_at hl 0 rfl) ?_
    refine x_getO X Z 0 2 (v := .ref (d 2)) rfl rfl lk_X3_follow_X3_generators dX3_follow_26 ?_
    refine lv_iload_n hx hb dX3_follow_29 rfl (lv_at hl 2 rfl) ?_
    refine lv_sipush (v := (400 : Int32)) hx hb dX3_follow_30 (by decide) ?_
    refine lv_imul hx hb dX3_follow_33 ?_
    refine lv_aload_n hx hb dX3_follow_34 rfl (lv_at hl 0 rfl) ?_
    refine x_getO X Z 0 3 (v := .ref (d 3)) rfl rfl lk_X3_follow_X3_images dX3_follow_35 ?_
    refine lv_iload_n hx hb dX3_follow_38 rfl (lv_at hl 1 rfl) ?_
    refine lv_aload_n hx hb dX3_follow_39 rfl (lv_at hl 0 rfl) ?_
    refine x_getO X Z 0 1 (v := .int points_) rfl rfl lk_X3_follow_X3_points dX3_follow_40 ?_
    refine lv_imul hx hb dX3_follow_43 ?_
    refine lv_iload_n hx hb dX3_follow_44 rfl (lv_at hl 3 rfl) ?_
    refine lv_iadd hx hb dX3_follow_45 ?_
    obtain ⟨hin1, v2, hv3, h⟩ := ld_b h
    refine x_iald X Z 0 rfl hin1 hv3 dX3_follow_46 ?_
    refine lv_iadd hx hb dX3_follow_47 ?_
    obtain ⟨hin4, v5, hv6, h⟩ := ld_b h
    refine x_ialdO X Z 1 rfl hin4 hv6 dX3_follow_48 ?_
    obtain ⟨hin7, images_8, hv9, h⟩ := st_b h
    refine x_iast X Z 0 (RW_X3_follow cy o d images_8) rfl hin7 hv9 rfl dX3_follow_49 (fun H locs Z => ?_)
    refine lv_iinc (v := (x3 + (1 : Int32))) (lv' := [(3, .int (x3 + (1 : Int32))), (0, .ref o), (1, .int x1), (2, .int x2)]) hx hb dX3_follow_50 hl (k := 3) rfl rfl (by decide) rfl (fun ls hl => ?_)
    refine lv_goto (tgt := 2) hx hb dX3_follow_53 (by decide) ?_
    obtain rfl := Option.some.inj h
    exact sk_l K H locs ls Z (lv_sub hl [1, 2, 3, 0] rfl)
set_option maxHeartbeats 4000000 in
set_option maxRecDepth 100000 in
theorem wl_X3_follow_2 {p : Program} {l : Launch} {e : Env} {s : State} {m : MethodId} {args : Array Value} {below : List Frame} {meth : Method} {c : Code} {A : Nat → Prop} {Q : State → Prop} {D : va_G} {cy : Nat → ClassId} (o : Nat) (d : Nat → Nat) (count_ : Int32) (points_ : Int32) (generators_ : Nat → Int32)  (x1 : Int32) (x2 : Int32) (n : Nat) (v : (Nat → Int32) × Int32) (x : (Nat → Int32)) (X : Cx p m c cX3_follow 4 s args wsX3_follow RX3 A D cy (RO_X3_follow cy o d count_ points_ generators_)) (h : loopN (fun v => b_X3_follow_2 count_ points_ generators_ x1 x2 v.1 v.2) n v = some x) (K : ∀ (H : Heap) (locs : List Loc) (ls : Array Slot), St A D s (RW_X3_follow cy o d x) H locs → lv_has ls 4 [] → W p l e rm_X3_follow s m args below meth c H locs 0 0 Q (F0 m 56 ls [])) : ∀ (H : Heap) (locs : List Loc) (ls : Array Slot), St A D s (RW_X3_follow cy o d v.1) H locs → lv_has ls 4 [(0, .ref o), (1, .int x1), (2, .int x2), (3, .int v.2)] → W p l e rm_X3_follow s m args below meth c H locs 0 0 Q (F0 m 2 ls []) :=
  loop_gen (B := (fun v => b_X3_follow_2 count_ points_ generators_ x1 x2 v.1 v.2)) (Head := fun v : (Nat → Int32) × Int32 => ∀ (H : Heap) (locs : List Loc) (ls : Array Slot), St A D s (RW_X3_follow cy o d v.1) H locs → lv_has ls 4 [(0, .ref o), (1, .int x1), (2, .int x2), (3, .int v.2)] → W p l e rm_X3_follow s m args below meth c H locs 0 0 Q (F0 m 2 ls [])) (Exit := fun v : (Nat → Int32) => ∀ (H : Heap) (locs : List Loc) (ls : Array Slot), St A D s (RW_X3_follow cy o d v) H locs → lv_has ls 4 [] → W p l e rm_X3_follow s m args below meth c H locs 0 0 Q (F0 m 56 ls [])) (fun v o9 hb1 K1 => wb_X3_follow_2 o d count_ points_ generators_ x1 x2 v.1 v.2 o9 X hb1 K1) n v x h K
def f_X3_follow (x1 : Int32) (x2 : Int32) (count_ : Int32) (points_ : Int32) (generators_ : Nat → Int32) (images_ : Nat → Int32) : Option ((Nat → Int32)) :=
  (loopN (fun v => b_X3_follow_2 count_ points_ generators_ x1 x2 v.1 v.2) FU (images_, (0 : Int32))).bind (fun u10 =>
  some u10)
set_option maxHeartbeats 4000000 in
set_option maxRecDepth 100000 in
theorem wt_X3_follow {p : Program} {l : Launch} {e : Env} {s : State} {m : MethodId} {args : Array Value} {below : List Frame} {meth : Method} {c : Code} {A : Nat → Prop} {Q : State → Prop} {D : va_G} {cy : Nat → ClassId} (o : Nat) (d : Nat → Nat) (count_ : Int32) (points_ : Int32) (generators_ : Nat → Int32) (images_ : Nat → Int32) (x1 : Int32) (x2 : Int32) (out : (Nat → Int32)) (X : Cx p m c cX3_follow 4 s args wsX3_follow RX3 A D cy (RO_X3_follow cy o d count_ points_ generators_)) (h : f_X3_follow x1 x2 count_ points_ generators_ images_ = some out) (K : ∀ (H : Heap) (locs : List Loc) (ls : Array Slot) (pc : Nat), decode cX3_follow pc = .ok (.return_, 1) → St A D s (RW_X3_follow cy o d out) H locs → W p l e rm_X3_follow s m args below meth c H locs 0 0 Q (F0 m pc ls [])) : ∀ (H : Heap) (locs : List Loc) (ls : Array Slot), St A D s (RW_X3_follow cy o d images_) H locs → lv_has ls 4 [(0, .ref o), (1, .int x1), (2, .int x2)] → W p l e rm_X3_follow s m args below meth c H locs 0 0 Q (F0 m 0 ls []) := by
  intro H locs ls Z hl
  have hx := X.1.1
  have hb := X.1.2.1
  unfold f_X3_follow at h
  refine lv_iconst (v := (0 : Int32)) hx hb dX3_follow_0 (by decide) ?_
  refine lv_istore_n (lv' := [(3, .int (0 : Int32)), (0, .ref o), (1, .int x1), (2, .int x2)]) hx hb dX3_follow_1 rfl hl (by decide) rfl (fun ls hl => ?_)
  obtain ⟨u10, hL11, h⟩ := ob_some h
  refine wl_X3_follow_2 o d count_ points_ generators_ x1 x2 FU (images_, (0 : Int32)) u10 X hL11 (fun H locs ls Z hl => ?_) H locs ls Z (lv_sub hl [1, 2, 3, 0] rfl)
  obtain rfl := Option.some.inj h
  exact K H locs ls _ dX3_follow_56 Z
theorem c_X3_follow (l : Launch) (D : va_G) (cy : Nat → ClassId) (o : Nat) (d : Nat → Nat) (count_ : Int32) (points_ : Int32) (generators_ : Nat → Int32) (images_ : Nat → Int32) (x1 : Int32) (x2 : Int32) (out : (Nat → Int32)) (h : f_X3_follow x1 x2 count_ points_ generators_ images_ = some out) : CtV l yX3_follow wsX3_follow rm_X3_follow D cy [.ref o, .int x1, .int x2] (RW_X3_follow cy o d images_) (RO_X3_follow cy o d count_ points_ generators_) (RW_X3_follow cy o d out) :=
  mk_v (by decide) rfl (Nat.le_of_ble_eq_true rfl) (fun p e s m args below meth c A Q X K H locs ls Z hl => wt_X3_follow o d count_ points_ generators_ images_ x1 x2 out X h K H locs ls Z hl)
/-! SubwordCounter$Monoid areSame (II)Z -/
abbrev rm_X3_areSame : Room := { frames := 0, cells := 0, slots := 0, locals := 0 }
def RW_X3_areSame (cy : Nat → ClassId) (o : Nat) (d : Nat → Nat)  : va_W := []
def RO_X3_areSame (cy : Nat → ClassId) (o : Nat) (d : Nat → Nat) (count_ : Int32) (points_ : Int32) (images_ : Nat → Int32) : va_W := [(o, ob 3 (oX3 d count_ points_)), ((d 3), aI cy 160400 images_)]
theorem in_X3_areSame_X3 : ∀ w ∈ u_ws RX3 TX3 5, w ∈ wsX3_areSame := fun w h => (List.mem_cons_of_mem _ (List.mem_append_right _ h))
theorem lk_X3_areSame_X3_points : Lk wsX3_areSame RX3 15 3 1 := ⟨RX3, TX3, 5, rfl, by decide, in_X3_areSame_X3, mem_at 1 rfl⟩
theorem lk_X3_areSame_X3_images : Lk wsX3_areSame RX3 23 3 3 := ⟨RX3, TX3, 5, rfl, by decide, in_X3_areSame_X3, mem_at 2 rfl⟩
def b_X3_areSame_2 (points_ : Int32) (images_ : Nat → Int32) (x1 : Int32) (x2 : Int32)  (x3 : Int32) : Option ((Int32) ⊕ ((Unit) ⊕ (Unit))) :=
  if points_ ≤ x3 then
  (some (.inr (.inr ())))
  else
  (ldA images_ 160400 ((x1 * points_) + x3) (fun v2 =>
  ldA images_ 160400 ((x2 * points_) + x3) (fun v5 =>
  if v2 = v5 then
  (some (.inl (x3 + (1 : Int32))))
  else
  (some (.inr (.inl ()))))))
set_option maxHeartbeats 4000000 in
set_option maxRecDepth 100000 in
theorem wb_X3_areSame_2 {p : Program} {l : Launch} {e : Env} {s : State} {m : MethodId} {args : Array Value} {below : List Frame} {meth : Method} {c : Code} {A : Nat → Prop} {Q : State → Prop} {D : va_G} {cy : Nat → ClassId} (o : Nat) (d : Nat → Nat) (count_ : Int32) (points_ : Int32) (images_ : Nat → Int32)  (x1 : Int32) (x2 : Int32)  (x3 : Int32) (o1 : (Int32) ⊕ ((Unit) ⊕ (Unit))) (X : Cx p m c cX3_areSame 4 s args wsX3_areSame RX3 A D cy (RO_X3_areSame cy o d count_ points_ images_)) (h : b_X3_areSame_2 points_ images_ x1 x2 x3 = some o1) (K : Sum.elim (fun v : Int32 => ∀ (H : Heap) (locs : List Loc) (ls : Array Slot), St A D s (RW_X3_areSame cy o d) H locs → lv_has ls 4 [(0, .ref o), (1, .int x1), (2, .int x2), (3, .int v)] → W p l e rm_X3_areSame s m args below meth c H locs 0 0 Q (F0 m 2 ls [])) (fun v : (Unit) ⊕ (Unit) => Sum.elim (fun w : Unit => ∀ (H : Heap) (locs : List Loc) (ls : Array Slot), St A D s (RW_X3_areSame cy o d) H locs → lv_has ls 4 [] → W p l e rm_X3_areSame s m args below meth c H locs 0 0 Q (F0 m 39 ls [])) (fun w => ∀ (H : Heap) (locs : List Loc) (ls : Array Slot), St A D s (RW_X3_areSame cy o d) H locs → lv_has ls 4 [] → W p l e rm_X3_areSame s m args below meth c H locs 0 0 Q (F0 m 47 ls [])) v) o1) : ∀ (H : Heap) (locs : List Loc) (ls : Array Slot), St A D s (RW_X3_areSame cy o d) H locs → lv_has ls 4 [(0, .ref o), (1, .int x1), (2, .int x2), (3, .int x3)] → W p l e rm_X3_areSame s m args below meth c H locs 0 0 Q (F0 m 2 ls []) := by
  intro H locs ls Z hl
  have hx := X.1.1
  have hb := X.1.2.1
  unfold b_X3_areSame_2 at h
  refine lv_iload_n hx hb dX3_areSame_2 rfl (lv_at hl 3 rfl) ?_
  refine lv_aload_n hx hb dX3_areSame_3 rfl (lv_at hl 0 rfl) ?_
  refine x_getO X Z 0 1 (v := .int points_) rfl rfl lk_X3_areSame_X3_points dX3_areSame_4 ?_
  refine lv_icmp_ge (tgt := 47) hx hb dX3_areSame_7 (by decide) (fun cnd => ?_) (fun cnd => ?_)
  · replace h := ifp h cnd
    obtain rfl := Option.some.inj h
    exact (sk_r (sk_r K)) H locs ls Z (lv_sub hl [] rfl)
  · replace h := ifn h cnd
    refine lv_aload_n hx hb dX3_areSame_10 rfl (lv_at hl 0 rfl) ?_
    refine x_getO X Z 0 3 (v := .ref (d 3)) rfl rfl lk_X3_areSame_X3_images dX3_areSame_11 ?_
    refine lv_iload_n hx hb dX3_areSame_14 rfl (lv_at hl 1 rfl) ?_
    refine lv_aload_n hx hb dX3_areSame_15 rfl (lv_at hl 0 rfl) ?_
    refine x_getO X Z 0 1 (v := .int points_) rfl rfl lk_X3_areSame_X3_points dX3_areSame_16 ?_
    refine lv_imul hx hb dX3_areSame_19 ?_
    refine lv_iload_n hx hb dX3_areSame_20 rfl (lv_at hl 3 rfl) ?_
    refine lv_iadd hx hb dX3_areSame_21 ?_
    obtain ⟨hin1, v2, hv3, h⟩ := ld_b h
    refine x_ialdO X Z 1 rfl hin1 hv3 dX3_areSame_22 ?_
    refine lv_aload_n hx hb dX3_areSame_23 rfl (lv_at hl 0 rfl) ?_
    refine x_getO X Z 0 3 (v := .ref (d 3)) rfl rfl lk_X3_areSame_X3_images dX3_areSame_24 ?_
    refine lv_iload_n hx hb dX3_areSame_27 rfl (lv_at hl 2 rfl) ?_
    refine lv_aload_n hx hb dX3_areSame_28 rfl (lv_at hl 0 rfl) ?_
    refine x_getO X Z 0 1 (v := .int points_) rfl rfl lk_X3_areSame_X3_points dX3_areSame_29 ?_
    refine lv_imul hx hb dX3_areSame_32 ?_
    refine lv_iload_n hx hb dX3_areSame_33 rfl (lv_at hl 3 rfl) ?_
    refine lv_iadd hx hb dX3_areSame_34 ?_
    obtain ⟨hin4, v5, hv6, h⟩ := ld_b h
    refine x_ialdO X Z 1 rfl hin4 hv6 dX3_areSame_35 ?_
    refine lv_icmp_eq (tgt := 41) hx hb dX3_areSame_36 (by decide) (fun cnd => ?_) (fun cnd => ?_)
    · replace h := ifp h cnd
      refine lv_iinc (v := (x3 + (1 : Int32))) (lv' := [(3, .int (x3 + (1 : Int32))), (0, .ref o), (1, .int x1), (2, .int x2)]) hx hb dX3_areSame_41 hl (k := 3) rfl rfl (by decide) rfl (fun ls hl => ?_)
      refine lv_goto (tgt := 2) hx hb dX3_areSame_44 (by decide) ?_
      obtain rfl := Option.some.inj h
      exact sk_l K H locs ls Z (lv_sub hl [1, 2, 3, 0] rfl)
    · replace h := ifn h cnd
      obtain rfl := Option.some.inj h
      exact (sk_l (sk_r K)) H locs ls Z (lv_sub hl [] rfl)
set_option maxHeartbeats 4000000 in
set_option maxRecDepth 100000 in
theorem wl_X3_areSame_2 {p : Program} {l : Launch} {e : Env} {s : State} {m : MethodId} {args : Array Value} {below : List Frame} {meth : Method} {c : Code} {A : Nat → Prop} {Q : State → Prop} {D : va_G} {cy : Nat → ClassId} (o : Nat) (d : Nat → Nat) (count_ : Int32) (points_ : Int32) (images_ : Nat → Int32)  (x1 : Int32) (x2 : Int32) (n : Nat) (v : Int32) (x : (Unit) ⊕ (Unit)) (X : Cx p m c cX3_areSame 4 s args wsX3_areSame RX3 A D cy (RO_X3_areSame cy o d count_ points_ images_)) (h : loopN (fun v => b_X3_areSame_2 points_ images_ x1 x2 v) n v = some x) (K : Sum.elim (fun w : Unit => ∀ (H : Heap) (locs : List Loc) (ls : Array Slot), St A D s (RW_X3_areSame cy o d) H locs → lv_has ls 4 [] → W p l e rm_X3_areSame s m args below meth c H locs 0 0 Q (F0 m 39 ls [])) (fun w => ∀ (H : Heap) (locs : List Loc) (ls : Array Slot), St A D s (RW_X3_areSame cy o d) H locs → lv_has ls 4 [] → W p l e rm_X3_areSame s m args below meth c H locs 0 0 Q (F0 m 47 ls [])) x) : ∀ (H : Heap) (locs : List Loc) (ls : Array Slot), St A D s (RW_X3_areSame cy o d) H locs → lv_has ls 4 [(0, .ref o), (1, .int x1), (2, .int x2), (3, .int v)] → W p l e rm_X3_areSame s m args below meth c H locs 0 0 Q (F0 m 2 ls []) :=
  loop_gen (B := (fun v => b_X3_areSame_2 points_ images_ x1 x2 v)) (Head := fun v : Int32 => ∀ (H : Heap) (locs : List Loc) (ls : Array Slot), St A D s (RW_X3_areSame cy o d) H locs → lv_has ls 4 [(0, .ref o), (1, .int x1), (2, .int x2), (3, .int v)] → W p l e rm_X3_areSame s m args below meth c H locs 0 0 Q (F0 m 2 ls [])) (Exit := fun v : (Unit) ⊕ (Unit) => Sum.elim (fun w : Unit => ∀ (H : Heap) (locs : List Loc) (ls : Array Slot), St A D s (RW_X3_areSame cy o d) H locs → lv_has ls 4 [] → W p l e rm_X3_areSame s m args below meth c H locs 0 0 Q (F0 m 39 ls [])) (fun w => ∀ (H : Heap) (locs : List Loc) (ls : Array Slot), St A D s (RW_X3_areSame cy o d) H locs → lv_has ls 4 [] → W p l e rm_X3_areSame s m args below meth c H locs 0 0 Q (F0 m 47 ls [])) v) (fun v o9 hb1 K1 => wb_X3_areSame_2 o d count_ points_ images_ x1 x2 v o9 X hb1 K1) n v x h K
def f_X3_areSame (x1 : Int32) (x2 : Int32) (points_ : Int32) (images_ : Nat → Int32) : Option (Int32) :=
  (loopN (fun v => b_X3_areSame_2 points_ images_ x1 x2 v) FU (0 : Int32)).bind (fun u7 =>
  Sum.elim (fun u7 =>
  some (0 : Int32)) (fun u7 =>
  some (1 : Int32)) u7)
set_option maxHeartbeats 4000000 in
set_option maxRecDepth 100000 in
theorem wt_X3_areSame {p : Program} {l : Launch} {e : Env} {s : State} {m : MethodId} {args : Array Value} {below : List Frame} {meth : Method} {c : Code} {A : Nat → Prop} {Q : State → Prop} {D : va_G} {cy : Nat → ClassId} (o : Nat) (d : Nat → Nat) (count_ : Int32) (points_ : Int32) (images_ : Nat → Int32)  (x1 : Int32) (x2 : Int32) (out : Int32) (X : Cx p m c cX3_areSame 4 s args wsX3_areSame RX3 A D cy (RO_X3_areSame cy o d count_ points_ images_)) (h : f_X3_areSame x1 x2 points_ images_ = some out) (K : ∀ (H : Heap) (locs : List Loc) (ls : Array Slot) (pc : Nat), decode cX3_areSame pc = .ok (.ireturn, 1) → (out = 0 ∨ out = 1) → St A D s (RW_X3_areSame cy o d) H locs → W p l e rm_X3_areSame s m args below meth c H locs 0 0 Q (F0 m pc ls [.int out])) : ∀ (H : Heap) (locs : List Loc) (ls : Array Slot), St A D s (RW_X3_areSame cy o d) H locs → lv_has ls 4 [(0, .ref o), (1, .int x1), (2, .int x2)] → W p l e rm_X3_areSame s m args below meth c H locs 0 0 Q (F0 m 0 ls []) := by
  intro H locs ls Z hl
  have hx := X.1.1
  have hb := X.1.2.1
  unfold f_X3_areSame at h
  refine lv_iconst (v := (0 : Int32)) hx hb dX3_areSame_0 (by decide) ?_
  refine lv_istore_n (lv' := [(3, .int (0 : Int32)), (0, .ref o), (1, .int x1), (2, .int x2)]) hx hb dX3_areSame_1 rfl hl (by decide) rfl (fun ls hl => ?_)
  obtain ⟨u7, hL8, h⟩ := ob_some h
  rcases u7 with u7 | u7
  · replace h := se_l h
    refine wl_X3_areSame_2 o d count_ points_ images_ x1 x2 FU (0 : Int32) (.inl u7) X hL8 (sk_li (fun H locs ls Z hl => ?_)) H locs ls Z (lv_sub hl [1, 2, 3, 0] rfl)
    refine lv_iconst (v := (0 : Int32)) hx hb dX3_areSame_39 (by decide) ?_
    obtain rfl := Option.some.inj h
    exact K H locs ls _ dX3_areSame_40 (Or.inl rfl) Z
  · replace h := se_r h
    refine wl_X3_areSame_2 o d count_ points_ images_ x1 x2 FU (0 : Int32) (.inr u7) X hL8 (sk_ri (fun H locs ls Z hl => ?_)) H locs ls Z (lv_sub hl [1, 2, 3, 0] rfl)
    refine lv_iconst (v := (1 : Int32)) hx hb dX3_areSame_47 (by decide) ?_
    obtain rfl := Option.some.inj h
    exact K H locs ls _ dX3_areSame_48 (Or.inr rfl) Z
theorem c_X3_areSame (l : Launch) (D : va_G) (cy : Nat → ClassId) (o : Nat) (d : Nat → Nat) (count_ : Int32) (points_ : Int32) (images_ : Nat → Int32)  (x1 : Int32) (x2 : Int32) (out : Int32) (h : f_X3_areSame x1 x2 points_ images_ = some out) : CtI l yX3_areSame wsX3_areSame rm_X3_areSame D cy [.ref o, .int x1, .int x2] (RW_X3_areSame cy o d) (RO_X3_areSame cy o d count_ points_ images_) (RW_X3_areSame cy o d) out :=
  mk_z (by decide) rfl (Nat.le_of_ble_eq_true rfl) (fun p e s m args below meth c A Q X K H locs ls Z hl => wt_X3_areSame o d count_ points_ images_ x1 x2 out X h K H locs ls Z hl)
/-! SubwordCounter$Monoid hashOf (I)I -/
abbrev rm_X3_hashOf : Room := { frames := 0, cells := 0, slots := 0, locals := 0 }
def RW_X3_hashOf (cy : Nat → ClassId) (o : Nat) (d : Nat → Nat)  : va_W := []
def RO_X3_hashOf (cy : Nat → ClassId) (o : Nat) (d : Nat → Nat) (count_ : Int32) (points_ : Int32) (images_ : Nat → Int32) : va_W := [(o, ob 3 (oX3 d count_ points_)), ((d 3), aI cy 160400 images_)]
theorem in_X3_hashOf_X3 : ∀ w ∈ u_ws RX3 TX3 5, w ∈ wsX3_hashOf := fun w h => (List.mem_cons_of_mem _ (List.mem_append_right _ h))
theorem lk_X3_hashOf_X3_points : Lk wsX3_hashOf RX3 15 3 1 := ⟨RX3, TX3, 5, rfl, by decide, in_X3_hashOf_X3, mem_at 1 rfl⟩
theorem lk_X3_hashOf_X3_images : Lk wsX3_hashOf RX3 23 3 3 := ⟨RX3, TX3, 5, rfl, by decide, in_X3_hashOf_X3, mem_at 2 rfl⟩
def b_X3_hashOf_4 (points_ : Int32) (images_ : Nat → Int32) (x1 : Int32)  (x2 : Int32) (x3 : Int32) : Option ((Int32 × Int32) ⊕ (Int32)) :=
  if points_ ≤ x3 then
  (some (.inr x2))
  else
  (ldA images_ 160400 ((x1 * points_) + x3) (fun v2 =>
  some (.inl (((x2 * (31 : Int32)) + v2), (x3 + (1 : Int32))))))
set_option maxHeartbeats 4000000 in
set_option maxRecDepth 100000 in
theorem wb_X3_hashOf_4 {p : Program} {l : Launch} {e : Env} {s : State} {m : MethodId} {args : Array Value} {below : List Frame} {meth : Method} {c : Code} {A : Nat → Prop} {Q : State → Prop} {D : va_G} {cy : Nat → ClassId} (o : Nat) (d : Nat → Nat) (count_ : Int32) (points_ : Int32) (images_ : Nat → Int32)  (x1 : Int32)  (x2 : Int32) (x3 : Int32) (o1 : (Int32 × Int32) ⊕ (Int32)) (X : Cx p m c cX3_hashOf 4 s args wsX3_hashOf RX3 A D cy (RO_X3_hashOf cy o d count_ points_ images_)) (h : b_X3_hashOf_4 points_ images_ x1 x2 x3 = some o1) (K : Sum.elim (fun v : Int32 × Int32 => ∀ (H : Heap) (locs : List Loc) (ls : Array Slot), St A D s (RW_X3_hashOf cy o d) H locs → lv_has ls 4 [(0, .ref o), (1, .int x1), (2, .int v.1), (3, .int v.2)] → W p l e rm_X3_hashOf s m args below meth c H locs 0 0 Q (F0 m 4 ls [])) (fun v : Int32 => ∀ (H : Heap) (locs : List Loc) (ls : Array Slot), St A D s (RW_X3_hashOf cy o d) H locs → lv_has ls 4 [(2, .int v)] → W p l e rm_X3_hashOf s m args below meth c H locs 0 0 Q (F0 m 37 ls [])) o1) : ∀ (H : Heap) (locs : List Loc) (ls : Array Slot), St A D s (RW_X3_hashOf cy o d) H locs → lv_has ls 4 [(0, .ref o), (1, .int x1), (2, .int x2), (3, .int x3)] → W p l e rm_X3_hashOf s m args below meth c H locs 0 0 Q (F0 m 4 ls []) := by
  intro H locs ls Z hl
  have hx := X.1.1
  have hb := X.1.2.1
  unfold b_X3_hashOf_4 at h
  refine lv_iload_n hx hb dX3_hashOf_4 rfl (lv_at hl 3 rfl) ?_
  refine lv_aload_n hx hb dX3_hashOf_5 rfl (lv_at hl 0 rfl) ?_
  refine x_getO X Z 0 1 (v := .int points_) rfl rfl lk_X3_hashOf_X3_points dX3_hashOf_6 ?_
  refine lv_icmp_ge (tgt := 37) hx hb dX3_hashOf_9 (by decide) (fun cnd => ?_) (fun cnd => ?_)
  · replace h := ifp h cnd
    obtain rfl := Option.some.inj h
    exact (sk_r K) H locs ls Z (lv_sub hl [2] rfl)
  · replace h := ifn h cnd
    refine lv_iload_n hx hb dX3_hashOf_12 rfl (lv_at hl 2 rfl) ?_
    refine lv_bipush (v := (31 : Int32)) hx hb dX3_hashOf_13 (by decide) ?_
    refine lv_imul hx hb dX3_hashOf_15 ?_
    refine lv_aload_n hx hb dX3_hashOf_16 rfl (lv_at hl 0 rfl) ?_
    refine x_getO X Z 0 3 (v := .ref (d 3)) rfl rfl lk_X3_hashOf_X3_images dX3_hashOf_17 ?_
    refine lv_iload_n hx hb dX3_hashOf_20 rfl (lv_at hl 1 rfl) ?_
    refine lv_aload_n hx hb dX3_hashOf_21 rfl (lv_at hl 0 rfl) ?_
    refine x_getO X Z 0 1 (v := .int points_) rfl rfl lk_X3_hashOf_X3_points dX3_hashOf_22 ?_
    refine lv_imul hx hb dX3_hashOf_25 ?_
    refine lv_iload_n hx hb dX3_hashOf_26 rfl (lv_at hl 3 rfl) ?_
    refine lv_iadd hx hb dX3_hashOf_27 ?_
    obtain ⟨hin1, v2, hv3, h⟩ := ld_b h
    refine x_ialdO X Z 1 rfl hin1 hv3 dX3_hashOf_28 ?_
    refine lv_iadd hx hb dX3_hashOf_29 ?_
    refine lv_istore_n (lv' := [(2, .int ((x2 * (31 : Int32)) + v2)), (0, .ref o), (1, .int x1), (3, .int x3)]) hx hb dX3_hashOf_30 rfl hl (by decide) rfl (fun ls hl => ?_)
    refine lv_iinc (v := (x3 + (1 : Int32))) (lv' := [(3, .int (x3 + (1 : Int32))), (2, .int ((x2 * (31 : Int32)) + v2)), (0, .ref o), (1, .int x1)]) hx hb dX3_hashOf_31 hl (k := 3) rfl rfl (by decide) rfl (fun ls hl => ?_)
    refine lv_goto (tgt := 4) hx hb dX3_hashOf_34 (by decide) ?_
    obtain rfl := Option.some.inj h
    exact sk_l K H locs ls Z (lv_sub hl [2, 3, 1, 0] rfl)
set_option maxHeartbeats 4000000 in
set_option maxRecDepth 100000 in
theorem wl_X3_hashOf_4 {p : Program} {l : Launch} {e : Env} {s : State} {m : MethodId} {args : Array Value} {below : List Frame} {meth : Method} {c : Code} {A : Nat → Prop} {Q : State → Prop} {D : va_G} {cy : Nat → ClassId} (o : Nat) (d : Nat → Nat) (count_ : Int32) (points_ : Int32) (images_ : Nat → Int32)  (x1 : Int32) (n : Nat) (v : Int32 × Int32) (x : Int32) (X : Cx p m c cX3_hashOf 4 s args wsX3_hashOf RX3 A D cy (RO_X3_hashOf cy o d count_ points_ images_)) (h : loopN (fun v => b_X3_hashOf_4 points_ images_ x1 v.1 v.2) n v = some x) (K : ∀ (H : Heap) (locs : List Loc) (ls : Array Slot), St A D s (RW_X3_hashOf cy o d) H locs → lv_has ls 4 [(2, .int x)] → W p l e rm_X3_hashOf s m args below meth c H locs 0 0 Q (F0 m 37 ls [])) : ∀ (H : Heap) (locs : List Loc) (ls : Array Slot), St A D s (RW_X3_hashOf cy o d) H locs → lv_has ls 4 [(0, .ref o), (1, .int x1), (2, .int v.1), (3, .int v.2)] → W p l e rm_X3_hashOf s m args below meth c H locs 0 0 Q (F0 m 4 ls []) :=
  loop_gen (B := (fun v => b_X3_hashOf_4 points_ images_ x1 v.1 v.2)) (Head := fun v : Int32 × Int32 => ∀ (H : Heap) (locs : List Loc) (ls : Array Slot), St A D s (RW_X3_hashOf cy o d) H locs → lv_has ls 4 [(0, .ref o), (1, .int x1), (2, .int v.1), (3, .int v.2)] → W p l e rm_X3_hashOf s m args below meth c H locs 0 0 Q (F0 m 4 ls [])) (Exit := fun v : Int32 => ∀ (H : Heap) (locs : List Loc) (ls : Array Slot), St A D s (RW_X3_hashOf cy o d) H locs → lv_has ls 4 [(2, .int v)] → W p l e rm_X3_hashOf s m args below meth c H locs 0 0 Q (F0 m 37 ls [])) (fun v o9 hb1 K1 => wb_X3_hashOf_4 o d count_ points_ images_ x1 v.1 v.2 o9 X hb1 K1) n v x h K
def f_X3_hashOf (x1 : Int32) (points_ : Int32) (images_ : Nat → Int32) : Option (Int32) :=
  (loopN (fun v => b_X3_hashOf_4 points_ images_ x1 v.1 v.2) FU ((0 : Int32), (0 : Int32))).bind (fun u4 =>
  some (ushI (u4 * (-1640531535 : Int32)) (22 : Int32)))
set_option maxHeartbeats 4000000 in
set_option maxRecDepth 100000 in
theorem wt_X3_hashOf {p : Program} {l : Launch} {e : Env} {s : State} {m : MethodId} {args : Array Value} {below : List Frame} {meth : Method} {c : Code} {A : Nat → Prop} {Q : State → Prop} {D : va_G} {cy : Nat → ClassId} (o : Nat) (d : Nat → Nat) (count_ : Int32) (points_ : Int32) (images_ : Nat → Int32)  (x1 : Int32) (out : Int32) (X : Cx p m c cX3_hashOf 4 s args wsX3_hashOf RX3 A D cy (RO_X3_hashOf cy o d count_ points_ images_)) (h : f_X3_hashOf x1 points_ images_ = some out) (K : ∀ (H : Heap) (locs : List Loc) (ls : Array Slot) (pc : Nat), decode cX3_hashOf pc = .ok (.ireturn, 1) → St A D s (RW_X3_hashOf cy o d) H locs → W p l e rm_X3_hashOf s m args below meth c H locs 0 0 Q (F0 m pc ls [.int out])) : ∀ (H : Heap) (locs : List Loc) (ls : Array Slot), St A D s (RW_X3_hashOf cy o d) H locs → lv_has ls 4 [(0, .ref o), (1, .int x1)] → W p l e rm_X3_hashOf s m args below meth c H locs 0 0 Q (F0 m 0 ls []) := by
  intro H locs ls Z hl
  have hx := X.1.1
  have hb := X.1.2.1
  unfold f_X3_hashOf at h
  refine lv_iconst (v := (0 : Int32)) hx hb dX3_hashOf_0 (by decide) ?_
  refine lv_istore_n (lv' := [(2, .int (0 : Int32)), (0, .ref o), (1, .int x1)]) hx hb dX3_hashOf_1 rfl hl (by decide) rfl (fun ls hl => ?_)
  refine lv_iconst (v := (0 : Int32)) hx hb dX3_hashOf_2 (by decide) ?_
  refine lv_istore_n (lv' := [(3, .int (0 : Int32)), (2, .int (0 : Int32)), (0, .ref o), (1, .int x1)]) hx hb dX3_hashOf_3 rfl hl (by decide) rfl (fun ls hl => ?_)
  obtain ⟨u4, hL5, h⟩ := ob_some h
  refine wl_X3_hashOf_4 o d count_ points_ images_ x1 FU ((0 : Int32), (0 : Int32)) u4 X hL5 (fun H locs ls Z hl => ?_) H locs ls Z (lv_sub hl [2, 3, 1, 0] rfl)
  refine lv_iload_n hx hb dX3_hashOf_37 rfl (lv_at hl 0 rfl) ?_
  refine lv_ldc (v := (-1640531535 : Int32)) hx hb X.1.2.2.2.1 (X.1.2.2.2.2 _ (mem_at 3 rfl)) dX3_hashOf_38 ?_
  refine lv_imul hx hb dX3_hashOf_40 ?_
  refine lv_bipush (v := (22 : Int32)) hx hb dX3_hashOf_41 (by decide) ?_
  refine lv_iushr (v := (ushI (u4 * (-1640531535 : Int32)) (22 : Int32))) hx hb dX3_hashOf_43 rfl ?_
  obtain rfl := Option.some.inj h
  exact K H locs ls _ dX3_hashOf_44 Z
theorem c_X3_hashOf (l : Launch) (D : va_G) (cy : Nat → ClassId) (o : Nat) (d : Nat → Nat) (count_ : Int32) (points_ : Int32) (images_ : Nat → Int32)  (x1 : Int32) (out : Int32) (h : f_X3_hashOf x1 points_ images_ = some out) : CtI l yX3_hashOf wsX3_hashOf rm_X3_hashOf D cy [.ref o, .int x1] (RW_X3_hashOf cy o d) (RO_X3_hashOf cy o d count_ points_ images_) (RW_X3_hashOf cy o d) out :=
  mk_i (ty := .int) (by decide) rfl rfl (Nat.le_of_ble_eq_true rfl) (fun p e s m args below meth c A Q X K H locs ls Z hl => wt_X3_hashOf o d count_ points_ images_ x1 out X h K H locs ls Z hl)
/-! SubwordCounter$Monoid settleLast ()Z -/
abbrev rm_X3_settleLast : Room := { frames := 1, cells := 0, slots := 0, locals := 23 }
def RW_X3_settleLast (cy : Nat → ClassId) (o : Nat) (d : Nat → Nat) (count_ : Int32) (points_ : Int32) (slots_ : Nat → Int32) : va_W := [(o, ob 3 (oX3 d count_ points_)), ((d 4), aI cy 1024 slots_)]
def RO_X3_settleLast (cy : Nat → ClassId) (o : Nat) (d : Nat → Nat) (images_ : Nat → Int32) : va_W := [((d 3), aI cy 160400 images_)]
theorem in_X3_settleLast_X3 : ∀ w ∈ u_ws RX3 TX3 5, w ∈ wsX3_settleLast := fun w h => (List.mem_cons_of_mem _ (List.mem_append_right _ h))
theorem lk_X3_settleLast_X3_slots : Lk wsX3_settleLast RX3 26 3 4 := ⟨RX3, TX3, 5, rfl, by decide, in_X3_settleLast_X3, mem_at 2 rfl⟩
theorem lk_X3_settleLast_X3_count : Lk wsX3_settleLast RX3 9 3 0 := ⟨RX3, TX3, 5, rfl, by decide, in_X3_settleLast_X3, mem_at 1 rfl⟩
theorem lp_X3_settleLast_X3_count : Lp wsX3_settleLast RX3 9 3 0 .int := ⟨RX3, TX3, 5, tyX3, rfl, by decide, in_X3_settleLast_X3, mem_at 1 rfl, tyX3_ok, nmX3, rfl, by decide +kernel⟩
def b_X3_settleLast_11 (images_ : Nat → Int32) (points_ : Int32) (count_ : Int32) (slots_ : Nat → Int32) (x1 : Int32)  (x2 : Int32) : Option ((Int32) ⊕ ((Int32) ⊕ (Unit) ⊕ (Unit))) :=
  if (1024 : Int32) ≤ x2 then
  (some (.inr (.inr (.inr ()))))
  else
  (ldA slots_ 1024 ((x1 + x2) &&& (1023 : Int32)) (fun v2 =>
  if 0 ≤ v2 then
  (ldA slots_ 1024 ((x1 + x2) &&& (1023 : Int32)) (fun v5 =>
  (f_X3_areSame v5 count_ points_ images_).bind (fun u7 =>
  if u7 = 0 then
  (some (.inl (x2 + (1 : Int32))))
  else
  (some (.inr (.inr (.inl ())))))))
  else
  (some (.inr (.inl ((x1 + x2) &&& (1023 : Int32)))))))
set_option maxHeartbeats 4000000 in
set_option maxRecDepth 100000 in
theorem wb_X3_settleLast_11 {p : Program} {l : Launch} {e : Env} {s : State} {m : MethodId} {args : Array Value} {below : List Frame} {meth : Method} {c : Code} {A : Nat → Prop} {Q : State → Prop} {D : va_G} {cy : Nat → ClassId} (o : Nat) (d : Nat → Nat) (images_ : Nat → Int32) (count_ : Int32) (points_ : Int32) (slots_ : Nat → Int32) (x1 : Int32)  (x2 : Int32) (o1 : (Int32) ⊕ ((Int32) ⊕ (Unit) ⊕ (Unit))) (X : Cx p m c cX3_settleLast 4 s args wsX3_settleLast RX3 A D cy (RO_X3_settleLast cy o d images_)) (h : b_X3_settleLast_11 images_ points_ count_ slots_ x1 x2 = some o1) (K : Sum.elim (fun v : Int32 => ∀ (H : Heap) (locs : List Loc) (ls : Array Slot), St A D s (RW_X3_settleLast cy o d count_ points_ slots_) H locs → lv_has ls 4 [(0, .ref o), (1, .int x1), (2, .int v)] → W p l e rm_X3_settleLast s m args below meth c H locs 0 0 Q (F0 m 11 ls [])) (fun v : (Int32) ⊕ (Unit) ⊕ (Unit) => Sum.elim (fun w : Int32 => ∀ (H : Heap) (locs : List Loc) (ls : Array Slot), St A D s (RW_X3_settleLast cy o d count_ points_ slots_) H locs → lv_has ls 4 [(0, .ref o), (3, .int w)] → W p l e rm_X3_settleLast s m args below meth c H locs 0 0 Q (F0 m 35 ls [])) (fun w => Sum.elim (fun w : Unit => ∀ (H : Heap) (locs : List Loc) (ls : Array Slot), St A D s (RW_X3_settleLast cy o d count_ points_ slots_) H locs → lv_has ls 4 [] → W p l e rm_X3_settleLast s m args below meth c H locs 0 0 Q (F0 m 86 ls [])) (fun w => ∀ (H : Heap) (locs : List Loc) (ls : Array Slot), St A D s (RW_X3_settleLast cy o d count_ points_ slots_) H locs → lv_has ls 4 [] → W p l e rm_X3_settleLast s m args below meth c H locs 0 0 Q (F0 m 94 ls [])) w) v) o1) : ∀ (H : Heap) (locs : List Loc) (ls : Array Slot), St A D s (RW_X3_settleLast cy o d count_ points_ slots_) H locs → lv_has ls 4 [(0, .ref o), (1, .int x1), (2, .int x2)] → W p l e rm_X3_settleLast s m args below meth c H locs 0 0 Q (F0 m 11 ls []) := by
  intro H locs ls Z hl
  have hx := X.1.1
  have hb := X.1.2.1
  unfold b_X3_settleLast_11 at h
  refine lv_iload_n hx hb dX3_settleLast_11 rfl (lv_at hl 2 rfl) ?_
  refine lv_sipush (v := (1024 : Int32)) hx hb dX3_settleLast_12 (by decide) ?_
  refine lv_icmp_ge (tgt := 94) hx hb dX3_settleLast_15 (by decide) (fun cnd => ?_) (fun cnd => ?_)
  · replace h := ifp h cnd
    obtain rfl := Option.some.inj h
    exact (sk_r (sk_r (sk_r K))) H locs ls Z (lv_sub hl [] rfl)
  · replace h := ifn h cnd
    refine lv_iload_n hx hb dX3_settleLast_18 rfl (lv_at hl 1 rfl) ?_
    refine lv_iload_n hx hb dX3_settleLast_19 rfl (lv_at hl 2 rfl) ?_
    refine lv_iadd hx hb dX3_settleLast_20 ?_
    refine lv_sipush (v := (1023 : Int32)) hx hb dX3_settleLast_21 (by decide) ?_
    refine lv_iand hx hb dX3_settleLast_24 ?_
    refine lv_istore_n (lv' := [(3, .int ((x1 + x2) &&& (1023 : Int32))), (0, .ref o), (1, .int x1), (2, .int x2)]) hx hb dX3_settleLast_25 rfl hl (by decide) rfl (fun ls hl => ?_)
    refine lv_aload_n hx hb dX3_settleLast_26 rfl (lv_at hl 1 rfl) ?_
    refine x_get X Z 0 4 (v := .ref (d 4)) rfl rfl lk_X3_settleLast_X3_slots dX3_settleLast_27 ?_
    refine lv_iload_n hx hb dX3_settleLast_30 rfl (lv_at hl 0 rfl) ?_
    obtain ⟨hin1, v2, hv3, h⟩ := ld_b h
    refine x_iald X Z 1 rfl hin1 hv3 dX3_settleLast_31 ?_
    refine lv_if_ge (tgt := 69) hx hb dX3_settleLast_32 (by decide) (fun cnd => ?_) (fun cnd => ?_)
    · replace h := ifp h cnd
      refine lv_aload_n hx hb dX3_settleLast_69 rfl (lv_at hl 1 rfl) ?_
      refine lv_aload_n hx hb dX3_settleLast_70 rfl (lv_at hl 1 rfl) ?_
      refine x_get X Z 0 4 (v := .ref (d 4)) rfl rfl lk_X3_settleLast_X3_slots dX3_settleLast_71 ?_
      refine lv_iload_n hx hb dX3_settleLast_74 rfl (lv_at hl 0 rfl) ?_
      obtain ⟨hin4, v5, hv6, h⟩ := ld_b h
      refine x_iald X Z 1 rfl hin4 hv6 dX3_settleLast_75 ?_
      refine lv_aload_n hx hb dX3_settleLast_76 rfl (lv_at hl 1 rfl) ?_
      refine x_get X Z 0 0 (v := .int count_) rfl rfl lk_X3_settleLast_X3_count dX3_settleLast_77 ?_
      obtain ⟨u7, hc8, h⟩ := ob_some h
      refine x_runVi (RW' := (RW_X3_settleLast cy o d count_ points_ slots_)) (wr := [(o, ob 3 (oX3 d count_ points_)), ((d 4), aI cy 1024 slots_)]) (isC := []) (isR := [0, 1]) (isF := [0, 1]) (rest := []) (As := [.int v5, .int count_]) (n := 2) X Z (c_X3_areSame l D cy o d count_ points_ images_ v5 count_ u7 hc8) gX3_settleLast_X3_areSame rfl (by decide +kernel) ⟨Nat.le_of_ble_eq_true rfl, Nat.le_of_ble_eq_true rfl⟩ ⟨rfl, rfl⟩ ⟨Nat.le_of_ble_eq_true rfl, Nat.le_of_ble_eq_true rfl⟩ (x_rv X Z 0 rfl rfl) ⟨rfl, rfl, (roC (Or.inl (mem_at 0 rfl)) (roC (Or.inr (mem_at 0 rfl)) roN)), rfl, rfl, by decide⟩ ⟨rfl, rfl⟩ rfl hl.1 rfl (Nat.le_of_ble_eq_true rfl) dX3_settleLast_80 (fun H locs Z => ?_)
      refine lv_if_eq (tgt := 88) hx hb dX3_settleLast_83 (by decide) (fun cnd => ?_) (fun cnd => ?_)
      · replace h := ifp h cnd
        refine lv_iinc (v := (x2 + (1 : Int32))) (lv' := [(2, .int (x2 + (1 : Int32))), (3, .int ((x1 + x2) &&& (1023 : Int32))), (0, .ref o), (1, .int x1)]) hx hb dX3_settleLast_88 hl (k := 3) rfl rfl (by decide) rfl (fun ls hl => ?_)
        refine lv_goto (tgt := 11) hx hb dX3_settleLast_91 (by decide) ?_
        obtain rfl := Option.some.inj h
        exact sk_l K H locs ls Z (lv_sub hl [2, 3, 0] rfl)
      · replace h := ifn h cnd
        obtain rfl := Option.some.inj h
        exact (sk_l (sk_r (sk_r K))) H locs ls Z (lv_sub hl [] rfl)
    · replace h := ifn h cnd
      obtain rfl := Option.some.inj h
      exact (sk_l (sk_r K)) H locs ls Z (lv_sub hl [1, 0] rfl)
set_option maxHeartbeats 4000000 in
set_option maxRecDepth 100000 in
theorem wl_X3_settleLast_11 {p : Program} {l : Launch} {e : Env} {s : State} {m : MethodId} {args : Array Value} {below : List Frame} {meth : Method} {c : Code} {A : Nat → Prop} {Q : State → Prop} {D : va_G} {cy : Nat → ClassId} (o : Nat) (d : Nat → Nat) (images_ : Nat → Int32) (count_ : Int32) (points_ : Int32) (slots_ : Nat → Int32) (x1 : Int32) (n : Nat) (v : Int32) (x : (Int32) ⊕ (Unit) ⊕ (Unit)) (X : Cx p m c cX3_settleLast 4 s args wsX3_settleLast RX3 A D cy (RO_X3_settleLast cy o d images_)) (h : loopN (fun v => b_X3_settleLast_11 images_ points_ count_ slots_ x1 v) n v = some x) (K : Sum.elim (fun w : Int32 => ∀ (H : Heap) (locs : List Loc) (ls : Array Slot), St A D s (RW_X3_settleLast cy o d count_ points_ slots_) H locs → lv_has ls 4 [(0, .ref o), (3, .int w)] → W p l e rm_X3_settleLast s m args below meth c H locs 0 0 Q (F0 m 35 ls [])) (fun w => Sum.elim (fun w : Unit => ∀ (H : Heap) (locs : List Loc) (ls : Array Slot), St A D s (RW_X3_settleLast cy o d count_ points_ slots_) H locs → lv_has ls 4 [] → W p l e rm_X3_settleLast s m args below meth c H locs 0 0 Q (F0 m 86 ls [])) (fun w => ∀ (H : Heap) (locs : List Loc) (ls : Array Slot), St A D s (RW_X3_settleLast cy o d count_ points_ slots_) H locs → lv_has ls 4 [] → W p l e rm_X3_settleLast s m args below meth c H locs 0 0 Q (F0 m 94 ls [])) w) x) : ∀ (H : Heap) (locs : List Loc) (ls : Array Slot), St A D s (RW_X3_settleLast cy o d count_ points_ slots_) H locs → lv_has ls 4 [(0, .ref o), (1, .int x1), (2, .int v)] → W p l e rm_X3_settleLast s m args below meth c H locs 0 0 Q (F0 m 11 ls []) :=
  loop_gen (B := (fun v => b_X3_settleLast_11 images_ points_ count_ slots_ x1 v)) (Head := fun v : Int32 => ∀ (H : Heap) (locs : List Loc) (ls : Array Slot), St A D s (RW_X3_settleLast cy o d count_ points_ slots_) H locs → lv_has ls 4 [(0, .ref o), (1, .int x1), (2, .int v)] → W p l e rm_X3_settleLast s m args below meth c H locs 0 0 Q (F0 m 11 ls [])) (Exit := fun v : (Int32) ⊕ (Unit) ⊕ (Unit) => Sum.elim (fun w : Int32 => ∀ (H : Heap) (locs : List Loc) (ls : Array Slot), St A D s (RW_X3_settleLast cy o d count_ points_ slots_) H locs → lv_has ls 4 [(0, .ref o), (3, .int w)] → W p l e rm_X3_settleLast s m args below meth c H locs 0 0 Q (F0 m 35 ls [])) (fun w => Sum.elim (fun w : Unit => ∀ (H : Heap) (locs : List Loc) (ls : Array Slot), St A D s (RW_X3_settleLast cy o d count_ points_ slots_) H locs → lv_has ls 4 [] → W p l e rm_X3_settleLast s m args below meth c H locs 0 0 Q (F0 m 86 ls [])) (fun w => ∀ (H : Heap) (locs : List Loc) (ls : Array Slot), St A D s (RW_X3_settleLast cy o d count_ points_ slots_) H locs → lv_has ls 4 [] → W p l e rm_X3_settleLast s m args below meth c H locs 0 0 Q (F0 m 94 ls [])) w) v) (fun v o9 hb1 K1 => wb_X3_settleLast_11 o d images_ count_ points_ slots_ x1 v o9 X hb1 K1) n v x h K
def f_X3_settleLast (images_ : Nat → Int32) (points_ : Int32) (count_ : Int32) (slots_ : Nat → Int32) : Option (Int32 × Int32 × (Nat → Int32)) :=
  (f_X3_hashOf count_ points_ images_).bind (fun u9 =>
  (loopN (fun v => b_X3_settleLast_11 images_ points_ count_ slots_ u9 v) FU (0 : Int32)).bind (fun u11 =>
  Sum.elim (fun u11 =>
  if count_ < (400 : Int32) then
  (stA slots_ 1024 u11 count_ (fun slots_14 =>
  some ((1 : Int32), (count_ + (1 : Int32)), slots_14)))
  else
  (some ((0 : Int32), count_, slots_))) (fun u11 =>
  Sum.elim (fun u11 =>
  some ((1 : Int32), count_, slots_)) (fun u11 =>
  some ((0 : Int32), count_, slots_)) u11) u11))
set_option maxHeartbeats 4000000 in
set_option maxRecDepth 100000 in
theorem wt_X3_settleLast {p : Program} {l : Launch} {e : Env} {s : State} {m : MethodId} {args : Array Value} {below : List Frame} {meth : Method} {c : Code} {A : Nat → Prop} {Q : State → Prop} {D : va_G} {cy : Nat → ClassId} (o : Nat) (d : Nat → Nat) (images_ : Nat → Int32) (count_ : Int32) (points_ : Int32) (slots_ : Nat → Int32) (out : Int32 × Int32 × (Nat → Int32)) (X : Cx p m c cX3_settleLast 4 s args wsX3_settleLast RX3 A D cy (RO_X3_settleLast cy o d images_)) (h : f_X3_settleLast images_ points_ count_ slots_ = some out) (K : ∀ (H : Heap) (locs : List Loc) (ls : Array Slot) (pc : Nat), decode cX3_settleLast pc = .ok (.ireturn, 1) → (out.1 = 0 ∨ out.1 = 1) → St A D s (RW_X3_settleLast cy o d out.2.1 points_ out.2.2) H locs → W p l e rm_X3_settleLast s m args below meth c H locs 0 0 Q (F0 m pc ls [.int out.1])) : ∀ (H : Heap) (locs : List Loc) (ls : Array Slot), St A D s (RW_X3_settleLast cy o d count_ points_ slots_) H locs → lv_has ls 4 [(0, .ref o)] → W p l e rm_X3_settleLast s m args below meth c H locs 0 0 Q (F0 m 0 ls []) := by
  intro H locs ls Z hl
  have hx := X.1.1
  have hb := X.1.2.1
  unfold f_X3_settleLast at h
  refine lv_aload_n hx hb dX3_settleLast_0 rfl (lv_at hl 0 rfl) ?_
  refine lv_aload_n hx hb dX3_settleLast_1 rfl (lv_at hl 0 rfl) ?_
  refine x_get X Z 0 0 (v := .int count_) rfl rfl lk_X3_settleLast_X3_count dX3_settleLast_2 ?_
  obtain ⟨u9, hc10, h⟩ := ob_some h
  refine x_runVi (RW' := (RW_X3_settleLast cy o d count_ points_ slots_)) (wr := [(o, ob 3 (oX3 d count_ points_)), ((d 4), aI cy 1024 slots_)]) (isC := []) (isR := [0, 1]) (isF := [0, 1]) (rest := []) (As := [.int count_]) (n := 1) X Z (c_X3_hashOf l D cy o d count_ points_ images_ count_ u9 hc10) gX3_settleLast_X3_hashOf rfl (by decide +kernel) ⟨Nat.le_of_ble_eq_true rfl, Nat.le_of_ble_eq_true rfl⟩ ⟨rfl, rfl⟩ ⟨Nat.le_of_ble_eq_true rfl, Nat.le_of_ble_eq_true rfl⟩ (x_rv X Z 0 rfl rfl) ⟨rfl, rfl, (roC (Or.inl (mem_at 0 rfl)) (roC (Or.inr (mem_at 0 rfl)) roN)), rfl, rfl, by decide⟩ ⟨rfl, rfl⟩ rfl hl.1 rfl (Nat.le_of_ble_eq_true rfl) dX3_settleLast_5 (fun H locs Z => ?_)
  refine lv_istore_n (lv' := [(1, .int u9), (0, .ref o)]) hx hb dX3_settleLast_8 rfl hl (by decide) rfl (fun ls hl => ?_)
  refine lv_iconst (v := (0 : Int32)) hx hb dX3_settleLast_9 (by decide) ?_
  refine lv_istore_n (lv' := [(2, .int (0 : Int32)), (1, .int u9), (0, .ref o)]) hx hb dX3_settleLast_10 rfl hl (by decide) rfl (fun ls hl => ?_)
  obtain ⟨u11, hL12, h⟩ := ob_some h
  rcases u11 with u11 | u11
  · replace h := se_l h
    refine wl_X3_settleLast_11 o d images_ count_ points_ slots_ u9 FU (0 : Int32) (.inl u11) X hL12 (sk_li (fun H locs ls Z hl => ?_)) H locs ls Z (lv_sub hl [2, 1, 0] rfl)
    refine lv_aload_n hx hb dX3_settleLast_35 rfl (lv_at hl 0 rfl) ?_
    refine x_get X Z 0 0 (v := .int count_) rfl rfl lk_X3_settleLast_X3_count dX3_settleLast_36 ?_
    refine lv_sipush (v := (400 : Int32)) hx hb dX3_settleLast_39 (by decide) ?_
    refine lv_icmp_lt (tgt := 47) hx hb dX3_settleLast_42 (by decide) (fun cnd => ?_) (fun cnd => ?_)
    · replace h := ifp h cnd
      refine lv_aload_n hx hb dX3_settleLast_47 rfl (lv_at hl 0 rfl) ?_
      refine x_get X Z 0 4 (v := .ref (d 4)) rfl rfl lk_X3_settleLast_X3_slots dX3_settleLast_48 ?_
      refine lv_iload_n hx hb dX3_settleLast_51 rfl (lv_at hl 1 rfl) ?_
      refine lv_aload_n hx hb dX3_settleLast_52 rfl (lv_at hl 0 rfl) ?_
      refine x_get X Z 0 0 (v := .int count_) rfl rfl lk_X3_settleLast_X3_count dX3_settleLast_53 ?_
      obtain ⟨hin13, slots_14, hv15, h⟩ := st_b h
      refine x_iast X Z 1 (RW_X3_settleLast cy o d count_ points_ slots_14) rfl hin13 hv15 rfl dX3_settleLast_56 (fun H locs Z => ?_)
      refine lv_aload_n hx hb dX3_settleLast_57 rfl (lv_at hl 0 rfl) ?_
      refine lv_dup hx hb dX3_settleLast_58 rfl ?_
      refine x_get X Z 0 0 (v := .int count_) rfl rfl lk_X3_settleLast_X3_count dX3_settleLast_59 ?_
      refine lv_iconst (v := (1 : Int32)) hx hb dX3_settleLast_62 (by decide) ?_
      refine lv_iadd hx hb dX3_settleLast_63 ?_
      refine x_put X Z 0 0 (RW_X3_settleLast cy o d (count_ + (1 : Int32)) points_ slots_14) rfl lp_X3_settleLast_X3_count (Nat.le_of_ble_eq_true rfl) rfl dX3_settleLast_64 (fun H locs Z => ?_)
      refine lv_iconst (v := (1 : Int32)) hx hb dX3_settleLast_67 (by decide) ?_
      obtain rfl := Option.some.inj h
      exact K H locs ls _ dX3_settleLast_68 (Or.inr rfl) Z
    · replace h := ifn h cnd
      refine lv_iconst (v := (0 : Int32)) hx hb dX3_settleLast_45 (by decide) ?_
      obtain rfl := Option.some.inj h
      exact K H locs ls _ dX3_settleLast_46 (Or.inl rfl) Z
  · replace h := se_r h
    rcases u11 with u11 | u11
    · replace h := se_l h
      refine wl_X3_settleLast_11 o d images_ count_ points_ slots_ u9 FU (0 : Int32) (.inr (.inl u11)) X hL12 (sk_ri (sk_li (fun H locs ls Z hl => ?_))) H locs ls Z (lv_sub hl [2, 1, 0] rfl)
      refine lv_iconst (v := (1 : Int32)) hx hb dX3_settleLast_86 (by decide) ?_
      obtain rfl := Option.some.inj h
      exact K H locs ls _ dX3_settleLast_87 (Or.inr rfl) Z
    · replace h := se_r h
      refine wl_X3_settleLast_11 o d images_ count_ points_ slots_ u9 FU (0 : Int32) (.inr (.inr u11)) X hL12 (sk_ri (sk_ri (fun H locs ls Z hl => ?_))) H locs ls Z (lv_sub hl [2, 1, 0] rfl)
      refine lv_iconst (v := (0 : Int32)) hx hb dX3_settleLast_94 (by decide) ?_
      obtain rfl := Option.some.inj h
      exact K H locs ls _ dX3_settleLast_95 (Or.inl rfl) Z
theorem c_X3_settleLast (l : Launch) (D : va_G) (cy : Nat → ClassId) (o : Nat) (d : Nat → Nat) (images_ : Nat → Int32) (count_ : Int32) (points_ : Int32) (slots_ : Nat → Int32) (out : Int32 × Int32 × (Nat → Int32)) (h : f_X3_settleLast images_ points_ count_ slots_ = some out) : CtI l yX3_settleLast wsX3_settleLast rm_X3_settleLast D cy [.ref o] (RW_X3_settleLast cy o d count_ points_ slots_) (RO_X3_settleLast cy o d images_) (RW_X3_settleLast cy o d out.2.1 points_ out.2.2) out.1 :=
  mk_z (by decide) rfl (Nat.le_of_ble_eq_true rfl) (fun p e s m args below meth c A Q X K H locs ls Z hl => wt_X3_settleLast o d images_ count_ points_ slots_ out X h K H locs ls Z hl)
/-! SubwordCounter$Monoid startWithIdentity ()V -/
abbrev rm_X3_startWithIdentity : Room := { frames := 2, cells := 0, slots := 0, locals := 46 }
def RW_X3_startWithIdentity (cy : Nat → ClassId) (o : Nat) (d : Nat → Nat) (count_ : Int32) (points_ : Int32) (images_ : Nat → Int32) (slots_ : Nat → Int32) : va_W := [(o, ob 3 (oX3 d count_ points_)), ((d 3), aI cy 160400 images_), ((d 4), aI cy 1024 slots_)]
def RO_X3_startWithIdentity (cy : Nat → ClassId) (o : Nat) (d : Nat → Nat)  : va_W := []
theorem in_X3_startWithIdentity_X3 : ∀ w ∈ u_ws RX3 TX3 5, w ∈ wsX3_startWithIdentity := fun w h => (List.mem_cons_of_mem _ (List.mem_append_right _ h))
theorem lk_X3_startWithIdentity_X3_points : Lk wsX3_startWithIdentity RX3 15 3 1 := ⟨RX3, TX3, 5, rfl, by decide, in_X3_startWithIdentity_X3, mem_at 3 rfl⟩
theorem lk_X3_startWithIdentity_X3_images : Lk wsX3_startWithIdentity RX3 23 3 3 := ⟨RX3, TX3, 5, rfl, by decide, in_X3_startWithIdentity_X3, mem_at 4 rfl⟩
theorem lk_X3_startWithIdentity_X3_slots : Lk wsX3_startWithIdentity RX3 26 3 4 := ⟨RX3, TX3, 5, rfl, by decide, in_X3_startWithIdentity_X3, mem_at 1 rfl⟩
theorem lp_X3_startWithIdentity_X3_count : Lp wsX3_startWithIdentity RX3 9 3 0 .int := ⟨RX3, TX3, 5, tyX3, rfl, by decide, in_X3_startWithIdentity_X3, mem_at 2 rfl, tyX3_ok, nmX3, rfl, by decide +kernel⟩
def b_X3_startWithIdentity_15 (points_ : Int32) (images_ : Nat → Int32) (x1 : Int32) : Option (((Nat → Int32) × Int32) ⊕ ((Nat → Int32))) :=
  if points_ ≤ x1 then
  (some (.inr images_))
  else
  (stA images_ 160400 x1 x1 (fun images_2 =>
  some (.inl (images_2, (x1 + (1 : Int32))))))
set_option maxHeartbeats 4000000 in
set_option maxRecDepth 100000 in
theorem wb_X3_startWithIdentity_15 {p : Program} {l : Launch} {e : Env} {s : State} {m : MethodId} {args : Array Value} {below : List Frame} {meth : Method} {c : Code} {A : Nat → Prop} {Q : State → Prop} {D : va_G} {cy : Nat → ClassId} (o : Nat) (d : Nat → Nat)  (count_ : Int32) (points_ : Int32) (slots_ : Nat → Int32) (images_ : Nat → Int32) (x1 : Int32) (o1 : ((Nat → Int32) × Int32) ⊕ ((Nat → Int32))) (X : Cx p m c cX3_startWithIdentity 2 s args wsX3_startWithIdentity RX3 A D cy (RO_X3_startWithIdentity cy o d)) (h : b_X3_startWithIdentity_15 points_ images_ x1 = some o1) (K : Sum.elim (fun v : (Nat → Int32) × Int32 => ∀ (H : Heap) (locs : List Loc) (ls : Array Slot), St A D s (RW_X3_startWithIdentity cy o d count_ points_ v.1 slots_) H locs → lv_has ls 2 [(0, .ref o), (1, .int v.2)] → W p l e rm_X3_startWithIdentity s m args below meth c H locs 0 0 Q (F0 m 15 ls [])) (fun v : (Nat → Int32) => ∀ (H : Heap) (locs : List Loc) (ls : Array Slot), St A D s (RW_X3_startWithIdentity cy o d count_ points_ v slots_) H locs → lv_has ls 2 [(0, .ref o)] → W p l e rm_X3_startWithIdentity s m args below meth c H locs 0 0 Q (F0 m 36 ls [])) o1) : ∀ (H : Heap) (locs : List Loc) (ls : Array Slot), St A D s (RW_X3_startWithIdentity cy o d count_ points_ images_ slots_) H locs → lv_has ls 2 [(0, .ref o), (1, .int x1)] → W p l e rm_X3_startWithIdentity s m args below meth c H locs 0 0 Q (F0 m 15 ls []) := by
  intro H locs ls Z hl
  have hx := X.1.1
  have hb := X.1.2.1
  unfold b_X3_startWithIdentity_15 at h
  refine lv_iload_n hx hb dX3_startWithIdentity_15 rfl (lv_at hl 1 rfl) ?_
  refine lv_aload_n hx hb dX3_startWithIdentity_16 rfl (lv_at hl 0 rfl) ?_
  refine x_get X Z 0 1 (v := .int points_) rfl rfl lk_X3_startWithIdentity_X3_points dX3_startWithIdentity_17 ?_
  refine lv_icmp_ge (tgt := 36) hx hb dX3_startWithIdentity_20 (by decide) (fun cnd => ?_) (fun cnd => ?_)
  · replace h := ifp h cnd
    obtain rfl := Option.some.inj h
    exact (sk_r K) H locs ls Z (lv_sub hl [0] rfl)
  · replace h := ifn h cnd
    refine lv_aload_n hx hb dX3_startWithIdentity_23 rfl (lv_at hl 0 rfl) ?_
    refine x_get X Z 0 3 (v := .ref (d 3)) rfl rfl lk_X3_startWithIdentity_X3_images dX3_startWithIdentity_24 ?_
    refine lv_iload_n hx hb dX3_startWithIdentity_27 rfl (lv_at hl 1 rfl) ?_
    refine lv_iload_n hx hb dX3_startWithIdentity_28 rfl (lv_at hl 1 rfl) ?_
    obtain ⟨hin1, images_2, hv3, h⟩ := st_b h
    refine x_iast X Z 1 (RW_X3_startWithIdentity cy o d count_ points_ images_2 slots_) rfl hin1 hv3 rfl dX3_startWithIdentity_29 (fun H locs Z => ?_)
    refine lv_iinc (v := (x1 + (1 : Int32))) (lv' := [(1, .int (x1 + (1 : Int32))), (0, .ref o)]) hx hb dX3_startWithIdentity_30 hl (k := 1) rfl rfl (by decide) rfl (fun ls hl => ?_)
    refine lv_goto (tgt := 15) hx hb dX3_startWithIdentity_33 (by decide) ?_
    obtain rfl := Option.some.inj h
    exact sk_l K H locs ls Z (lv_sub hl [1, 0] rfl)
set_option maxHeartbeats 4000000 in
set_option maxRecDepth 100000 in
theorem wl_X3_startWithIdentity_15 {p : Program} {l : Launch} {e : Env} {s : State} {m : MethodId} {args : Array Value} {below : List Frame} {meth : Method} {c : Code} {A : Nat → Prop} {Q : State → Prop} {D : va_G} {cy : Nat → ClassId} (o : Nat) (d : Nat → Nat)  (count_ : Int32) (points_ : Int32) (slots_ : Nat → Int32) (n : Nat) (v : (Nat → Int32) × Int32) (x : (Nat → Int32)) (X : Cx p m c cX3_startWithIdentity 2 s args wsX3_startWithIdentity RX3 A D cy (RO_X3_startWithIdentity cy o d)) (h : loopN (fun v => b_X3_startWithIdentity_15 points_ v.1 v.2) n v = some x) (K : ∀ (H : Heap) (locs : List Loc) (ls : Array Slot), St A D s (RW_X3_startWithIdentity cy o d count_ points_ x slots_) H locs → lv_has ls 2 [(0, .ref o)] → W p l e rm_X3_startWithIdentity s m args below meth c H locs 0 0 Q (F0 m 36 ls [])) : ∀ (H : Heap) (locs : List Loc) (ls : Array Slot), St A D s (RW_X3_startWithIdentity cy o d count_ points_ v.1 slots_) H locs → lv_has ls 2 [(0, .ref o), (1, .int v.2)] → W p l e rm_X3_startWithIdentity s m args below meth c H locs 0 0 Q (F0 m 15 ls []) :=
  loop_gen (B := (fun v => b_X3_startWithIdentity_15 points_ v.1 v.2)) (Head := fun v : (Nat → Int32) × Int32 => ∀ (H : Heap) (locs : List Loc) (ls : Array Slot), St A D s (RW_X3_startWithIdentity cy o d count_ points_ v.1 slots_) H locs → lv_has ls 2 [(0, .ref o), (1, .int v.2)] → W p l e rm_X3_startWithIdentity s m args below meth c H locs 0 0 Q (F0 m 15 ls [])) (Exit := fun v : (Nat → Int32) => ∀ (H : Heap) (locs : List Loc) (ls : Array Slot), St A D s (RW_X3_startWithIdentity cy o d count_ points_ v slots_) H locs → lv_has ls 2 [(0, .ref o)] → W p l e rm_X3_startWithIdentity s m args below meth c H locs 0 0 Q (F0 m 36 ls [])) (fun v o9 hb1 K1 => wb_X3_startWithIdentity_15 o d count_ points_ slots_ v.1 v.2 o9 X hb1 K1) n v x h K
def f_X3_startWithIdentity (points_ : Int32) (count_ : Int32) (images_ : Nat → Int32) (slots_ : Nat → Int32) : Option (Int32 × (Nat → Int32) × (Nat → Int32)) :=
  (f_J7_fill_53178 (-1 : Int32) 1024 slots_).bind (fun u4 =>
  (loopN (fun v => b_X3_startWithIdentity_15 points_ v.1 v.2) FU (images_, (0 : Int32))).bind (fun u6 =>
  (f_X3_settleLast u6 points_ (0 : Int32) u4).bind (fun u8 =>
  some (u8.2.1, u6, u8.2.2))))
set_option maxHeartbeats 4000000 in
set_option maxRecDepth 100000 in
theorem wt_X3_startWithIdentity {p : Program} {l : Launch} {e : Env} {s : State} {m : MethodId} {args : Array Value} {below : List Frame} {meth : Method} {c : Code} {A : Nat → Prop} {Q : State → Prop} {D : va_G} {cy : Nat → ClassId} (o : Nat) (d : Nat → Nat)  (count_ : Int32) (points_ : Int32) (images_ : Nat → Int32) (slots_ : Nat → Int32) (out : Int32 × (Nat → Int32) × (Nat → Int32)) (X : Cx p m c cX3_startWithIdentity 2 s args wsX3_startWithIdentity RX3 A D cy (RO_X3_startWithIdentity cy o d)) (h : f_X3_startWithIdentity points_ count_ images_ slots_ = some out) (K : ∀ (H : Heap) (locs : List Loc) (ls : Array Slot) (pc : Nat), decode cX3_startWithIdentity pc = .ok (.return_, 1) → St A D s (RW_X3_startWithIdentity cy o d out.1 points_ out.2.1 out.2.2) H locs → W p l e rm_X3_startWithIdentity s m args below meth c H locs 0 0 Q (F0 m pc ls [])) : ∀ (H : Heap) (locs : List Loc) (ls : Array Slot), St A D s (RW_X3_startWithIdentity cy o d count_ points_ images_ slots_) H locs → lv_has ls 2 [(0, .ref o)] → W p l e rm_X3_startWithIdentity s m args below meth c H locs 0 0 Q (F0 m 0 ls []) := by
  intro H locs ls Z hl
  have hx := X.1.1
  have hb := X.1.2.1
  unfold f_X3_startWithIdentity at h
  refine lv_aload_n hx hb dX3_startWithIdentity_0 rfl (lv_at hl 0 rfl) ?_
  refine x_get X Z 0 4 (v := .ref (d 4)) rfl rfl lk_X3_startWithIdentity_X3_slots dX3_startWithIdentity_1 ?_
  refine lv_iconst (v := (-1 : Int32)) hx hb dX3_startWithIdentity_4 (by decide) ?_
  obtain ⟨u4, hc5, h⟩ := ob_some h
  refine x_runSv (RW' := (RW_X3_startWithIdentity cy o d count_ points_ images_ u4)) (wr := [(o, ob 3 (oX3 d count_ points_)), ((d 3), aI cy 160400 images_)]) (isC := [2]) (isR := [0, 1]) (isF := [0, 1, 2]) (rest := []) (As := [.ref (d 4), .int (-1 : Int32)]) (n := 2) X Z (c_J7_fill_53178 l D cy (d 4) 1024 slots_ (-1 : Int32) u4 hc5) gX3_startWithIdentity_J7_fill_53178 rfl (by decide +kernel) ⟨Nat.le_of_ble_eq_true rfl, Nat.le_of_ble_eq_true rfl⟩ ⟨rfl, rfl⟩ ⟨Nat.le_of_ble_eq_true rfl, Nat.le_of_ble_eq_true rfl⟩ ⟨rfl, rfl, roN, rfl, rfl, by decide⟩ ⟨rfl, rfl⟩ rfl hl.1 rfl (Nat.le_of_ble_eq_true rfl) dX3_startWithIdentity_5 (fun H locs Z => ?_)
  refine lv_aload_n hx hb dX3_startWithIdentity_8 rfl (lv_at hl 0 rfl) ?_
  refine lv_iconst (v := (0 : Int32)) hx hb dX3_startWithIdentity_9 (by decide) ?_
  refine x_put X Z 0 0 (RW_X3_startWithIdentity cy o d (0 : Int32) points_ images_ u4) rfl lp_X3_startWithIdentity_X3_count (Nat.le_of_ble_eq_true rfl) rfl dX3_startWithIdentity_10 (fun H locs Z => ?_)
  refine lv_iconst (v := (0 : Int32)) hx hb dX3_startWithIdentity_13 (by decide) ?_
  refine lv_istore_n (lv' := [(1, .int (0 : Int32)), (0, .ref o)]) hx hb dX3_startWithIdentity_14 rfl hl (by decide) rfl (fun ls hl => ?_)
  obtain ⟨u6, hL7, h⟩ := ob_some h
  refine wl_X3_startWithIdentity_15 o d (0 : Int32) points_ u4 FU (images_, (0 : Int32)) u6 X hL7 (fun H locs ls Z hl => ?_) H locs ls Z (lv_sub hl [1, 0] rfl)
  refine lv_aload_n hx hb dX3_startWithIdentity_36 rfl (lv_at hl 0 rfl) ?_
  obtain ⟨u8, hc9, h⟩ := ob_some h
  refine x_runVi (RW' := (RW_X3_startWithIdentity cy o d u8.2.1 points_ u6 u8.2.2)) (wr := [((d 3), aI cy 160400 u6)]) (isC := [0, 2]) (isR := [1]) (isF := [1, 0, 2]) (rest := []) (As := []) (n := 0) X Z (c_X3_settleLast l D cy o d u6 (0 : Int32) points_ u4 u8 hc9) gX3_startWithIdentity_X3_settleLast rfl (by decide +kernel) ⟨Nat.le_of_ble_eq_true rfl, Nat.le_of_ble_eq_true rfl⟩ ⟨rfl, rfl⟩ ⟨Nat.le_of_ble_eq_true rfl, Nat.le_of_ble_eq_true rfl⟩ (x_rv X Z 0 rfl rfl) ⟨rfl, rfl, (roC (Or.inl (mem_at 0 rfl)) roN), rfl, rfl, by decide⟩ ⟨rfl, rfl⟩ rfl hl.1 rfl (Nat.le_of_ble_eq_true rfl) dX3_startWithIdentity_37 (fun H locs Z => ?_)
  refine lv_pop hx hb dX3_startWithIdentity_40 rfl ?_
  obtain rfl := Option.some.inj h
  exact K H locs ls _ dX3_startWithIdentity_41 Z
theorem c_X3_startWithIdentity (l : Launch) (D : va_G) (cy : Nat → ClassId) (o : Nat) (d : Nat → Nat)  (count_ : Int32) (points_ : Int32) (images_ : Nat → Int32) (slots_ : Nat → Int32) (out : Int32 × (Nat → Int32) × (Nat → Int32)) (h : f_X3_startWithIdentity points_ count_ images_ slots_ = some out) : CtV l yX3_startWithIdentity wsX3_startWithIdentity rm_X3_startWithIdentity D cy [.ref o] (RW_X3_startWithIdentity cy o d count_ points_ images_ slots_) (RO_X3_startWithIdentity cy o d) (RW_X3_startWithIdentity cy o d out.1 points_ out.2.1 out.2.2) :=
  mk_v (by decide) rfl (Nat.le_of_ble_eq_true rfl) (fun p e s m args below meth c A Q X K H locs ls Z hl => wt_X3_startWithIdentity o d count_ points_ images_ slots_ out X h K H locs ls Z hl)
/-! SubwordCounter$Monoid takeGenerators (LSubwordCounter$Partition;LSubwordCounter$Automaton;)V -/
abbrev rm_X3_takeGenerators : Room := { frames := 1, cells := 0, slots := 0, locals := 23 }
def RW_X3_takeGenerators (cy : Nat → ClassId) (o : Nat) (q_p1 : Nat) (q_p2 : Nat) (d : Nat → Nat) (d_p1 : Nat → Nat) (d_p2 : Nat → Nat) (count_ : Int32) (points_ : Int32) (generators_ : Nat → Int32) : va_W := [(o, ob 3 (oX3 d count_ points_)), ((d 2), aI cy 1200 generators_)]
def RO_X3_takeGenerators (cy : Nat → ClassId) (o : Nat) (q_p1 : Nat) (q_p2 : Nat) (d : Nat → Nat) (d_p1 : Nat → Nat) (d_p2 : Nat → Nat) (p1_blocks_ : Int32) (p1_touchedCount_ : Int32) (p2_letters_ : Int32) (p2_states_ : Int32) (p1_members_ : Nat → Int32) (p1_blockOf_ : Nat → Int32) (p1_first_ : Nat → Int32) (p2_next_ : Nat → Int32) : va_W := [(q_p1, ob 4 (oX4 d_p1 p1_blocks_ p1_touchedCount_)), (q_p2, ob 0 (oX0 d_p2 p2_letters_ p2_states_)), ((d_p1 1), aI cy 2000 p1_members_), ((d_p1 3), aI cy 2000 p1_blockOf_), ((d_p1 4), aI cy 2000 p1_first_), ((d_p2 3), aI cy 6000 p2_next_)]
theorem in_X3_takeGenerators_X3 : ∀ w ∈ u_ws RX3 TX3 5, w ∈ wsX3_takeGenerators := fun w h => (List.mem_cons_of_mem _ (List.mem_append_left _ (List.mem_append_right _ h)))
theorem lk_X3_takeGenerators_X3_points : Lk wsX3_takeGenerators RX3 15 3 1 := ⟨RX3, TX3, 5, rfl, by decide, in_X3_takeGenerators_X3, mem_at 2 rfl⟩
theorem lk_X3_takeGenerators_X3_generators : Lk wsX3_takeGenerators RX3 18 3 2 := ⟨RX3, TX3, 5, rfl, by decide, in_X3_takeGenerators_X3, mem_at 4 rfl⟩
theorem in_X3_takeGenerators_X0 : ∀ w ∈ u_ws RX0 TX0 13, w ∈ wsX3_takeGenerators := fun w h => (List.mem_cons_of_mem _ (List.mem_append_right _ h))
theorem lk_X3_takeGenerators_X0_letters : Lk wsX3_takeGenerators RX3 41 0 1 := ⟨RX0, TX0, 13, rfl, by decide, in_X3_takeGenerators_X0, mem_at 3 rfl⟩
theorem in_X3_takeGenerators_X4 : ∀ w ∈ u_ws RX4 TX4 13, w ∈ wsX3_takeGenerators := fun w h => (List.mem_cons_of_mem _ (List.mem_append_left _ (List.mem_append_left _ (List.mem_append_right _ h))))
theorem lk_X3_takeGenerators_X4_blocks : Lk wsX3_takeGenerators RX3 29 4 0 := ⟨RX4, TX4, 13, rfl, by decide, in_X3_takeGenerators_X4, mem_at 1 rfl⟩
theorem lp_X3_takeGenerators_X3_points : Lp wsX3_takeGenerators RX3 15 3 1 .int := ⟨RX3, TX3, 5, tyX3, rfl, by decide, in_X3_takeGenerators_X3, mem_at 2 rfl, tyX3_ok, nmX3, rfl, by decide +kernel⟩
def b_X3_takeGenerators_21 (p1_members_ : Nat → Int32) (p1_blockOf_ : Nat → Int32) (p1_first_ : Nat → Int32) (p2_next_ : Nat → Int32) (points_ : Int32) (x3 : Int32) (generators_ : Nat → Int32) (x4 : Int32) : Option (((Nat → Int32) × Int32) ⊕ ((Nat → Int32))) :=
  if points_ ≤ x4 then
  (some (.inr generators_))
  else
  ((f_X4_nextBlock x4 x3 p1_members_ p1_blockOf_ p1_first_ p2_next_).bind (fun u1 =>
  stA generators_ 1200 ((x3 * (400 : Int32)) + x4) u1 (fun generators_4 =>
  some (.inl (generators_4, (x4 + (1 : Int32)))))))
set_option maxHeartbeats 4000000 in
set_option maxRecDepth 100000 in
theorem wb_X3_takeGenerators_21 {p : Program} {l : Launch} {e : Env} {s : State} {m : MethodId} {args : Array Value} {below : List Frame} {meth : Method} {c : Code} {A : Nat → Prop} {Q : State → Prop} {D : va_G} {cy : Nat → ClassId} (o : Nat) (q_p1 : Nat) (q_p2 : Nat) (d : Nat → Nat) (d_p1 : Nat → Nat) (d_p2 : Nat → Nat) (p1_blocks_ : Int32) (p1_touchedCount_ : Int32) (p2_letters_ : Int32) (p2_states_ : Int32) (p1_members_ : Nat → Int32) (p1_blockOf_ : Nat → Int32) (p1_first_ : Nat → Int32) (p2_next_ : Nat → Int32) (count_ : Int32) (points_ : Int32) (x3 : Int32) (generators_ : Nat → Int32) (x4 : Int32) (o1 : ((Nat → Int32) × Int32) ⊕ ((Nat → Int32))) (X : Cx p m c cX3_takeGenerators 5 s args wsX3_takeGenerators RX3 A D cy (RO_X3_takeGenerators cy o q_p1 q_p2 d d_p1 d_p2 p1_blocks_ p1_touchedCount_ p2_letters_ p2_states_ p1_members_ p1_blockOf_ p1_first_ p2_next_)) (h : b_X3_takeGenerators_21 p1_members_ p1_blockOf_ p1_first_ p2_next_ points_ x3 generators_ x4 = some o1) (K : Sum.elim (fun v : (Nat → Int32) × Int32 => ∀ (H : Heap) (locs : List Loc) (ls : Array Slot), St A D s (RW_X3_takeGenerators cy o q_p1 q_p2 d d_p1 d_p2 count_ points_ v.1) H locs → lv_has ls 5 [(0, .ref o), (1, .ref q_p1), (2, .ref q_p2), (3, .int x3), (4, .int v.2)] → W p l e rm_X3_takeGenerators s m args below meth c H locs 0 0 Q (F0 m 21 ls [])) (fun v : (Nat → Int32) => ∀ (H : Heap) (locs : List Loc) (ls : Array Slot), St A D s (RW_X3_takeGenerators cy o q_p1 q_p2 d d_p1 d_p2 count_ points_ v) H locs → lv_has ls 5 [(0, .ref o), (1, .ref q_p1), (2, .ref q_p2), (3, .int x3)] → W p l e rm_X3_takeGenerators s m args below meth c H locs 0 0 Q (F0 m 57 ls [])) o1) : ∀ (H : Heap) (locs : List Loc) (ls : Array Slot), St A D s (RW_X3_takeGenerators cy o q_p1 q_p2 d d_p1 d_p2 count_ points_ generators_) H locs → lv_has ls 5 [(0, .ref o), (1, .ref q_p1), (2, .ref q_p2), (3, .int x3), (4, .int x4)] → W p l e rm_X3_takeGenerators s m args below meth c H locs 0 0 Q (F0 m 21 ls []) := by
  intro H locs ls Z hl
  have hx := X.1.1
  have hb := X.1.2.1
  unfold b_X3_takeGenerators_21 at h
  refine lv_iload hx hb dX3_takeGenerators_21 (lv_at hl 4 rfl) ?_
  refine lv_aload_n hx hb dX3_takeGenerators_23 rfl (lv_at hl 0 rfl) ?_
  refine x_get X Z 0 1 (v := .int points_) rfl rfl lk_X3_takeGenerators_X3_points dX3_takeGenerators_24 ?_
  refine lv_icmp_ge (tgt := 57) hx hb dX3_takeGenerators_27 (by decide) (fun cnd => ?_) (fun cnd => ?_)
  · replace h := ifp h cnd
    obtain rfl := Option.some.inj h
    exact (sk_r K) H locs ls Z (lv_sub hl [0, 1, 2, 3] rfl)
  · replace h := ifn h cnd
    refine lv_aload_n hx hb dX3_takeGenerators_30 rfl (lv_at hl 0 rfl) ?_
    refine x_get X Z 0 2 (v := .ref (d 2)) rfl rfl lk_X3_takeGenerators_X3_generators dX3_takeGenerators_31 ?_
    refine lv_iload_n hx hb dX3_takeGenerators_34 rfl (lv_at hl 3 rfl) ?_
    refine lv_sipush (v := (400 : Int32)) hx hb dX3_takeGenerators_35 (by decide) ?_
    refine lv_imul hx hb dX3_takeGenerators_38 ?_
    refine lv_iload hx hb dX3_takeGenerators_39 (lv_at hl 4 rfl) ?_
    refine lv_iadd hx hb dX3_takeGenerators_41 ?_
    refine lv_aload_n hx hb dX3_takeGenerators_42 rfl (lv_at hl 1 rfl) ?_
    refine lv_aload_n hx hb dX3_takeGenerators_43 rfl (lv_at hl 2 rfl) ?_
    refine lv_iload hx hb dX3_takeGenerators_44 (lv_at hl 4 rfl) ?_
    refine lv_iload_n hx hb dX3_takeGenerators_46 rfl (lv_at hl 3 rfl) ?_
    obtain ⟨u1, hc2, h⟩ := ob_some h
    refine x_runVi (RW' := (RW_X3_takeGenerators cy o q_p1 q_p2 d d_p1 d_p2 count_ points_ generators_)) (wr := [(o, ob 3 (oX3 d count_ points_)), ((d 2), aI cy 1200 generators_)]) (isC := []) (isR := [0, 1]) (isF := [0, 1]) (rest := [.int ((x3 * (400 : Int32)) + x4), .ref (d 2)]) (As := [.ref q_p2, .int x4, .int x3]) (n := 3) X Z (c_X4_nextBlock l D cy q_p1 q_p2 d_p1 d_p2 p1_blocks_ p1_touchedCount_ p2_letters_ p2_states_ p1_members_ p1_blockOf_ p1_first_ p2_next_ x4 x3 u1 hc2) gX3_takeGenerators_X4_nextBlock rfl (by decide +kernel) ⟨Nat.le_of_ble_eq_true rfl, Nat.le_of_ble_eq_true rfl⟩ ⟨rfl, rfl⟩ ⟨Nat.le_of_ble_eq_true rfl, Nat.le_of_ble_eq_true rfl⟩ (x_rvO X Z 0 rfl rfl) ⟨rfl, rfl, (roC (Or.inr (mem_at 0 rfl)) (roC (Or.inr (mem_at 1 rfl)) (roC (Or.inr (mem_at 2 rfl)) (roC (Or.inr (mem_at 3 rfl)) (roC (Or.inr (mem_at 4 rfl)) (roC (Or.inr (mem_at 5 rfl)) roN)))))), rfl, rfl, by decide⟩ ⟨rfl, rfl⟩ rfl hl.1 rfl (Nat.le_of_ble_eq_true rfl) dX3_takeGenerators_47 (fun H locs Z => ?_)
    obtain ⟨hin3, generators_4, hv5, h⟩ := st_b h
    refine x_iast X Z 1 (RW_X3_takeGenerators cy o q_p1 q_p2 d d_p1 d_p2 count_ points_ generators_4) rfl hin3 hv5 rfl dX3_takeGenerators_50 (fun H locs Z => ?_)
    refine lv_iinc (v := (x4 + (1 : Int32))) (lv' := [(4, .int (x4 + (1 : Int32))), (0, .ref o), (1, .ref q_p1), (2, .ref q_p2), (3, .int x3)]) hx hb dX3_takeGenerators_51 hl (k := 4) rfl rfl (by decide) rfl (fun ls hl => ?_)
    refine lv_goto (tgt := 21) hx hb dX3_takeGenerators_54 (by decide) ?_
    obtain rfl := Option.some.inj h
    exact sk_l K H locs ls Z (lv_sub hl [1, 2, 3, 4, 0] rfl)
set_option maxHeartbeats 4000000 in
set_option maxRecDepth 100000 in
theorem wl_X3_takeGenerators_21 {p : Program} {l : Launch} {e : Env} {s : State} {m : MethodId} {args : Array Value} {below : List Frame} {meth : Method} {c : Code} {A : Nat → Prop} {Q : State → Prop} {D : va_G} {cy : Nat → ClassId} (o : Nat) (q_p1 : Nat) (q_p2 : Nat) (d : Nat → Nat) (d_p1 : Nat → Nat) (d_p2 : Nat → Nat) (p1_blocks_ : Int32) (p1_touchedCount_ : Int32) (p2_letters_ : Int32) (p2_states_ : Int32) (p1_members_ : Nat → Int32) (p1_blockOf_ : Nat → Int32) (p1_first_ : Nat → Int32) (p2_next_ : Nat → Int32) (count_ : Int32) (points_ : Int32) (x3 : Int32) (n : Nat) (v : (Nat → Int32) × Int32) (x : (Nat → Int32)) (X : Cx p m c cX3_takeGenerators 5 s args wsX3_takeGenerators RX3 A D cy (RO_X3_takeGenerators cy o q_p1 q_p2 d d_p1 d_p2 p1_blocks_ p1_touchedCount_ p2_letters_ p2_states_ p1_members_ p1_blockOf_ p1_first_ p2_next_)) (h : loopN (fun v => b_X3_takeGenerators_21 p1_members_ p1_blockOf_ p1_first_ p2_next_ points_ x3 v.1 v.2) n v = some x) (K : ∀ (H : Heap) (locs : List Loc) (ls : Array Slot), St A D s (RW_X3_takeGenerators cy o q_p1 q_p2 d d_p1 d_p2 count_ points_ x) H locs → lv_has ls 5 [(0, .ref o), (1, .ref q_p1), (2, .ref q_p2), (3, .int x3)] → W p l e rm_X3_takeGenerators s m args below meth c H locs 0 0 Q (F0 m 57 ls [])) : ∀ (H : Heap) (locs : List Loc) (ls : Array Slot), St A D s (RW_X3_takeGenerators cy o q_p1 q_p2 d d_p1 d_p2 count_ points_ v.1) H locs → lv_has ls 5 [(0, .ref o), (1, .ref q_p1), (2, .ref q_p2), (3, .int x3), (4, .int v.2)] → W p l e rm_X3_takeGenerators s m args below meth c H locs 0 0 Q (F0 m 21 ls []) :=
  loop_gen (B := (fun v => b_X3_takeGenerators_21 p1_members_ p1_blockOf_ p1_first_ p2_next_ points_ x3 v.1 v.2)) (Head := fun v : (Nat → Int32) × Int32 => ∀ (H : Heap) (locs : List Loc) (ls : Array Slot), St A D s (RW_X3_takeGenerators cy o q_p1 q_p2 d d_p1 d_p2 count_ points_ v.1) H locs → lv_has ls 5 [(0, .ref o), (1, .ref q_p1), (2, .ref q_p2), (3, .int x3), (4, .int v.2)] → W p l e rm_X3_takeGenerators s m args below meth c H locs 0 0 Q (F0 m 21 ls [])) (Exit := fun v : (Nat → Int32) => ∀ (H : Heap) (locs : List Loc) (ls : Array Slot), St A D s (RW_X3_takeGenerators cy o q_p1 q_p2 d d_p1 d_p2 count_ points_ v) H locs → lv_has ls 5 [(0, .ref o), (1, .ref q_p1), (2, .ref q_p2), (3, .int x3)] → W p l e rm_X3_takeGenerators s m args below meth c H locs 0 0 Q (F0 m 57 ls [])) (fun v o9 hb1 K1 => wb_X3_takeGenerators_21 o q_p1 q_p2 d d_p1 d_p2 p1_blocks_ p1_touchedCount_ p2_letters_ p2_states_ p1_members_ p1_blockOf_ p1_first_ p2_next_ count_ points_ x3 v.1 v.2 o9 X hb1 K1) n v x h K
def b_X3_takeGenerators_10 (p2_letters_ : Int32) (p1_members_ : Nat → Int32) (p1_blockOf_ : Nat → Int32) (p1_first_ : Nat → Int32) (p2_next_ : Nat → Int32) (points_ : Int32) (generators_ : Nat → Int32) (x3 : Int32) : Option (((Nat → Int32) × Int32) ⊕ ((Nat → Int32))) :=
  if p2_letters_ ≤ x3 then
  (some (.inr generators_))
  else
  ((loopN (fun v => b_X3_takeGenerators_21 p1_members_ p1_blockOf_ p1_first_ p2_next_ points_ x3 v.1 v.2) FU (generators_, (0 : Int32))).bind (fun u6 =>
  some (.inl (u6, (x3 + (1 : Int32))))))
set_option maxHeartbeats 4000000 in
set_option maxRecDepth 100000 in
theorem wb_X3_takeGenerators_10 {p : Program} {l : Launch} {e : Env} {s : State} {m : MethodId} {args : Array Value} {below : List Frame} {meth : Method} {c : Code} {A : Nat → Prop} {Q : State → Prop} {D : va_G} {cy : Nat → ClassId} (o : Nat) (q_p1 : Nat) (q_p2 : Nat) (d : Nat → Nat) (d_p1 : Nat → Nat) (d_p2 : Nat → Nat) (p1_blocks_ : Int32) (p1_touchedCount_ : Int32) (p2_letters_ : Int32) (p2_states_ : Int32) (p1_members_ : Nat → Int32) (p1_blockOf_ : Nat → Int32) (p1_first_ : Nat → Int32) (p2_next_ : Nat → Int32) (count_ : Int32) (points_ : Int32) (generators_ : Nat → Int32) (x3 : Int32) (o1 : ((Nat → Int32) × Int32) ⊕ ((Nat → Int32))) (X : Cx p m c cX3_takeGenerators 5 s args wsX3_takeGenerators RX3 A D cy (RO_X3_takeGenerators cy o q_p1 q_p2 d d_p1 d_p2 p1_blocks_ p1_touchedCount_ p2_letters_ p2_states_ p1_members_ p1_blockOf_ p1_first_ p2_next_)) (h : b_X3_takeGenerators_10 p2_letters_ p1_members_ p1_blockOf_ p1_first_ p2_next_ points_ generators_ x3 = some o1) (K : Sum.elim (fun v : (Nat → Int32) × Int32 => ∀ (H : Heap) (locs : List Loc) (ls : Array Slot), St A D s (RW_X3_takeGenerators cy o q_p1 q_p2 d d_p1 d_p2 count_ points_ v.1) H locs → lv_has ls 5 [(0, .ref o), (1, .ref q_p1), (2, .ref q_p2), (3, .int v.2)] → W p l e rm_X3_takeGenerators s m args below meth c H locs 0 0 Q (F0 m 10 ls [])) (fun v : (Nat → Int32) => ∀ (H : Heap) (locs : List Loc) (ls : Array Slot), St A D s (RW_X3_takeGenerators cy o q_p1 q_p2 d d_p1 d_p2 count_ points_ v) H locs → lv_has ls 5 [] → W p l e rm_X3_takeGenerators s m args below meth c H locs 0 0 Q (F0 m 63 ls [])) o1) : ∀ (H : Heap) (locs : List Loc) (ls : Array Slot), St A D s (RW_X3_takeGenerators cy o q_p1 q_p2 d d_p1 d_p2 count_ points_ generators_) H locs → lv_has ls 5 [(0, .ref o), (1, .ref q_p1), (2, .ref q_p2), (3, .int x3)] → W p l e rm_X3_takeGenerators s m args below meth c H locs 0 0 Q (F0 m 10 ls []) := by
  intro H locs ls Z hl
  have hx := X.1.1
  have hb := X.1.2.1
  unfold b_X3_takeGenerators_10 at h
  refine lv_iload_n hx hb dX3_takeGenerators_10 rfl (lv_at hl 3 rfl) ?_
  refine lv_aload_n hx hb dX3_takeGenerators_11 rfl (lv_at hl 2 rfl) ?_
  refine x_getO X Z 1 1 (v := .int p2_letters_) rfl rfl lk_X3_takeGenerators_X0_letters dX3_takeGenerators_12 ?_
  refine lv_icmp_ge (tgt := 63) hx hb dX3_takeGenerators_15 (by decide) (fun cnd => ?_) (fun cnd => ?_)
  · replace h := ifp h cnd
    obtain rfl := Option.some.inj h
    exact (sk_r K) H locs ls Z (lv_sub hl [] rfl)
  · replace h := ifn h cnd
    refine lv_iconst (v := (0 : Int32)) hx hb dX3_takeGenerators_18 (by decide) ?_
    refine lv_istore (lv' := [(4, .int (0 : Int32)), (0, .ref o), (1, .ref q_p1), (2, .ref q_p2), (3, .int x3)]) hx hb dX3_takeGenerators_19 hl (by decide) rfl (fun ls hl => ?_)
    obtain ⟨u6, hL7, h⟩ := ob_some h
    refine wl_X3_takeGenerators_21 o q_p1 q_p2 d d_p1 d_p2 p1_blocks_ p1_touchedCount_ p2_letters_ p2_states_ p1_members_ p1_blockOf_ p1_first_ p2_next_ count_ points_ x3 FU (generators_, (0 : Int32)) u6 X hL7 (fun H locs ls Z hl => ?_) H locs ls Z (lv_sub hl [1, 2, 3, 4, 0] rfl)
    refine lv_iinc (v := (x3 + (1 : Int32))) (lv' := [(3, .int (x3 + (1 : Int32))), (0, .ref o), (1, .ref q_p1), (2, .ref q_p2)]) hx hb dX3_takeGenerators_57 hl (k := 3) rfl rfl (by decide) rfl (fun ls hl => ?_)
    refine lv_goto (tgt := 10) hx hb dX3_takeGenerators_60 (by decide) ?_
    obtain rfl := Option.some.inj h
    exact sk_l K H locs ls Z (lv_sub hl [1, 2, 3, 0] rfl)
set_option maxHeartbeats 4000000 in
set_option maxRecDepth 100000 in
theorem wl_X3_takeGenerators_10 {p : Program} {l : Launch} {e : Env} {s : State} {m : MethodId} {args : Array Value} {below : List Frame} {meth : Method} {c : Code} {A : Nat → Prop} {Q : State → Prop} {D : va_G} {cy : Nat → ClassId} (o : Nat) (q_p1 : Nat) (q_p2 : Nat) (d : Nat → Nat) (d_p1 : Nat → Nat) (d_p2 : Nat → Nat) (p1_blocks_ : Int32) (p1_touchedCount_ : Int32) (p2_letters_ : Int32) (p2_states_ : Int32) (p1_members_ : Nat → Int32) (p1_blockOf_ : Nat → Int32) (p1_first_ : Nat → Int32) (p2_next_ : Nat → Int32) (count_ : Int32) (points_ : Int32) (n : Nat) (v : (Nat → Int32) × Int32) (x : (Nat → Int32)) (X : Cx p m c cX3_takeGenerators 5 s args wsX3_takeGenerators RX3 A D cy (RO_X3_takeGenerators cy o q_p1 q_p2 d d_p1 d_p2 p1_blocks_ p1_touchedCount_ p2_letters_ p2_states_ p1_members_ p1_blockOf_ p1_first_ p2_next_)) (h : loopN (fun v => b_X3_takeGenerators_10 p2_letters_ p1_members_ p1_blockOf_ p1_first_ p2_next_ points_ v.1 v.2) n v = some x) (K : ∀ (H : Heap) (locs : List Loc) (ls : Array Slot), St A D s (RW_X3_takeGenerators cy o q_p1 q_p2 d d_p1 d_p2 count_ points_ x) H locs → lv_has ls 5 [] → W p l e rm_X3_takeGenerators s m args below meth c H locs 0 0 Q (F0 m 63 ls [])) : ∀ (H : Heap) (locs : List Loc) (ls : Array Slot), St A D s (RW_X3_takeGenerators cy o q_p1 q_p2 d d_p1 d_p2 count_ points_ v.1) H locs → lv_has ls 5 [(0, .ref o), (1, .ref q_p1), (2, .ref q_p2), (3, .int v.2)] → W p l e rm_X3_takeGenerators s m args below meth c H locs 0 0 Q (F0 m 10 ls []) :=
  loop_gen (B := (fun v => b_X3_takeGenerators_10 p2_letters_ p1_members_ p1_blockOf_ p1_first_ p2_next_ points_ v.1 v.2)) (Head := fun v : (Nat → Int32) × Int32 => ∀ (H : Heap) (locs : List Loc) (ls : Array Slot), St A D s (RW_X3_takeGenerators cy o q_p1 q_p2 d d_p1 d_p2 count_ points_ v.1) H locs → lv_has ls 5 [(0, .ref o), (1, .ref q_p1), (2, .ref q_p2), (3, .int v.2)] → W p l e rm_X3_takeGenerators s m args below meth c H locs 0 0 Q (F0 m 10 ls [])) (Exit := fun v : (Nat → Int32) => ∀ (H : Heap) (locs : List Loc) (ls : Array Slot), St A D s (RW_X3_takeGenerators cy o q_p1 q_p2 d d_p1 d_p2 count_ points_ v) H locs → lv_has ls 5 [] → W p l e rm_X3_takeGenerators s m args below meth c H locs 0 0 Q (F0 m 63 ls [])) (fun v o9 hb1 K1 => wb_X3_takeGenerators_10 o q_p1 q_p2 d d_p1 d_p2 p1_blocks_ p1_touchedCount_ p2_letters_ p2_states_ p1_members_ p1_blockOf_ p1_first_ p2_next_ count_ points_ v.1 v.2 o9 X hb1 K1) n v x h K
def f_X3_takeGenerators (p1_blocks_ : Int32) (p2_letters_ : Int32) (p1_members_ : Nat → Int32) (p1_blockOf_ : Nat → Int32) (p1_first_ : Nat → Int32) (p2_next_ : Nat → Int32) (points_ : Int32) (generators_ : Nat → Int32) : Option (Int32 × (Nat → Int32)) :=
  (loopN (fun v => b_X3_takeGenerators_10 p2_letters_ p1_members_ p1_blockOf_ p1_first_ p2_next_ p1_blocks_ v.1 v.2) FU (generators_, (0 : Int32))).bind (fun u8 =>
  some (p1_blocks_, u8))
set_option maxHeartbeats 4000000 in
set_option maxRecDepth 100000 in
theorem wt_X3_takeGenerators {p : Program} {l : Launch} {e : Env} {s : State} {m : MethodId} {args : Array Value} {below : List Frame} {meth : Method} {c : Code} {A : Nat → Prop} {Q : State → Prop} {D : va_G} {cy : Nat → ClassId} (o : Nat) (q_p1 : Nat) (q_p2 : Nat) (d : Nat → Nat) (d_p1 : Nat → Nat) (d_p2 : Nat → Nat) (p1_blocks_ : Int32) (p1_touchedCount_ : Int32) (p2_letters_ : Int32) (p2_states_ : Int32) (p1_members_ : Nat → Int32) (p1_blockOf_ : Nat → Int32) (p1_first_ : Nat → Int32) (p2_next_ : Nat → Int32) (count_ : Int32) (points_ : Int32) (generators_ : Nat → Int32) (out : Int32 × (Nat → Int32)) (X : Cx p m c cX3_takeGenerators 5 s args wsX3_takeGenerators RX3 A D cy (RO_X3_takeGenerators cy o q_p1 q_p2 d d_p1 d_p2 p1_blocks_ p1_touchedCount_ p2_letters_ p2_states_ p1_members_ p1_blockOf_ p1_first_ p2_next_)) (h : f_X3_takeGenerators p1_blocks_ p2_letters_ p1_members_ p1_blockOf_ p1_first_ p2_next_ points_ generators_ = some out) (K : ∀ (H : Heap) (locs : List Loc) (ls : Array Slot) (pc : Nat), decode cX3_takeGenerators pc = .ok (.return_, 1) → St A D s (RW_X3_takeGenerators cy o q_p1 q_p2 d d_p1 d_p2 count_ out.1 out.2) H locs → W p l e rm_X3_takeGenerators s m args below meth c H locs 0 0 Q (F0 m pc ls [])) : ∀ (H : Heap) (locs : List Loc) (ls : Array Slot), St A D s (RW_X3_takeGenerators cy o q_p1 q_p2 d d_p1 d_p2 count_ points_ generators_) H locs → lv_has ls 5 [(0, .ref o), (1, .ref q_p1), (2, .ref q_p2)] → W p l e rm_X3_takeGenerators s m args below meth c H locs 0 0 Q (F0 m 0 ls []) := by
  intro H locs ls Z hl
  have hx := X.1.1
  have hb := X.1.2.1
  unfold f_X3_takeGenerators at h
  refine lv_aload_n hx hb dX3_takeGenerators_0 rfl (lv_at hl 0 rfl) ?_
  refine lv_aload_n hx hb dX3_takeGenerators_1 rfl (lv_at hl 1 rfl) ?_
  refine x_getO X Z 0 0 (v := .int p1_blocks_) rfl rfl lk_X3_takeGenerators_X4_blocks dX3_takeGenerators_2 ?_
  refine x_put X Z 0 1 (RW_X3_takeGenerators cy o q_p1 q_p2 d d_p1 d_p2 count_ p1_blocks_ generators_) rfl lp_X3_takeGenerators_X3_points (Nat.le_of_ble_eq_true rfl) rfl dX3_takeGenerators_5 (fun H locs Z => ?_)
  refine lv_iconst (v := (0 : Int32)) hx hb dX3_takeGenerators_8 (by decide) ?_
  refine lv_istore_n (lv' := [(3, .int (0 : Int32)), (0, .ref o), (1, .ref q_p1), (2, .ref q_p2)]) hx hb dX3_takeGenerators_9 rfl hl (by decide) rfl (fun ls hl => ?_)
  obtain ⟨u8, hL9, h⟩ := ob_some h
  refine wl_X3_takeGenerators_10 o q_p1 q_p2 d d_p1 d_p2 p1_blocks_ p1_touchedCount_ p2_letters_ p2_states_ p1_members_ p1_blockOf_ p1_first_ p2_next_ count_ p1_blocks_ FU (generators_, (0 : Int32)) u8 X hL9 (fun H locs ls Z hl => ?_) H locs ls Z (lv_sub hl [1, 2, 3, 0] rfl)
  obtain rfl := Option.some.inj h
  exact K H locs ls _ dX3_takeGenerators_63 Z
theorem c_X3_takeGenerators (l : Launch) (D : va_G) (cy : Nat → ClassId) (o : Nat) (q_p1 : Nat) (q_p2 : Nat) (d : Nat → Nat) (d_p1 : Nat → Nat) (d_p2 : Nat → Nat) (p1_blocks_ : Int32) (p1_touchedCount_ : Int32) (p2_letters_ : Int32) (p2_states_ : Int32) (p1_members_ : Nat → Int32) (p1_blockOf_ : Nat → Int32) (p1_first_ : Nat → Int32) (p2_next_ : Nat → Int32) (count_ : Int32) (points_ : Int32) (generators_ : Nat → Int32) (out : Int32 × (Nat → Int32)) (h : f_X3_takeGenerators p1_blocks_ p2_letters_ p1_members_ p1_blockOf_ p1_first_ p2_next_ points_ generators_ = some out) : CtV l yX3_takeGenerators wsX3_takeGenerators rm_X3_takeGenerators D cy [.ref o, .ref q_p1, .ref q_p2] (RW_X3_takeGenerators cy o q_p1 q_p2 d d_p1 d_p2 count_ points_ generators_) (RO_X3_takeGenerators cy o q_p1 q_p2 d d_p1 d_p2 p1_blocks_ p1_touchedCount_ p2_letters_ p2_states_ p1_members_ p1_blockOf_ p1_first_ p2_next_) (RW_X3_takeGenerators cy o q_p1 q_p2 d d_p1 d_p2 count_ out.1 out.2) :=
  mk_v (by decide) rfl (Nat.le_of_ble_eq_true rfl) (fun p e s m args below meth c A Q X K H locs ls Z hl => wt_X3_takeGenerators o q_p1 q_p2 d d_p1 d_p2 p1_blocks_ p1_touchedCount_ p2_letters_ p2_states_ p1_members_ p1_blockOf_ p1_first_ p2_next_ count_ points_ generators_ out X h K H locs ls Z hl)
/-! SubwordCounter$Monoid generate (LSubwordCounter$Partition;LSubwordCounter$Automaton;)Z -/
abbrev rm_X3_generate : Room := { frames := 3, cells := 0, slots := 0, locals := 67 }
def RW_X3_generate (cy : Nat → ClassId) (o : Nat) (q_p1 : Nat) (q_p2 : Nat) (d : Nat → Nat) (d_p1 : Nat → Nat) (d_p2 : Nat → Nat) (count_ : Int32) (points_ : Int32) (generators_ : Nat → Int32) (images_ : Nat → Int32) (slots_ : Nat → Int32) : va_W := [(o, ob 3 (oX3 d count_ points_)), ((d 2), aI cy 1200 generators_), ((d 3), aI cy 160400 images_), ((d 4), aI cy 1024 slots_)]
def RO_X3_generate (cy : Nat → ClassId) (o : Nat) (q_p1 : Nat) (q_p2 : Nat) (d : Nat → Nat) (d_p1 : Nat → Nat) (d_p2 : Nat → Nat) (p1_blocks_ : Int32) (p1_touchedCount_ : Int32) (p2_letters_ : Int32) (p2_states_ : Int32) (p1_members_ : Nat → Int32) (p1_blockOf_ : Nat → Int32) (p1_first_ : Nat → Int32) (p2_next_ : Nat → Int32) : va_W := [(q_p1, ob 4 (oX4 d_p1 p1_blocks_ p1_touchedCount_)), (q_p2, ob 0 (oX0 d_p2 p2_letters_ p2_states_)), ((d_p1 1), aI cy 2000 p1_members_), ((d_p1 3), aI cy 2000 p1_blockOf_), ((d_p1 4), aI cy 2000 p1_first_), ((d_p2 3), aI cy 6000 p2_next_)]
theorem in_X3_generate_X0 : ∀ w ∈ u_ws RX0 TX0 13, w ∈ wsX3_generate := fun w h => (List.mem_cons_of_mem _ (List.mem_append_right _ h))
theorem lk_X3_generate_X0_letters : Lk wsX3_generate RX3 41 0 1 := ⟨RX0, TX0, 13, rfl, by decide, in_X3_generate_X0, mem_at 3 rfl⟩
theorem in_X3_generate_X3 : ∀ w ∈ u_ws RX3 TX3 5, w ∈ wsX3_generate := fun w h => (List.mem_cons_of_mem _ (List.mem_append_left _ (List.mem_append_right _ h)))
theorem lk_X3_generate_X3_count : Lk wsX3_generate RX3 9 3 0 := ⟨RX3, TX3, 5, rfl, by decide, in_X3_generate_X3, mem_at 2 rfl⟩
theorem in_X3_generate_X4 : ∀ w ∈ u_ws RX4 TX4 13, w ∈ wsX3_generate := fun w h => (List.mem_cons_of_mem _ (List.mem_append_left _ (List.mem_append_left _ (List.mem_append_right _ h))))
theorem lk_X3_generate_X4_blocks : Lk wsX3_generate RX3 29 4 0 := ⟨RX4, TX4, 13, rfl, by decide, in_X3_generate_X4, mem_at 1 rfl⟩
def b_X3_generate_42 (p2_letters_ : Int32) (points_ : Int32) (generators_ : Nat → Int32) (x3 : Int32) (count_ : Int32) (images_ : Nat → Int32) (slots_ : Nat → Int32) (x4 : Int32) : Option ((Int32 × (Nat → Int32) × (Nat → Int32) × Int32) ⊕ ((Int32 × (Nat → Int32) × (Nat → Int32)) ⊕ (Int32 × (Nat → Int32) × (Nat → Int32)))) :=
  if p2_letters_ ≤ x4 then
  (some (.inr (.inr (count_, images_, slots_))))
  else
  ((f_X3_follow x3 x4 count_ points_ generators_ images_).bind (fun u1 =>
  (f_X3_settleLast u1 points_ count_ slots_).bind (fun u3 =>
  if u3.1 = 0 then
  (some (.inr (.inl (u3.2.1, u1, u3.2.2))))
  else
  (some (.inl (u3.2.1, u1, u3.2.2, (x4 + (1 : Int32))))))))
set_option maxHeartbeats 4000000 in
set_option maxRecDepth 100000 in
theorem wb_X3_generate_42 {p : Program} {l : Launch} {e : Env} {s : State} {m : MethodId} {args : Array Value} {below : List Frame} {meth : Method} {c : Code} {A : Nat → Prop} {Q : State → Prop} {D : va_G} {cy : Nat → ClassId} (o : Nat) (q_p1 : Nat) (q_p2 : Nat) (d : Nat → Nat) (d_p1 : Nat → Nat) (d_p2 : Nat → Nat) (p1_blocks_ : Int32) (p1_touchedCount_ : Int32) (p2_letters_ : Int32) (p2_states_ : Int32) (p1_members_ : Nat → Int32) (p1_blockOf_ : Nat → Int32) (p1_first_ : Nat → Int32) (p2_next_ : Nat → Int32) (points_ : Int32) (generators_ : Nat → Int32) (x3 : Int32) (count_ : Int32) (images_ : Nat → Int32) (slots_ : Nat → Int32) (x4 : Int32) (o1 : (Int32 × (Nat → Int32) × (Nat → Int32) × Int32) ⊕ ((Int32 × (Nat → Int32) × (Nat → Int32)) ⊕ (Int32 × (Nat → Int32) × (Nat → Int32)))) (X : Cx p m c cX3_generate 5 s args wsX3_generate RX3 A D cy (RO_X3_generate cy o q_p1 q_p2 d d_p1 d_p2 p1_blocks_ p1_touchedCount_ p2_letters_ p2_states_ p1_members_ p1_blockOf_ p1_first_ p2_next_)) (h : b_X3_generate_42 p2_letters_ points_ generators_ x3 count_ images_ slots_ x4 = some o1) (K : Sum.elim (fun v : Int32 × (Nat → Int32) × (Nat → Int32) × Int32 => ∀ (H : Heap) (locs : List Loc) (ls : Array Slot), St A D s (RW_X3_generate cy o q_p1 q_p2 d d_p1 d_p2 v.1 points_ generators_ v.2.1 v.2.2.1) H locs → lv_has ls 5 [(0, .ref o), (2, .ref q_p2), (3, .int x3), (4, .int v.2.2.2)] → W p l e rm_X3_generate s m args below meth c H locs 0 0 Q (F0 m 42 ls [])) (fun v : (Int32 × (Nat → Int32) × (Nat → Int32)) ⊕ (Int32 × (Nat → Int32) × (Nat → Int32)) => Sum.elim (fun w : Int32 × (Nat → Int32) × (Nat → Int32) => ∀ (H : Heap) (locs : List Loc) (ls : Array Slot), St A D s (RW_X3_generate cy o q_p1 q_p2 d d_p1 d_p2 w.1 points_ generators_ w.2.1 w.2.2) H locs → lv_has ls 5 [] → W p l e rm_X3_generate s m args below meth c H locs 0 0 Q (F0 m 65 ls [])) (fun w => ∀ (H : Heap) (locs : List Loc) (ls : Array Slot), St A D s (RW_X3_generate cy o q_p1 q_p2 d d_p1 d_p2 w.1 points_ generators_ w.2.1 w.2.2) H locs → lv_has ls 5 [(0, .ref o), (2, .ref q_p2), (3, .int x3)] → W p l e rm_X3_generate s m args below meth c H locs 0 0 Q (F0 m 73 ls [])) v) o1) : ∀ (H : Heap) (locs : List Loc) (ls : Array Slot), St A D s (RW_X3_generate cy o q_p1 q_p2 d d_p1 d_p2 count_ points_ generators_ images_ slots_) H locs → lv_has ls 5 [(0, .ref o), (2, .ref q_p2), (3, .int x3), (4, .int x4)] → W p l e rm_X3_generate s m args below meth c H locs 0 0 Q (F0 m 42 ls []) := by
  intro H locs ls Z hl
  have hx := X.1.1
  have hb := X.1.2.1
  unfold b_X3_generate_42 at h
  refine lv_iload hx hb dX3_generate_42 (lv_at hl 3 rfl) ?_
  refine lv_aload_n hx hb dX3_generate_44 rfl (lv_at hl 1 rfl) ?_
  refine x_getO X Z 1 1 (v := .int p2_letters_) rfl rfl lk_X3_generate_X0_letters dX3_generate_45 ?_
  refine lv_icmp_ge (tgt := 73) hx hb dX3_generate_48 (by decide) (fun cnd => ?_) (fun cnd => ?_)
  · replace h := ifp h cnd
    obtain rfl := Option.some.inj h
    exact (sk_r (sk_r K)) H locs ls Z (lv_sub hl [0, 1, 2] rfl)
  · replace h := ifn h cnd
    refine lv_aload_n hx hb dX3_generate_51 rfl (lv_at hl 0 rfl) ?_
    refine lv_iload_n hx hb dX3_generate_52 rfl (lv_at hl 2 rfl) ?_
    refine lv_iload hx hb dX3_generate_53 (lv_at hl 3 rfl) ?_
    obtain ⟨u1, hc2, h⟩ := ob_some h
    refine x_runVv (RW' := (RW_X3_generate cy o q_p1 q_p2 d d_p1 d_p2 count_ points_ generators_ u1 slots_)) (wr := [(o, ob 3 (oX3 d count_ points_)), ((d 2), aI cy 1200 generators_), ((d 4), aI cy 1024 slots_)]) (isC := [2]) (isR := [0, 1, 3]) (isF := [0, 1, 3, 2]) (rest := []) (As := [.int x3, .int x4]) (n := 2) X Z (c_X3_follow l D cy o d count_ points_ generators_ images_ x3 x4 u1 hc2) gX3_generate_X3_follow rfl (by decide +kernel) ⟨Nat.le_of_ble_eq_true rfl, Nat.le_of_ble_eq_true rfl⟩ ⟨rfl, rfl⟩ ⟨Nat.le_of_ble_eq_true rfl, Nat.le_of_ble_eq_true rfl⟩ (x_rv X Z 0 rfl rfl) ⟨rfl, rfl, (roC (Or.inl (mem_at 0 rfl)) (roC (Or.inl (mem_at 1 rfl)) roN)), rfl, rfl, by decide⟩ ⟨rfl, rfl⟩ rfl hl.1 rfl (Nat.le_of_ble_eq_true rfl) dX3_generate_55 (fun H locs Z => ?_)
    refine lv_aload_n hx hb dX3_generate_58 rfl (lv_at hl 0 rfl) ?_
    obtain ⟨u3, hc4, h⟩ := ob_some h
    refine x_runVi (RW' := (RW_X3_generate cy o q_p1 q_p2 d d_p1 d_p2 u3.2.1 points_ generators_ u1 u3.2.2)) (wr := [((d 2), aI cy 1200 generators_), ((d 3), aI cy 160400 u1)]) (isC := [0, 3]) (isR := [1, 2]) (isF := [2, 0, 1, 3]) (rest := []) (As := []) (n := 0) X Z (c_X3_settleLast l D cy o d u1 count_ points_ slots_ u3 hc4) gX3_generate_X3_settleLast rfl (by decide +kernel) ⟨Nat.le_of_ble_eq_true rfl, Nat.le_of_ble_eq_true rfl⟩ ⟨rfl, rfl⟩ ⟨Nat.le_of_ble_eq_true rfl, Nat.le_of_ble_eq_true rfl⟩ (x_rv X Z 0 rfl rfl) ⟨rfl, rfl, (roC (Or.inl (mem_at 1 rfl)) roN), rfl, rfl, by decide⟩ ⟨rfl, rfl⟩ rfl hl.1 rfl (Nat.le_of_ble_eq_true rfl) dX3_generate_59 (fun H locs Z => ?_)
    refine lv_if_ne (tgt := 67) hx hb dX3_generate_62 (by decide) (fun cnd => ?_) (fun cnd => ?_)
    · replace h := ifn h cnd
      refine lv_iinc (v := (x4 + (1 : Int32))) (lv' := [(4, .int (x4 + (1 : Int32))), (0, .ref o), (2, .ref q_p2), (3, .int x3)]) hx hb dX3_generate_67 hl (k := 3) rfl rfl (by decide) rfl (fun ls hl => ?_)
      refine lv_goto (tgt := 42) hx hb dX3_generate_70 (by decide) ?_
      obtain rfl := Option.some.inj h
      exact sk_l K H locs ls Z (lv_sub hl [1, 2, 3, 0] rfl)
    · replace h := ifp h cnd
      obtain rfl := Option.some.inj h
      exact (sk_l (sk_r K)) H locs ls Z (lv_sub hl [] rfl)
set_option maxHeartbeats 4000000 in
set_option maxRecDepth 100000 in
theorem wl_X3_generate_42 {p : Program} {l : Launch} {e : Env} {s : State} {m : MethodId} {args : Array Value} {below : List Frame} {meth : Method} {c : Code} {A : Nat → Prop} {Q : State → Prop} {D : va_G} {cy : Nat → ClassId} (o : Nat) (q_p1 : Nat) (q_p2 : Nat) (d : Nat → Nat) (d_p1 : Nat → Nat) (d_p2 : Nat → Nat) (p1_blocks_ : Int32) (p1_touchedCount_ : Int32) (p2_letters_ : Int32) (p2_states_ : Int32) (p1_members_ : Nat → Int32) (p1_blockOf_ : Nat → Int32) (p1_first_ : Nat → Int32) (p2_next_ : Nat → Int32) (points_ : Int32) (generators_ : Nat → Int32) (x3 : Int32) (n : Nat) (v : Int32 × (Nat → Int32) × (Nat → Int32) × Int32) (x : (Int32 × (Nat → Int32) × (Nat → Int32)) ⊕ (Int32 × (Nat → Int32) × (Nat → Int32))) (X : Cx p m c cX3_generate 5 s args wsX3_generate RX3 A D cy (RO_X3_generate cy o q_p1 q_p2 d d_p1 d_p2 p1_blocks_ p1_touchedCount_ p2_letters_ p2_states_ p1_members_ p1_blockOf_ p1_first_ p2_next_)) (h : loopN (fun v => b_X3_generate_42 p2_letters_ points_ generators_ x3 v.1 v.2.1 v.2.2.1 v.2.2.2) n v = some x) (K : Sum.elim (fun w : Int32 × (Nat → Int32) × (Nat → Int32) => ∀ (H : Heap) (locs : List Loc) (ls : Array Slot), St A D s (RW_X3_generate cy o q_p1 q_p2 d d_p1 d_p2 w.1 points_ generators_ w.2.1 w.2.2) H locs → lv_has ls 5 [] → W p l e rm_X3_generate s m args below meth c H locs 0 0 Q (F0 m 65 ls [])) (fun w => ∀ (H : Heap) (locs : List Loc) (ls : Array Slot), St A D s (RW_X3_generate cy o q_p1 q_p2 d d_p1 d_p2 w.1 points_ generators_ w.2.1 w.2.2) H locs → lv_has ls 5 [(0, .ref o), (2, .ref q_p2), (3, .int x3)] → W p l e rm_X3_generate s m args below meth c H locs 0 0 Q (F0 m 73 ls [])) x) : ∀ (H : Heap) (locs : List Loc) (ls : Array Slot), St A D s (RW_X3_generate cy o q_p1 q_p2 d d_p1 d_p2 v.1 points_ generators_ v.2.1 v.2.2.1) H locs → lv_has ls 5 [(0, .ref o), (2, .ref q_p2), (3, .int x3), (4, .int v.2.2.2)] → W p l e rm_X3_generate s m args below meth c H locs 0 0 Q (F0 m 42 ls []) :=
  loop_gen (B := (fun v => b_X3_generate_42 p2_letters_ points_ generators_ x3 v.1 v.2.1 v.2.2.1 v.2.2.2)) (Head := fun v : Int32 × (Nat → Int32) × (Nat → Int32) × Int32 => ∀ (H : Heap) (locs : List Loc) (ls : Array Slot), St A D s (RW_X3_generate cy o q_p1 q_p2 d d_p1 d_p2 v.1 points_ generators_ v.2.1 v.2.2.1) H locs → lv_has ls 5 [(0, .ref o), (2, .ref q_p2), (3, .int x3), (4, .int v.2.2.2)] → W p l e rm_X3_generate s m args below meth c H locs 0 0 Q (F0 m 42 ls [])) (Exit := fun v : (Int32 × (Nat → Int32) × (Nat → Int32)) ⊕ (Int32 × (Nat → Int32) × (Nat → Int32)) => Sum.elim (fun w : Int32 × (Nat → Int32) × (Nat → Int32) => ∀ (H : Heap) (locs : List Loc) (ls : Array Slot), St A D s (RW_X3_generate cy o q_p1 q_p2 d d_p1 d_p2 w.1 points_ generators_ w.2.1 w.2.2) H locs → lv_has ls 5 [] → W p l e rm_X3_generate s m args below meth c H locs 0 0 Q (F0 m 65 ls [])) (fun w => ∀ (H : Heap) (locs : List Loc) (ls : Array Slot), St A D s (RW_X3_generate cy o q_p1 q_p2 d d_p1 d_p2 w.1 points_ generators_ w.2.1 w.2.2) H locs → lv_has ls 5 [(0, .ref o), (2, .ref q_p2), (3, .int x3)] → W p l e rm_X3_generate s m args below meth c H locs 0 0 Q (F0 m 73 ls [])) v) (fun v o9 hb1 K1 => wb_X3_generate_42 o q_p1 q_p2 d d_p1 d_p2 p1_blocks_ p1_touchedCount_ p2_letters_ p2_states_ p1_members_ p1_blockOf_ p1_first_ p2_next_ points_ generators_ x3 v.1 v.2.1 v.2.2.1 v.2.2.2 o9 X hb1 K1) n v x h K
def b_X3_generate_24 (p2_letters_ : Int32) (points_ : Int32) (generators_ : Nat → Int32) (count_ : Int32) (images_ : Nat → Int32) (slots_ : Nat → Int32) (x3 : Int32) : Option ((Int32 × (Nat → Int32) × (Nat → Int32) × Int32) ⊕ ((Int32 × (Nat → Int32) × (Nat → Int32)) ⊕ (Int32 × (Nat → Int32) × (Nat → Int32)))) :=
  if (400 : Int32) ≤ x3 then
  (some (.inr (.inr (count_, images_, slots_))))
  else
  (if count_ ≤ x3 then
  (some (.inr (.inr (count_, images_, slots_))))
  else
  ((loopN (fun v => b_X3_generate_42 p2_letters_ points_ generators_ x3 v.1 v.2.1 v.2.2.1 v.2.2.2) FU (count_, images_, slots_, (0 : Int32))).bind (fun u5 =>
  Sum.elim (fun u5 =>
  some (.inr (.inl (u5.1, u5.2.1, u5.2.2)))) (fun u5 =>
  some (.inl (u5.1, u5.2.1, u5.2.2, (x3 + (1 : Int32))))) u5)))
set_option maxHeartbeats 4000000 in
set_option maxRecDepth 100000 in
theorem wb_X3_generate_24 {p : Program} {l : Launch} {e : Env} {s : State} {m : MethodId} {args : Array Value} {below : List Frame} {meth : Method} {c : Code} {A : Nat → Prop} {Q : State → Prop} {D : va_G} {cy : Nat → ClassId} (o : Nat) (q_p1 : Nat) (q_p2 : Nat) (d : Nat → Nat) (d_p1 : Nat → Nat) (d_p2 : Nat → Nat) (p1_blocks_ : Int32) (p1_touchedCount_ : Int32) (p2_letters_ : Int32) (p2_states_ : Int32) (p1_members_ : Nat → Int32) (p1_blockOf_ : Nat → Int32) (p1_first_ : Nat → Int32) (p2_next_ : Nat → Int32) (points_ : Int32) (generators_ : Nat → Int32) (count_ : Int32) (images_ : Nat → Int32) (slots_ : Nat → Int32) (x3 : Int32) (o1 : (Int32 × (Nat → Int32) × (Nat → Int32) × Int32) ⊕ ((Int32 × (Nat → Int32) × (Nat → Int32)) ⊕ (Int32 × (Nat → Int32) × (Nat → Int32)))) (X : Cx p m c cX3_generate 5 s args wsX3_generate RX3 A D cy (RO_X3_generate cy o q_p1 q_p2 d d_p1 d_p2 p1_blocks_ p1_touchedCount_ p2_letters_ p2_states_ p1_members_ p1_blockOf_ p1_first_ p2_next_)) (h : b_X3_generate_24 p2_letters_ points_ generators_ count_ images_ slots_ x3 = some o1) (K : Sum.elim (fun v : Int32 × (Nat → Int32) × (Nat → Int32) × Int32 => ∀ (H : Heap) (locs : List Loc) (ls : Array Slot), St A D s (RW_X3_generate cy o q_p1 q_p2 d d_p1 d_p2 v.1 points_ generators_ v.2.1 v.2.2.1) H locs → lv_has ls 5 [(0, .ref o), (2, .ref q_p2), (3, .int v.2.2.2)] → W p l e rm_X3_generate s m args below meth c H locs 0 0 Q (F0 m 24 ls [])) (fun v : (Int32 × (Nat → Int32) × (Nat → Int32)) ⊕ (Int32 × (Nat → Int32) × (Nat → Int32)) => Sum.elim (fun w : Int32 × (Nat → Int32) × (Nat → Int32) => ∀ (H : Heap) (locs : List Loc) (ls : Array Slot), St A D s (RW_X3_generate cy o q_p1 q_p2 d d_p1 d_p2 w.1 points_ generators_ w.2.1 w.2.2) H locs → lv_has ls 5 [] → W p l e rm_X3_generate s m args below meth c H locs 0 0 Q (F0 m 65 ls [])) (fun w => ∀ (H : Heap) (locs : List Loc) (ls : Array Slot), St A D s (RW_X3_generate cy o q_p1 q_p2 d d_p1 d_p2 w.1 points_ generators_ w.2.1 w.2.2) H locs → lv_has ls 5 [] → W p l e rm_X3_generate s m args below meth c H locs 0 0 Q (F0 m 79 ls [])) v) o1) : ∀ (H : Heap) (locs : List Loc) (ls : Array Slot), St A D s (RW_X3_generate cy o q_p1 q_p2 d d_p1 d_p2 count_ points_ generators_ images_ slots_) H locs → lv_has ls 5 [(0, .ref o), (2, .ref q_p2), (3, .int x3)] → W p l e rm_X3_generate s m args below meth c H locs 0 0 Q (F0 m 24 ls []) := by
  intro H locs ls Z hl
  have hx := X.1.1
  have hb := X.1.2.1
  unfold b_X3_generate_24 at h
  refine lv_iload_n hx hb dX3_generate_24 rfl (lv_at hl 2 rfl) ?_
  refine lv_sipush (v := (400 : Int32)) hx hb dX3_generate_25 (by decide) ?_
  refine lv_icmp_ge (tgt := 79) hx hb dX3_generate_28 (by decide) (fun cnd => ?_) (fun cnd => ?_)
  · replace h := ifp h cnd
    obtain rfl := Option.some.inj h
    exact (sk_r (sk_r K)) H locs ls Z (lv_sub hl [] rfl)
  · replace h := ifn h cnd
    refine lv_iload_n hx hb dX3_generate_31 rfl (lv_at hl 2 rfl) ?_
    refine lv_aload_n hx hb dX3_generate_32 rfl (lv_at hl 0 rfl) ?_
    refine x_get X Z 0 0 (v := .int count_) rfl rfl lk_X3_generate_X3_count dX3_generate_33 ?_
    refine lv_icmp_ge (tgt := 79) hx hb dX3_generate_36 (by decide) (fun cnd => ?_) (fun cnd => ?_)
    · replace h := ifp h cnd
      obtain rfl := Option.some.inj h
      exact (sk_r (sk_r K)) H locs ls Z (lv_sub hl [] rfl)
    · replace h := ifn h cnd
      refine lv_iconst (v := (0 : Int32)) hx hb dX3_generate_39 (by decide) ?_
      refine lv_istore (lv' := [(4, .int (0 : Int32)), (0, .ref o), (2, .ref q_p2), (3, .int x3)]) hx hb dX3_generate_40 hl (by decide) rfl (fun ls hl => ?_)
      obtain ⟨u5, hL6, h⟩ := ob_some h
      rcases u5 with u5 | u5
      · replace h := se_l h
        refine wl_X3_generate_42 o q_p1 q_p2 d d_p1 d_p2 p1_blocks_ p1_touchedCount_ p2_letters_ p2_states_ p1_members_ p1_blockOf_ p1_first_ p2_next_ points_ generators_ x3 FU (count_, images_, slots_, (0 : Int32)) (.inl u5) X hL6 (sk_li (fun H locs ls Z hl => ?_)) H locs ls Z (lv_sub hl [1, 2, 3, 0] rfl)
        obtain rfl := Option.some.inj h
        exact (sk_l (sk_r K)) H locs ls Z (lv_sub hl [] rfl)
      · replace h := se_r h
        refine wl_X3_generate_42 o q_p1 q_p2 d d_p1 d_p2 p1_blocks_ p1_touchedCount_ p2_letters_ p2_states_ p1_members_ p1_blockOf_ p1_first_ p2_next_ points_ generators_ x3 FU (count_, images_, slots_, (0 : Int32)) (.inr u5) X hL6 (sk_ri (fun H locs ls Z hl => ?_)) H locs ls Z (lv_sub hl [1, 2, 3, 0] rfl)
        refine lv_iinc (v := (x3 + (1 : Int32))) (lv' := [(3, .int (x3 + (1 : Int32))), (0, .ref o), (2, .ref q_p2)]) hx hb dX3_generate_73 hl (k := 2) rfl rfl (by decide) rfl (fun ls hl => ?_)
        refine lv_goto (tgt := 24) hx hb dX3_generate_76 (by decide) ?_
        obtain rfl := Option.some.inj h
        exact sk_l K H locs ls Z (lv_sub hl [1, 2, 0] rfl)
set_option maxHeartbeats 4000000 in
set_option maxRecDepth 100000 in
theorem wl_X3_generate_24 {p : Program} {l : Launch} {e : Env} {s : State} {m : MethodId} {args : Array Value} {below : List Frame} {meth : Method} {c : Code} {A : Nat → Prop} {Q : State → Prop} {D : va_G} {cy : Nat → ClassId} (o : Nat) (q_p1 : Nat) (q_p2 : Nat) (d : Nat → Nat) (d_p1 : Nat → Nat) (d_p2 : Nat → Nat) (p1_blocks_ : Int32) (p1_touchedCount_ : Int32) (p2_letters_ : Int32) (p2_states_ : Int32) (p1_members_ : Nat → Int32) (p1_blockOf_ : Nat → Int32) (p1_first_ : Nat → Int32) (p2_next_ : Nat → Int32) (points_ : Int32) (generators_ : Nat → Int32) (n : Nat) (v : Int32 × (Nat → Int32) × (Nat → Int32) × Int32) (x : (Int32 × (Nat → Int32) × (Nat → Int32)) ⊕ (Int32 × (Nat → Int32) × (Nat → Int32))) (X : Cx p m c cX3_generate 5 s args wsX3_generate RX3 A D cy (RO_X3_generate cy o q_p1 q_p2 d d_p1 d_p2 p1_blocks_ p1_touchedCount_ p2_letters_ p2_states_ p1_members_ p1_blockOf_ p1_first_ p2_next_)) (h : loopN (fun v => b_X3_generate_24 p2_letters_ points_ generators_ v.1 v.2.1 v.2.2.1 v.2.2.2) n v = some x) (K : Sum.elim (fun w : Int32 × (Nat → Int32) × (Nat → Int32) => ∀ (H : Heap) (locs : List Loc) (ls : Array Slot), St A D s (RW_X3_generate cy o q_p1 q_p2 d d_p1 d_p2 w.1 points_ generators_ w.2.1 w.2.2) H locs → lv_has ls 5 [] → W p l e rm_X3_generate s m args below meth c H locs 0 0 Q (F0 m 65 ls [])) (fun w => ∀ (H : Heap) (locs : List Loc) (ls : Array Slot), St A D s (RW_X3_generate cy o q_p1 q_p2 d d_p1 d_p2 w.1 points_ generators_ w.2.1 w.2.2) H locs → lv_has ls 5 [] → W p l e rm_X3_generate s m args below meth c H locs 0 0 Q (F0 m 79 ls [])) x) : ∀ (H : Heap) (locs : List Loc) (ls : Array Slot), St A D s (RW_X3_generate cy o q_p1 q_p2 d d_p1 d_p2 v.1 points_ generators_ v.2.1 v.2.2.1) H locs → lv_has ls 5 [(0, .ref o), (2, .ref q_p2), (3, .int v.2.2.2)] → W p l e rm_X3_generate s m args below meth c H locs 0 0 Q (F0 m 24 ls []) :=
  loop_gen (B := (fun v => b_X3_generate_24 p2_letters_ points_ generators_ v.1 v.2.1 v.2.2.1 v.2.2.2)) (Head := fun v : Int32 × (Nat → Int32) × (Nat → Int32) × Int32 => ∀ (H : Heap) (locs : List Loc) (ls : Array Slot), St A D s (RW_X3_generate cy o q_p1 q_p2 d d_p1 d_p2 v.1 points_ generators_ v.2.1 v.2.2.1) H locs → lv_has ls 5 [(0, .ref o), (2, .ref q_p2), (3, .int v.2.2.2)] → W p l e rm_X3_generate s m args below meth c H locs 0 0 Q (F0 m 24 ls [])) (Exit := fun v : (Int32 × (Nat → Int32) × (Nat → Int32)) ⊕ (Int32 × (Nat → Int32) × (Nat → Int32)) => Sum.elim (fun w : Int32 × (Nat → Int32) × (Nat → Int32) => ∀ (H : Heap) (locs : List Loc) (ls : Array Slot), St A D s (RW_X3_generate cy o q_p1 q_p2 d d_p1 d_p2 w.1 points_ generators_ w.2.1 w.2.2) H locs → lv_has ls 5 [] → W p l e rm_X3_generate s m args below meth c H locs 0 0 Q (F0 m 65 ls [])) (fun w => ∀ (H : Heap) (locs : List Loc) (ls : Array Slot), St A D s (RW_X3_generate cy o q_p1 q_p2 d d_p1 d_p2 w.1 points_ generators_ w.2.1 w.2.2) H locs → lv_has ls 5 [] → W p l e rm_X3_generate s m args below meth c H locs 0 0 Q (F0 m 79 ls [])) v) (fun v o9 hb1 K1 => wb_X3_generate_24 o q_p1 q_p2 d d_p1 d_p2 p1_blocks_ p1_touchedCount_ p2_letters_ p2_states_ p1_members_ p1_blockOf_ p1_first_ p2_next_ points_ generators_ v.1 v.2.1 v.2.2.1 v.2.2.2 o9 X hb1 K1) n v x h K
def f_X3_generate (p1_blocks_ : Int32) (p2_letters_ : Int32) (p1_members_ : Nat → Int32) (p1_blockOf_ : Nat → Int32) (p1_first_ : Nat → Int32) (p2_next_ : Nat → Int32) (count_ : Int32) (points_ : Int32) (generators_ : Nat → Int32) (images_ : Nat → Int32) (slots_ : Nat → Int32) : Option (Int32 × Int32 × Int32 × (Nat → Int32) × (Nat → Int32) × (Nat → Int32)) :=
  if p1_blocks_ ≤ (400 : Int32) then
  ((f_X3_takeGenerators p1_blocks_ p2_letters_ p1_members_ p1_blockOf_ p1_first_ p2_next_ points_ generators_).bind (fun u7 =>
  (f_X3_startWithIdentity u7.1 count_ images_ slots_).bind (fun u9 =>
  (loopN (fun v => b_X3_generate_24 p2_letters_ u7.1 u7.2 v.1 v.2.1 v.2.2.1 v.2.2.2) FU (u9.1, u9.2.1, u9.2.2, (0 : Int32))).bind (fun u11 =>
  Sum.elim (fun u11 =>
  some ((0 : Int32), u11.1, u7.1, u7.2, u11.2.1, u11.2.2)) (fun u11 =>
  some ((1 : Int32), u11.1, u7.1, u7.2, u11.2.1, u11.2.2)) u11))))
  else
  (some ((0 : Int32), count_, points_, generators_, images_, slots_))
set_option maxHeartbeats 4000000 in
set_option maxRecDepth 100000 in
theorem wt_X3_generate {p : Program} {l : Launch} {e : Env} {s : State} {m : MethodId} {args : Array Value} {below : List Frame} {meth : Method} {c : Code} {A : Nat → Prop} {Q : State → Prop} {D : va_G} {cy : Nat → ClassId} (o : Nat) (q_p1 : Nat) (q_p2 : Nat) (d : Nat → Nat) (d_p1 : Nat → Nat) (d_p2 : Nat → Nat) (p1_blocks_ : Int32) (p1_touchedCount_ : Int32) (p2_letters_ : Int32) (p2_states_ : Int32) (p1_members_ : Nat → Int32) (p1_blockOf_ : Nat → Int32) (p1_first_ : Nat → Int32) (p2_next_ : Nat → Int32) (count_ : Int32) (points_ : Int32) (generators_ : Nat → Int32) (images_ : Nat → Int32) (slots_ : Nat → Int32) (out : Int32 × Int32 × Int32 × (Nat → Int32) × (Nat → Int32) × (Nat → Int32)) (X : Cx p m c cX3_generate 5 s args wsX3_generate RX3 A D cy (RO_X3_generate cy o q_p1 q_p2 d d_p1 d_p2 p1_blocks_ p1_touchedCount_ p2_letters_ p2_states_ p1_members_ p1_blockOf_ p1_first_ p2_next_)) (h : f_X3_generate p1_blocks_ p2_letters_ p1_members_ p1_blockOf_ p1_first_ p2_next_ count_ points_ generators_ images_ slots_ = some out) (K : ∀ (H : Heap) (locs : List Loc) (ls : Array Slot) (pc : Nat), decode cX3_generate pc = .ok (.ireturn, 1) → (out.1 = 0 ∨ out.1 = 1) → St A D s (RW_X3_generate cy o q_p1 q_p2 d d_p1 d_p2 out.2.1 out.2.2.1 out.2.2.2.1 out.2.2.2.2.1 out.2.2.2.2.2) H locs → W p l e rm_X3_generate s m args below meth c H locs 0 0 Q (F0 m pc ls [.int out.1])) : ∀ (H : Heap) (locs : List Loc) (ls : Array Slot), St A D s (RW_X3_generate cy o q_p1 q_p2 d d_p1 d_p2 count_ points_ generators_ images_ slots_) H locs → lv_has ls 5 [(0, .ref o), (1, .ref q_p1), (2, .ref q_p2)] → W p l e rm_X3_generate s m args below meth c H locs 0 0 Q (F0 m 0 ls []) := by
  intro H locs ls Z hl
  have hx := X.1.1
  have hb := X.1.2.1
  unfold f_X3_generate at h
  refine lv_aload_n hx hb dX3_generate_0 rfl (lv_at hl 1 rfl) ?_
  refine x_getO X Z 0 0 (v := .int p1_blocks_) rfl rfl lk_X3_generate_X4_blocks dX3_generate_1 ?_
  refine lv_sipush (v := (400 : Int32)) hx hb dX3_generate_4 (by decide) ?_
  refine lv_icmp_le (tgt := 12) hx hb dX3_generate_7 (by decide) (fun cnd => ?_) (fun cnd => ?_)
  · replace h := ifp h cnd
    refine lv_aload_n hx hb dX3_generate_12 rfl (lv_at hl 0 rfl) ?_
    refine lv_aload_n hx hb dX3_generate_13 rfl (lv_at hl 1 rfl) ?_
    refine lv_aload_n hx hb dX3_generate_14 rfl (lv_at hl 2 rfl) ?_
    obtain ⟨u7, hc8, h⟩ := ob_some h
    refine x_runVv (RW' := (RW_X3_generate cy o q_p1 q_p2 d d_p1 d_p2 count_ u7.1 u7.2 images_ slots_)) (wr := [((d 3), aI cy 160400 images_), ((d 4), aI cy 1024 slots_)]) (isC := [0, 1]) (isR := [2, 3]) (isF := [2, 3, 0, 1]) (rest := []) (As := [.ref q_p1, .ref q_p2]) (n := 2) X Z (c_X3_takeGenerators l D cy o q_p1 q_p2 d d_p1 d_p2 p1_blocks_ p1_touchedCount_ p2_letters_ p2_states_ p1_members_ p1_blockOf_ p1_first_ p2_next_ count_ points_ generators_ u7 hc8) gX3_generate_X3_takeGenerators rfl (by decide +kernel) ⟨Nat.le_of_ble_eq_true rfl, Nat.le_of_ble_eq_true rfl⟩ ⟨rfl, rfl⟩ ⟨Nat.le_of_ble_eq_true rfl, Nat.le_of_ble_eq_true rfl⟩ (x_rv X Z 0 rfl rfl) ⟨rfl, rfl, (roC (Or.inr (mem_at 0 rfl)) (roC (Or.inr (mem_at 1 rfl)) (roC (Or.inr (mem_at 2 rfl)) (roC (Or.inr (mem_at 3 rfl)) (roC (Or.inr (mem_at 4 rfl)) (roC (Or.inr (mem_at 5 rfl)) roN)))))), rfl, rfl, by decide⟩ ⟨rfl, rfl⟩ rfl hl.1 rfl (Nat.le_of_ble_eq_true rfl) dX3_generate_15 (fun H locs Z => ?_)
    refine lv_aload_n hx hb dX3_generate_18 rfl (lv_at hl 0 rfl) ?_
    obtain ⟨u9, hc10, h⟩ := ob_some h
    refine x_runVv (RW' := (RW_X3_generate cy o q_p1 q_p2 d d_p1 d_p2 u9.1 u7.1 u7.2 u9.2.1 u9.2.2)) (wr := [((d 2), aI cy 1200 u7.2)]) (isC := [0, 2, 3]) (isR := [1]) (isF := [1, 0, 2, 3]) (rest := []) (As := []) (n := 0) X Z (c_X3_startWithIdentity l D cy o d count_ u7.1 images_ slots_ u9 hc10) gX3_generate_X3_startWithIdentity rfl (by decide +kernel) ⟨Nat.le_of_ble_eq_true rfl, Nat.le_of_ble_eq_true rfl⟩ ⟨rfl, rfl⟩ ⟨Nat.le_of_ble_eq_true rfl, Nat.le_of_ble_eq_true rfl⟩ (x_rv X Z 0 rfl rfl) ⟨rfl, rfl, roN, rfl, rfl, by decide⟩ ⟨rfl, rfl⟩ rfl hl.1 rfl (Nat.le_of_ble_eq_true rfl) dX3_generate_19 (fun H locs Z => ?_)
    refine lv_iconst (v := (0 : Int32)) hx hb dX3_generate_22 (by decide) ?_
    refine lv_istore_n (lv' := [(3, .int (0 : Int32)), (0, .ref o), (1, .ref q_p1), (2, .ref q_p2)]) hx hb dX3_generate_23 rfl hl (by decide) rfl (fun ls hl => ?_)
    obtain ⟨u11, hL12, h⟩ := ob_some h
    rcases u11 with u11 | u11
    · replace h := se_l h
      refine wl_X3_generate_24 o q_p1 q_p2 d d_p1 d_p2 p1_blocks_ p1_touchedCount_ p2_letters_ p2_states_ p1_members_ p1_blockOf_ p1_first_ p2_next_ u7.1 u7.2 FU (u9.1, u9.2.1, u9.2.2, (0 : Int32)) (.inl u11) X hL12 (sk_li (fun H locs ls Z hl => ?_)) H locs ls Z (lv_sub hl [1, 3, 0] rfl)
      refine lv_iconst (v := (0 : Int32)) hx hb dX3_generate_65 (by decide) ?_
      obtain rfl := Option.some.inj h
      exact K H locs ls _ dX3_generate_66 (Or.inl rfl) Z
    · replace h := se_r h
      refine wl_X3_generate_24 o q_p1 q_p2 d d_p1 d_p2 p1_blocks_ p1_touchedCount_ p2_letters_ p2_states_ p1_members_ p1_blockOf_ p1_first_ p2_next_ u7.1 u7.2 FU (u9.1, u9.2.1, u9.2.2, (0 : Int32)) (.inr u11) X hL12 (sk_ri (fun H locs ls Z hl => ?_)) H locs ls Z (lv_sub hl [1, 3, 0] rfl)
      refine lv_iconst (v := (1 : Int32)) hx hb dX3_generate_79 (by decide) ?_
      obtain rfl := Option.some.inj h
      exact K H locs ls _ dX3_generate_80 (Or.inr rfl) Z
  · replace h := ifn h cnd
    refine lv_iconst (v := (0 : Int32)) hx hb dX3_generate_10 (by decide) ?_
    obtain rfl := Option.some.inj h
    exact K H locs ls _ dX3_generate_11 (Or.inl rfl) Z
theorem c_X3_generate (l : Launch) (D : va_G) (cy : Nat → ClassId) (o : Nat) (q_p1 : Nat) (q_p2 : Nat) (d : Nat → Nat) (d_p1 : Nat → Nat) (d_p2 : Nat → Nat) (p1_blocks_ : Int32) (p1_touchedCount_ : Int32) (p2_letters_ : Int32) (p2_states_ : Int32) (p1_members_ : Nat → Int32) (p1_blockOf_ : Nat → Int32) (p1_first_ : Nat → Int32) (p2_next_ : Nat → Int32) (count_ : Int32) (points_ : Int32) (generators_ : Nat → Int32) (images_ : Nat → Int32) (slots_ : Nat → Int32) (out : Int32 × Int32 × Int32 × (Nat → Int32) × (Nat → Int32) × (Nat → Int32)) (h : f_X3_generate p1_blocks_ p2_letters_ p1_members_ p1_blockOf_ p1_first_ p2_next_ count_ points_ generators_ images_ slots_ = some out) : CtI l yX3_generate wsX3_generate rm_X3_generate D cy [.ref o, .ref q_p1, .ref q_p2] (RW_X3_generate cy o q_p1 q_p2 d d_p1 d_p2 count_ points_ generators_ images_ slots_) (RO_X3_generate cy o q_p1 q_p2 d d_p1 d_p2 p1_blocks_ p1_touchedCount_ p2_letters_ p2_states_ p1_members_ p1_blockOf_ p1_first_ p2_next_) (RW_X3_generate cy o q_p1 q_p2 d d_p1 d_p2 out.2.1 out.2.2.1 out.2.2.2.1 out.2.2.2.2.1 out.2.2.2.2.2) out.1 :=
  mk_z (by decide) rfl (Nat.le_of_ble_eq_true rfl) (fun p e s m args below meth c A Q X K H locs ls Z hl => wt_X3_generate o q_p1 q_p2 d d_p1 d_p2 p1_blocks_ p1_touchedCount_ p2_letters_ p2_states_ p1_members_ p1_blockOf_ p1_first_ p2_next_ count_ points_ generators_ images_ slots_ out X h K H locs ls Z hl)
/-! SubwordCounter$Syntax headLength ([III)I -/
abbrev rm_X7_headLength : Room := { frames := 0, cells := 0, slots := 0, locals := 0 }
def RW_X7_headLength (cy : Nat → ClassId) (q_p0 : Nat) (n_p0 : Nat)  : va_W := []
def RO_X7_headLength (cy : Nat → ClassId) (q_p0 : Nat) (n_p0 : Nat) (p0_ : Nat → Int32) : va_W := [(q_p0, aI cy n_p0 p0_)]
def b_X7_headLength_19 (n_p0 : Nat) (p0_ : Nat → Int32) (x1 : Int32) (x2 : Int32)  (x3 : Int32) (x4 : Int32) : Option ((Int32 × Int32) ⊕ ((Int32) ⊕ (Int32))) :=
  if x1 ≤ x4 then
  (some (.inr (.inr x3)))
  else
  (if (4 : Int32) ≤ x4 then
  (some (.inr (.inr x3)))
  else
  (ldA p0_ n_p0 x4 (fun v2 =>
  if v2 < (97 : Int32) then
  (some (.inr (.inl x3)))
  else
  (ldA p0_ n_p0 x4 (fun v5 =>
  if v5 < ((97 : Int32) + x2) then
  (some (.inl ((x3 + (1 : Int32)), (x4 + (1 : Int32)))))
  else
  (some (.inr (.inl x3))))))))
set_option maxHeartbeats 4000000 in
set_option maxRecDepth 100000 in
theorem wb_X7_headLength_19 {p : Program} {l : Launch} {e : Env} {s : State} {m : MethodId} {args : Array Value} {below : List Frame} {meth : Method} {c : Code} {A : Nat → Prop} {Q : State → Prop} {D : va_G} {cy : Nat → ClassId} (q_p0 : Nat) (n_p0 : Nat) (p0_ : Nat → Int32)  (x1 : Int32) (x2 : Int32)  (x3 : Int32) (x4 : Int32) (o1 : (Int32 × Int32) ⊕ ((Int32) ⊕ (Int32))) (X : Cx p m c cX7_headLength 5 s args wsX7_headLength RX7 A D cy (RO_X7_headLength cy q_p0 n_p0 p0_)) (h : b_X7_headLength_19 n_p0 p0_ x1 x2 x3 x4 = some o1) (K : Sum.elim (fun v : Int32 × Int32 => ∀ (H : Heap) (locs : List Loc) (ls : Array Slot), St A D s (RW_X7_headLength cy q_p0 n_p0) H locs → lv_has ls 5 [(0, .ref q_p0), (1, .int x1), (2, .int x2), (3, .int v.1), (4, .int v.2)] → W p l e rm_X7_headLength s m args below meth c H locs 0 0 Q (F0 m 19 ls [])) (fun v : (Int32) ⊕ (Int32) => Sum.elim (fun w : Int32 => ∀ (H : Heap) (locs : List Loc) (ls : Array Slot), St A D s (RW_X7_headLength cy q_p0 n_p0) H locs → lv_has ls 5 [(3, .int w)] → W p l e rm_X7_headLength s m args below meth c H locs 0 0 Q (F0 m 51 ls [])) (fun w => ∀ (H : Heap) (locs : List Loc) (ls : Array Slot), St A D s (RW_X7_headLength cy q_p0 n_p0) H locs → lv_has ls 5 [(3, .int w)] → W p l e rm_X7_headLength s m args below meth c H locs 0 0 Q (F0 m 62 ls [])) v) o1) : ∀ (H : Heap) (locs : List Loc) (ls : Array Slot), St A D s (RW_X7_headLength cy q_p0 n_p0) H locs → lv_has ls 5 [(0, .ref q_p0), (1, .int x1), (2, .int x2), (3, .int x3), (4, .int x4)] → W p l e rm_X7_headLength s m args below meth c H locs 0 0 Q (F0 m 19 ls []) := by
  intro H locs ls Z hl
  have hx := X.1.1
  have hb := X.1.2.1
  unfold b_X7_headLength_19 at h
  refine lv_iload hx hb dX7_headLength_19 (lv_at hl 4 rfl) ?_
  refine lv_iload_n hx hb dX7_headLength_21 rfl (lv_at hl 1 rfl) ?_
  refine lv_icmp_ge (tgt := 62) hx hb dX7_headLength_22 (by decide) (fun cnd => ?_) (fun cnd => ?_)
  · replace h := ifp h cnd
    obtain rfl := Option.some.inj h
    exact (sk_r (sk_r K)) H locs ls Z (lv_sub hl [3] rfl)
  · replace h := ifn h cnd
    refine lv_iload hx hb dX7_headLength_25 (lv_at hl 4 rfl) ?_
    refine lv_iconst (v := (4 : Int32)) hx hb dX7_headLength_27 (by decide) ?_
    refine lv_icmp_ge (tgt := 62) hx hb dX7_headLength_28 (by decide) (fun cnd => ?_) (fun cnd => ?_)
    · replace h := ifp h cnd
      obtain rfl := Option.some.inj h
      exact (sk_r (sk_r K)) H locs ls Z (lv_sub hl [3] rfl)
    · replace h := ifn h cnd
      refine lv_aload_n hx hb dX7_headLength_31 rfl (lv_at hl 0 rfl) ?_
      refine lv_iload hx hb dX7_headLength_32 (lv_at hl 4 rfl) ?_
      obtain ⟨hin1, v2, hv3, h⟩ := ld_b h
      refine x_ialdO X Z 0 rfl hin1 hv3 dX7_headLength_34 ?_
      refine lv_bipush (v := (97 : Int32)) hx hb dX7_headLength_35 (by decide) ?_
      refine lv_icmp_lt (tgt := 51) hx hb dX7_headLength_37 (by decide) (fun cnd => ?_) (fun cnd => ?_)
      · replace h := ifp h cnd
        obtain rfl := Option.some.inj h
        exact (sk_l (sk_r K)) H locs ls Z (lv_sub hl [3] rfl)
      · replace h := ifn h cnd
        refine lv_aload_n hx hb dX7_headLength_40 rfl (lv_at hl 0 rfl) ?_
        refine lv_iload hx hb dX7_headLength_41 (lv_at hl 4 rfl) ?_
        obtain ⟨hin4, v5, hv6, h⟩ := ld_b h
        refine x_ialdO X Z 0 rfl hin4 hv6 dX7_headLength_43 ?_
        refine lv_bipush (v := (97 : Int32)) hx hb dX7_headLength_44 (by decide) ?_
        refine lv_iload_n hx hb dX7_headLength_46 rfl (lv_at hl 2 rfl) ?_
        refine lv_iadd hx hb dX7_headLength_47 ?_
        refine lv_icmp_lt (tgt := 53) hx hb dX7_headLength_48 (by decide) (fun cnd => ?_) (fun cnd => ?_)
        · replace h := ifp h cnd
          refine lv_iinc (v := (x3 + (1 : Int32))) (lv' := [(3, .int (x3 + (1 : Int32))), (0, .ref q_p0), (1, .int x1), (2, .int x2), (4, .int x4)]) hx hb dX7_headLength_53 hl (k := 3) rfl rfl (by decide) rfl (fun ls hl => ?_)
          refine lv_iinc (v := (x4 + (1 : Int32))) (lv' := [(4, .int (x4 + (1 : Int32))), (3, .int (x3 + (1 : Int32))), (0, .ref q_p0), (1, .int x1), (2, .int x2)]) hx hb dX7_headLength_56 hl (k := 4) rfl rfl (by decide) rfl (fun ls hl => ?_)
          refine lv_goto (tgt := 19) hx hb dX7_headLength_59 (by decide) ?_
          obtain rfl := Option.some.inj h
          exact sk_l K H locs ls Z (lv_sub hl [2, 3, 4, 1, 0] rfl)
        · replace h := ifn h cnd
          obtain rfl := Option.some.inj h
          exact (sk_l (sk_r K)) H locs ls Z (lv_sub hl [3] rfl)
set_option maxHeartbeats 4000000 in
set_option maxRecDepth 100000 in
theorem wl_X7_headLength_19 {p : Program} {l : Launch} {e : Env} {s : State} {m : MethodId} {args : Array Value} {below : List Frame} {meth : Method} {c : Code} {A : Nat → Prop} {Q : State → Prop} {D : va_G} {cy : Nat → ClassId} (q_p0 : Nat) (n_p0 : Nat) (p0_ : Nat → Int32)  (x1 : Int32) (x2 : Int32) (n : Nat) (v : Int32 × Int32) (x : (Int32) ⊕ (Int32)) (X : Cx p m c cX7_headLength 5 s args wsX7_headLength RX7 A D cy (RO_X7_headLength cy q_p0 n_p0 p0_)) (h : loopN (fun v => b_X7_headLength_19 n_p0 p0_ x1 x2 v.1 v.2) n v = some x) (K : Sum.elim (fun w : Int32 => ∀ (H : Heap) (locs : List Loc) (ls : Array Slot), St A D s (RW_X7_headLength cy q_p0 n_p0) H locs → lv_has ls 5 [(3, .int w)] → W p l e rm_X7_headLength s m args below meth c H locs 0 0 Q (F0 m 51 ls [])) (fun w => ∀ (H : Heap) (locs : List Loc) (ls : Array Slot), St A D s (RW_X7_headLength cy q_p0 n_p0) H locs → lv_has ls 5 [(3, .int w)] → W p l e rm_X7_headLength s m args below meth c H locs 0 0 Q (F0 m 62 ls [])) x) : ∀ (H : Heap) (locs : List Loc) (ls : Array Slot), St A D s (RW_X7_headLength cy q_p0 n_p0) H locs → lv_has ls 5 [(0, .ref q_p0), (1, .int x1), (2, .int x2), (3, .int v.1), (4, .int v.2)] → W p l e rm_X7_headLength s m args below meth c H locs 0 0 Q (F0 m 19 ls []) :=
  loop_gen (B := (fun v => b_X7_headLength_19 n_p0 p0_ x1 x2 v.1 v.2)) (Head := fun v : Int32 × Int32 => ∀ (H : Heap) (locs : List Loc) (ls : Array Slot), St A D s (RW_X7_headLength cy q_p0 n_p0) H locs → lv_has ls 5 [(0, .ref q_p0), (1, .int x1), (2, .int x2), (3, .int v.1), (4, .int v.2)] → W p l e rm_X7_headLength s m args below meth c H locs 0 0 Q (F0 m 19 ls [])) (Exit := fun v : (Int32) ⊕ (Int32) => Sum.elim (fun w : Int32 => ∀ (H : Heap) (locs : List Loc) (ls : Array Slot), St A D s (RW_X7_headLength cy q_p0 n_p0) H locs → lv_has ls 5 [(3, .int w)] → W p l e rm_X7_headLength s m args below meth c H locs 0 0 Q (F0 m 51 ls [])) (fun w => ∀ (H : Heap) (locs : List Loc) (ls : Array Slot), St A D s (RW_X7_headLength cy q_p0 n_p0) H locs → lv_has ls 5 [(3, .int w)] → W p l e rm_X7_headLength s m args below meth c H locs 0 0 Q (F0 m 62 ls [])) v) (fun v o9 hb1 K1 => wb_X7_headLength_19 q_p0 n_p0 p0_ x1 x2 v.1 v.2 o9 X hb1 K1) n v x h K
def j_X7_headLength_14 (n_p0 : Nat) (p0_ : Nat → Int32) (x1 : Int32) (x2 : Int32) : Option (Int32) :=
  (loopN (fun v => b_X7_headLength_19 n_p0 p0_ x1 x2 v.1 v.2) FU ((0 : Int32), (0 : Int32))).bind (fun u7 =>
  Sum.elim (fun u7 =>
  some u7) (fun u7 =>
  some u7) u7)
set_option maxHeartbeats 4000000 in
set_option maxRecDepth 100000 in
theorem jw_X7_headLength_14 {p : Program} {l : Launch} {e : Env} {s : State} {m : MethodId} {args : Array Value} {below : List Frame} {meth : Method} {c : Code} {A : Nat → Prop} {Q : State → Prop} {D : va_G} {cy : Nat → ClassId} (q_p0 : Nat) (n_p0 : Nat) (p0_ : Nat → Int32)  (x1 : Int32) (x2 : Int32) (out : Int32) (X : Cx p m c cX7_headLength 5 s args wsX7_headLength RX7 A D cy (RO_X7_headLength cy q_p0 n_p0 p0_)) (h : j_X7_headLength_14 n_p0 p0_ x1 x2 = some out) (K : ∀ (H : Heap) (locs : List Loc) (ls : Array Slot) (pc : Nat), decode cX7_headLength pc = .ok (.ireturn, 1) → St A D s (RW_X7_headLength cy q_p0 n_p0) H locs → W p l e rm_X7_headLength s m args below meth c H locs 0 0 Q (F0 m pc ls [.int out])) : ∀ (H : Heap) (locs : List Loc) (ls : Array Slot), St A D s (RW_X7_headLength cy q_p0 n_p0) H locs → lv_has ls 5 [(0, .ref q_p0), (1, .int x1), (2, .int x2)] → W p l e rm_X7_headLength s m args below meth c H locs 0 0 Q (F0 m 14 ls []) := by
  intro H locs ls Z hl
  have hx := X.1.1
  have hb := X.1.2.1
  unfold j_X7_headLength_14 at h
  refine lv_iconst (v := (0 : Int32)) hx hb dX7_headLength_14 (by decide) ?_
  refine lv_istore_n (lv' := [(3, .int (0 : Int32)), (0, .ref q_p0), (1, .int x1), (2, .int x2)]) hx hb dX7_headLength_15 rfl hl (by decide) rfl (fun ls hl => ?_)
  refine lv_iconst (v := (0 : Int32)) hx hb dX7_headLength_16 (by decide) ?_
  refine lv_istore (lv' := [(4, .int (0 : Int32)), (3, .int (0 : Int32)), (0, .ref q_p0), (1, .int x1), (2, .int x2)]) hx hb dX7_headLength_17 hl (by decide) rfl (fun ls hl => ?_)
  obtain ⟨u7, hL8, h⟩ := ob_some h
  rcases u7 with u7 | u7
  · replace h := se_l h
    refine wl_X7_headLength_19 q_p0 n_p0 p0_ x1 x2 FU ((0 : Int32), (0 : Int32)) (.inl u7) X hL8 (sk_li (fun H locs ls Z hl => ?_)) H locs ls Z (lv_sub hl [2, 3, 4, 1, 0] rfl)
    refine lv_iload_n hx hb dX7_headLength_51 rfl (lv_at hl 0 rfl) ?_
    obtain rfl := Option.some.inj h
    exact K H locs ls _ dX7_headLength_52 Z
  · replace h := se_r h
    refine wl_X7_headLength_19 q_p0 n_p0 p0_ x1 x2 FU ((0 : Int32), (0 : Int32)) (.inr u7) X hL8 (sk_ri (fun H locs ls Z hl => ?_)) H locs ls Z (lv_sub hl [2, 3, 4, 1, 0] rfl)
    refine lv_iload_n hx hb dX7_headLength_62 rfl (lv_at hl 0 rfl) ?_
    obtain rfl := Option.some.inj h
    exact K H locs ls _ dX7_headLength_63 Z
def f_X7_headLength (x1 : Int32) (x2 : Int32) (n_p0 : Nat) (p0_ : Nat → Int32) : Option (Int32) :=
  if x1 ≤ 0 then
  (j_X7_headLength_14 n_p0 p0_ x1 x2)
  else
  (ldA p0_ n_p0 (0 : Int32) (fun v10 =>
  if v10 = (35 : Int32) then
  (some (1 : Int32))
  else
  (j_X7_headLength_14 n_p0 p0_ x1 x2)))
set_option maxHeartbeats 4000000 in
set_option maxRecDepth 100000 in
theorem wt_X7_headLength {p : Program} {l : Launch} {e : Env} {s : State} {m : MethodId} {args : Array Value} {below : List Frame} {meth : Method} {c : Code} {A : Nat → Prop} {Q : State → Prop} {D : va_G} {cy : Nat → ClassId} (q_p0 : Nat) (n_p0 : Nat) (p0_ : Nat → Int32)  (x1 : Int32) (x2 : Int32) (out : Int32) (X : Cx p m c cX7_headLength 5 s args wsX7_headLength RX7 A D cy (RO_X7_headLength cy q_p0 n_p0 p0_)) (h : f_X7_headLength x1 x2 n_p0 p0_ = some out) (K : ∀ (H : Heap) (locs : List Loc) (ls : Array Slot) (pc : Nat), decode cX7_headLength pc = .ok (.ireturn, 1) → St A D s (RW_X7_headLength cy q_p0 n_p0) H locs → W p l e rm_X7_headLength s m args below meth c H locs 0 0 Q (F0 m pc ls [.int out])) : ∀ (H : Heap) (locs : List Loc) (ls : Array Slot), St A D s (RW_X7_headLength cy q_p0 n_p0) H locs → lv_has ls 5 [(0, .ref q_p0), (1, .int x1), (2, .int x2)] → W p l e rm_X7_headLength s m args below meth c H locs 0 0 Q (F0 m 0 ls []) := by
  intro H locs ls Z hl
  have hx := X.1.1
  have hb := X.1.2.1
  unfold f_X7_headLength at h
  refine lv_iload_n hx hb dX7_headLength_0 rfl (lv_at hl 1 rfl) ?_
  refine lv_if_le (tgt := 14) hx hb dX7_headLength_1 (by decide) (fun cnd => ?_) (fun cnd => ?_)
  · replace h := ifp h cnd
    exact jw_X7_headLength_14 q_p0 n_p0 p0_ x1 x2 _ X h K H locs ls Z (lv_sub hl [0, 1, 2] rfl)
  · replace h := ifn h cnd
    refine lv_aload_n hx hb dX7_headLength_4 rfl (lv_at hl 0 rfl) ?_
    refine lv_iconst (v := (0 : Int32)) hx hb dX7_headLength_5 (by decide) ?_
    obtain ⟨hin9, v10, hv11, h⟩ := ld_b h
    refine x_ialdO X Z 0 rfl hin9 hv11 dX7_headLength_6 ?_
    refine lv_bipush (v := (35 : Int32)) hx hb dX7_headLength_7 (by decide) ?_
    refine lv_icmp_ne (tgt := 14) hx hb dX7_headLength_9 (by decide) (fun cnd => ?_) (fun cnd => ?_)
    · replace h := ifn h cnd
      exact jw_X7_headLength_14 q_p0 n_p0 p0_ x1 x2 _ X h K H locs ls Z (lv_sub hl [0, 1, 2] rfl)
    · replace h := ifp h cnd
      refine lv_iconst (v := (1 : Int32)) hx hb dX7_headLength_12 (by decide) ?_
      obtain rfl := Option.some.inj h
      exact K H locs ls _ dX7_headLength_13 Z
theorem c_X7_headLength (l : Launch) (D : va_G) (cy : Nat → ClassId) (q_p0 : Nat) (n_p0 : Nat) (p0_ : Nat → Int32)  (x1 : Int32) (x2 : Int32) (out : Int32) (h : f_X7_headLength x1 x2 n_p0 p0_ = some out) : CtI l yX7_headLength wsX7_headLength rm_X7_headLength D cy [.ref q_p0, .int x1, .int x2] (RW_X7_headLength cy q_p0 n_p0) (RO_X7_headLength cy q_p0 n_p0 p0_) (RW_X7_headLength cy q_p0 n_p0) out :=
  mk_i (ty := .int) (by decide) rfl rfl (Nat.le_of_ble_eq_true rfl) (fun p e s m args below meth c A Q X K H locs ls Z hl => wt_X7_headLength q_p0 n_p0 p0_ x1 x2 out X h K H locs ls Z hl)
/-! SubwordCounter$Syntax isLimit (II)Z -/
abbrev rm_X7_isLimit : Room := { frames := 0, cells := 0, slots := 0, locals := 0 }
def RW_X7_isLimit (cy : Nat → ClassId)   : va_W := []
def RO_X7_isLimit (cy : Nat → ClassId)   : va_W := []
def j_X7_isLimit_14  (x1 : Int32) (t0 : Int32) (t1 : Int32) : Option (Int32) :=
  if t1 < t0 then
  (some (0 : Int32))
  else
  (if (57 : Int32) < x1 then
  (some (0 : Int32))
  else
  (some (1 : Int32)))
set_option maxHeartbeats 4000000 in
set_option maxRecDepth 100000 in
theorem jw_X7_isLimit_14 {p : Program} {l : Launch} {e : Env} {s : State} {m : MethodId} {args : Array Value} {below : List Frame} {meth : Method} {c : Code} {A : Nat → Prop} {Q : State → Prop} {D : va_G} {cy : Nat → ClassId}    (x1 : Int32) (t0 : Int32) (t1 : Int32) (out : Int32) (X : Cx p m c cX7_isLimit 2 s args wsX7_isLimit RX7 A D cy (RO_X7_isLimit cy )) (h : j_X7_isLimit_14 x1 t0 t1 = some out) (K : ∀ (H : Heap) (locs : List Loc) (ls : Array Slot) (pc : Nat), decode cX7_isLimit pc = .ok (.ireturn, 1) → (out = 0 ∨ out = 1) → St A D s (RW_X7_isLimit cy ) H locs → W p l e rm_X7_isLimit s m args below meth c H locs 0 0 Q (F0 m pc ls [.int out])) : ∀ (H : Heap) (locs : List Loc) (ls : Array Slot), St A D s (RW_X7_isLimit cy ) H locs → lv_has ls 2 [(1, .int x1)] → W p l e rm_X7_isLimit s m args below meth c H locs 0 0 Q (F0 m 14 ls [.int t0, .int t1]) := by
  intro H locs ls Z hl
  have hx := X.1.1
  have hb := X.1.2.1
  unfold j_X7_isLimit_14 at h
  refine lv_icmp_lt (tgt := 27) hx hb dX7_isLimit_14 (by decide) (fun cnd => ?_) (fun cnd => ?_)
  · replace h := ifp h cnd
    refine lv_iconst (v := (0 : Int32)) hx hb dX7_isLimit_27 (by decide) ?_
    obtain rfl := Option.some.inj h
    exact K H locs ls _ dX7_isLimit_28 (Or.inl rfl) Z
  · replace h := ifn h cnd
    refine lv_iload_n hx hb dX7_isLimit_17 rfl (lv_at hl 0 rfl) ?_
    refine lv_bipush (v := (57 : Int32)) hx hb dX7_isLimit_18 (by decide) ?_
    refine lv_icmp_gt (tgt := 27) hx hb dX7_isLimit_20 (by decide) (fun cnd => ?_) (fun cnd => ?_)
    · replace h := ifp h cnd
      refine lv_iconst (v := (0 : Int32)) hx hb dX7_isLimit_27 (by decide) ?_
      obtain rfl := Option.some.inj h
      exact K H locs ls _ dX7_isLimit_28 (Or.inl rfl) Z
    · replace h := ifn h cnd
      refine lv_iconst (v := (1 : Int32)) hx hb dX7_isLimit_23 (by decide) ?_
      refine lv_goto (tgt := 28) hx hb dX7_isLimit_24 (by decide) ?_
      obtain rfl := Option.some.inj h
      exact K H locs ls _ dX7_isLimit_28 (Or.inr rfl) Z
def f_X7_isLimit (x0 : Int32) (x1 : Int32)  : Option (Int32) :=
  if x0 = (37 : Int32) then
  (j_X7_isLimit_14 x1 (50 : Int32) x1)
  else
  (j_X7_isLimit_14 x1 (49 : Int32) x1)
set_option maxHeartbeats 4000000 in
set_option maxRecDepth 100000 in
theorem wt_X7_isLimit {p : Program} {l : Launch} {e : Env} {s : State} {m : MethodId} {args : Array Value} {below : List Frame} {meth : Method} {c : Code} {A : Nat → Prop} {Q : State → Prop} {D : va_G} {cy : Nat → ClassId}    (x0 : Int32) (x1 : Int32) (out : Int32) (X : Cx p m c cX7_isLimit 2 s args wsX7_isLimit RX7 A D cy (RO_X7_isLimit cy )) (h : f_X7_isLimit x0 x1 = some out) (K : ∀ (H : Heap) (locs : List Loc) (ls : Array Slot) (pc : Nat), decode cX7_isLimit pc = .ok (.ireturn, 1) → (out = 0 ∨ out = 1) → St A D s (RW_X7_isLimit cy ) H locs → W p l e rm_X7_isLimit s m args below meth c H locs 0 0 Q (F0 m pc ls [.int out])) : ∀ (H : Heap) (locs : List Loc) (ls : Array Slot), St A D s (RW_X7_isLimit cy ) H locs → lv_has ls 2 [(0, .int x0), (1, .int x1)] → W p l e rm_X7_isLimit s m args below meth c H locs 0 0 Q (F0 m 0 ls []) := by
  intro H locs ls Z hl
  have hx := X.1.1
  have hb := X.1.2.1
  unfold f_X7_isLimit at h
  refine lv_iload_n hx hb dX7_isLimit_0 rfl (lv_at hl 1 rfl) ?_
  refine lv_iload_n hx hb dX7_isLimit_1 rfl (lv_at hl 0 rfl) ?_
  refine lv_bipush (v := (37 : Int32)) hx hb dX7_isLimit_2 (by decide) ?_
  refine lv_icmp_ne (tgt := 12) hx hb dX7_isLimit_4 (by decide) (fun cnd => ?_) (fun cnd => ?_)
  · replace h := ifn h cnd
    refine lv_bipush (v := (49 : Int32)) hx hb dX7_isLimit_12 (by decide) ?_
    exact jw_X7_isLimit_14  x1 (49 : Int32) x1 _ X h K H locs ls Z (lv_sub hl [1] rfl)
  · replace h := ifp h cnd
    refine lv_bipush (v := (50 : Int32)) hx hb dX7_isLimit_7 (by decide) ?_
    refine lv_goto (tgt := 14) hx hb dX7_isLimit_9 (by decide) ?_
    exact jw_X7_isLimit_14  x1 (50 : Int32) x1 _ X h K H locs ls Z (lv_sub hl [1] rfl)
theorem c_X7_isLimit (l : Launch) (D : va_G) (cy : Nat → ClassId)    (x0 : Int32) (x1 : Int32) (out : Int32) (h : f_X7_isLimit x0 x1 = some out) : CtI l yX7_isLimit wsX7_isLimit rm_X7_isLimit D cy [.int x0, .int x1] (RW_X7_isLimit cy ) (RO_X7_isLimit cy ) (RW_X7_isLimit cy ) out :=
  mk_z (by decide) rfl (Nat.le_of_ble_eq_true rfl) (fun p e s m args below meth c A Q X K H locs ls Z hl => wt_X7_isLimit  x0 x1 out X h K H locs ls Z hl)
/-! SubwordCounter$Syntax isSign (II)Z -/
abbrev rm_X7_isSign : Room := { frames := 0, cells := 0, slots := 0, locals := 0 }
def RW_X7_isSign (cy : Nat → ClassId)   : va_W := []
def RO_X7_isSign (cy : Nat → ClassId)   : va_W := []
def f_X7_isSign (x0 : Int32) (x1 : Int32)  : Option (Int32) :=
  if x1 = (37 : Int32) then
  (some (1 : Int32))
  else
  (if x1 = (94 : Int32) then
  (if x0 = (35 : Int32) then
  (some (0 : Int32))
  else
  (some (1 : Int32)))
  else
  (some (0 : Int32)))
set_option maxHeartbeats 4000000 in
set_option maxRecDepth 100000 in
theorem wt_X7_isSign {p : Program} {l : Launch} {e : Env} {s : State} {m : MethodId} {args : Array Value} {below : List Frame} {meth : Method} {c : Code} {A : Nat → Prop} {Q : State → Prop} {D : va_G} {cy : Nat → ClassId}    (x0 : Int32) (x1 : Int32) (out : Int32) (X : Cx p m c cX7_isSign 2 s args wsX7_isSign RX7 A D cy (RO_X7_isSign cy )) (h : f_X7_isSign x0 x1 = some out) (K : ∀ (H : Heap) (locs : List Loc) (ls : Array Slot) (pc : Nat), decode cX7_isSign pc = .ok (.ireturn, 1) → (out = 0 ∨ out = 1) → St A D s (RW_X7_isSign cy ) H locs → W p l e rm_X7_isSign s m args below meth c H locs 0 0 Q (F0 m pc ls [.int out])) : ∀ (H : Heap) (locs : List Loc) (ls : Array Slot), St A D s (RW_X7_isSign cy ) H locs → lv_has ls 2 [(0, .int x0), (1, .int x1)] → W p l e rm_X7_isSign s m args below meth c H locs 0 0 Q (F0 m 0 ls []) := by
  intro H locs ls Z hl
  have hx := X.1.1
  have hb := X.1.2.1
  unfold f_X7_isSign at h
  refine lv_iload_n hx hb dX7_isSign_0 rfl (lv_at hl 1 rfl) ?_
  refine lv_bipush (v := (37 : Int32)) hx hb dX7_isSign_1 (by decide) ?_
  refine lv_icmp_eq (tgt := 18) hx hb dX7_isSign_3 (by decide) (fun cnd => ?_) (fun cnd => ?_)
  · replace h := ifp h cnd
    refine lv_iconst (v := (1 : Int32)) hx hb dX7_isSign_18 (by decide) ?_
    refine lv_goto (tgt := 23) hx hb dX7_isSign_19 (by decide) ?_
    obtain rfl := Option.some.inj h
    exact K H locs ls _ dX7_isSign_23 (Or.inr rfl) Z
  · replace h := ifn h cnd
    refine lv_iload_n hx hb dX7_isSign_6 rfl (lv_at hl 1 rfl) ?_
    refine lv_bipush (v := (94 : Int32)) hx hb dX7_isSign_7 (by decide) ?_
    refine lv_icmp_ne (tgt := 22) hx hb dX7_isSign_9 (by decide) (fun cnd => ?_) (fun cnd => ?_)
    · replace h := ifn h cnd
      refine lv_iconst (v := (0 : Int32)) hx hb dX7_isSign_22 (by decide) ?_
      obtain rfl := Option.some.inj h
      exact K H locs ls _ dX7_isSign_23 (Or.inl rfl) Z
    · replace h := ifp h cnd
      refine lv_iload_n hx hb dX7_isSign_12 rfl (lv_at hl 0 rfl) ?_
      refine lv_bipush (v := (35 : Int32)) hx hb dX7_isSign_13 (by decide) ?_
      refine lv_icmp_eq (tgt := 22) hx hb dX7_isSign_15 (by decide) (fun cnd => ?_) (fun cnd => ?_)
      · replace h := ifp h cnd
        refine lv_iconst (v := (0 : Int32)) hx hb dX7_isSign_22 (by decide) ?_
        obtain rfl := Option.some.inj h
        exact K H locs ls _ dX7_isSign_23 (Or.inl rfl) Z
      · replace h := ifn h cnd
        refine lv_iconst (v := (1 : Int32)) hx hb dX7_isSign_18 (by decide) ?_
        refine lv_goto (tgt := 23) hx hb dX7_isSign_19 (by decide) ?_
        obtain rfl := Option.some.inj h
        exact K H locs ls _ dX7_isSign_23 (Or.inr rfl) Z
theorem c_X7_isSign (l : Launch) (D : va_G) (cy : Nat → ClassId)    (x0 : Int32) (x1 : Int32) (out : Int32) (h : f_X7_isSign x0 x1 = some out) : CtI l yX7_isSign wsX7_isSign rm_X7_isSign D cy [.int x0, .int x1] (RW_X7_isSign cy ) (RO_X7_isSign cy ) (RW_X7_isSign cy ) out :=
  mk_z (by decide) rfl (Nat.le_of_ble_eq_true rfl) (fun p e s m args below meth c A Q X K H locs ls Z hl => wt_X7_isSign  x0 x1 out X h K H locs ls Z hl)
/-! SubwordCounter$Syntax errorAt ([III)I -/
abbrev rm_X7_errorAt : Room := { frames := 1, cells := 0, slots := 0, locals := 24 }
def RW_X7_errorAt (cy : Nat → ClassId) (q_p0 : Nat) (n_p0 : Nat)  : va_W := []
def RO_X7_errorAt (cy : Nat → ClassId) (q_p0 : Nat) (n_p0 : Nat) (p0_ : Nat → Int32) : va_W := [(q_p0, aI cy n_p0 p0_)]
def f_X7_errorAt (x1 : Int32) (x2 : Int32) (n_p0 : Nat) (p0_ : Nat → Int32) : Option (Int32) :=
  (f_X7_headLength x1 x2 n_p0 p0_).bind (fun u1 =>
  if u1 = 0 then
  some u1
  else
  (if x1 ≤ u1 then
  some u1
  else
  (ldA p0_ n_p0 (0 : Int32) (fun v4 =>
  ldA p0_ n_p0 u1 (fun v7 =>
  (f_X7_isSign v4 v7).bind (fun u9 =>
  if u9 = 0 then
  some u1
  else
  (if x1 ≤ (u1 + (1 : Int32)) then
  (some (u1 + (1 : Int32)))
  else
  (ldA p0_ n_p0 u1 (fun v12 =>
  ldA p0_ n_p0 (u1 + (1 : Int32)) (fun v15 =>
  (f_X7_isLimit v12 v15).bind (fun u17 =>
  if u17 = 0 then
  (some (u1 + (1 : Int32)))
  else
  (if x1 ≤ ((u1 + (1 : Int32)) + (1 : Int32)) then
  (some (-1 : Int32))
  else
  (some ((u1 + (1 : Int32)) + (1 : Int32)))))))))))))))
set_option maxHeartbeats 4000000 in
set_option maxRecDepth 100000 in
theorem wt_X7_errorAt {p : Program} {l : Launch} {e : Env} {s : State} {m : MethodId} {args : Array Value} {below : List Frame} {meth : Method} {c : Code} {A : Nat → Prop} {Q : State → Prop} {D : va_G} {cy : Nat → ClassId} (q_p0 : Nat) (n_p0 : Nat) (p0_ : Nat → Int32)  (x1 : Int32) (x2 : Int32) (out : Int32) (X : Cx p m c cX7_errorAt 5 s args wsX7_errorAt RX7 A D cy (RO_X7_errorAt cy q_p0 n_p0 p0_)) (h : f_X7_errorAt x1 x2 n_p0 p0_ = some out) (K : ∀ (H : Heap) (locs : List Loc) (ls : Array Slot) (pc : Nat), decode cX7_errorAt pc = .ok (.ireturn, 1) → St A D s (RW_X7_errorAt cy q_p0 n_p0) H locs → W p l e rm_X7_errorAt s m args below meth c H locs 0 0 Q (F0 m pc ls [.int out])) : ∀ (H : Heap) (locs : List Loc) (ls : Array Slot), St A D s (RW_X7_errorAt cy q_p0 n_p0) H locs → lv_has ls 5 [(0, .ref q_p0), (1, .int x1), (2, .int x2)] → W p l e rm_X7_errorAt s m args below meth c H locs 0 0 Q (F0 m 0 ls []) := by
  intro H locs ls Z hl
  have hx := X.1.1
  have hb := X.1.2.1
  unfold f_X7_errorAt at h
  refine lv_aload_n hx hb dX7_errorAt_0 rfl (lv_at hl 0 rfl) ?_
  refine lv_iload_n hx hb dX7_errorAt_1 rfl (lv_at hl 1 rfl) ?_
  refine lv_iload_n hx hb dX7_errorAt_2 rfl (lv_at hl 2 rfl) ?_
  obtain ⟨u1, hc2, h⟩ := ob_some h
  refine x_runSi (RW' := (RW_X7_errorAt cy q_p0 n_p0)) (wr := []) (isC := []) (isR := []) (isF := []) (rest := []) (As := [.ref q_p0, .int x1, .int x2]) (n := 3) X Z (c_X7_headLength l D cy q_p0 n_p0 p0_ x1 x2 u1 hc2) gX7_errorAt_X7_headLength rfl (by decide +kernel) ⟨Nat.le_of_ble_eq_true rfl, Nat.le_of_ble_eq_true rfl⟩ ⟨rfl, rfl⟩ ⟨Nat.le_of_ble_eq_true rfl, Nat.le_of_ble_eq_true rfl⟩ ⟨rfl, rfl, (roC (Or.inr (mem_at 0 rfl)) roN), rfl, rfl, by decide⟩ ⟨rfl, rfl⟩ rfl hl.1 rfl (Nat.le_of_ble_eq_true rfl) dX7_errorAt_3 (fun H locs Z => ?_)
  refine lv_istore_n (lv' := [(3, .int u1), (0, .ref q_p0), (1, .int x1), (2, .int x2)]) hx hb dX7_errorAt_6 rfl hl (by decide) rfl (fun ls hl => ?_)
  refine lv_iload_n hx hb dX7_errorAt_7 rfl (lv_at hl 0 rfl) ?_
  refine lv_if_eq (tgt := 28) hx hb dX7_errorAt_8 (by decide) (fun cnd => ?_) (fun cnd => ?_)
  · replace h := ifp h cnd
    refine lv_iload_n hx hb dX7_errorAt_28 rfl (lv_at hl 0 rfl) ?_
    obtain rfl := Option.some.inj h
    exact K H locs ls _ dX7_errorAt_29 Z
  · replace h := ifn h cnd
    refine lv_iload_n hx hb dX7_errorAt_11 rfl (lv_at hl 0 rfl) ?_
    refine lv_iload_n hx hb dX7_errorAt_12 rfl (lv_at hl 2 rfl) ?_
    refine lv_icmp_ge (tgt := 28) hx hb dX7_errorAt_13 (by decide) (fun cnd => ?_) (fun cnd => ?_)
    · replace h := ifp h cnd
      refine lv_iload_n hx hb dX7_errorAt_28 rfl (lv_at hl 0 rfl) ?_
      obtain rfl := Option.some.inj h
      exact K H locs ls _ dX7_errorAt_29 Z
    · replace h := ifn h cnd
      refine lv_aload_n hx hb dX7_errorAt_16 rfl (lv_at hl 1 rfl) ?_
      refine lv_iconst (v := (0 : Int32)) hx hb dX7_errorAt_17 (by decide) ?_
      obtain ⟨hin3, v4, hv5, h⟩ := ld_b h
      refine x_ialdO X Z 0 rfl hin3 hv5 dX7_errorAt_18 ?_
      refine lv_aload_n hx hb dX7_errorAt_19 rfl (lv_at hl 1 rfl) ?_
      refine lv_iload_n hx hb dX7_errorAt_20 rfl (lv_at hl 0 rfl) ?_
      obtain ⟨hin6, v7, hv8, h⟩ := ld_b h
      refine x_ialdO X Z 0 rfl hin6 hv8 dX7_errorAt_21 ?_
      obtain ⟨u9, hc10, h⟩ := ob_some h
      refine x_runSi (RW' := (RW_X7_errorAt cy q_p0 n_p0)) (wr := []) (isC := []) (isR := []) (isF := []) (rest := []) (As := [.int v4, .int v7]) (n := 2) X Z (c_X7_isSign l D cy v4 v7 u9 hc10) gX7_errorAt_X7_isSign rfl (by decide +kernel) ⟨Nat.le_of_ble_eq_true rfl, Nat.le_of_ble_eq_true rfl⟩ ⟨rfl, rfl⟩ ⟨Nat.le_of_ble_eq_true rfl, Nat.le_of_ble_eq_true rfl⟩ ⟨rfl, rfl, roN, rfl, rfl, by decide⟩ ⟨rfl, rfl⟩ rfl hl.1 rfl (Nat.le_of_ble_eq_true rfl) dX7_errorAt_22 (fun H locs Z => ?_)
      refine lv_if_ne (tgt := 30) hx hb dX7_errorAt_25 (by decide) (fun cnd => ?_) (fun cnd => ?_)
      · replace h := ifn h cnd
        refine lv_iload_n hx hb dX7_errorAt_30 rfl (lv_at hl 0 rfl) ?_
        refine lv_iconst (v := (1 : Int32)) hx hb dX7_errorAt_31 (by decide) ?_
        refine lv_iadd hx hb dX7_errorAt_32 ?_
        refine lv_istore (lv' := [(4, .int (u1 + (1 : Int32))), (3, .int u1), (0, .ref q_p0), (1, .int x1), (2, .int x2)]) hx hb dX7_errorAt_33 hl (by decide) rfl (fun ls hl => ?_)
        refine lv_iload hx hb dX7_errorAt_35 (lv_at hl 0 rfl) ?_
        refine lv_iload_n hx hb dX7_errorAt_37 rfl (lv_at hl 3 rfl) ?_
        refine lv_icmp_ge (tgt := 54) hx hb dX7_errorAt_38 (by decide) (fun cnd => ?_) (fun cnd => ?_)
        · replace h := ifp h cnd
          refine lv_iload hx hb dX7_errorAt_54 (lv_at hl 0 rfl) ?_
          obtain rfl := Option.some.inj h
          exact K H locs ls _ dX7_errorAt_56 Z
        · replace h := ifn h cnd
          refine lv_aload_n hx hb dX7_errorAt_41 rfl (lv_at hl 2 rfl) ?_
          refine lv_iload_n hx hb dX7_errorAt_42 rfl (lv_at hl 1 rfl) ?_
          obtain ⟨hin11, v12, hv13, h⟩ := ld_b h
          refine x_ialdO X Z 0 rfl hin11 hv13 dX7_errorAt_43 ?_
          refine lv_aload_n hx hb dX7_errorAt_44 rfl (lv_at hl 2 rfl) ?_
          refine lv_iload hx hb dX7_errorAt_45 (lv_at hl 0 rfl) ?_
          obtain ⟨hin14, v15, hv16, h⟩ := ld_b h
          refine x_ialdO X Z 0 rfl hin14 hv16 dX7_errorAt_47 ?_
          obtain ⟨u17, hc18, h⟩ := ob_some h
          refine x_runSi (RW' := (RW_X7_errorAt cy q_p0 n_p0)) (wr := []) (isC := []) (isR := []) (isF := []) (rest := []) (As := [.int v12, .int v15]) (n := 2) X Z (c_X7_isLimit l D cy v12 v15 u17 hc18) gX7_errorAt_X7_isLimit rfl (by decide +kernel) ⟨Nat.le_of_ble_eq_true rfl, Nat.le_of_ble_eq_true rfl⟩ ⟨rfl, rfl⟩ ⟨Nat.le_of_ble_eq_true rfl, Nat.le_of_ble_eq_true rfl⟩ ⟨rfl, rfl, roN, rfl, rfl, by decide⟩ ⟨rfl, rfl⟩ rfl hl.1 rfl (Nat.le_of_ble_eq_true rfl) dX7_errorAt_48 (fun H locs Z => ?_)
          refine lv_if_ne (tgt := 57) hx hb dX7_errorAt_51 (by decide) (fun cnd => ?_) (fun cnd => ?_)
          · replace h := ifn h cnd
            refine lv_iload hx hb dX7_errorAt_57 (lv_at hl 0 rfl) ?_
            refine lv_iconst (v := (1 : Int32)) hx hb dX7_errorAt_59 (by decide) ?_
            refine lv_iadd hx hb dX7_errorAt_60 ?_
            refine lv_iload_n hx hb dX7_errorAt_61 rfl (lv_at hl 3 rfl) ?_
            refine lv_icmp_ge (tgt := 72) hx hb dX7_errorAt_62 (by decide) (fun cnd => ?_) (fun cnd => ?_)
            · replace h := ifp h cnd
              refine lv_iconst (v := (-1 : Int32)) hx hb dX7_errorAt_72 (by decide) ?_
              obtain rfl := Option.some.inj h
              exact K H locs ls _ dX7_errorAt_73 Z
            · replace h := ifn h cnd
              refine lv_iload hx hb dX7_errorAt_65 (lv_at hl 0 rfl) ?_
              refine lv_iconst (v := (1 : Int32)) hx hb dX7_errorAt_67 (by decide) ?_
              refine lv_iadd hx hb dX7_errorAt_68 ?_
              refine lv_goto (tgt := 73) hx hb dX7_errorAt_69 (by decide) ?_
              obtain rfl := Option.some.inj h
              exact K H locs ls _ dX7_errorAt_73 Z
          · replace h := ifp h cnd
            refine lv_iload hx hb dX7_errorAt_54 (lv_at hl 0 rfl) ?_
            obtain rfl := Option.some.inj h
            exact K H locs ls _ dX7_errorAt_56 Z
      · replace h := ifp h cnd
        refine lv_iload_n hx hb dX7_errorAt_28 rfl (lv_at hl 0 rfl) ?_
        obtain rfl := Option.some.inj h
        exact K H locs ls _ dX7_errorAt_29 Z
theorem c_X7_errorAt (l : Launch) (D : va_G) (cy : Nat → ClassId) (q_p0 : Nat) (n_p0 : Nat) (p0_ : Nat → Int32)  (x1 : Int32) (x2 : Int32) (out : Int32) (h : f_X7_errorAt x1 x2 n_p0 p0_ = some out) : CtI l yX7_errorAt wsX7_errorAt rm_X7_errorAt D cy [.ref q_p0, .int x1, .int x2] (RW_X7_errorAt cy q_p0 n_p0) (RO_X7_errorAt cy q_p0 n_p0 p0_) (RW_X7_errorAt cy q_p0 n_p0) out :=
  mk_i (ty := .int) (by decide) rfl rfl (Nat.le_of_ble_eq_true rfl) (fun p e s m args below meth c A Q X K H locs ls Z hl => wt_X7_errorAt q_p0 n_p0 p0_ x1 x2 out X h K H locs ls Z hl)
/-! SubwordCounter$Word pushAll (LSubwordCounter$Word;)V -/
abbrev rm_X9_pushAll__self : Room := { frames := 1, cells := 0, slots := 0, locals := 21 }
def RW_X9_pushAll__self (cy : Nat → ClassId) (o : Nat) (d : Nat → Nat) (size_ : Int32) (letters_ : Nat → Int32) : va_W := [(o, ob 8 (oX9 d size_)), ((d 0), aI cy 12 letters_)]
def RO_X9_pushAll__self (cy : Nat → ClassId) (o : Nat) (d : Nat → Nat)  : va_W := []
theorem in_X9_pushAll__self_X9 : ∀ w ∈ u_ws RX9 TX9 3, w ∈ wsX9_pushAll := fun w h => (List.mem_cons_of_mem _ (List.mem_append_right _ h))
theorem lk_X9_pushAll__self_X9_letters : Lk wsX9_pushAll RX9 9 8 0 := ⟨RX9, TX9, 3, rfl, by decide, in_X9_pushAll__self_X9, mem_at 2 rfl⟩
theorem lk_X9_pushAll__self_X9_size : Lk wsX9_pushAll RX9 15 8 1 := ⟨RX9, TX9, 3, rfl, by decide, in_X9_pushAll__self_X9, mem_at 1 rfl⟩
def b_X9_pushAll__self_7  (x2 : Int32) (size_ : Int32) (letters_ : Nat → Int32) (x3 : Int32) : Option ((Int32 × (Nat → Int32) × Int32) ⊕ (Int32 × (Nat → Int32))) :=
  if x2 ≤ x3 then
  (some (.inr (size_, letters_)))
  else
  (ldA letters_ 12 x3 (fun v2 =>
  (f_X9_push v2 size_ letters_).bind (fun u4 =>
  some (.inl (u4.1, u4.2, (x3 + (1 : Int32)))))))
set_option maxHeartbeats 4000000 in
set_option maxRecDepth 100000 in
theorem wb_X9_pushAll__self_7 {p : Program} {l : Launch} {e : Env} {s : State} {m : MethodId} {args : Array Value} {below : List Frame} {meth : Method} {c : Code} {A : Nat → Prop} {Q : State → Prop} {D : va_G} {cy : Nat → ClassId} (o : Nat) (d : Nat → Nat)   (x2 : Int32) (size_ : Int32) (letters_ : Nat → Int32) (x3 : Int32) (o1 : (Int32 × (Nat → Int32) × Int32) ⊕ (Int32 × (Nat → Int32))) (X : Cx p m c cX9_pushAll 4 s args wsX9_pushAll RX9 A D cy (RO_X9_pushAll__self cy o d)) (h : b_X9_pushAll__self_7 x2 size_ letters_ x3 = some o1) (K : Sum.elim (fun v : Int32 × (Nat → Int32) × Int32 => ∀ (H : Heap) (locs : List Loc) (ls : Array Slot), St A D s (RW_X9_pushAll__self cy o d v.1 v.2.1) H locs → lv_has ls 4 [(0, .ref o), (1, .ref o), (2, .int x2), (3, .int v.2.2)] → W p l e rm_X9_pushAll__self s m args below meth c H locs 0 0 Q (F0 m 7 ls [])) (fun v : Int32 × (Nat → Int32) => ∀ (H : Heap) (locs : List Loc) (ls : Array Slot), St A D s (RW_X9_pushAll__self cy o d v.1 v.2) H locs → lv_has ls 4 [] → W p l e rm_X9_pushAll__self s m args below meth c H locs 0 0 Q (F0 m 28 ls [])) o1) : ∀ (H : Heap) (locs : List Loc) (ls : Array Slot), St A D s (RW_X9_pushAll__self cy o d size_ letters_) H locs → lv_has ls 4 [(0, .ref o), (1, .ref o), (2, .int x2), (3, .int x3)] → W p l e rm_X9_pushAll__self s m args below meth c H locs 0 0 Q (F0 m 7 ls []) := by
  intro H locs ls Z hl
  have hx := X.1.1
  have hb := X.1.2.1
  unfold b_X9_pushAll__self_7 at h
  refine lv_iload_n hx hb dX9_pushAll_7 rfl (lv_at hl 3 rfl) ?_
  refine lv_iload_n hx hb dX9_pushAll_8 rfl (lv_at hl 2 rfl) ?_
  refine lv_icmp_ge (tgt := 28) hx hb dX9_pushAll_9 (by decide) (fun cnd => ?_) (fun cnd => ?_)
  · replace h := ifp h cnd
    obtain rfl := Option.some.inj h
    exact (sk_r K) H locs ls Z (lv_sub hl [] rfl)
  · replace h := ifn h cnd
    refine lv_aload_n hx hb dX9_pushAll_12 rfl (lv_at hl 0 rfl) ?_
    refine lv_aload_n hx hb dX9_pushAll_13 rfl (lv_at hl 1 rfl) ?_
    refine x_get X Z 0 0 (v := .ref (d 0)) rfl rfl lk_X9_pushAll__self_X9_letters dX9_pushAll_14 ?_
    refine lv_iload_n hx hb dX9_pushAll_17 rfl (lv_at hl 3 rfl) ?_
    obtain ⟨hin1, v2, hv3, h⟩ := ld_b h
    refine x_iald X Z 1 rfl hin1 hv3 dX9_pushAll_18 ?_
    obtain ⟨u4, hc5, h⟩ := ob_some h
    refine x_runVv (RW' := (RW_X9_pushAll__self cy o d u4.1 u4.2)) (wr := []) (isC := [0, 1]) (isR := []) (isF := [0, 1]) (rest := []) (As := [.int v2]) (n := 1) X Z (c_X9_push l D cy o d size_ letters_ v2 u4 hc5) gX9_pushAll_X9_push rfl (by decide +kernel) ⟨Nat.le_of_ble_eq_true rfl, Nat.le_of_ble_eq_true rfl⟩ ⟨rfl, rfl⟩ ⟨Nat.le_of_ble_eq_true rfl, Nat.le_of_ble_eq_true rfl⟩ (x_rv X Z 0 rfl rfl) ⟨rfl, rfl, roN, rfl, rfl, by decide⟩ ⟨rfl, rfl⟩ rfl hl.1 rfl (Nat.le_of_ble_eq_true rfl) dX9_pushAll_19 (fun H locs Z => ?_)
    refine lv_iinc (v := (x3 + (1 : Int32))) (lv' := [(3, .int (x3 + (1 : Int32))), (0, .ref o), (1, .ref o), (2, .int x2)]) hx hb dX9_pushAll_22 hl (k := 3) rfl rfl (by decide) rfl (fun ls hl => ?_)
    refine lv_goto (tgt := 7) hx hb dX9_pushAll_25 (by decide) ?_
    obtain rfl := Option.some.inj h
    exact sk_l K H locs ls Z (lv_sub hl [1, 2, 3, 0] rfl)
set_option maxHeartbeats 4000000 in
set_option maxRecDepth 100000 in
theorem wl_X9_pushAll__self_7 {p : Program} {l : Launch} {e : Env} {s : State} {m : MethodId} {args : Array Value} {below : List Frame} {meth : Method} {c : Code} {A : Nat → Prop} {Q : State → Prop} {D : va_G} {cy : Nat → ClassId} (o : Nat) (d : Nat → Nat)   (x2 : Int32) (n : Nat) (v : Int32 × (Nat → Int32) × Int32) (x : Int32 × (Nat → Int32)) (X : Cx p m c cX9_pushAll 4 s args wsX9_pushAll RX9 A D cy (RO_X9_pushAll__self cy o d)) (h : loopN (fun v => b_X9_pushAll__self_7 x2 v.1 v.2.1 v.2.2) n v = some x) (K : ∀ (H : Heap) (locs : List Loc) (ls : Array Slot), St A D s (RW_X9_pushAll__self cy o d x.1 x.2) H locs → lv_has ls 4 [] → W p l e rm_X9_pushAll__self s m args below meth c H locs 0 0 Q (F0 m 28 ls [])) : ∀ (H : Heap) (locs : List Loc) (ls : Array Slot), St A D s (RW_X9_pushAll__self cy o d v.1 v.2.1) H locs → lv_has ls 4 [(0, .ref o), (1, .ref o), (2, .int x2), (3, .int v.2.2)] → W p l e rm_X9_pushAll__self s m args below meth c H locs 0 0 Q (F0 m 7 ls []) :=
  loop_gen (B := (fun v => b_X9_pushAll__self_7 x2 v.1 v.2.1 v.2.2)) (Head := fun v : Int32 × (Nat → Int32) × Int32 => ∀ (H : Heap) (locs : List Loc) (ls : Array Slot), St A D s (RW_X9_pushAll__self cy o d v.1 v.2.1) H locs → lv_has ls 4 [(0, .ref o), (1, .ref o), (2, .int x2), (3, .int v.2.2)] → W p l e rm_X9_pushAll__self s m args below meth c H locs 0 0 Q (F0 m 7 ls [])) (Exit := fun v : Int32 × (Nat → Int32) => ∀ (H : Heap) (locs : List Loc) (ls : Array Slot), St A D s (RW_X9_pushAll__self cy o d v.1 v.2) H locs → lv_has ls 4 [] → W p l e rm_X9_pushAll__self s m args below meth c H locs 0 0 Q (F0 m 28 ls [])) (fun v o9 hb1 K1 => wb_X9_pushAll__self_7 o d x2 v.1 v.2.1 v.2.2 o9 X hb1 K1) n v x h K
def f_X9_pushAll__self (size_ : Int32) (letters_ : Nat → Int32) : Option (Int32 × (Nat → Int32)) :=
  (loopN (fun v => b_X9_pushAll__self_7 size_ v.1 v.2.1 v.2.2) FU (size_, letters_, (0 : Int32))).bind (fun u6 =>
  some (u6.1, u6.2))
set_option maxHeartbeats 4000000 in
set_option maxRecDepth 100000 in
theorem wt_X9_pushAll__self {p : Program} {l : Launch} {e : Env} {s : State} {m : MethodId} {args : Array Value} {below : List Frame} {meth : Method} {c : Code} {A : Nat → Prop} {Q : State → Prop} {D : va_G} {cy : Nat → ClassId} (o : Nat) (d : Nat → Nat)  (size_ : Int32) (letters_ : Nat → Int32) (out : Int32 × (Nat → Int32)) (X : Cx p m c cX9_pushAll 4 s args wsX9_pushAll RX9 A D cy (RO_X9_pushAll__self cy o d)) (h : f_X9_pushAll__self size_ letters_ = some out) (K : ∀ (H : Heap) (locs : List Loc) (ls : Array Slot) (pc : Nat), decode cX9_pushAll pc = .ok (.return_, 1) → St A D s (RW_X9_pushAll__self cy o d out.1 out.2) H locs → W p l e rm_X9_pushAll__self s m args below meth c H locs 0 0 Q (F0 m pc ls [])) : ∀ (H : Heap) (locs : List Loc) (ls : Array Slot), St A D s (RW_X9_pushAll__self cy o d size_ letters_) H locs → lv_has ls 4 [(0, .ref o), (1, .ref o)] → W p l e rm_X9_pushAll__self s m args below meth c H locs 0 0 Q (F0 m 0 ls []) := by
  intro H locs ls Z hl
  have hx := X.1.1
  have hb := X.1.2.1
  unfold f_X9_pushAll__self at h
  refine lv_aload_n hx hb dX9_pushAll_0 rfl (lv_at hl 1 rfl) ?_
  refine x_get X Z 0 1 (v := .int size_) rfl rfl lk_X9_pushAll__self_X9_size dX9_pushAll_1 ?_
  refine lv_istore_n (lv' := [(2, .int size_), (0, .ref o), (1, .ref o)]) hx hb dX9_pushAll_4 rfl hl (by decide) rfl (fun ls hl => ?_)
  refine lv_iconst (v := (0 : Int32)) hx hb dX9_pushAll_5 (by decide) ?_
  refine lv_istore_n (lv' := [(3, .int (0 : Int32)), (2, .int size_), (0, .ref o), (1, .ref o)]) hx hb dX9_pushAll_6 rfl hl (by decide) rfl (fun ls hl => ?_)
  obtain ⟨u6, hL7, h⟩ := ob_some h
  refine wl_X9_pushAll__self_7 o d size_ FU (size_, letters_, (0 : Int32)) u6 X hL7 (fun H locs ls Z hl => ?_) H locs ls Z (lv_sub hl [2, 3, 1, 0] rfl)
  obtain rfl := Option.some.inj h
  exact K H locs ls _ dX9_pushAll_28 Z
theorem c_X9_pushAll__self (l : Launch) (D : va_G) (cy : Nat → ClassId) (o : Nat) (d : Nat → Nat)  (size_ : Int32) (letters_ : Nat → Int32) (out : Int32 × (Nat → Int32)) (h : f_X9_pushAll__self size_ letters_ = some out) : CtV l yX9_pushAll wsX9_pushAll rm_X9_pushAll__self D cy [.ref o, .ref o] (RW_X9_pushAll__self cy o d size_ letters_) (RO_X9_pushAll__self cy o d) (RW_X9_pushAll__self cy o d out.1 out.2) :=
  mk_v (by decide) rfl (Nat.le_of_ble_eq_true rfl) (fun p e s m args below meth c A Q X K H locs ls Z hl => wt_X9_pushAll__self o d size_ letters_ out X h K H locs ls Z hl)
/-! SubwordCounter concatenate (II)I -/
abbrev rm_X11_concatenate__self : Room := { frames := 2, cells := 0, slots := 0, locals := 44 }
def RW_X11_concatenate__self (cy : Nat → ClassId) (o : Nat) (q_now_words_L1 : Nat) (d : Nat → Nat) (d_now_words_L1 : Nat → Nat) (d_now : Nat → Nat) (mono : Value) (now_words_L1_size_ : Int32) (now_words_L1_letters_ : Nat → Int32) : va_W := [(q_now_words_L1, ob 8 (oX9 d_now_words_L1 now_words_L1_size_)), ((d_now_words_L1 0), aI cy 12 now_words_L1_letters_)]
def RO_X11_concatenate__self (cy : Nat → ClassId) (o : Nat) (q_now_words_L1 : Nat) (d : Nat → Nat) (d_now_words_L1 : Nat → Nat) (d_now : Nat → Nat) (mono : Value) (snapshotTaken_ : Int32) (inputLength_ : Int32) (now_letters_ : Int32) (now_words_ : Nat → Option Nat) : va_W := [(o, ob 10 (oX11 d mono snapshotTaken_ inputLength_)), ((d 0), ob 5 (oX5 d_now now_letters_)), ((d_now 1), aR cy 5 3 now_words_)]
theorem in_X11_concatenate__self_X11 : ∀ w ∈ u_ws RX11 TX11 12, w ∈ wsX11_concatenate := fun w h => (List.mem_cons_of_mem _ (List.mem_append_left _ (List.mem_append_left _ (List.mem_append_right _ h))))
theorem lk_X11_concatenate__self_X11_now : Lk wsX11_concatenate RX11 10 10 0 := ⟨RX11, TX11, 12, rfl, by decide, in_X11_concatenate__self_X11, mem_at 1 rfl⟩
theorem in_X11_concatenate__self_X5 : ∀ w ∈ u_ws RX5 TX5 4, w ∈ wsX11_concatenate := fun w h => (List.mem_cons_of_mem _ (List.mem_append_left _ (List.mem_append_right _ h)))
theorem lk_X11_concatenate__self_X5_words : Lk wsX11_concatenate RX11 85 5 1 := ⟨RX5, TX5, 4, rfl, by decide, in_X11_concatenate__self_X5, mem_at 2 rfl⟩
theorem in_X11_concatenate__self_X9 : ∀ w ∈ u_ws RX9 TX9 3, w ∈ wsX11_concatenate := fun w h => (List.mem_cons_of_mem _ (List.mem_append_right _ h))
theorem lk_X11_concatenate__self_X9_size : Lk wsX11_concatenate RX11 89 8 1 := ⟨RX9, TX9, 3, rfl, by decide, in_X11_concatenate__self_X9, mem_at 3 rfl⟩
def f_X11_concatenate__self (x1 : Int32) (x2 : Int32) (q_now_words_L1 : Nat) (now_words_ : Nat → Option Nat) (now_words_L1_size_ : Int32) (now_words_L1_letters_ : Nat → Int32) : Option (Int32 × Int32 × (Nat → Int32)) :=
  (f_X11_isWord x1).bind (fun u1 =>
  if u1 = 0 then
  (some ((-1 : Int32), now_words_L1_size_, now_words_L1_letters_))
  else
  ((f_X11_isWord x2).bind (fun u3 =>
  if u3 = 0 then
  (some ((-1 : Int32), now_words_L1_size_, now_words_L1_letters_))
  else
  (ldA now_words_ 3 x1 (fun r6 =>
  asR r6 q_now_words_L1 (
  ldA now_words_ 3 x2 (fun r10 =>
  asR r10 q_now_words_L1 (
  if (now_words_L1_size_ + now_words_L1_size_) ≤ (12 : Int32) then
  (ldA now_words_ 3 x2 (fun r14 =>
  asR r14 q_now_words_L1 (
  (f_X9_pushAll__self now_words_L1_size_ now_words_L1_letters_).bind (fun u17 =>
  some (u17.1, u17.1, u17.2)))))
  else
  (some ((-3 : Int32), now_words_L1_size_, now_words_L1_letters_))))))))))
set_option maxHeartbeats 4000000 in
set_option maxRecDepth 100000 in
theorem wt_X11_concatenate__self {p : Program} {l : Launch} {e : Env} {s : State} {m : MethodId} {args : Array Value} {below : List Frame} {meth : Method} {c : Code} {A : Nat → Prop} {Q : State → Prop} {D : va_G} {cy : Nat → ClassId} (o : Nat) (q_now_words_L1 : Nat) (d : Nat → Nat) (d_now_words_L1 : Nat → Nat) (d_now : Nat → Nat) (mono : Value) (snapshotTaken_ : Int32) (inputLength_ : Int32) (now_letters_ : Int32) (now_words_ : Nat → Option Nat) (now_words_L1_size_ : Int32) (now_words_L1_letters_ : Nat → Int32) (x1 : Int32) (x2 : Int32) (out : Int32 × Int32 × (Nat → Int32)) (X : Cx p m c cX11_concatenate 4 s args wsX11_concatenate RX11 A D cy (RO_X11_concatenate__self cy o q_now_words_L1 d d_now_words_L1 d_now mono snapshotTaken_ inputLength_ now_letters_ now_words_)) (h : f_X11_concatenate__self x1 x2 q_now_words_L1 now_words_ now_words_L1_size_ now_words_L1_letters_ = some out) (K : ∀ (H : Heap) (locs : List Loc) (ls : Array Slot) (pc : Nat), decode cX11_concatenate pc = .ok (.ireturn, 1) → St A D s (RW_X11_concatenate__self cy o q_now_words_L1 d d_now_words_L1 d_now mono out.2.1 out.2.2) H locs → W p l e rm_X11_concatenate__self s m args below meth c H locs 0 0 Q (F0 m pc ls [.int out.1])) : ∀ (H : Heap) (locs : List Loc) (ls : Array Slot), St A D s (RW_X11_concatenate__self cy o q_now_words_L1 d d_now_words_L1 d_now mono now_words_L1_size_ now_words_L1_letters_) H locs → lv_has ls 4 [(0, .ref o), (1, .int x1), (2, .int x2)] → W p l e rm_X11_concatenate__self s m args below meth c H locs 0 0 Q (F0 m 0 ls []) := by
  intro H locs ls Z hl
  have hx := X.1.1
  have hb := X.1.2.1
  unfold f_X11_concatenate__self at h
  refine lv_iload_n hx hb dX11_concatenate_0 rfl (lv_at hl 1 rfl) ?_
  obtain ⟨u1, hc2, h⟩ := ob_some h
  refine x_runSi (RW' := (RW_X11_concatenate__self cy o q_now_words_L1 d d_now_words_L1 d_now mono now_words_L1_size_ now_words_L1_letters_)) (wr := [(q_now_words_L1, ob 8 (oX9 d_now_words_L1 now_words_L1_size_)), ((d_now_words_L1 0), aI cy 12 now_words_L1_letters_)]) (isC := []) (isR := [0, 1]) (isF := [0, 1]) (rest := []) (As := [.int x1]) (n := 1) X Z (c_X11_isWord l D cy x1 u1 hc2) gX11_concatenate_X11_isWord rfl (by decide +kernel) ⟨Nat.le_of_ble_eq_true rfl, Nat.le_of_ble_eq_true rfl⟩ ⟨rfl, rfl⟩ ⟨Nat.le_of_ble_eq_true rfl, Nat.le_of_ble_eq_true rfl⟩ ⟨rfl, rfl, roN, rfl, rfl, by decide⟩ ⟨rfl, rfl⟩ rfl hl.1 rfl (Nat.le_of_ble_eq_true rfl) dX11_concatenate_1 (fun H locs Z => ?_)
  refine lv_if_eq (tgt := 14) hx hb dX11_concatenate_4 (by decide) (fun cnd => ?_) (fun cnd => ?_)
  · replace h := ifp h cnd
    refine lv_iconst (v := (-1 : Int32)) hx hb dX11_concatenate_14 (by decide) ?_
    obtain rfl := Option.some.inj h
    exact K H locs ls _ dX11_concatenate_15 Z
  · replace h := ifn h cnd
    refine lv_iload_n hx hb dX11_concatenate_7 rfl (lv_at hl 2 rfl) ?_
    obtain ⟨u3, hc4, h⟩ := ob_some h
    refine x_runSi (RW' := (RW_X11_concatenate__self cy o q_now_words_L1 d d_now_words_L1 d_now mono now_words_L1_size_ now_words_L1_letters_)) (wr := [(q_now_words_L1, ob 8 (oX9 d_now_words_L1 now_words_L1_size_)), ((d_now_words_L1 0), aI cy 12 now_words_L1_letters_)]) (isC := []) (isR := [0, 1]) (isF := [0, 1]) (rest := []) (As := [.int x2]) (n := 1) X Z (c_X11_isWord l D cy x2 u3 hc4) gX11_concatenate_X11_isWord rfl (by decide +kernel) ⟨Nat.le_of_ble_eq_true rfl, Nat.le_of_ble_eq_true rfl⟩ ⟨rfl, rfl⟩ ⟨Nat.le_of_ble_eq_true rfl, Nat.le_of_ble_eq_true rfl⟩ ⟨rfl, rfl, roN, rfl, rfl, by decide⟩ ⟨rfl, rfl⟩ rfl hl.1 rfl (Nat.le_of_ble_eq_true rfl) dX11_concatenate_8 (fun H locs Z => ?_)
    refine lv_if_ne (tgt := 16) hx hb dX11_concatenate_11 (by decide) (fun cnd => ?_) (fun cnd => ?_)
    · replace h := ifn h cnd
      refine lv_aload_n hx hb dX11_concatenate_16 rfl (lv_at hl 0 rfl) ?_
      refine x_getO X Z 0 0 (v := .ref (d 0)) rfl rfl lk_X11_concatenate__self_X11_now dX11_concatenate_17 ?_
      refine x_getO X Z 1 1 (v := .ref (d_now 1)) rfl rfl lk_X11_concatenate__self_X5_words dX11_concatenate_20 ?_
      refine lv_iload_n hx hb dX11_concatenate_23 rfl (lv_at hl 1 rfl) ?_
      obtain ⟨hin5, r6, hv7, h⟩ := ld_b h
      obtain ⟨ha8, h⟩ := as_b h
      refine x_raldO X Z 2 5 rfl rfl hin5 hv7 ha8 dX11_concatenate_24 ?_
      refine lv_astore_n (lv' := [(3, .ref q_now_words_L1), (0, .ref o), (1, .int x1), (2, .int x2)]) hx hb dX11_concatenate_25 rfl hl (by decide) rfl (fun ls hl => ?_)
      refine lv_aload_n hx hb dX11_concatenate_26 rfl (lv_at hl 0 rfl) ?_
      refine x_get X Z 0 1 (v := .int now_words_L1_size_) rfl rfl lk_X11_concatenate__self_X9_size dX11_concatenate_27 ?_
      refine lv_aload_n hx hb dX11_concatenate_30 rfl (lv_at hl 1 rfl) ?_
      refine x_getO X Z 0 0 (v := .ref (d 0)) rfl rfl lk_X11_concatenate__self_X11_now dX11_concatenate_31 ?_
      refine x_getO X Z 1 1 (v := .ref (d_now 1)) rfl rfl lk_X11_concatenate__self_X5_words dX11_concatenate_34 ?_
      refine lv_iload_n hx hb dX11_concatenate_37 rfl (lv_at hl 3 rfl) ?_
      obtain ⟨hin9, r10, hv11, h⟩ := ld_b h
      obtain ⟨ha12, h⟩ := as_b h
      refine x_raldO X Z 2 5 rfl rfl hin9 hv11 ha12 dX11_concatenate_38 ?_
      refine x_get X Z 0 1 (v := .int now_words_L1_size_) rfl rfl lk_X11_concatenate__self_X9_size dX11_concatenate_39 ?_
      refine lv_iadd hx hb dX11_concatenate_42 ?_
      refine lv_bipush (v := (12 : Int32)) hx hb dX11_concatenate_43 (by decide) ?_
      refine lv_icmp_le (tgt := 51) hx hb dX11_concatenate_45 (by decide) (fun cnd => ?_) (fun cnd => ?_)
      · replace h := ifp h cnd
        refine lv_aload_n hx hb dX11_concatenate_51 rfl (lv_at hl 0 rfl) ?_
        refine lv_aload_n hx hb dX11_concatenate_52 rfl (lv_at hl 1 rfl) ?_
        refine x_getO X Z 0 0 (v := .ref (d 0)) rfl rfl lk_X11_concatenate__self_X11_now dX11_concatenate_53 ?_
        refine x_getO X Z 1 1 (v := .ref (d_now 1)) rfl rfl lk_X11_concatenate__self_X5_words dX11_concatenate_56 ?_
        refine lv_iload_n hx hb dX11_concatenate_59 rfl (lv_at hl 3 rfl) ?_
        obtain ⟨hin13, r14, hv15, h⟩ := ld_b h
        obtain ⟨ha16, h⟩ := as_b h
        refine x_raldO X Z 2 5 rfl rfl hin13 hv15 ha16 dX11_concatenate_60 ?_
        obtain ⟨u17, hc18, h⟩ := ob_some h
        refine x_runVv (RW' := (RW_X11_concatenate__self cy o q_now_words_L1 d d_now_words_L1 d_now mono u17.1 u17.2)) (wr := []) (isC := [0, 1]) (isR := []) (isF := [0, 1]) (rest := []) (As := [.ref q_now_words_L1]) (n := 1) X Z (c_X9_pushAll__self l D cy q_now_words_L1 d_now_words_L1 now_words_L1_size_ now_words_L1_letters_ u17 hc18) gX11_concatenate_X9_pushAll rfl (by decide +kernel) ⟨Nat.le_of_ble_eq_true rfl, Nat.le_of_ble_eq_true rfl⟩ ⟨rfl, rfl⟩ ⟨Nat.le_of_ble_eq_true rfl, Nat.le_of_ble_eq_true rfl⟩ (x_rv X Z 0 rfl rfl) ⟨rfl, rfl, roN, rfl, rfl, by decide⟩ ⟨rfl, rfl⟩ rfl hl.1 rfl (Nat.le_of_ble_eq_true rfl) dX11_concatenate_61 (fun H locs Z => ?_)
        refine lv_aload_n hx hb dX11_concatenate_64 rfl (lv_at hl 0 rfl) ?_
        refine x_get X Z 0 1 (v := .int u17.1) rfl rfl lk_X11_concatenate__self_X9_size dX11_concatenate_65 ?_
        obtain rfl := Option.some.inj h
        exact K H locs ls _ dX11_concatenate_68 Z
      · replace h := ifn h cnd
        refine lv_bipush (v := (-3 : Int32)) hx hb dX11_concatenate_48 (by decide) ?_
        obtain rfl := Option.some.inj h
        exact K H locs ls _ dX11_concatenate_50 Z
    · replace h := ifp h cnd
      refine lv_iconst (v := (-1 : Int32)) hx hb dX11_concatenate_14 (by decide) ?_
      obtain rfl := Option.some.inj h
      exact K H locs ls _ dX11_concatenate_15 Z
theorem c_X11_concatenate__self (l : Launch) (D : va_G) (cy : Nat → ClassId) (o : Nat) (q_now_words_L1 : Nat) (d : Nat → Nat) (d_now_words_L1 : Nat → Nat) (d_now : Nat → Nat) (mono : Value) (snapshotTaken_ : Int32) (inputLength_ : Int32) (now_letters_ : Int32) (now_words_ : Nat → Option Nat) (now_words_L1_size_ : Int32) (now_words_L1_letters_ : Nat → Int32) (x1 : Int32) (x2 : Int32) (out : Int32 × Int32 × (Nat → Int32)) (h : f_X11_concatenate__self x1 x2 q_now_words_L1 now_words_ now_words_L1_size_ now_words_L1_letters_ = some out) : CtI l yX11_concatenate wsX11_concatenate rm_X11_concatenate__self D cy [.ref o, .int x1, .int x2] (RW_X11_concatenate__self cy o q_now_words_L1 d d_now_words_L1 d_now mono now_words_L1_size_ now_words_L1_letters_) (RO_X11_concatenate__self cy o q_now_words_L1 d d_now_words_L1 d_now mono snapshotTaken_ inputLength_ now_letters_ now_words_) (RW_X11_concatenate__self cy o q_now_words_L1 d d_now_words_L1 d_now mono out.2.1 out.2.2) out.1 :=
  mk_i (ty := .int) (by decide) rfl rfl (Nat.le_of_ble_eq_true rfl) (fun p e s m args below meth c A Q X K H locs ls Z hl => wt_X11_concatenate__self o q_now_words_L1 d d_now_words_L1 d_now mono snapshotTaken_ inputLength_ now_letters_ now_words_ now_words_L1_size_ now_words_L1_letters_ x1 x2 out X h K H locs ls Z hl)
/-! SubwordCounter monoidSize (I)I -/
abbrev rm_X11_monoidSize__has : Room := { frames := 6, cells := 0, slots := 0, locals := 143 }
def RW_X11_monoidSize__has (cy : Nat → ClassId) (o : Nat) (d : Nat → Nat) (d_now : Nat → Nat) (d_automaton : Nat → Nat) (d_partition : Nat → Nat) (d_monoid : Nat → Nat) (d_now_tests : Nat → Nat) (d_automaton_tests : Nat → Nat) (PT : va_W) (automaton_letters_ : Int32) (automaton_states_ : Int32) (partition_blocks_ : Int32) (partition_touchedCount_ : Int32) (monoid_count_ : Int32) (monoid_points_ : Int32) (automaton_tests_count_ : Int32) (automaton_next_ : Nat → Int32) (automaton_marks_ : Nat → Int32) (automaton_depth_ : Nat → Int32) (automaton_low_ : Nat → Int64) (automaton_high_ : Nat → Int64) (automaton_parent_ : Nat → Int32) (automaton_lastLetter_ : Nat → Int32) (automaton_slots_ : Nat → Int32) (partition_members_ : Nat → Int32) (partition_place_ : Nat → Int32) (partition_blockOf_ : Nat → Int32) (partition_first_ : Nat → Int32) (partition_size_ : Nat → Int32) (partition_marked_ : Nat → Int32) (partition_touched_ : Nat → Int32) (partition_splitter_ : Nat → Int32) (partition_sourceStart_ : Nat → Int32) (partition_sources_ : Nat → Int32) (monoid_generators_ : Nat → Int32) (monoid_images_ : Nat → Int32) (monoid_slots_ : Nat → Int32) (automaton_tests_members_ : Nat → Option Nat) : va_W := [((d 8), ob 0 (oX0 d_automaton automaton_letters_ automaton_states_)), ((d 9), ob 4 (oX4 d_partition partition_blocks_ partition_touchedCount_)), ((d 10), ob 3 (oX3 d_monoid monoid_count_ monoid_points_)), ((d_automaton 0), ob 1 (oX1 d_automaton_tests automaton_tests_count_)), ((d_automaton 3), aI cy 6000 automaton_next_), ((d_automaton 4), aI cy 2000 automaton_marks_), ((d_automaton 5), aI cy 2000 automaton_depth_), ((d_automaton 6), aJ cy 2000 automaton_low_), ((d_automaton 7), aJ cy 2000 automaton_high_), ((d_automaton 8), aI cy 2000 automaton_parent_), ((d_automaton 9), aI cy 2000 automaton_lastLetter_), ((d_automaton 10), aI cy 4096 automaton_slots_), ((d_partition 1), aI cy 2000 partition_members_), ((d_partition 2), aI cy 2000 partition_place_), ((d_partition 3), aI cy 2000 partition_blockOf_), ((d_partition 4), aI cy 2000 partition_first_), ((d_partition 5), aI cy 2000 partition_size_), ((d_partition 6), aI cy 2000 partition_marked_), ((d_partition 7), aI cy 2000 partition_touched_), ((d_partition 9), aI cy 2000 partition_splitter_), ((d_partition 11), aI cy 6003 partition_sourceStart_), ((d_partition 12), aI cy 6000 partition_sources_), ((d_monoid 2), aI cy 1200 monoid_generators_), ((d_monoid 3), aI cy 160400 monoid_images_), ((d_monoid 4), aI cy 1024 monoid_slots_), ((d_automaton_tests 0), aR cy 4 8 automaton_tests_members_)]
def RO_X11_monoidSize__has (cy : Nat → ClassId) (o : Nat) (d : Nat → Nat) (d_now : Nat → Nat) (d_automaton : Nat → Nat) (d_partition : Nat → Nat) (d_monoid : Nat → Nat) (d_now_tests : Nat → Nat) (d_automaton_tests : Nat → Nat) (PT : va_W) (snapshotTaken_ : Int32) (inputLength_ : Int32) (now_letters_ : Int32) (now_tests_count_ : Int32) (now_tests_members_ : Nat → Option Nat) : va_W := [(o, ob 10 (oX11 d (.ref (d 10)) snapshotTaken_ inputLength_)), ((d 0), ob 5 (oX5 d_now now_letters_)), ((d_now 2), ob 1 (oX1 d_now_tests now_tests_count_)), ((d_now_tests 0), aR cy 4 8 now_tests_members_)] ++ PT
theorem in_X11_monoidSize__has_X11 : ∀ w ∈ u_ws RX11 TX11 12, w ∈ wsX11_monoidSize := fun w h => (List.mem_cons_of_mem _ (List.mem_append_left _ (List.mem_append_left _ (List.mem_append_left _ (List.mem_append_left _ (List.mem_append_left _ (List.mem_append_left _ (List.mem_append_right _ h))))))))
theorem lk_X11_monoidSize__has_X11_partition : Lk wsX11_monoidSize RX11 61 10 9 := ⟨RX11, TX11, 12, rfl, by decide, in_X11_monoidSize__has_X11, mem_at 1 rfl⟩
theorem lk_X11_monoidSize__has_X11_automaton : Lk wsX11_monoidSize RX11 54 10 8 := ⟨RX11, TX11, 12, rfl, by decide, in_X11_monoidSize__has_X11, mem_at 2 rfl⟩
theorem lk_X11_monoidSize__has_X11_monoid : Lk wsX11_monoidSize RX11 65 10 10 := ⟨RX11, TX11, 12, rfl, by decide, in_X11_monoidSize__has_X11, mem_at 3 rfl⟩
theorem in_X11_monoidSize__has_X3 : ∀ w ∈ u_ws RX3 TX3 5, w ∈ wsX11_monoidSize := fun w h => (List.mem_cons_of_mem _ (List.mem_append_left _ (List.mem_append_left _ (List.mem_append_left _ (List.mem_append_left _ (List.mem_append_left _ (List.mem_append_right _ h)))))))
theorem lk_X11_monoidSize__has_X3_count : Lk wsX11_monoidSize RX11 224 3 0 := ⟨RX3, TX3, 5, rfl, by decide, in_X11_monoidSize__has_X3, mem_at 7 rfl⟩
def f_X11_monoidSize__has (x1 : Int32) (tq : Nat → Option TV) (now_letters_ : Int32) (now_tests_count_ : Int32) (now_tests_members_ : Nat → Option Nat) (automaton_letters_ : Int32) (automaton_states_ : Int32) (partition_blocks_ : Int32) (partition_touchedCount_ : Int32) (monoid_count_ : Int32) (monoid_points_ : Int32) (automaton_tests_count_ : Int32) (automaton_next_ : Nat → Int32) (automaton_marks_ : Nat → Int32) (automaton_depth_ : Nat → Int32) (automaton_low_ : Nat → Int64) (automaton_high_ : Nat → Int64) (automaton_parent_ : Nat → Int32) (automaton_lastLetter_ : Nat → Int32) (automaton_slots_ : Nat → Int32) (partition_members_ : Nat → Int32) (partition_place_ : Nat → Int32) (partition_blockOf_ : Nat → Int32) (partition_first_ : Nat → Int32) (partition_size_ : Nat → Int32) (partition_marked_ : Nat → Int32) (partition_touched_ : Nat → Int32) (partition_splitter_ : Nat → Int32) (partition_sourceStart_ : Nat → Int32) (partition_sources_ : Nat → Int32) (monoid_generators_ : Nat → Int32) (monoid_images_ : Nat → Int32) (monoid_slots_ : Nat → Int32) (automaton_tests_members_ : Nat → Option Nat) : Option (Int32 × Int32 × Int32 × Int32 × Int32 × Int32 × Int32 × Int32 × (Nat → Int32) × (Nat → Int32) × (Nat → Int32) × (Nat → Int64) × (Nat → Int64) × (Nat → Int32) × (Nat → Int32) × (Nat → Int32) × (Nat → Int32) × (Nat → Int32) × (Nat → Int32) × (Nat → Int32) × (Nat → Int32) × (Nat → Int32) × (Nat → Int32) × (Nat → Int32) × (Nat → Int32) × (Nat → Int32) × (Nat → Int32) × (Nat → Int32) × (Nat → Int32) × (Nat → Option Nat)) :=
  (f_X11_isTest x1 now_tests_count_).bind (fun u1 =>
  if u1 = 0 then
  (some ((-1 : Int32), automaton_letters_, automaton_states_, partition_blocks_, partition_touchedCount_, monoid_count_, monoid_points_, automaton_tests_count_, automaton_next_, automaton_marks_, automaton_depth_, automaton_low_, automaton_high_, automaton_parent_, automaton_lastLetter_, automaton_slots_, partition_members_, partition_place_, partition_blockOf_, partition_first_, partition_size_, partition_marked_, partition_touched_, partition_splitter_, partition_sourceStart_, partition_sources_, monoid_generators_, monoid_images_, monoid_slots_, automaton_tests_members_))
  else
  ((f_X11_exploreTest x1 tq now_letters_ now_tests_members_ automaton_letters_ automaton_states_ automaton_tests_count_ automaton_next_ automaton_marks_ automaton_depth_ automaton_low_ automaton_high_ automaton_parent_ automaton_lastLetter_ automaton_slots_ automaton_tests_members_).bind (fun u3 =>
  if u3.1 = 0 then
  (some ((-4 : Int32), u3.2.1, u3.2.2.1, partition_blocks_, partition_touchedCount_, monoid_count_, monoid_points_, u3.2.2.2.1, u3.2.2.2.2.1, u3.2.2.2.2.2.1, u3.2.2.2.2.2.2.1, u3.2.2.2.2.2.2.2.1, u3.2.2.2.2.2.2.2.2.1, u3.2.2.2.2.2.2.2.2.2.1, u3.2.2.2.2.2.2.2.2.2.2.1, u3.2.2.2.2.2.2.2.2.2.2.2.1, partition_members_, partition_place_, partition_blockOf_, partition_first_, partition_size_, partition_marked_, partition_touched_, partition_splitter_, partition_sourceStart_, partition_sources_, monoid_generators_, monoid_images_, monoid_slots_, u3.2.2.2.2.2.2.2.2.2.2.2.2))
  else
  ((f_X4_refine u3.2.1 u3.2.2.1 u3.2.2.2.2.1 u3.2.2.2.2.2.1 partition_blocks_ partition_touchedCount_ partition_members_ partition_place_ partition_blockOf_ partition_first_ partition_size_ partition_marked_ partition_touched_ partition_splitter_ partition_sourceStart_ partition_sources_).bind (fun u5 =>
  (f_X3_generate u5.1 u3.2.1 u5.2.2.1 u5.2.2.2.2.1 u5.2.2.2.2.2.1 u3.2.2.2.2.1 monoid_count_ monoid_points_ monoid_generators_ monoid_images_ monoid_slots_).bind (fun u7 =>
  if u7.1 = 0 then
  (some ((-4 : Int32), u3.2.1, u3.2.2.1, u5.1, u5.2.1, u7.2.1, u7.2.2.1, u3.2.2.2.1, u3.2.2.2.2.1, u3.2.2.2.2.2.1, u3.2.2.2.2.2.2.1, u3.2.2.2.2.2.2.2.1, u3.2.2.2.2.2.2.2.2.1, u3.2.2.2.2.2.2.2.2.2.1, u3.2.2.2.2.2.2.2.2.2.2.1, u3.2.2.2.2.2.2.2.2.2.2.2.1, u5.2.2.1, u5.2.2.2.1, u5.2.2.2.2.1, u5.2.2.2.2.2.1, u5.2.2.2.2.2.2.1, u5.2.2.2.2.2.2.2.1, u5.2.2.2.2.2.2.2.2.1, u5.2.2.2.2.2.2.2.2.2.1, u5.2.2.2.2.2.2.2.2.2.2.1, u5.2.2.2.2.2.2.2.2.2.2.2, u7.2.2.2.1, u7.2.2.2.2.1, u7.2.2.2.2.2, u3.2.2.2.2.2.2.2.2.2.2.2.2))
  else
  (some (u7.2.1, u3.2.1, u3.2.2.1, u5.1, u5.2.1, u7.2.1, u7.2.2.1, u3.2.2.2.1, u3.2.2.2.2.1, u3.2.2.2.2.2.1, u3.2.2.2.2.2.2.1, u3.2.2.2.2.2.2.2.1, u3.2.2.2.2.2.2.2.2.1, u3.2.2.2.2.2.2.2.2.2.1, u3.2.2.2.2.2.2.2.2.2.2.1, u3.2.2.2.2.2.2.2.2.2.2.2.1, u5.2.2.1, u5.2.2.2.1, u5.2.2.2.2.1, u5.2.2.2.2.2.1, u5.2.2.2.2.2.2.1, u5.2.2.2.2.2.2.2.1, u5.2.2.2.2.2.2.2.2.1, u5.2.2.2.2.2.2.2.2.2.1, u5.2.2.2.2.2.2.2.2.2.2.1, u5.2.2.2.2.2.2.2.2.2.2.2, u7.2.2.2.1, u7.2.2.2.2.1, u7.2.2.2.2.2, u3.2.2.2.2.2.2.2.2.2.2.2.2))))))))
set_option maxHeartbeats 4000000 in
set_option maxRecDepth 100000 in
theorem wt_X11_monoidSize__has {p : Program} {l : Launch} {e : Env} {s : State} {m : MethodId} {args : Array Value} {below : List Frame} {meth : Method} {c : Code} {A : Nat → Prop} {Q : State → Prop} {D : va_G} {cy : Nat → ClassId} (o : Nat) (d : Nat → Nat) (d_now : Nat → Nat) (d_automaton : Nat → Nat) (d_partition : Nat → Nat) (d_monoid : Nat → Nat) (d_now_tests : Nat → Nat) (d_automaton_tests : Nat → Nat) (PT : va_W) (tq : Nat → Option TV) (snapshotTaken_ : Int32) (inputLength_ : Int32) (now_letters_ : Int32) (now_tests_count_ : Int32) (now_tests_members_ : Nat → Option Nat) (automaton_letters_ : Int32) (automaton_states_ : Int32) (partition_blocks_ : Int32) (partition_touchedCount_ : Int32) (monoid_count_ : Int32) (monoid_points_ : Int32) (automaton_tests_count_ : Int32) (automaton_next_ : Nat → Int32) (automaton_marks_ : Nat → Int32) (automaton_depth_ : Nat → Int32) (automaton_low_ : Nat → Int64) (automaton_high_ : Nat → Int64) (automaton_parent_ : Nat → Int32) (automaton_lastLetter_ : Nat → Int32) (automaton_slots_ : Nat → Int32) (partition_members_ : Nat → Int32) (partition_place_ : Nat → Int32) (partition_blockOf_ : Nat → Int32) (partition_first_ : Nat → Int32) (partition_size_ : Nat → Int32) (partition_marked_ : Nat → Int32) (partition_touched_ : Nat → Int32) (partition_splitter_ : Nat → Int32) (partition_sourceStart_ : Nat → Int32) (partition_sources_ : Nat → Int32) (monoid_generators_ : Nat → Int32) (monoid_images_ : Nat → Int32) (monoid_slots_ : Nat → Int32) (automaton_tests_members_ : Nat → Option Nat) (x1 : Int32) (out : Int32 × Int32 × Int32 × Int32 × Int32 × Int32 × Int32 × Int32 × (Nat → Int32) × (Nat → Int32) × (Nat → Int32) × (Nat → Int64) × (Nat → Int64) × (Nat → Int32) × (Nat → Int32) × (Nat → Int32) × (Nat → Int32) × (Nat → Int32) × (Nat → Int32) × (Nat → Int32) × (Nat → Int32) × (Nat → Int32) × (Nat → Int32) × (Nat → Int32) × (Nat → Int32) × (Nat → Int32) × (Nat → Int32) × (Nat → Int32) × (Nat → Int32) × (Nat → Option Nat)) (hT : TP cy PT tq) (X : Cx p m c cX11_monoidSize 2 s args wsX11_monoidSize RX11 A D cy (RO_X11_monoidSize__has cy o d d_now d_automaton d_partition d_monoid d_now_tests d_automaton_tests PT snapshotTaken_ inputLength_ now_letters_ now_tests_count_ now_tests_members_)) (h : f_X11_monoidSize__has x1 tq now_letters_ now_tests_count_ now_tests_members_ automaton_letters_ automaton_states_ partition_blocks_ partition_touchedCount_ monoid_count_ monoid_points_ automaton_tests_count_ automaton_next_ automaton_marks_ automaton_depth_ automaton_low_ automaton_high_ automaton_parent_ automaton_lastLetter_ automaton_slots_ partition_members_ partition_place_ partition_blockOf_ partition_first_ partition_size_ partition_marked_ partition_touched_ partition_splitter_ partition_sourceStart_ partition_sources_ monoid_generators_ monoid_images_ monoid_slots_ automaton_tests_members_ = some out) (K : ∀ (H : Heap) (locs : List Loc) (ls : Array Slot) (pc : Nat), decode cX11_monoidSize pc = .ok (.ireturn, 1) → St A D s (RW_X11_monoidSize__has cy o d d_now d_automaton d_partition d_monoid d_now_tests d_automaton_tests PT out.2.1 out.2.2.1 out.2.2.2.1 out.2.2.2.2.1 out.2.2.2.2.2.1 out.2.2.2.2.2.2.1 out.2.2.2.2.2.2.2.1 out.2.2.2.2.2.2.2.2.1 out.2.2.2.2.2.2.2.2.2.1 out.2.2.2.2.2.2.2.2.2.2.1 out.2.2.2.2.2.2.2.2.2.2.2.1 out.2.2.2.2.2.2.2.2.2.2.2.2.1 out.2.2.2.2.2.2.2.2.2.2.2.2.2.1 out.2.2.2.2.2.2.2.2.2.2.2.2.2.2.1 out.2.2.2.2.2.2.2.2.2.2.2.2.2.2.2.1 out.2.2.2.2.2.2.2.2.2.2.2.2.2.2.2.2.1 out.2.2.2.2.2.2.2.2.2.2.2.2.2.2.2.2.2.1 out.2.2.2.2.2.2.2.2.2.2.2.2.2.2.2.2.2.2.1 out.2.2.2.2.2.2.2.2.2.2.2.2.2.2.2.2.2.2.2.1 out.2.2.2.2.2.2.2.2.2.2.2.2.2.2.2.2.2.2.2.2.1 out.2.2.2.2.2.2.2.2.2.2.2.2.2.2.2.2.2.2.2.2.2.1 out.2.2.2.2.2.2.2.2.2.2.2.2.2.2.2.2.2.2.2.2.2.2.1 out.2.2.2.2.2.2.2.2.2.2.2.2.2.2.2.2.2.2.2.2.2.2.2.1 out.2.2.2.2.2.2.2.2.2.2.2.2.2.2.2.2.2.2.2.2.2.2.2.2.1 out.2.2.2.2.2.2.2.2.2.2.2.2.2.2.2.2.2.2.2.2.2.2.2.2.2.1 out.2.2.2.2.2.2.2.2.2.2.2.2.2.2.2.2.2.2.2.2.2.2.2.2.2.2.1 out.2.2.2.2.2.2.2.2.2.2.2.2.2.2.2.2.2.2.2.2.2.2.2.2.2.2.2.1 out.2.2.2.2.2.2.2.2.2.2.2.2.2.2.2.2.2.2.2.2.2.2.2.2.2.2.2.2.1 out.2.2.2.2.2.2.2.2.2.2.2.2.2.2.2.2.2.2.2.2.2.2.2.2.2.2.2.2.2) H locs → W p l e rm_X11_monoidSize__has s m args below meth c H locs 0 0 Q (F0 m pc ls [.int out.1])) : ∀ (H : Heap) (locs : List Loc) (ls : Array Slot), St A D s (RW_X11_monoidSize__has cy o d d_now d_automaton d_partition d_monoid d_now_tests d_automaton_tests PT automaton_letters_ automaton_states_ partition_blocks_ partition_touchedCount_ monoid_count_ monoid_points_ automaton_tests_count_ automaton_next_ automaton_marks_ automaton_depth_ automaton_low_ automaton_high_ automaton_parent_ automaton_lastLetter_ automaton_slots_ partition_members_ partition_place_ partition_blockOf_ partition_first_ partition_size_ partition_marked_ partition_touched_ partition_splitter_ partition_sourceStart_ partition_sources_ monoid_generators_ monoid_images_ monoid_slots_ automaton_tests_members_) H locs → lv_has ls 2 [(0, .ref o), (1, .int x1)] → W p l e rm_X11_monoidSize__has s m args below meth c H locs 0 0 Q (F0 m 0 ls []) := by
  intro H locs ls Z hl
  have hx := X.1.1
  have hb := X.1.2.1
  unfold f_X11_monoidSize__has at h
  refine lv_aload_n hx hb dX11_monoidSize_0 rfl (lv_at hl 0 rfl) ?_
  refine lv_iload_n hx hb dX11_monoidSize_1 rfl (lv_at hl 1 rfl) ?_
  obtain ⟨u1, hc2, h⟩ := ob_some h
  refine x_runVi (RW' := (RW_X11_monoidSize__has cy o d d_now d_automaton d_partition d_monoid d_now_tests d_automaton_tests PT automaton_letters_ automaton_states_ partition_blocks_ partition_touchedCount_ monoid_count_ monoid_points_ automaton_tests_count_ automaton_next_ automaton_marks_ automaton_depth_ automaton_low_ automaton_high_ automaton_parent_ automaton_lastLetter_ automaton_slots_ partition_members_ partition_place_ partition_blockOf_ partition_first_ partition_size_ partition_marked_ partition_touched_ partition_splitter_ partition_sourceStart_ partition_sources_ monoid_generators_ monoid_images_ monoid_slots_ automaton_tests_members_)) (wr := [((d 8), ob 0 (oX0 d_automaton automaton_letters_ automaton_states_)), ((d 9), ob 4 (oX4 d_partition partition_blocks_ partition_touchedCount_)), ((d 10), ob 3 (oX3 d_monoid monoid_count_ monoid_points_)), ((d_automaton 0), ob 1 (oX1 d_automaton_tests automaton_tests_count_)), ((d_automaton 3), aI cy 6000 automaton_next_), ((d_automaton 4), aI cy 2000 automaton_marks_), ((d_automaton 5), aI cy 2000 automaton_depth_), ((d_automaton 6), aJ cy 2000 automaton_low_), ((d_automaton 7), aJ cy 2000 automaton_high_), ((d_automaton 8), aI cy 2000 automaton_parent_), ((d_automaton 9), aI cy 2000 automaton_lastLetter_), ((d_automaton 10), aI cy 4096 automaton_slots_), ((d_partition 1), aI cy 2000 partition_members_), ((d_partition 2), aI cy 2000 partition_place_), ((d_partition 3), aI cy 2000 partition_blockOf_), ((d_partition 4), aI cy 2000 partition_first_), ((d_partition 5), aI cy 2000 partition_size_), ((d_partition 6), aI cy 2000 partition_marked_), ((d_partition 7), aI cy 2000 partition_touched_), ((d_partition 9), aI cy 2000 partition_splitter_), ((d_partition 11), aI cy 6003 partition_sourceStart_), ((d_partition 12), aI cy 6000 partition_sources_), ((d_monoid 2), aI cy 1200 monoid_generators_), ((d_monoid 3), aI cy 160400 monoid_images_), ((d_monoid 4), aI cy 1024 monoid_slots_), ((d_automaton_tests 0), aR cy 4 8 automaton_tests_members_)]) (isC := []) (isR := [0, 1, 2, 3, 4, 5, 6, 7, 8, 9, 10, 11, 12, 13, 14, 15, 16, 17, 18, 19, 20, 21, 22, 23, 24, 25]) (isF := [0, 1, 2, 3, 4, 5, 6, 7, 8, 9, 10, 11, 12, 13, 14, 15, 16, 17, 18, 19, 20, 21, 22, 23, 24, 25]) (rest := []) (As := [.int x1]) (n := 1) X Z (c_X11_isTest l D cy o d d_now d_now_tests (.ref (d 10)) snapshotTaken_ inputLength_ now_letters_ now_tests_count_ x1 u1 hc2) gX11_monoidSize_X11_isTest rfl (by decide +kernel) ⟨Nat.le_of_ble_eq_true rfl, Nat.le_of_ble_eq_true rfl⟩ ⟨rfl, rfl⟩ ⟨Nat.le_of_ble_eq_true rfl, Nat.le_of_ble_eq_true rfl⟩ (x_rvO X Z 0 rfl rfl) ⟨rfl, rfl, (roC (Or.inr (mem_at 0 rfl)) (roC (Or.inr (mem_at 1 rfl)) (roC (Or.inr (mem_at 2 rfl)) roN))), rfl, rfl, by decide⟩ ⟨rfl, rfl⟩ rfl hl.1 rfl (Nat.le_of_ble_eq_true rfl) dX11_monoidSize_2 (fun H locs Z => ?_)
  refine lv_if_ne (tgt := 10) hx hb dX11_monoidSize_5 (by decide) (fun cnd => ?_) (fun cnd => ?_)
  · replace h := ifn h cnd
    refine lv_aload_n hx hb dX11_monoidSize_10 rfl (lv_at hl 0 rfl) ?_
    refine lv_iload_n hx hb dX11_monoidSize_11 rfl (lv_at hl 1 rfl) ?_
    obtain ⟨u3, hc4, h⟩ := ob_some h
    refine x_runVi (RW' := (RW_X11_monoidSize__has cy o d d_now d_automaton d_partition d_monoid d_now_tests d_automaton_tests PT u3.2.1 u3.2.2.1 partition_blocks_ partition_touchedCount_ monoid_count_ monoid_points_ u3.2.2.2.1 u3.2.2.2.2.1 u3.2.2.2.2.2.1 u3.2.2.2.2.2.2.1 u3.2.2.2.2.2.2.2.1 u3.2.2.2.2.2.2.2.2.1 u3.2.2.2.2.2.2.2.2.2.1 u3.2.2.2.2.2.2.2.2.2.2.1 u3.2.2.2.2.2.2.2.2.2.2.2.1 partition_members_ partition_place_ partition_blockOf_ partition_first_ partition_size_ partition_marked_ partition_touched_ partition_splitter_ partition_sourceStart_ partition_sources_ monoid_generators_ monoid_images_ monoid_slots_ u3.2.2.2.2.2.2.2.2.2.2.2.2)) (wr := [((d 9), ob 4 (oX4 d_partition partition_blocks_ partition_touchedCount_)), ((d 10), ob 3 (oX3 d_monoid monoid_count_ monoid_points_)), ((d_partition 1), aI cy 2000 partition_members_), ((d_partition 2), aI cy 2000 partition_place_), ((d_partition 3), aI cy 2000 partition_blockOf_), ((d_partition 4), aI cy 2000 partition_first_), ((d_partition 5), aI cy 2000 partition_size_), ((d_partition 6), aI cy 2000 partition_marked_), ((d_partition 7), aI cy 2000 partition_touched_), ((d_partition 9), aI cy 2000 partition_splitter_), ((d_partition 11), aI cy 6003 partition_sourceStart_), ((d_partition 12), aI cy 6000 partition_sources_), ((d_monoid 2), aI cy 1200 monoid_generators_), ((d_monoid 3), aI cy 160400 monoid_images_), ((d_monoid 4), aI cy 1024 monoid_slots_)]) (isC := [0, 3, 4, 5, 6, 7, 8, 9, 10, 11, 25]) (isR := [1, 2, 12, 13, 14, 15, 16, 17, 18, 19, 20, 21, 22, 23, 24]) (isF := [15, 0, 1, 16, 17, 18, 19, 20, 21, 22, 23, 24, 2, 3, 4, 5, 6, 7, 8, 9, 10, 11, 12, 13, 14, 25]) (rest := []) (As := [.int x1]) (n := 1) X Z (c_X11_exploreTest l D cy o d d_now d_automaton d_now_tests d_automaton_tests (.ref (d 10)) PT tq snapshotTaken_ inputLength_ now_letters_ now_tests_count_ now_tests_members_ automaton_letters_ automaton_states_ automaton_tests_count_ automaton_next_ automaton_marks_ automaton_depth_ automaton_low_ automaton_high_ automaton_parent_ automaton_lastLetter_ automaton_slots_ automaton_tests_members_ x1 u3 hT hc4) gX11_monoidSize_X11_exploreTest rfl (by decide +kernel) ⟨Nat.le_of_ble_eq_true rfl, Nat.le_of_ble_eq_true rfl⟩ ⟨rfl, rfl⟩ ⟨Nat.le_of_ble_eq_true rfl, Nat.le_of_ble_eq_true rfl⟩ (x_rvO X Z 0 rfl rfl) ⟨rfl, rfl, (roC (Or.inr (mem_at 0 rfl)) (roC (Or.inr (mem_at 1 rfl)) (roC (Or.inr (mem_at 2 rfl)) (roC (Or.inr (mem_at 3 rfl)) (fun q hq => Or.inr (List.mem_append_right _ hq)))))), rfl, rfl, by decide⟩ ⟨rfl, rfl⟩ rfl hl.1 rfl (Nat.le_of_ble_eq_true rfl) dX11_monoidSize_12 (fun H locs Z => ?_)
    refine lv_if_ne (tgt := 21) hx hb dX11_monoidSize_15 (by decide) (fun cnd => ?_) (fun cnd => ?_)
    · replace h := ifn h cnd
      refine lv_aload_n hx hb dX11_monoidSize_21 rfl (lv_at hl 0 rfl) ?_
      refine x_getO X Z 0 9 (v := .ref (d 9)) rfl rfl lk_X11_monoidSize__has_X11_partition dX11_monoidSize_22 ?_
      refine lv_aload_n hx hb dX11_monoidSize_25 rfl (lv_at hl 0 rfl) ?_
      refine x_getO X Z 0 8 (v := .ref (d 8)) rfl rfl lk_X11_monoidSize__has_X11_automaton dX11_monoidSize_26 ?_
      obtain ⟨u5, hc6, h⟩ := ob_some h
      refine x_runVv (RW' := (RW_X11_monoidSize__has cy o d d_now d_automaton d_partition d_monoid d_now_tests d_automaton_tests PT u3.2.1 u3.2.2.1 u5.1 u5.2.1 monoid_count_ monoid_points_ u3.2.2.2.1 u3.2.2.2.2.1 u3.2.2.2.2.2.1 u3.2.2.2.2.2.2.1 u3.2.2.2.2.2.2.2.1 u3.2.2.2.2.2.2.2.2.1 u3.2.2.2.2.2.2.2.2.2.1 u3.2.2.2.2.2.2.2.2.2.2.1 u3.2.2.2.2.2.2.2.2.2.2.2.1 u5.2.2.1 u5.2.2.2.1 u5.2.2.2.2.1 u5.2.2.2.2.2.1 u5.2.2.2.2.2.2.1 u5.2.2.2.2.2.2.2.1 u5.2.2.2.2.2.2.2.2.1 u5.2.2.2.2.2.2.2.2.2.1 u5.2.2.2.2.2.2.2.2.2.2.1 u5.2.2.2.2.2.2.2.2.2.2.2 monoid_generators_ monoid_images_ monoid_slots_ u3.2.2.2.2.2.2.2.2.2.2.2.2)) (wr := [((d 8), ob 0 (oX0 d_automaton u3.2.1 u3.2.2.1)), ((d 10), ob 3 (oX3 d_monoid monoid_count_ monoid_points_)), ((d_automaton 0), ob 1 (oX1 d_automaton_tests u3.2.2.2.1)), ((d_automaton 3), aI cy 6000 u3.2.2.2.2.1), ((d_automaton 4), aI cy 2000 u3.2.2.2.2.2.1), ((d_automaton 5), aI cy 2000 u3.2.2.2.2.2.2.1), ((d_automaton 6), aJ cy 2000 u3.2.2.2.2.2.2.2.1), ((d_automaton 7), aJ cy 2000 u3.2.2.2.2.2.2.2.2.1), ((d_automaton 8), aI cy 2000 u3.2.2.2.2.2.2.2.2.2.1), ((d_automaton 9), aI cy 2000 u3.2.2.2.2.2.2.2.2.2.2.1), ((d_automaton 10), aI cy 4096 u3.2.2.2.2.2.2.2.2.2.2.2.1), ((d_monoid 2), aI cy 1200 monoid_generators_), ((d_monoid 3), aI cy 160400 monoid_images_), ((d_monoid 4), aI cy 1024 monoid_slots_), ((d_automaton_tests 0), aR cy 4 8 u3.2.2.2.2.2.2.2.2.2.2.2.2)]) (isC := [1, 12, 13, 14, 15, 16, 17, 18, 19, 20, 21]) (isR := [0, 2, 3, 4, 5, 6, 7, 8, 9, 10, 11, 22, 23, 24, 25]) (isF := [0, 15, 1, 2, 3, 4, 5, 6, 7, 8, 9, 10, 16, 17, 18, 19, 20, 21, 22, 23, 24, 25, 11, 12, 13, 14]) (rest := []) (As := [.ref (d 8)]) (n := 1) X Z (c_X4_refine l D cy (d 9) (d 8) d_partition d_automaton u3.2.1 u3.2.2.1 u3.2.2.2.2.1 u3.2.2.2.2.2.1 partition_blocks_ partition_touchedCount_ partition_members_ partition_place_ partition_blockOf_ partition_first_ partition_size_ partition_marked_ partition_touched_ partition_splitter_ partition_sourceStart_ partition_sources_ u5 hc6) gX11_monoidSize_X4_refine rfl (by decide +kernel) ⟨Nat.le_of_ble_eq_true rfl, Nat.le_of_ble_eq_true rfl⟩ ⟨rfl, rfl⟩ ⟨Nat.le_of_ble_eq_true rfl, Nat.le_of_ble_eq_true rfl⟩ (x_rv X Z 1 rfl rfl) ⟨rfl, rfl, (roC (Or.inl (mem_at 0 rfl)) (roC (Or.inl (mem_at 3 rfl)) (roC (Or.inl (mem_at 4 rfl)) roN))), rfl, rfl, by decide⟩ ⟨rfl, rfl⟩ rfl hl.1 rfl (Nat.le_of_ble_eq_true rfl) dX11_monoidSize_29 (fun H locs Z => ?_)
      refine lv_aload_n hx hb dX11_monoidSize_32 rfl (lv_at hl 0 rfl) ?_
      refine x_getO X Z 0 10 (v := .ref (d 10)) rfl rfl lk_X11_monoidSize__has_X11_monoid dX11_monoidSize_33 ?_
      refine lv_ifnonnull (tgt := 50) hx hb dX11_monoidSize_36 (by decide) ?_
      refine lv_aload_n hx hb dX11_monoidSize_50 rfl (lv_at hl 0 rfl) ?_
      refine x_getO X Z 0 10 (v := .ref (d 10)) rfl rfl lk_X11_monoidSize__has_X11_monoid dX11_monoidSize_51 ?_
      refine lv_aload_n hx hb dX11_monoidSize_54 rfl (lv_at hl 0 rfl) ?_
      refine x_getO X Z 0 9 (v := .ref (d 9)) rfl rfl lk_X11_monoidSize__has_X11_partition dX11_monoidSize_55 ?_
      refine lv_aload_n hx hb dX11_monoidSize_58 rfl (lv_at hl 0 rfl) ?_
      refine x_getO X Z 0 8 (v := .ref (d 8)) rfl rfl lk_X11_monoidSize__has_X11_automaton dX11_monoidSize_59 ?_
      obtain ⟨u7, hc8, h⟩ := ob_some h
      refine x_runVi (RW' := (RW_X11_monoidSize__has cy o d d_now d_automaton d_partition d_monoid d_now_tests d_automaton_tests PT u3.2.1 u3.2.2.1 u5.1 u5.2.1 u7.2.1 u7.2.2.1 u3.2.2.2.1 u3.2.2.2.2.1 u3.2.2.2.2.2.1 u3.2.2.2.2.2.2.1 u3.2.2.2.2.2.2.2.1 u3.2.2.2.2.2.2.2.2.1 u3.2.2.2.2.2.2.2.2.2.1 u3.2.2.2.2.2.2.2.2.2.2.1 u3.2.2.2.2.2.2.2.2.2.2.2.1 u5.2.2.1 u5.2.2.2.1 u5.2.2.2.2.1 u5.2.2.2.2.2.1 u5.2.2.2.2.2.2.1 u5.2.2.2.2.2.2.2.1 u5.2.2.2.2.2.2.2.2.1 u5.2.2.2.2.2.2.2.2.2.1 u5.2.2.2.2.2.2.2.2.2.2.1 u5.2.2.2.2.2.2.2.2.2.2.2 u7.2.2.2.1 u7.2.2.2.2.1 u7.2.2.2.2.2 u3.2.2.2.2.2.2.2.2.2.2.2.2)) (wr := [((d 8), ob 0 (oX0 d_automaton u3.2.1 u3.2.2.1)), ((d 9), ob 4 (oX4 d_partition u5.1 u5.2.1)), ((d_automaton 0), ob 1 (oX1 d_automaton_tests u3.2.2.2.1)), ((d_automaton 3), aI cy 6000 u3.2.2.2.2.1), ((d_automaton 4), aI cy 2000 u3.2.2.2.2.2.1), ((d_automaton 5), aI cy 2000 u3.2.2.2.2.2.2.1), ((d_automaton 6), aJ cy 2000 u3.2.2.2.2.2.2.2.1), ((d_automaton 7), aJ cy 2000 u3.2.2.2.2.2.2.2.2.1), ((d_automaton 8), aI cy 2000 u3.2.2.2.2.2.2.2.2.2.1), ((d_automaton 9), aI cy 2000 u3.2.2.2.2.2.2.2.2.2.2.1), ((d_automaton 10), aI cy 4096 u3.2.2.2.2.2.2.2.2.2.2.2.1), ((d_partition 1), aI cy 2000 u5.2.2.1), ((d_partition 2), aI cy 2000 u5.2.2.2.1), ((d_partition 3), aI cy 2000 u5.2.2.2.2.1), ((d_partition 4), aI cy 2000 u5.2.2.2.2.2.1), ((d_partition 5), aI cy 2000 u5.2.2.2.2.2.2.1), ((d_partition 6), aI cy 2000 u5.2.2.2.2.2.2.2.1), ((d_partition 7), aI cy 2000 u5.2.2.2.2.2.2.2.2.1), ((d_partition 9), aI cy 2000 u5.2.2.2.2.2.2.2.2.2.1), ((d_partition 11), aI cy 6003 u5.2.2.2.2.2.2.2.2.2.2.1), ((d_partition 12), aI cy 6000 u5.2.2.2.2.2.2.2.2.2.2.2), ((d_automaton_tests 0), aR cy 4 8 u3.2.2.2.2.2.2.2.2.2.2.2.2)]) (isC := [2, 22, 23, 24]) (isR := [0, 1, 3, 4, 5, 6, 7, 8, 9, 10, 11, 12, 13, 14, 15, 16, 17, 18, 19, 20, 21, 25]) (isF := [0, 1, 22, 2, 3, 4, 5, 6, 7, 8, 9, 10, 11, 12, 13, 14, 15, 16, 17, 18, 19, 20, 23, 24, 25, 21]) (rest := []) (As := [.ref (d 9), .ref (d 8)]) (n := 2) X Z (c_X3_generate l D cy (d 10) (d 9) (d 8) d_monoid d_partition d_automaton u5.1 u5.2.1 u3.2.1 u3.2.2.1 u5.2.2.1 u5.2.2.2.2.1 u5.2.2.2.2.2.1 u3.2.2.2.2.1 monoid_count_ monoid_points_ monoid_generators_ monoid_images_ monoid_slots_ u7 hc8) gX11_monoidSize_X3_generate rfl (by decide +kernel) ⟨Nat.le_of_ble_eq_true rfl, Nat.le_of_ble_eq_true rfl⟩ ⟨rfl, rfl⟩ ⟨Nat.le_of_ble_eq_true rfl, Nat.le_of_ble_eq_true rfl⟩ (x_rv X Z 2 rfl rfl) ⟨rfl, rfl, (roC (Or.inl (mem_at 1 rfl)) (roC (Or.inl (mem_at 0 rfl)) (roC (Or.inl (mem_at 11 rfl)) (roC (Or.inl (mem_at 13 rfl)) (roC (Or.inl (mem_at 14 rfl)) (roC (Or.inl (mem_at 3 rfl)) roN)))))), rfl, rfl, by decide⟩ ⟨rfl, rfl⟩ rfl hl.1 rfl (Nat.le_of_ble_eq_true rfl) dX11_monoidSize_62 (fun H locs Z => ?_)
      refine lv_if_eq (tgt := 78) hx hb dX11_monoidSize_65 (by decide) (fun cnd => ?_) (fun cnd => ?_)
      · replace h := ifp h cnd
        refine lv_bipush (v := (-4 : Int32)) hx hb dX11_monoidSize_78 (by decide) ?_
        obtain rfl := Option.some.inj h
        exact K H locs ls _ dX11_monoidSize_80 Z
      · replace h := ifn h cnd
        refine lv_aload_n hx hb dX11_monoidSize_68 rfl (lv_at hl 0 rfl) ?_
        refine x_getO X Z 0 10 (v := .ref (d 10)) rfl rfl lk_X11_monoidSize__has_X11_monoid dX11_monoidSize_69 ?_
        refine x_get X Z 2 0 (v := .int u7.2.1) rfl rfl lk_X11_monoidSize__has_X3_count dX11_monoidSize_72 ?_
        refine lv_goto (tgt := 80) hx hb dX11_monoidSize_75 (by decide) ?_
        obtain rfl := Option.some.inj h
        exact K H locs ls _ dX11_monoidSize_80 Z
    · replace h := ifp h cnd
      refine lv_bipush (v := (-4 : Int32)) hx hb dX11_monoidSize_18 (by decide) ?_
      obtain rfl := Option.some.inj h
      exact K H locs ls _ dX11_monoidSize_20 Z
  · replace h := ifp h cnd
    refine lv_iconst (v := (-1 : Int32)) hx hb dX11_monoidSize_8 (by decide) ?_
    obtain rfl := Option.some.inj h
    exact K H locs ls _ dX11_monoidSize_9 Z
theorem c_X11_monoidSize__has (l : Launch) (D : va_G) (cy : Nat → ClassId) (o : Nat) (d : Nat → Nat) (d_now : Nat → Nat) (d_automaton : Nat → Nat) (d_partition : Nat → Nat) (d_monoid : Nat → Nat) (d_now_tests : Nat → Nat) (d_automaton_tests : Nat → Nat) (PT : va_W) (tq : Nat → Option TV) (snapshotTaken_ : Int32) (inputLength_ : Int32) (now_letters_ : Int32) (now_tests_count_ : Int32) (now_tests_members_ : Nat → Option Nat) (automaton_letters_ : Int32) (automaton_states_ : Int32) (partition_blocks_ : Int32) (partition_touchedCount_ : Int32) (monoid_count_ : Int32) (monoid_points_ : Int32) (automaton_tests_count_ : Int32) (automaton_next_ : Nat → Int32) (automaton_marks_ : Nat → Int32) (automaton_depth_ : Nat → Int32) (automaton_low_ : Nat → Int64) (automaton_high_ : Nat → Int64) (automaton_parent_ : Nat → Int32) (automaton_lastLetter_ : Nat → Int32) (automaton_slots_ : Nat → Int32) (partition_members_ : Nat → Int32) (partition_place_ : Nat → Int32) (partition_blockOf_ : Nat → Int32) (partition_first_ : Nat → Int32) (partition_size_ : Nat → Int32) (partition_marked_ : Nat → Int32) (partition_touched_ : Nat → Int32) (partition_splitter_ : Nat → Int32) (partition_sourceStart_ : Nat → Int32) (partition_sources_ : Nat → Int32) (monoid_generators_ : Nat → Int32) (monoid_images_ : Nat → Int32) (monoid_slots_ : Nat → Int32) (automaton_tests_members_ : Nat → Option Nat) (x1 : Int32) (out : Int32 × Int32 × Int32 × Int32 × Int32 × Int32 × Int32 × Int32 × (Nat → Int32) × (Nat → Int32) × (Nat → Int32) × (Nat → Int64) × (Nat → Int64) × (Nat → Int32) × (Nat → Int32) × (Nat → Int32) × (Nat → Int32) × (Nat → Int32) × (Nat → Int32) × (Nat → Int32) × (Nat → Int32) × (Nat → Int32) × (Nat → Int32) × (Nat → Int32) × (Nat → Int32) × (Nat → Int32) × (Nat → Int32) × (Nat → Int32) × (Nat → Int32) × (Nat → Option Nat)) (hT : TP cy PT tq) (h : f_X11_monoidSize__has x1 tq now_letters_ now_tests_count_ now_tests_members_ automaton_letters_ automaton_states_ partition_blocks_ partition_touchedCount_ monoid_count_ monoid_points_ automaton_tests_count_ automaton_next_ automaton_marks_ automaton_depth_ automaton_low_ automaton_high_ automaton_parent_ automaton_lastLetter_ automaton_slots_ partition_members_ partition_place_ partition_blockOf_ partition_first_ partition_size_ partition_marked_ partition_touched_ partition_splitter_ partition_sourceStart_ partition_sources_ monoid_generators_ monoid_images_ monoid_slots_ automaton_tests_members_ = some out) : CtI l yX11_monoidSize wsX11_monoidSize rm_X11_monoidSize__has D cy [.ref o, .int x1] (RW_X11_monoidSize__has cy o d d_now d_automaton d_partition d_monoid d_now_tests d_automaton_tests PT automaton_letters_ automaton_states_ partition_blocks_ partition_touchedCount_ monoid_count_ monoid_points_ automaton_tests_count_ automaton_next_ automaton_marks_ automaton_depth_ automaton_low_ automaton_high_ automaton_parent_ automaton_lastLetter_ automaton_slots_ partition_members_ partition_place_ partition_blockOf_ partition_first_ partition_size_ partition_marked_ partition_touched_ partition_splitter_ partition_sourceStart_ partition_sources_ monoid_generators_ monoid_images_ monoid_slots_ automaton_tests_members_) (RO_X11_monoidSize__has cy o d d_now d_automaton d_partition d_monoid d_now_tests d_automaton_tests PT snapshotTaken_ inputLength_ now_letters_ now_tests_count_ now_tests_members_) (RW_X11_monoidSize__has cy o d d_now d_automaton d_partition d_monoid d_now_tests d_automaton_tests PT out.2.1 out.2.2.1 out.2.2.2.1 out.2.2.2.2.1 out.2.2.2.2.2.1 out.2.2.2.2.2.2.1 out.2.2.2.2.2.2.2.1 out.2.2.2.2.2.2.2.2.1 out.2.2.2.2.2.2.2.2.2.1 out.2.2.2.2.2.2.2.2.2.2.1 out.2.2.2.2.2.2.2.2.2.2.2.1 out.2.2.2.2.2.2.2.2.2.2.2.2.1 out.2.2.2.2.2.2.2.2.2.2.2.2.2.1 out.2.2.2.2.2.2.2.2.2.2.2.2.2.2.1 out.2.2.2.2.2.2.2.2.2.2.2.2.2.2.2.1 out.2.2.2.2.2.2.2.2.2.2.2.2.2.2.2.2.1 out.2.2.2.2.2.2.2.2.2.2.2.2.2.2.2.2.2.1 out.2.2.2.2.2.2.2.2.2.2.2.2.2.2.2.2.2.2.1 out.2.2.2.2.2.2.2.2.2.2.2.2.2.2.2.2.2.2.2.1 out.2.2.2.2.2.2.2.2.2.2.2.2.2.2.2.2.2.2.2.2.1 out.2.2.2.2.2.2.2.2.2.2.2.2.2.2.2.2.2.2.2.2.2.1 out.2.2.2.2.2.2.2.2.2.2.2.2.2.2.2.2.2.2.2.2.2.2.1 out.2.2.2.2.2.2.2.2.2.2.2.2.2.2.2.2.2.2.2.2.2.2.2.1 out.2.2.2.2.2.2.2.2.2.2.2.2.2.2.2.2.2.2.2.2.2.2.2.2.1 out.2.2.2.2.2.2.2.2.2.2.2.2.2.2.2.2.2.2.2.2.2.2.2.2.2.1 out.2.2.2.2.2.2.2.2.2.2.2.2.2.2.2.2.2.2.2.2.2.2.2.2.2.2.1 out.2.2.2.2.2.2.2.2.2.2.2.2.2.2.2.2.2.2.2.2.2.2.2.2.2.2.2.1 out.2.2.2.2.2.2.2.2.2.2.2.2.2.2.2.2.2.2.2.2.2.2.2.2.2.2.2.2.1 out.2.2.2.2.2.2.2.2.2.2.2.2.2.2.2.2.2.2.2.2.2.2.2.2.2.2.2.2.2) out.1 :=
  mk_i (ty := .int) (by decide) rfl rfl (Nat.le_of_ble_eq_true rfl) (fun p e s m args below meth c A Q X K H locs ls Z hl => wt_X11_monoidSize__has o d d_now d_automaton d_partition d_monoid d_now_tests d_automaton_tests PT tq snapshotTaken_ inputLength_ now_letters_ now_tests_count_ now_tests_members_ automaton_letters_ automaton_states_ partition_blocks_ partition_touchedCount_ monoid_count_ monoid_points_ automaton_tests_count_ automaton_next_ automaton_marks_ automaton_depth_ automaton_low_ automaton_high_ automaton_parent_ automaton_lastLetter_ automaton_slots_ partition_members_ partition_place_ partition_blockOf_ partition_first_ partition_size_ partition_marked_ partition_touched_ partition_splitter_ partition_sourceStart_ partition_sources_ monoid_generators_ monoid_images_ monoid_slots_ automaton_tests_members_ x1 out hT X h K H locs ls Z hl)
/-! SubwordCounter copyElements (IIIII)I -/
abbrev rm_X11_copyElements__self : Room := { frames := 1, cells := 0, slots := 0, locals := 26 }
def RW_X11_copyElements__self (cy : Nat → ClassId) (o : Nat) (q_rows_L1 : Nat) (d : Nat → Nat) (d_rows_L1 : Nat → Nat) (mono : Value) (rows_L1_elements_ : Nat → Int32) : va_W := [((d_rows_L1 2), aI cy 21 rows_L1_elements_)]
def RO_X11_copyElements__self (cy : Nat → ClassId) (o : Nat) (q_rows_L1 : Nat) (d : Nat → Nat) (d_rows_L1 : Nat → Nat) (mono : Value) (snapshotTaken_ : Int32) (inputLength_ : Int32) (rows_L1_type_ : Int32) (rows_L1_size_ : Int32) (rows_ : Nat → Option Nat) : va_W := [(o, ob 10 (oX11 d mono snapshotTaken_ inputLength_)), (q_rows_L1, ob 6 (oX6 d_rows_L1 rows_L1_type_ rows_L1_size_)), ((d 5), aR cy 3 3 rows_)]
theorem in_X11_copyElements__self_X11 : ∀ w ∈ u_ws RX11 TX11 12, w ∈ wsX11_copyElements := fun w h => (List.mem_cons_of_mem _ (List.mem_append_left _ (List.mem_append_right _ h)))
theorem lk_X11_copyElements__self_X11_rows : Lk wsX11_copyElements RX11 33 10 5 := ⟨RX11, TX11, 12, rfl, by decide, in_X11_copyElements__self_X11, mem_at 1 rfl⟩
theorem in_X11_copyElements__self_X6 : ∀ w ∈ u_ws RX6 TX6 3, w ∈ wsX11_copyElements := fun w h => (List.mem_cons_of_mem _ (List.mem_append_right _ h))
theorem lk_X11_copyElements__self_X6_type : Lk wsX11_copyElements RX11 287 6 0 := ⟨RX6, TX6, 3, rfl, by decide, in_X11_copyElements__self_X6, mem_at 2 rfl⟩
theorem lk_X11_copyElements__self_X6_elements : Lk wsX11_copyElements RX11 296 6 2 := ⟨RX6, TX6, 3, rfl, by decide, in_X11_copyElements__self_X6, mem_at 3 rfl⟩
theorem lc_X11_copyElements__self_303 : Lc wsX11_copyElements RX11 303 := ⟨mem_at 4 rfl, mem_at 5 rfl, mem_at 6 rfl, mem_at 7 rfl⟩
def f_X11_copyElements__self (x1 : Int32) (x2 : Int32) (x3 : Int32) (x4 : Int32) (x5 : Int32) (q_rows_L1 : Nat) (rows_L1_type_ : Int32) (rows_L1_size_ : Int32) (rows_ : Nat → Option Nat) (rows_L1_elements_ : Nat → Int32) : Option (Int32 × (Nat → Int32)) :=
  (f_X11_isRow x1).bind (fun u1 =>
  if u1 = 0 then
  (some ((-1 : Int32), rows_L1_elements_))
  else
  ((f_X11_isRow x3).bind (fun u3 =>
  if u3 = 0 then
  (some ((-1 : Int32), rows_L1_elements_))
  else
  (ldA rows_ 3 x1 (fun r6 =>
  asR r6 q_rows_L1 (
  ldA rows_ 3 x3 (fun r10 =>
  asR r10 q_rows_L1 (
  if rows_L1_type_ = (-1 : Int32) then
  (some ((-11 : Int32), rows_L1_elements_))
  else
  (if rows_L1_type_ = (-1 : Int32) then
  (some ((-11 : Int32), rows_L1_elements_))
  else
  (if rows_L1_type_ = rows_L1_type_ then
  ((f_X6_hasRange x2 x5 rows_L1_size_).bind (fun u13 =>
  if u13 = 0 then
  (some ((-13 : Int32), rows_L1_elements_))
  else
  ((f_X6_hasRange x4 x5 rows_L1_size_).bind (fun u15 =>
  if u15 = 0 then
  (some ((-13 : Int32), rows_L1_elements_))
  else
  (cpA rows_L1_elements_ rows_L1_elements_ 21 21 x2 x4 x5 (fun rows_L1_elements_17 =>
  some (x5, rows_L1_elements_17)))))))
  else
  (some ((-6 : Int32), rows_L1_elements_))))))))))))
set_option maxHeartbeats 4000000 in
set_option maxRecDepth 100000 in
theorem wt_X11_copyElements__self {p : Program} {l : Launch} {e : Env} {s : State} {m : MethodId} {args : Array Value} {below : List Frame} {meth : Method} {c : Code} {A : Nat → Prop} {Q : State → Prop} {D : va_G} {cy : Nat → ClassId} (o : Nat) (q_rows_L1 : Nat) (d : Nat → Nat) (d_rows_L1 : Nat → Nat) (mono : Value) (snapshotTaken_ : Int32) (inputLength_ : Int32) (rows_L1_type_ : Int32) (rows_L1_size_ : Int32) (rows_ : Nat → Option Nat) (rows_L1_elements_ : Nat → Int32) (x1 : Int32) (x2 : Int32) (x3 : Int32) (x4 : Int32) (x5 : Int32) (out : Int32 × (Nat → Int32)) (X : Cx p m c cX11_copyElements 8 s args wsX11_copyElements RX11 A D cy (RO_X11_copyElements__self cy o q_rows_L1 d d_rows_L1 mono snapshotTaken_ inputLength_ rows_L1_type_ rows_L1_size_ rows_)) (h : f_X11_copyElements__self x1 x2 x3 x4 x5 q_rows_L1 rows_L1_type_ rows_L1_size_ rows_ rows_L1_elements_ = some out) (K : ∀ (H : Heap) (locs : List Loc) (ls : Array Slot) (pc : Nat), decode cX11_copyElements pc = .ok (.ireturn, 1) → St A D s (RW_X11_copyElements__self cy o q_rows_L1 d d_rows_L1 mono out.2) H locs → W p l e rm_X11_copyElements__self s m args below meth c H locs 0 0 Q (F0 m pc ls [.int out.1])) : ∀ (H : Heap) (locs : List Loc) (ls : Array Slot), St A D s (RW_X11_copyElements__self cy o q_rows_L1 d d_rows_L1 mono rows_L1_elements_) H locs → lv_has ls 8 [(0, .ref o), (1, .int x1), (2, .int x2), (3, .int x3), (4, .int x4), (5, .int x5)] → W p l e rm_X11_copyElements__self s m args below meth c H locs 0 0 Q (F0 m 0 ls []) := by
  intro H locs ls Z hl
  have hx := X.1.1
  have hb := X.1.2.1
  unfold f_X11_copyElements__self at h
  refine lv_iload_n hx hb dX11_copyElements_0 rfl (lv_at hl 1 rfl) ?_
  obtain ⟨u1, hc2, h⟩ := ob_some h
  refine x_runSi (RW' := (RW_X11_copyElements__self cy o q_rows_L1 d d_rows_L1 mono rows_L1_elements_)) (wr := [((d_rows_L1 2), aI cy 21 rows_L1_elements_)]) (isC := []) (isR := [0]) (isF := [0]) (rest := []) (As := [.int x1]) (n := 1) X Z (c_X11_isRow l D cy x1 u1 hc2) gX11_copyElements_X11_isRow rfl (by decide +kernel) ⟨Nat.le_of_ble_eq_true rfl, Nat.le_of_ble_eq_true rfl⟩ ⟨rfl, rfl⟩ ⟨Nat.le_of_ble_eq_true rfl, Nat.le_of_ble_eq_true rfl⟩ ⟨rfl, rfl, roN, rfl, rfl, by decide⟩ ⟨rfl, rfl⟩ rfl hl.1 rfl (Nat.le_of_ble_eq_true rfl) dX11_copyElements_1 (fun H locs Z => ?_)
  refine lv_if_eq (tgt := 14) hx hb dX11_copyElements_4 (by decide) (fun cnd => ?_) (fun cnd => ?_)
  · replace h := ifp h cnd
    refine lv_iconst (v := (-1 : Int32)) hx hb dX11_copyElements_14 (by decide) ?_
    obtain rfl := Option.some.inj h
    exact K H locs ls _ dX11_copyElements_15 Z
  · replace h := ifn h cnd
    refine lv_iload_n hx hb dX11_copyElements_7 rfl (lv_at hl 3 rfl) ?_
    obtain ⟨u3, hc4, h⟩ := ob_some h
    refine x_runSi (RW' := (RW_X11_copyElements__self cy o q_rows_L1 d d_rows_L1 mono rows_L1_elements_)) (wr := [((d_rows_L1 2), aI cy 21 rows_L1_elements_)]) (isC := []) (isR := [0]) (isF := [0]) (rest := []) (As := [.int x3]) (n := 1) X Z (c_X11_isRow l D cy x3 u3 hc4) gX11_copyElements_X11_isRow rfl (by decide +kernel) ⟨Nat.le_of_ble_eq_true rfl, Nat.le_of_ble_eq_true rfl⟩ ⟨rfl, rfl⟩ ⟨Nat.le_of_ble_eq_true rfl, Nat.le_of_ble_eq_true rfl⟩ ⟨rfl, rfl, roN, rfl, rfl, by decide⟩ ⟨rfl, rfl⟩ rfl hl.1 rfl (Nat.le_of_ble_eq_true rfl) dX11_copyElements_8 (fun H locs Z => ?_)
    refine lv_if_ne (tgt := 16) hx hb dX11_copyElements_11 (by decide) (fun cnd => ?_) (fun cnd => ?_)
    · replace h := ifn h cnd
      refine lv_aload_n hx hb dX11_copyElements_16 rfl (lv_at hl 0 rfl) ?_
      refine x_getO X Z 0 5 (v := .ref (d 5)) rfl rfl lk_X11_copyElements__self_X11_rows dX11_copyElements_17 ?_
      refine lv_iload_n hx hb dX11_copyElements_20 rfl (lv_at hl 1 rfl) ?_
      obtain ⟨hin5, r6, hv7, h⟩ := ld_b h
      obtain ⟨ha8, h⟩ := as_b h
      refine x_raldO X Z 2 3 rfl rfl hin5 hv7 ha8 dX11_copyElements_21 ?_
      refine lv_astore (lv' := [(6, .ref q_rows_L1), (0, .ref o), (1, .int x1), (2, .int x2), (3, .int x3), (4, .int x4), (5, .int x5)]) hx hb dX11_copyElements_22 hl (by decide) rfl (fun ls hl => ?_)
      refine lv_aload_n hx hb dX11_copyElements_24 rfl (lv_at hl 1 rfl) ?_
      refine x_getO X Z 0 5 (v := .ref (d 5)) rfl rfl lk_X11_copyElements__self_X11_rows dX11_copyElements_25 ?_
      refine lv_iload_n hx hb dX11_copyElements_28 rfl (lv_at hl 4 rfl) ?_
      obtain ⟨hin9, r10, hv11, h⟩ := ld_b h
      obtain ⟨ha12, h⟩ := as_b h
      refine x_raldO X Z 2 3 rfl rfl hin9 hv11 ha12 dX11_copyElements_29 ?_
      refine lv_astore (lv' := [(7, .ref q_rows_L1), (6, .ref q_rows_L1), (0, .ref o), (1, .int x1), (2, .int x2), (3, .int x3), (4, .int x4), (5, .int x5)]) hx hb dX11_copyElements_30 hl (by decide) rfl (fun ls hl => ?_)
      refine lv_aload hx hb dX11_copyElements_32 (lv_at hl 1 rfl) ?_
      refine x_getO X Z 1 0 (v := .int rows_L1_type_) rfl rfl lk_X11_copyElements__self_X6_type dX11_copyElements_34 ?_
      refine lv_iconst (v := (-1 : Int32)) hx hb dX11_copyElements_37 (by decide) ?_
      refine lv_icmp_eq (tgt := 50) hx hb dX11_copyElements_38 (by decide) (fun cnd => ?_) (fun cnd => ?_)
      · replace h := ifp h cnd
        refine lv_bipush (v := (-11 : Int32)) hx hb dX11_copyElements_50 (by decide) ?_
        obtain rfl := Option.some.inj h
        exact K H locs ls _ dX11_copyElements_52 Z
      · replace h := ifn h cnd
        refine lv_aload hx hb dX11_copyElements_41 (lv_at hl 0 rfl) ?_
        refine x_getO X Z 1 0 (v := .int rows_L1_type_) rfl rfl lk_X11_copyElements__self_X6_type dX11_copyElements_43 ?_
        refine lv_iconst (v := (-1 : Int32)) hx hb dX11_copyElements_46 (by decide) ?_
        refine lv_icmp_ne (tgt := 53) hx hb dX11_copyElements_47 (by decide) (fun cnd => ?_) (fun cnd => ?_)
        · replace h := ifn h cnd
          refine lv_aload hx hb dX11_copyElements_53 (lv_at hl 1 rfl) ?_
          refine x_getO X Z 1 0 (v := .int rows_L1_type_) rfl rfl lk_X11_copyElements__self_X6_type dX11_copyElements_55 ?_
          refine lv_aload hx hb dX11_copyElements_58 (lv_at hl 0 rfl) ?_
          refine x_getO X Z 1 0 (v := .int rows_L1_type_) rfl rfl lk_X11_copyElements__self_X6_type dX11_copyElements_60 ?_
          refine lv_icmp_eq (tgt := 69) hx hb dX11_copyElements_63 (by decide) (fun cnd => ?_) (fun cnd => ?_)
          · replace h := ifp h cnd
            refine lv_aload hx hb dX11_copyElements_69 (lv_at hl 1 rfl) ?_
            refine lv_iload_n hx hb dX11_copyElements_71 rfl (lv_at hl 4 rfl) ?_
            refine lv_iload hx hb dX11_copyElements_72 (lv_at hl 7 rfl) ?_
            obtain ⟨u13, hc14, h⟩ := ob_some h
            refine x_runVi (RW' := (RW_X11_copyElements__self cy o q_rows_L1 d d_rows_L1 mono rows_L1_elements_)) (wr := [((d_rows_L1 2), aI cy 21 rows_L1_elements_)]) (isC := []) (isR := [0]) (isF := [0]) (rest := []) (As := [.int x2, .int x5]) (n := 2) X Z (c_X6_hasRange l D cy q_rows_L1 d_rows_L1 rows_L1_type_ rows_L1_size_ x2 x5 u13 hc14) gX11_copyElements_X6_hasRange rfl (by decide +kernel) ⟨Nat.le_of_ble_eq_true rfl, Nat.le_of_ble_eq_true rfl⟩ ⟨rfl, rfl⟩ ⟨Nat.le_of_ble_eq_true rfl, Nat.le_of_ble_eq_true rfl⟩ (x_rvO X Z 1 rfl rfl) ⟨rfl, rfl, (roC (Or.inr (mem_at 1 rfl)) roN), rfl, rfl, by decide⟩ ⟨rfl, rfl⟩ rfl hl.1 rfl (Nat.le_of_ble_eq_true rfl) dX11_copyElements_74 (fun H locs Z => ?_)
            refine lv_if_eq (tgt := 92) hx hb dX11_copyElements_77 (by decide) (fun cnd => ?_) (fun cnd => ?_)
            · replace h := ifp h cnd
              refine lv_bipush (v := (-13 : Int32)) hx hb dX11_copyElements_92 (by decide) ?_
              obtain rfl := Option.some.inj h
              exact K H locs ls _ dX11_copyElements_94 Z
            · replace h := ifn h cnd
              refine lv_aload hx hb dX11_copyElements_80 (lv_at hl 0 rfl) ?_
              refine lv_iload hx hb dX11_copyElements_82 (lv_at hl 6 rfl) ?_
              refine lv_iload hx hb dX11_copyElements_84 (lv_at hl 7 rfl) ?_
              obtain ⟨u15, hc16, h⟩ := ob_some h
              refine x_runVi (RW' := (RW_X11_copyElements__self cy o q_rows_L1 d d_rows_L1 mono rows_L1_elements_)) (wr := [((d_rows_L1 2), aI cy 21 rows_L1_elements_)]) (isC := []) (isR := [0]) (isF := [0]) (rest := []) (As := [.int x4, .int x5]) (n := 2) X Z (c_X6_hasRange l D cy q_rows_L1 d_rows_L1 rows_L1_type_ rows_L1_size_ x4 x5 u15 hc16) gX11_copyElements_X6_hasRange rfl (by decide +kernel) ⟨Nat.le_of_ble_eq_true rfl, Nat.le_of_ble_eq_true rfl⟩ ⟨rfl, rfl⟩ ⟨Nat.le_of_ble_eq_true rfl, Nat.le_of_ble_eq_true rfl⟩ (x_rvO X Z 1 rfl rfl) ⟨rfl, rfl, (roC (Or.inr (mem_at 1 rfl)) roN), rfl, rfl, by decide⟩ ⟨rfl, rfl⟩ rfl hl.1 rfl (Nat.le_of_ble_eq_true rfl) dX11_copyElements_86 (fun H locs Z => ?_)
              refine lv_if_ne (tgt := 95) hx hb dX11_copyElements_89 (by decide) (fun cnd => ?_) (fun cnd => ?_)
              · replace h := ifn h cnd
                refine lv_aload hx hb dX11_copyElements_95 (lv_at hl 1 rfl) ?_
                refine x_getO X Z 1 2 (v := .ref (d_rows_L1 2)) rfl rfl lk_X11_copyElements__self_X6_elements dX11_copyElements_97 ?_
                refine lv_iload_n hx hb dX11_copyElements_100 rfl (lv_at hl 4 rfl) ?_
                refine lv_aload hx hb dX11_copyElements_101 (lv_at hl 0 rfl) ?_
                refine x_getO X Z 1 2 (v := .ref (d_rows_L1 2)) rfl rfl lk_X11_copyElements__self_X6_elements dX11_copyElements_103 ?_
                refine lv_iload hx hb dX11_copyElements_106 (lv_at hl 6 rfl) ?_
                refine lv_iload hx hb dX11_copyElements_108 (lv_at hl 7 rfl) ?_
                obtain ⟨hcx19, rows_L1_elements_17, hv18, h⟩ := cp_b h
                refine x_cpyI X Z hl 0 0 (RW_X11_copyElements__self cy o q_rows_L1 d d_rows_L1 mono rows_L1_elements_17) lc_X11_copyElements__self_303 rfl rfl hcx19 hv18 rfl (Nat.le_of_ble_eq_true rfl) (Nat.le_of_ble_eq_true rfl) dX11_copyElements_110 (fun H locs Z => ?_)
                refine lv_iload hx hb dX11_copyElements_113 (lv_at hl 7 rfl) ?_
                obtain rfl := Option.some.inj h
                exact K H locs ls _ dX11_copyElements_115 Z
              · replace h := ifp h cnd
                refine lv_bipush (v := (-13 : Int32)) hx hb dX11_copyElements_92 (by decide) ?_
                obtain rfl := Option.some.inj h
                exact K H locs ls _ dX11_copyElements_94 Z
          · replace h := ifn h cnd
            refine lv_bipush (v := (-6 : Int32)) hx hb dX11_copyElements_66 (by decide) ?_
            obtain rfl := Option.some.inj h
            exact K H locs ls _ dX11_copyElements_68 Z
        · replace h := ifp h cnd
          refine lv_bipush (v := (-11 : Int32)) hx hb dX11_copyElements_50 (by decide) ?_
          obtain rfl := Option.some.inj h
          exact K H locs ls _ dX11_copyElements_52 Z
    · replace h := ifp h cnd
      refine lv_iconst (v := (-1 : Int32)) hx hb dX11_copyElements_14 (by decide) ?_
      obtain rfl := Option.some.inj h
      exact K H locs ls _ dX11_copyElements_15 Z
theorem c_X11_copyElements__self (l : Launch) (D : va_G) (cy : Nat → ClassId) (o : Nat) (q_rows_L1 : Nat) (d : Nat → Nat) (d_rows_L1 : Nat → Nat) (mono : Value) (snapshotTaken_ : Int32) (inputLength_ : Int32) (rows_L1_type_ : Int32) (rows_L1_size_ : Int32) (rows_ : Nat → Option Nat) (rows_L1_elements_ : Nat → Int32) (x1 : Int32) (x2 : Int32) (x3 : Int32) (x4 : Int32) (x5 : Int32) (out : Int32 × (Nat → Int32)) (h : f_X11_copyElements__self x1 x2 x3 x4 x5 q_rows_L1 rows_L1_type_ rows_L1_size_ rows_ rows_L1_elements_ = some out) : CtI l yX11_copyElements wsX11_copyElements rm_X11_copyElements__self D cy [.ref o, .int x1, .int x2, .int x3, .int x4, .int x5] (RW_X11_copyElements__self cy o q_rows_L1 d d_rows_L1 mono rows_L1_elements_) (RO_X11_copyElements__self cy o q_rows_L1 d d_rows_L1 mono snapshotTaken_ inputLength_ rows_L1_type_ rows_L1_size_ rows_) (RW_X11_copyElements__self cy o q_rows_L1 d d_rows_L1 mono out.2) out.1 :=
  mk_i (ty := .int) (by decide) rfl rfl (Nat.le_of_ble_eq_true rfl) (fun p e s m args below meth c A Q X K H locs ls Z hl => wt_X11_copyElements__self o q_rows_L1 d d_rows_L1 mono snapshotTaken_ inputLength_ rows_L1_type_ rows_L1_size_ rows_ rows_L1_elements_ x1 x2 x3 x4 x5 out X h K H locs ls Z hl)
/-! SubwordCounter form (I)I -/
abbrev rm_X11_form__e : Room := { frames := 1, cells := 0, slots := 0, locals := 20 }
def RW_X11_form__e (cy : Nat → ClassId) (o : Nat) (d : Nat → Nat) (d_now : Nat → Nat) (mono : Value)  : va_W := []
def RO_X11_form__e (cy : Nat → ClassId) (o : Nat) (d : Nat → Nat) (d_now : Nat → Nat) (mono : Value) (snapshotTaken_ : Int32) (inputLength_ : Int32) (now_letters_ : Int32) (now_languages_ : Nat → Option Nat) : va_W := [(o, ob 10 (oX11 d mono snapshotTaken_ inputLength_)), ((d 0), ob 5 (oX5 d_now now_letters_)), ((d_now 3), aR cy 2 4 now_languages_)]
theorem in_X11_form__e_X11 : ∀ w ∈ u_ws RX11 TX11 12, w ∈ wsX11_form := fun w h => (List.mem_cons_of_mem _ (List.mem_append_left _ (List.mem_append_left _ (List.mem_append_right _ h))))
theorem lk_X11_form__e_X11_now : Lk wsX11_form RX11 10 10 0 := ⟨RX11, TX11, 12, rfl, by decide, in_X11_form__e_X11, mem_at 1 rfl⟩
theorem in_X11_form__e_X5 : ∀ w ∈ u_ws RX5 TX5 4, w ∈ wsX11_form := fun w h => (List.mem_cons_of_mem _ (List.mem_append_left _ (List.mem_append_right _ h)))
theorem lk_X11_form__e_X5_languages : Lk wsX11_form RX11 232 5 3 := ⟨RX5, TX5, 4, rfl, by decide, in_X11_form__e_X5, mem_at 2 rfl⟩
def f_X11_form__e (x1 : Int32) (now_languages_ : Nat → Option Nat) : Option (Int32) :=
  (f_X11_isLanguage x1).bind (fun u1 =>
  if u1 = 0 then
  (some (-1 : Int32))
  else
  (ldA now_languages_ 4 x1 (fun r4 =>
  nlA r4 (
  some (-5 : Int32)) (
  none))))
set_option maxHeartbeats 4000000 in
set_option maxRecDepth 100000 in
theorem wt_X11_form__e {p : Program} {l : Launch} {e : Env} {s : State} {m : MethodId} {args : Array Value} {below : List Frame} {meth : Method} {c : Code} {A : Nat → Prop} {Q : State → Prop} {D : va_G} {cy : Nat → ClassId} (o : Nat) (d : Nat → Nat) (d_now : Nat → Nat) (mono : Value) (snapshotTaken_ : Int32) (inputLength_ : Int32) (now_letters_ : Int32) (now_languages_ : Nat → Option Nat)  (x1 : Int32) (out : Int32) (X : Cx p m c cX11_form 3 s args wsX11_form RX11 A D cy (RO_X11_form__e cy o d d_now mono snapshotTaken_ inputLength_ now_letters_ now_languages_)) (h : f_X11_form__e x1 now_languages_ = some out) (K : ∀ (H : Heap) (locs : List Loc) (ls : Array Slot) (pc : Nat), decode cX11_form pc = .ok (.ireturn, 1) → St A D s (RW_X11_form__e cy o d d_now mono) H locs → W p l e rm_X11_form__e s m args below meth c H locs 0 0 Q (F0 m pc ls [.int out])) : ∀ (H : Heap) (locs : List Loc) (ls : Array Slot), St A D s (RW_X11_form__e cy o d d_now mono) H locs → lv_has ls 3 [(0, .ref o), (1, .int x1)] → W p l e rm_X11_form__e s m args below meth c H locs 0 0 Q (F0 m 0 ls []) := by
  intro H locs ls Z hl
  have hx := X.1.1
  have hb := X.1.2.1
  unfold f_X11_form__e at h
  refine lv_iload_n hx hb dX11_form_0 rfl (lv_at hl 1 rfl) ?_
  obtain ⟨u1, hc2, h⟩ := ob_some h
  refine x_runSi (RW' := (RW_X11_form__e cy o d d_now mono)) (wr := []) (isC := []) (isR := []) (isF := []) (rest := []) (As := [.int x1]) (n := 1) X Z (c_X11_isLanguage l D cy x1 u1 hc2) gX11_form_X11_isLanguage rfl (by decide +kernel) ⟨Nat.le_of_ble_eq_true rfl, Nat.le_of_ble_eq_true rfl⟩ ⟨rfl, rfl⟩ ⟨Nat.le_of_ble_eq_true rfl, Nat.le_of_ble_eq_true rfl⟩ ⟨rfl, rfl, roN, rfl, rfl, by decide⟩ ⟨rfl, rfl⟩ rfl hl.1 rfl (Nat.le_of_ble_eq_true rfl) dX11_form_1 (fun H locs Z => ?_)
  refine lv_if_ne (tgt := 9) hx hb dX11_form_4 (by decide) (fun cnd => ?_) (fun cnd => ?_)
  · replace h := ifn h cnd
    refine lv_aload_n hx hb dX11_form_9 rfl (lv_at hl 0 rfl) ?_
    refine x_getO X Z 0 0 (v := .ref (d 0)) rfl rfl lk_X11_form__e_X11_now dX11_form_10 ?_
    refine x_getO X Z 1 3 (v := .ref (d_now 3)) rfl rfl lk_X11_form__e_X5_languages dX11_form_13 ?_
    refine lv_iload_n hx hb dX11_form_16 rfl (lv_at hl 1 rfl) ?_
    obtain ⟨hin3, r4, hv5, h⟩ := ld_b h
    refine x_raldqO X Z 2 2 rfl rfl hin3 hv5 dX11_form_17 (fun hr6 => ?_) (fun b7 hr6 => ?_)
    · replace h := nl_n h hr6
      refine lv_astore_nN (lv' := [(2, .null), (0, .ref o), (1, .int x1)]) hx hb dX11_form_18 rfl hl (by decide) rfl (fun ls hl => ?_)
      refine lv_aload_nN hx hb dX11_form_19 rfl (lv_at hl 0 rfl) ?_
      refine lv_ifnonnullN hx hb dX11_form_20 ?_
      refine lv_bipush (v := (-5 : Int32)) hx hb dX11_form_23 (by decide) ?_
      refine lv_goto (tgt := 32) hx hb dX11_form_25 (by decide) ?_
      obtain rfl := Option.some.inj h
      exact K H locs ls _ dX11_form_32 Z
    · replace h := nl_s h hr6
      refine lv_astore_n (lv' := [(2, .ref b7), (0, .ref o), (1, .int x1)]) hx hb dX11_form_18 rfl hl (by decide) rfl (fun ls hl => ?_)
      refine lv_aload_n hx hb dX11_form_19 rfl (lv_at hl 0 rfl) ?_
      refine lv_ifnonnull (tgt := 28) hx hb dX11_form_20 (by decide) ?_
      refine lv_aload_n hx hb dX11_form_28 rfl (lv_at hl 0 rfl) ?_
      cases h
  · replace h := ifp h cnd
    refine lv_iconst (v := (-1 : Int32)) hx hb dX11_form_7 (by decide) ?_
    obtain rfl := Option.some.inj h
    exact K H locs ls _ dX11_form_8 Z
theorem c_X11_form__e (l : Launch) (D : va_G) (cy : Nat → ClassId) (o : Nat) (d : Nat → Nat) (d_now : Nat → Nat) (mono : Value) (snapshotTaken_ : Int32) (inputLength_ : Int32) (now_letters_ : Int32) (now_languages_ : Nat → Option Nat)  (x1 : Int32) (out : Int32) (h : f_X11_form__e x1 now_languages_ = some out) : CtI l yX11_form wsX11_form rm_X11_form__e D cy [.ref o, .int x1] (RW_X11_form__e cy o d d_now mono) (RO_X11_form__e cy o d d_now mono snapshotTaken_ inputLength_ now_letters_ now_languages_) (RW_X11_form__e cy o d d_now mono) out :=
  mk_i (ty := .int) (by decide) rfl rfl (Nat.le_of_ble_eq_true rfl) (fun p e s m args below meth c A Q X K H locs ls Z hl => wt_X11_form__e o d d_now mono snapshotTaken_ inputLength_ now_letters_ now_languages_ x1 out X h K H locs ls Z hl)
/-! SubwordCounter contains (II)I -/
abbrev rm_X11_contains__e : Room := { frames := 1, cells := 0, slots := 0, locals := 20 }
def RW_X11_contains__e (cy : Nat → ClassId) (o : Nat) (d : Nat → Nat) (d_now : Nat → Nat) (mono : Value)  : va_W := []
def RO_X11_contains__e (cy : Nat → ClassId) (o : Nat) (d : Nat → Nat) (d_now : Nat → Nat) (mono : Value) (snapshotTaken_ : Int32) (inputLength_ : Int32) (now_letters_ : Int32) (now_words_ : Nat → Option Nat) (now_languages_ : Nat → Option Nat) : va_W := [(o, ob 10 (oX11 d mono snapshotTaken_ inputLength_)), ((d 0), ob 5 (oX5 d_now now_letters_)), ((d_now 1), aR cy 5 3 now_words_), ((d_now 3), aR cy 2 4 now_languages_)]
theorem in_X11_contains__e_X11 : ∀ w ∈ u_ws RX11 TX11 12, w ∈ wsX11_contains := fun w h => (List.mem_cons_of_mem _ (List.mem_append_left _ (List.mem_append_left _ (List.mem_append_left _ (List.mem_append_left _ (List.mem_append_right _ h))))))
theorem lk_X11_contains__e_X11_now : Lk wsX11_contains RX11 10 10 0 := ⟨RX11, TX11, 12, rfl, by decide, in_X11_contains__e_X11, mem_at 1 rfl⟩
theorem in_X11_contains__e_X5 : ∀ w ∈ u_ws RX5 TX5 4, w ∈ wsX11_contains := fun w h => (List.mem_cons_of_mem _ (List.mem_append_left _ (List.mem_append_left _ (List.mem_append_left _ (List.mem_append_right _ h)))))
theorem lk_X11_contains__e_X5_languages : Lk wsX11_contains RX11 232 5 3 := ⟨RX5, TX5, 4, rfl, by decide, in_X11_contains__e_X5, mem_at 2 rfl⟩
theorem lk_X11_contains__e_X5_words : Lk wsX11_contains RX11 85 5 1 := ⟨RX5, TX5, 4, rfl, by decide, in_X11_contains__e_X5, mem_at 3 rfl⟩
def f_X11_contains__e (x1 : Int32) (x2 : Int32) (now_words_ : Nat → Option Nat) (now_languages_ : Nat → Option Nat) : Option (Int32) :=
  (f_X11_isLanguage x1).bind (fun u1 =>
  if u1 = 0 then
  (some (-1 : Int32))
  else
  ((f_X11_isWord x2).bind (fun u3 =>
  if u3 = 0 then
  (some (-1 : Int32))
  else
  (ldA now_languages_ 4 x1 (fun r6 =>
  nlA r6 (
  some (-5 : Int32)) (
  ldA now_words_ 3 x2 (fun r11 =>
  r11.bind (fun a13 =>
  none))))))))
set_option maxHeartbeats 4000000 in
set_option maxRecDepth 100000 in
theorem wt_X11_contains__e {p : Program} {l : Launch} {e : Env} {s : State} {m : MethodId} {args : Array Value} {below : List Frame} {meth : Method} {c : Code} {A : Nat → Prop} {Q : State → Prop} {D : va_G} {cy : Nat → ClassId} (o : Nat) (d : Nat → Nat) (d_now : Nat → Nat) (mono : Value) (snapshotTaken_ : Int32) (inputLength_ : Int32) (now_letters_ : Int32) (now_words_ : Nat → Option Nat) (now_languages_ : Nat → Option Nat)  (x1 : Int32) (x2 : Int32) (out : Int32) (X : Cx p m c cX11_contains 4 s args wsX11_contains RX11 A D cy (RO_X11_contains__e cy o d d_now mono snapshotTaken_ inputLength_ now_letters_ now_words_ now_languages_)) (h : f_X11_contains__e x1 x2 now_words_ now_languages_ = some out) (K : ∀ (H : Heap) (locs : List Loc) (ls : Array Slot) (pc : Nat), decode cX11_contains pc = .ok (.ireturn, 1) → St A D s (RW_X11_contains__e cy o d d_now mono) H locs → W p l e rm_X11_contains__e s m args below meth c H locs 0 0 Q (F0 m pc ls [.int out])) : ∀ (H : Heap) (locs : List Loc) (ls : Array Slot), St A D s (RW_X11_contains__e cy o d d_now mono) H locs → lv_has ls 4 [(0, .ref o), (1, .int x1), (2, .int x2)] → W p l e rm_X11_contains__e s m args below meth c H locs 0 0 Q (F0 m 0 ls []) := by
  intro H locs ls Z hl
  have hx := X.1.1
  have hb := X.1.2.1
  unfold f_X11_contains__e at h
  refine lv_iload_n hx hb dX11_contains_0 rfl (lv_at hl 1 rfl) ?_
  obtain ⟨u1, hc2, h⟩ := ob_some h
  refine x_runSi (RW' := (RW_X11_contains__e cy o d d_now mono)) (wr := []) (isC := []) (isR := []) (isF := []) (rest := []) (As := [.int x1]) (n := 1) X Z (c_X11_isLanguage l D cy x1 u1 hc2) gX11_contains_X11_isLanguage rfl (by decide +kernel) ⟨Nat.le_of_ble_eq_true rfl, Nat.le_of_ble_eq_true rfl⟩ ⟨rfl, rfl⟩ ⟨Nat.le_of_ble_eq_true rfl, Nat.le_of_ble_eq_true rfl⟩ ⟨rfl, rfl, roN, rfl, rfl, by decide⟩ ⟨rfl, rfl⟩ rfl hl.1 rfl (Nat.le_of_ble_eq_true rfl) dX11_contains_1 (fun H locs Z => ?_)
  refine lv_if_eq (tgt := 14) hx hb dX11_contains_4 (by decide) (fun cnd => ?_) (fun cnd => ?_)
  · replace h := ifp h cnd
    refine lv_iconst (v := (-1 : Int32)) hx hb dX11_contains_14 (by decide) ?_
    obtain rfl := Option.some.inj h
    exact K H locs ls _ dX11_contains_15 Z
  · replace h := ifn h cnd
    refine lv_iload_n hx hb dX11_contains_7 rfl (lv_at hl 2 rfl) ?_
    obtain ⟨u3, hc4, h⟩ := ob_some h
    refine x_runSi (RW' := (RW_X11_contains__e cy o d d_now mono)) (wr := []) (isC := []) (isR := []) (isF := []) (rest := []) (As := [.int x2]) (n := 1) X Z (c_X11_isWord l D cy x2 u3 hc4) gX11_contains_X11_isWord rfl (by decide +kernel) ⟨Nat.le_of_ble_eq_true rfl, Nat.le_of_ble_eq_true rfl⟩ ⟨rfl, rfl⟩ ⟨Nat.le_of_ble_eq_true rfl, Nat.le_of_ble_eq_true rfl⟩ ⟨rfl, rfl, roN, rfl, rfl, by decide⟩ ⟨rfl, rfl⟩ rfl hl.1 rfl (Nat.le_of_ble_eq_true rfl) dX11_contains_8 (fun H locs Z => ?_)
    refine lv_if_ne (tgt := 16) hx hb dX11_contains_11 (by decide) (fun cnd => ?_) (fun cnd => ?_)
    · replace h := ifn h cnd
      refine lv_aload_n hx hb dX11_contains_16 rfl (lv_at hl 0 rfl) ?_
      refine x_getO X Z 0 0 (v := .ref (d 0)) rfl rfl lk_X11_contains__e_X11_now dX11_contains_17 ?_
      refine x_getO X Z 1 3 (v := .ref (d_now 3)) rfl rfl lk_X11_contains__e_X5_languages dX11_contains_20 ?_
      refine lv_iload_n hx hb dX11_contains_23 rfl (lv_at hl 1 rfl) ?_
      obtain ⟨hin5, r6, hv7, h⟩ := ld_b h
      refine x_raldqO X Z 3 2 rfl rfl hin5 hv7 dX11_contains_24 (fun hr8 => ?_) (fun b9 hr8 => ?_)
      · replace h := nl_n h hr8
        refine lv_astore_nN (lv' := [(3, .null), (0, .ref o), (1, .int x1), (2, .int x2)]) hx hb dX11_contains_25 rfl hl (by decide) rfl (fun ls hl => ?_)
        refine lv_aload_nN hx hb dX11_contains_26 rfl (lv_at hl 0 rfl) ?_
        refine lv_ifnonnullN hx hb dX11_contains_27 ?_
        refine lv_bipush (v := (-5 : Int32)) hx hb dX11_contains_30 (by decide) ?_
        obtain rfl := Option.some.inj h
        exact K H locs ls _ dX11_contains_32 Z
      · replace h := nl_s h hr8
        refine lv_astore_n (lv' := [(3, .ref b9), (0, .ref o), (1, .int x1), (2, .int x2)]) hx hb dX11_contains_25 rfl hl (by decide) rfl (fun ls hl => ?_)
        refine lv_aload_n hx hb dX11_contains_26 rfl (lv_at hl 0 rfl) ?_
        refine lv_ifnonnull (tgt := 33) hx hb dX11_contains_27 (by decide) ?_
        refine lv_aload_n hx hb dX11_contains_33 rfl (lv_at hl 0 rfl) ?_
        refine lv_aload_n hx hb dX11_contains_34 rfl (lv_at hl 1 rfl) ?_
        refine x_getO X Z 0 0 (v := .ref (d 0)) rfl rfl lk_X11_contains__e_X11_now dX11_contains_35 ?_
        refine x_getO X Z 1 1 (v := .ref (d_now 1)) rfl rfl lk_X11_contains__e_X5_words dX11_contains_38 ?_
        refine lv_iload_n hx hb dX11_contains_41 rfl (lv_at hl 3 rfl) ?_
        obtain ⟨hin10, r11, hv12, h⟩ := ld_b h
        obtain ⟨a13, hr14, h⟩ := ob_some h
        refine x_raldO X Z 2 5 rfl rfl hin10 hv12 hr14 dX11_contains_42 ?_
        cases h
    · replace h := ifp h cnd
      refine lv_iconst (v := (-1 : Int32)) hx hb dX11_contains_14 (by decide) ?_
      obtain rfl := Option.some.inj h
      exact K H locs ls _ dX11_contains_15 Z
theorem c_X11_contains__e (l : Launch) (D : va_G) (cy : Nat → ClassId) (o : Nat) (d : Nat → Nat) (d_now : Nat → Nat) (mono : Value) (snapshotTaken_ : Int32) (inputLength_ : Int32) (now_letters_ : Int32) (now_words_ : Nat → Option Nat) (now_languages_ : Nat → Option Nat)  (x1 : Int32) (x2 : Int32) (out : Int32) (h : f_X11_contains__e x1 x2 now_words_ now_languages_ = some out) : CtI l yX11_contains wsX11_contains rm_X11_contains__e D cy [.ref o, .int x1, .int x2] (RW_X11_contains__e cy o d d_now mono) (RO_X11_contains__e cy o d d_now mono snapshotTaken_ inputLength_ now_letters_ now_words_ now_languages_) (RW_X11_contains__e cy o d d_now mono) out :=
  mk_i (ty := .int) (by decide) rfl rfl (Nat.le_of_ble_eq_true rfl) (fun p e s m args below meth c A Q X K H locs ls Z hl => wt_X11_contains__e o d d_now mono snapshotTaken_ inputLength_ now_letters_ now_words_ now_languages_ x1 x2 out X h K H locs ls Z hl)
/-! SubwordCounter languageStates (I)I -/
abbrev rm_X11_languageStates__e : Room := { frames := 1, cells := 0, slots := 0, locals := 20 }
def RW_X11_languageStates__e (cy : Nat → ClassId) (o : Nat) (d : Nat → Nat) (d_now : Nat → Nat) (mono : Value)  : va_W := []
def RO_X11_languageStates__e (cy : Nat → ClassId) (o : Nat) (d : Nat → Nat) (d_now : Nat → Nat) (mono : Value) (snapshotTaken_ : Int32) (inputLength_ : Int32) (now_letters_ : Int32) (now_languages_ : Nat → Option Nat) : va_W := [(o, ob 10 (oX11 d mono snapshotTaken_ inputLength_)), ((d 0), ob 5 (oX5 d_now now_letters_)), ((d_now 3), aR cy 2 4 now_languages_)]
theorem in_X11_languageStates__e_X11 : ∀ w ∈ u_ws RX11 TX11 12, w ∈ wsX11_languageStates := fun w h => (List.mem_cons_of_mem _ (List.mem_append_left _ (List.mem_append_left _ (List.mem_append_left _ (List.mem_append_left _ (List.mem_append_left _ (List.mem_append_left _ (List.mem_append_right _ h))))))))
theorem lk_X11_languageStates__e_X11_now : Lk wsX11_languageStates RX11 10 10 0 := ⟨RX11, TX11, 12, rfl, by decide, in_X11_languageStates__e_X11, mem_at 1 rfl⟩
theorem in_X11_languageStates__e_X5 : ∀ w ∈ u_ws RX5 TX5 4, w ∈ wsX11_languageStates := fun w h => (List.mem_cons_of_mem _ (List.mem_append_left _ (List.mem_append_left _ (List.mem_append_left _ (List.mem_append_left _ (List.mem_append_left _ (List.mem_append_right _ h)))))))
theorem lk_X11_languageStates__e_X5_languages : Lk wsX11_languageStates RX11 232 5 3 := ⟨RX5, TX5, 4, rfl, by decide, in_X11_languageStates__e_X5, mem_at 2 rfl⟩
def f_X11_languageStates__e (x1 : Int32) (now_languages_ : Nat → Option Nat) : Option (Int32) :=
  (f_X11_isLanguage x1).bind (fun u1 =>
  if u1 = 0 then
  (some (-1 : Int32))
  else
  (ldA now_languages_ 4 x1 (fun r4 =>
  nlA r4 (
  some (-5 : Int32)) (
  none))))
set_option maxHeartbeats 4000000 in
set_option maxRecDepth 100000 in
theorem wt_X11_languageStates__e {p : Program} {l : Launch} {e : Env} {s : State} {m : MethodId} {args : Array Value} {below : List Frame} {meth : Method} {c : Code} {A : Nat → Prop} {Q : State → Prop} {D : va_G} {cy : Nat → ClassId} (o : Nat) (d : Nat → Nat) (d_now : Nat → Nat) (mono : Value) (snapshotTaken_ : Int32) (inputLength_ : Int32) (now_letters_ : Int32) (now_languages_ : Nat → Option Nat)  (x1 : Int32) (out : Int32) (X : Cx p m c cX11_languageStates 3 s args wsX11_languageStates RX11 A D cy (RO_X11_languageStates__e cy o d d_now mono snapshotTaken_ inputLength_ now_letters_ now_languages_)) (h : f_X11_languageStates__e x1 now_languages_ = some out) (K : ∀ (H : Heap) (locs : List Loc) (ls : Array Slot) (pc : Nat), decode cX11_languageStates pc = .ok (.ireturn, 1) → St A D s (RW_X11_languageStates__e cy o d d_now mono) H locs → W p l e rm_X11_languageStates__e s m args below meth c H locs 0 0 Q (F0 m pc ls [.int out])) : ∀ (H : Heap) (locs : List Loc) (ls : Array Slot), St A D s (RW_X11_languageStates__e cy o d d_now mono) H locs → lv_has ls 3 [(0, .ref o), (1, .int x1)] → W p l e rm_X11_languageStates__e s m args below meth c H locs 0 0 Q (F0 m 0 ls []) := by
  intro H locs ls Z hl
  have hx := X.1.1
  have hb := X.1.2.1
  unfold f_X11_languageStates__e at h
  refine lv_iload_n hx hb dX11_languageStates_0 rfl (lv_at hl 1 rfl) ?_
  obtain ⟨u1, hc2, h⟩ := ob_some h
  refine x_runSi (RW' := (RW_X11_languageStates__e cy o d d_now mono)) (wr := []) (isC := []) (isR := []) (isF := []) (rest := []) (As := [.int x1]) (n := 1) X Z (c_X11_isLanguage l D cy x1 u1 hc2) gX11_languageStates_X11_isLanguage rfl (by decide +kernel) ⟨Nat.le_of_ble_eq_true rfl, Nat.le_of_ble_eq_true rfl⟩ ⟨rfl, rfl⟩ ⟨Nat.le_of_ble_eq_true rfl, Nat.le_of_ble_eq_true rfl⟩ ⟨rfl, rfl, roN, rfl, rfl, by decide⟩ ⟨rfl, rfl⟩ rfl hl.1 rfl (Nat.le_of_ble_eq_true rfl) dX11_languageStates_1 (fun H locs Z => ?_)
  refine lv_if_ne (tgt := 9) hx hb dX11_languageStates_4 (by decide) (fun cnd => ?_) (fun cnd => ?_)
  · replace h := ifn h cnd
    refine lv_aload_n hx hb dX11_languageStates_9 rfl (lv_at hl 0 rfl) ?_
    refine x_getO X Z 0 0 (v := .ref (d 0)) rfl rfl lk_X11_languageStates__e_X11_now dX11_languageStates_10 ?_
    refine x_getO X Z 1 3 (v := .ref (d_now 3)) rfl rfl lk_X11_languageStates__e_X5_languages dX11_languageStates_13 ?_
    refine lv_iload_n hx hb dX11_languageStates_16 rfl (lv_at hl 1 rfl) ?_
    obtain ⟨hin3, r4, hv5, h⟩ := ld_b h
    refine x_raldqO X Z 2 2 rfl rfl hin3 hv5 dX11_languageStates_17 (fun hr6 => ?_) (fun b7 hr6 => ?_)
    · replace h := nl_n h hr6
      refine lv_astore_nN (lv' := [(2, .null), (0, .ref o), (1, .int x1)]) hx hb dX11_languageStates_18 rfl hl (by decide) rfl (fun ls hl => ?_)
      refine lv_aload_nN hx hb dX11_languageStates_19 rfl (lv_at hl 0 rfl) ?_
      refine lv_ifnonnullN hx hb dX11_languageStates_20 ?_
      refine lv_bipush (v := (-5 : Int32)) hx hb dX11_languageStates_23 (by decide) ?_
      obtain rfl := Option.some.inj h
      exact K H locs ls _ dX11_languageStates_25 Z
    · replace h := nl_s h hr6
      refine lv_astore_n (lv' := [(2, .ref b7), (0, .ref o), (1, .int x1)]) hx hb dX11_languageStates_18 rfl hl (by decide) rfl (fun ls hl => ?_)
      refine lv_aload_n hx hb dX11_languageStates_19 rfl (lv_at hl 0 rfl) ?_
      refine lv_ifnonnull (tgt := 26) hx hb dX11_languageStates_20 (by decide) ?_
      refine lv_aload_n hx hb dX11_languageStates_26 rfl (lv_at hl 1 rfl) ?_
      refine lv_aload_n hx hb dX11_languageStates_27 rfl (lv_at hl 0 rfl) ?_
      cases h
  · replace h := ifp h cnd
    refine lv_iconst (v := (-1 : Int32)) hx hb dX11_languageStates_7 (by decide) ?_
    obtain rfl := Option.some.inj h
    exact K H locs ls _ dX11_languageStates_8 Z
theorem c_X11_languageStates__e (l : Launch) (D : va_G) (cy : Nat → ClassId) (o : Nat) (d : Nat → Nat) (d_now : Nat → Nat) (mono : Value) (snapshotTaken_ : Int32) (inputLength_ : Int32) (now_letters_ : Int32) (now_languages_ : Nat → Option Nat)  (x1 : Int32) (out : Int32) (h : f_X11_languageStates__e x1 now_languages_ = some out) : CtI l yX11_languageStates wsX11_languageStates rm_X11_languageStates__e D cy [.ref o, .int x1] (RW_X11_languageStates__e cy o d d_now mono) (RO_X11_languageStates__e cy o d d_now mono snapshotTaken_ inputLength_ now_letters_ now_languages_) (RW_X11_languageStates__e cy o d d_now mono) out :=
  mk_i (ty := .int) (by decide) rfl rfl (Nat.le_of_ble_eq_true rfl) (fun p e s m args below meth c A Q X K H locs ls Z hl => wt_X11_languageStates__e o d d_now mono snapshotTaken_ inputLength_ now_letters_ now_languages_ x1 out X h K H locs ls Z hl)
/-! SubwordCounter countWords (II)J -/
abbrev rm_X11_countWords__e : Room := { frames := 1, cells := 0, slots := 0, locals := 20 }
def RW_X11_countWords__e (cy : Nat → ClassId) (o : Nat) (d : Nat → Nat) (d_now : Nat → Nat) (mono : Value)  : va_W := []
def RO_X11_countWords__e (cy : Nat → ClassId) (o : Nat) (d : Nat → Nat) (d_now : Nat → Nat) (mono : Value) (snapshotTaken_ : Int32) (inputLength_ : Int32) (now_letters_ : Int32) (now_languages_ : Nat → Option Nat) : va_W := [(o, ob 10 (oX11 d mono snapshotTaken_ inputLength_)), ((d 0), ob 5 (oX5 d_now now_letters_)), ((d_now 3), aR cy 2 4 now_languages_)]
theorem in_X11_countWords__e_X11 : ∀ w ∈ u_ws RX11 TX11 12, w ∈ wsX11_countWords := fun w h => (List.mem_cons_of_mem _ (List.mem_append_left _ (List.mem_append_left _ (List.mem_append_left _ (List.mem_append_left _ (List.mem_append_left _ (List.mem_append_right _ h)))))))
theorem lk_X11_countWords__e_X11_now : Lk wsX11_countWords RX11 10 10 0 := ⟨RX11, TX11, 12, rfl, by decide, in_X11_countWords__e_X11, mem_at 2 rfl⟩
theorem in_X11_countWords__e_X5 : ∀ w ∈ u_ws RX5 TX5 4, w ∈ wsX11_countWords := fun w h => (List.mem_cons_of_mem _ (List.mem_append_left _ (List.mem_append_left _ (List.mem_append_left _ (List.mem_append_left _ (List.mem_append_right _ h))))))
theorem lk_X11_countWords__e_X5_languages : Lk wsX11_countWords RX11 232 5 3 := ⟨RX5, TX5, 4, rfl, by decide, in_X11_countWords__e_X5, mem_at 3 rfl⟩
def f_X11_countWords__e (x1 : Int32) (x2 : Int32) (now_languages_ : Nat → Option Nat) : Option (Int64) :=
  (f_X11_isLanguage x1).bind (fun u1 =>
  if u1 = 0 then
  (some (-1 : Int64))
  else
  (if x2 < 0 then
  (some (-1 : Int64))
  else
  (if x2 ≤ (20 : Int32) then
  (ldA now_languages_ 4 x1 (fun r4 =>
  nlA r4 (
  some (-5 : Int64)) (
  none)))
  else
  (some (-1 : Int64)))))
set_option maxHeartbeats 4000000 in
set_option maxRecDepth 100000 in
theorem wt_X11_countWords__e {p : Program} {l : Launch} {e : Env} {s : State} {m : MethodId} {args : Array Value} {below : List Frame} {meth : Method} {c : Code} {A : Nat → Prop} {Q : State → Prop} {D : va_G} {cy : Nat → ClassId} (o : Nat) (d : Nat → Nat) (d_now : Nat → Nat) (mono : Value) (snapshotTaken_ : Int32) (inputLength_ : Int32) (now_letters_ : Int32) (now_languages_ : Nat → Option Nat)  (x1 : Int32) (x2 : Int32) (out : Int64) (X : Cx p m c cX11_countWords 4 s args wsX11_countWords RX11 A D cy (RO_X11_countWords__e cy o d d_now mono snapshotTaken_ inputLength_ now_letters_ now_languages_)) (h : f_X11_countWords__e x1 x2 now_languages_ = some out) (K : ∀ (H : Heap) (locs : List Loc) (ls : Array Slot) (pc : Nat), decode cX11_countWords pc = .ok (.lreturn, 1) → St A D s (RW_X11_countWords__e cy o d d_now mono) H locs → W p l e rm_X11_countWords__e s m args below meth c H locs 0 0 Q (F0 m pc ls [.long out])) : ∀ (H : Heap) (locs : List Loc) (ls : Array Slot), St A D s (RW_X11_countWords__e cy o d d_now mono) H locs → lv_has ls 4 [(0, .ref o), (1, .int x1), (2, .int x2)] → W p l e rm_X11_countWords__e s m args below meth c H locs 0 0 Q (F0 m 0 ls []) := by
  intro H locs ls Z hl
  have hx := X.1.1
  have hb := X.1.2.1
  unfold f_X11_countWords__e at h
  refine lv_iload_n hx hb dX11_countWords_0 rfl (lv_at hl 1 rfl) ?_
  obtain ⟨u1, hc2, h⟩ := ob_some h
  refine x_runSi (RW' := (RW_X11_countWords__e cy o d d_now mono)) (wr := []) (isC := []) (isR := []) (isF := []) (rest := []) (As := [.int x1]) (n := 1) X Z (c_X11_isLanguage l D cy x1 u1 hc2) gX11_countWords_X11_isLanguage rfl (by decide +kernel) ⟨Nat.le_of_ble_eq_true rfl, Nat.le_of_ble_eq_true rfl⟩ ⟨rfl, rfl⟩ ⟨Nat.le_of_ble_eq_true rfl, Nat.le_of_ble_eq_true rfl⟩ ⟨rfl, rfl, roN, rfl, rfl, by decide⟩ ⟨rfl, rfl⟩ rfl hl.1 rfl (Nat.le_of_ble_eq_true rfl) dX11_countWords_1 (fun H locs Z => ?_)
  refine lv_if_eq (tgt := 17) hx hb dX11_countWords_4 (by decide) (fun cnd => ?_) (fun cnd => ?_)
  · replace h := ifp h cnd
    refine lv_ldc2 (v := (-1 : Int64)) hx hb X.1.2.2.2.1 (X.1.2.2.2.2 _ (mem_at 1 rfl)) dX11_countWords_17 ?_
    obtain rfl := Option.some.inj h
    exact K H locs ls _ dX11_countWords_20 Z
  · replace h := ifn h cnd
    refine lv_iload_n hx hb dX11_countWords_7 rfl (lv_at hl 2 rfl) ?_
    refine lv_if_lt (tgt := 17) hx hb dX11_countWords_8 (by decide) (fun cnd => ?_) (fun cnd => ?_)
    · replace h := ifp h cnd
      refine lv_ldc2 (v := (-1 : Int64)) hx hb X.1.2.2.2.1 (X.1.2.2.2.2 _ (mem_at 1 rfl)) dX11_countWords_17 ?_
      obtain rfl := Option.some.inj h
      exact K H locs ls _ dX11_countWords_20 Z
    · replace h := ifn h cnd
      refine lv_iload_n hx hb dX11_countWords_11 rfl (lv_at hl 2 rfl) ?_
      refine lv_bipush (v := (20 : Int32)) hx hb dX11_countWords_12 (by decide) ?_
      refine lv_icmp_le (tgt := 21) hx hb dX11_countWords_14 (by decide) (fun cnd => ?_) (fun cnd => ?_)
      · replace h := ifp h cnd
        refine lv_aload_n hx hb dX11_countWords_21 rfl (lv_at hl 0 rfl) ?_
        refine x_getO X Z 0 0 (v := .ref (d 0)) rfl rfl lk_X11_countWords__e_X11_now dX11_countWords_22 ?_
        refine x_getO X Z 1 3 (v := .ref (d_now 3)) rfl rfl lk_X11_countWords__e_X5_languages dX11_countWords_25 ?_
        refine lv_iload_n hx hb dX11_countWords_28 rfl (lv_at hl 1 rfl) ?_
        obtain ⟨hin3, r4, hv5, h⟩ := ld_b h
        refine x_raldqO X Z 2 2 rfl rfl hin3 hv5 dX11_countWords_29 (fun hr6 => ?_) (fun b7 hr6 => ?_)
        · replace h := nl_n h hr6
          refine lv_astore_nN (lv' := [(3, .null), (0, .ref o), (1, .int x1), (2, .int x2)]) hx hb dX11_countWords_30 rfl hl (by decide) rfl (fun ls hl => ?_)
          refine lv_aload_nN hx hb dX11_countWords_31 rfl (lv_at hl 0 rfl) ?_
          refine lv_ifnonnullN hx hb dX11_countWords_32 ?_
          refine lv_ldc2 (v := (-5 : Int64)) hx hb X.1.2.2.2.1 (X.1.2.2.2.2 _ (mem_at 4 rfl)) dX11_countWords_35 ?_
          obtain rfl := Option.some.inj h
          exact K H locs ls _ dX11_countWords_38 Z
        · replace h := nl_s h hr6
          refine lv_astore_n (lv' := [(3, .ref b7), (0, .ref o), (1, .int x1), (2, .int x2)]) hx hb dX11_countWords_30 rfl hl (by decide) rfl (fun ls hl => ?_)
          refine lv_aload_n hx hb dX11_countWords_31 rfl (lv_at hl 0 rfl) ?_
          refine lv_ifnonnull (tgt := 39) hx hb dX11_countWords_32 (by decide) ?_
          refine lv_aload_n hx hb dX11_countWords_39 rfl (lv_at hl 1 rfl) ?_
          refine lv_aload_n hx hb dX11_countWords_40 rfl (lv_at hl 0 rfl) ?_
          cases h
      · replace h := ifn h cnd
        refine lv_ldc2 (v := (-1 : Int64)) hx hb X.1.2.2.2.1 (X.1.2.2.2.2 _ (mem_at 1 rfl)) dX11_countWords_17 ?_
        obtain rfl := Option.some.inj h
        exact K H locs ls _ dX11_countWords_20 Z
theorem c_X11_countWords__e (l : Launch) (D : va_G) (cy : Nat → ClassId) (o : Nat) (d : Nat → Nat) (d_now : Nat → Nat) (mono : Value) (snapshotTaken_ : Int32) (inputLength_ : Int32) (now_letters_ : Int32) (now_languages_ : Nat → Option Nat)  (x1 : Int32) (x2 : Int32) (out : Int64) (h : f_X11_countWords__e x1 x2 now_languages_ = some out) : CtL l yX11_countWords wsX11_countWords rm_X11_countWords__e D cy [.ref o, .int x1, .int x2] (RW_X11_countWords__e cy o d d_now mono) (RO_X11_countWords__e cy o d d_now mono snapshotTaken_ inputLength_ now_letters_ now_languages_) (RW_X11_countWords__e cy o d d_now mono) out :=
  mk_l (by decide) rfl (Nat.le_of_ble_eq_true rfl) (fun p e s m args below meth c A Q X K H locs ls Z hl => wt_X11_countWords__e o d d_now mono snapshotTaken_ inputLength_ now_letters_ now_languages_ x1 x2 out X h K H locs ls Z hl)
