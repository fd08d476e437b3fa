set_option linter.unusedVariables false
/-! SubwordCounter$Registers restart (I)V -/
abbrev rm_X5_restart : Room := { frames := 0, cells := 0, slots := 0, locals := 0 }
def RW_X5_restart (cy : Nat → ClassId) (o : Nat) (q_words_C0 : Nat) (q_words_C1 : Nat) (q_words_C2 : Nat) (d : Nat → Nat) (d_words_C0 : Nat → Nat) (d_words_C1 : Nat → Nat) (d_words_C2 : Nat → Nat) (d_tests : Nat → Nat) (letters_ : Int32) (words_C0_size_ : Int32) (words_C1_size_ : Int32) (words_C2_size_ : Int32) (tests_count_ : Int32) (languages_ : Nat → Option Nat) : va_W := [(o, ob 5 (oX5 d letters_)), (q_words_C0, ob 8 (oX9 d_words_C0 words_C0_size_)), (q_words_C1, ob 8 (oX9 d_words_C1 words_C1_size_)), (q_words_C2, ob 8 (oX9 d_words_C2 words_C2_size_)), ((d 2), ob 1 (oX1 d_tests tests_count_)), ((d 3), aR cy 2 4 languages_)]
def RO_X5_restart (cy : Nat → ClassId) (o : Nat) (q_words_C0 : Nat) (q_words_C1 : Nat) (q_words_C2 : Nat) (d : Nat → Nat) (d_words_C0 : Nat → Nat) (d_words_C1 : Nat → Nat) (d_words_C2 : Nat → Nat) (d_tests : Nat → Nat) (words_ : Nat → Option Nat) : va_W := [((d 1), aR cy 5 3 words_)]
theorem in_X5_restart_X5 : ∀ w ∈ u_ws RX5 TX5 4, w ∈ wsX5_restart := fun w h => (List.mem_cons_of_mem _ (List.mem_append_left _ (List.mem_append_left _ (List.mem_append_right _ h))))
theorem lp_X5_restart_X5_letters : Lp wsX5_restart RX5 9 5 0 .int := ⟨RX5, TX5, 4, tyX5, rfl, by decide, in_X5_restart_X5, mem_at 1 rfl, tyX5_ok, nmX5, rfl, by decide +kernel⟩
theorem lk_X5_restart_X5_tests : Lk wsX5_restart RX5 24 5 2 := ⟨RX5, TX5, 4, rfl, by decide, in_X5_restart_X5, mem_at 2 rfl⟩
theorem in_X5_restart_X1 : ∀ w ∈ u_ws RX1 TX1 2, w ∈ wsX5_restart := fun w h => (List.mem_cons_of_mem _ (List.mem_append_left _ (List.mem_append_right _ h)))
theorem lp_X5_restart_X1_count : Lp wsX5_restart RX5 35 1 1 .int := ⟨RX1, TX1, 2, tyX1, rfl, by decide, in_X5_restart_X1, mem_at 3 rfl, tyX1_ok, nmX1, rfl, by decide +kernel⟩
theorem lk_X5_restart_X5_words : Lk wsX5_restart RX5 17 5 1 := ⟨RX5, TX5, 4, rfl, by decide, in_X5_restart_X5, mem_at 4 rfl⟩
theorem in_X5_restart_X9 : ∀ w ∈ u_ws RX9 TX9 3, w ∈ wsX5_restart := fun w h => (List.mem_cons_of_mem _ (List.mem_append_right _ h))
theorem lp_X5_restart_X9_size : Lp wsX5_restart RX5 38 8 1 .int := ⟨RX9, TX9, 3, tyX9, rfl, by decide, in_X5_restart_X9, mem_at 5 rfl, tyX9_ok, nmX9, rfl, by decide +kernel⟩
theorem lk_X5_restart_X5_languages : Lk wsX5_restart RX5 30 5 3 := ⟨RX5, TX5, 4, rfl, by decide, in_X5_restart_X5, mem_at 6 rfl⟩
def f_X5_restart (x1 : Int32) (q_words_C0 : Nat) (q_words_C1 : Nat) (q_words_C2 : Nat) (words_ : Nat → Option Nat) (letters_ : Int32) (words_C0_size_ : Int32) (words_C1_size_ : Int32) (words_C2_size_ : Int32) (tests_count_ : Int32) (languages_ : Nat → Option Nat) : Option (Int32 × Int32 × Int32 × Int32 × Int32 × (Nat → Option Nat)) :=
  ldA words_ 3 (0 : Int32) (fun r2 =>
  asR r2 q_words_C0 (
  ldA words_ 3 (1 : Int32) (fun r6 =>
  asR r6 q_words_C1 (
  ldA words_ 3 (2 : Int32) (fun r10 =>
  asR r10 q_words_C2 (
  stA languages_ 4 (0 : Int32) none (fun languages_14 =>
  stA languages_14 4 (1 : Int32) none (fun languages_17 =>
  stA languages_17 4 (2 : Int32) none (fun languages_20 =>
  stA languages_20 4 (3 : Int32) none (fun languages_23 =>
  some (x1, (0 : Int32), (0 : Int32), (0 : Int32), (0 : Int32), languages_23)))))))))))
set_option maxHeartbeats 4000000 in
set_option maxRecDepth 100000 in
theorem wt_X5_restart {p : Program} {l : Launch} {e : Env} {s : State} {m : MethodId} {args : Array Value} {below : List Frame} {meth : Method} {c : Code} {A : Nat → Prop} {Q : State → Prop} {D : va_G} {cy : Nat → ClassId} (o : Nat) (q_words_C0 : Nat) (q_words_C1 : Nat) (q_words_C2 : Nat) (d : Nat → Nat) (d_words_C0 : Nat → Nat) (d_words_C1 : Nat → Nat) (d_words_C2 : Nat → Nat) (d_tests : Nat → Nat) (words_ : Nat → Option Nat) (letters_ : Int32) (words_C0_size_ : Int32) (words_C1_size_ : Int32) (words_C2_size_ : Int32) (tests_count_ : Int32) (languages_ : Nat → Option Nat) (x1 : Int32) (out : Int32 × Int32 × Int32 × Int32 × Int32 × (Nat → Option Nat)) (X : Cx p m c cX5_restart 3 s args wsX5_restart RX5 A D cy (RO_X5_restart cy o q_words_C0 q_words_C1 q_words_C2 d d_words_C0 d_words_C1 d_words_C2 d_tests words_)) (h : f_X5_restart x1 q_words_C0 q_words_C1 q_words_C2 words_ letters_ words_C0_size_ words_C1_size_ words_C2_size_ tests_count_ languages_ = some out) (K : ∀ (H : Heap) (locs : List Loc) (ls : Array Slot) (pc : Nat), decode cX5_restart pc = .ok (.return_, 1) → St A D s (RW_X5_restart cy o q_words_C0 q_words_C1 q_words_C2 d d_words_C0 d_words_C1 d_words_C2 d_tests out.1 out.2.1 out.2.2.1 out.2.2.2.1 out.2.2.2.2.1 out.2.2.2.2.2) H locs → W p l e rm_X5_restart s m args below meth c H locs 0 0 Q (F0 m pc ls [])) : ∀ (H : Heap) (locs : List Loc) (ls : Array Slot), St A D s (RW_X5_restart cy o q_words_C0 q_words_C1 q_words_C2 d d_words_C0 d_words_C1 d_words_C2 d_tests letters_ words_C0_size_ words_C1_size_ words_C2_size_ tests_count_ languages_) H locs → lv_has ls 3 [(0, .ref o), (1, .int x1)] → W p l e rm_X5_restart s m args below meth c H locs 0 0 Q (F0 m 0 ls []) := by
  intro H locs ls Z hl
  have hx := X.1.1
  have hb := X.1.2.1
  unfold f_X5_restart at h
  refine lv_aload_n hx hb dX5_restart_0 rfl (lv_at hl 0 rfl) ?_
  refine lv_iload_n hx hb dX5_restart_1 rfl (lv_at hl 1 rfl) ?_
  refine x_put X Z 0 0 (RW_X5_restart cy o q_words_C0 q_words_C1 q_words_C2 d d_words_C0 d_words_C1 d_words_C2 d_tests x1 words_C0_size_ words_C1_size_ words_C2_size_ tests_count_ languages_) rfl lp_X5_restart_X5_letters (Nat.le_of_ble_eq_true rfl) rfl dX5_restart_2 (fun H locs Z => ?_)
  refine lv_aload_n hx hb dX5_restart_5 rfl (lv_at hl 0 rfl) ?_
  refine x_get X Z 0 2 (v := .ref (d 2)) rfl rfl lk_X5_restart_X5_tests dX5_restart_6 ?_
  refine lv_iconst (v := (0 : Int32)) hx hb dX5_restart_9 (by decide) ?_
  refine x_put X Z 4 1 (RW_X5_restart cy o q_words_C0 q_words_C1 q_words_C2 d d_words_C0 d_words_C1 d_words_C2 d_tests x1 words_C0_size_ words_C1_size_ words_C2_size_ (0 : Int32) languages_) rfl lp_X5_restart_X1_count (Nat.le_of_ble_eq_true rfl) rfl dX5_restart_10 (fun H locs Z => ?_)
  refine lv_iconst (v := (0 : Int32)) hx hb dX5_restart_13 (by decide) ?_
  refine lv_istore_n (lv' := [(2, .int (0 : Int32)), (0, .ref o), (1, .int x1)]) hx hb dX5_restart_14 rfl hl (by decide) rfl (fun ls hl => ?_)
  refine lv_iload_n hx hb dX5_restart_15 rfl (lv_at hl 0 rfl) ?_
  refine lv_iconst (v := (3 : Int32)) hx hb dX5_restart_16 (by decide) ?_
  refine lv_icmp_ge (tgt := 36) hx hb dX5_restart_17 (by decide) (fun cnd => absurd cnd (by decide)) (fun cnd => ?_)
  refine lv_aload_n hx hb dX5_restart_20 rfl (lv_at hl 1 rfl) ?_
  refine x_get X Z 0 1 (v := .ref (d 1)) rfl rfl lk_X5_restart_X5_words dX5_restart_21 ?_
  refine lv_iload_n hx hb dX5_restart_24 rfl (lv_at hl 0 rfl) ?_
  obtain ⟨hin1, r2, hv3, h⟩ := ld_b h
  obtain ⟨ha4, h⟩ := as_b h
  refine x_raldO X Z 0 5 rfl rfl hin1 hv3 ha4 dX5_restart_25 ?_
  refine lv_iconst (v := (0 : Int32)) hx hb dX5_restart_26 (by decide) ?_
  refine x_put X Z 1 1 (RW_X5_restart cy o q_words_C0 q_words_C1 q_words_C2 d d_words_C0 d_words_C1 d_words_C2 d_tests x1 (0 : Int32) words_C1_size_ words_C2_size_ (0 : Int32) languages_) rfl lp_X5_restart_X9_size (Nat.le_of_ble_eq_true rfl) rfl dX5_restart_27 (fun H locs Z => ?_)
  refine lv_iinc (v := (1 : Int32)) (lv' := [(2, .int (1 : Int32)), (0, .ref o), (1, .int x1)]) hx hb dX5_restart_30 hl (k := 0) rfl (by decide) (by decide) rfl (fun ls hl => ?_)
  refine lv_goto (tgt := 15) hx hb dX5_restart_33 (by decide) ?_
  refine lv_iload_n hx hb dX5_restart_15 rfl (lv_at hl 0 rfl) ?_
  refine lv_iconst (v := (3 : Int32)) hx hb dX5_restart_16 (by decide) ?_
  refine lv_icmp_ge (tgt := 36) hx hb dX5_restart_17 (by decide) (fun cnd => absurd cnd (by decide)) (fun cnd => ?_)
  refine lv_aload_n hx hb dX5_restart_20 rfl (lv_at hl 1 rfl) ?_
  refine x_get X Z 0 1 (v := .ref (d 1)) rfl rfl lk_X5_restart_X5_words dX5_restart_21 ?_
  refine lv_iload_n hx hb dX5_restart_24 rfl (lv_at hl 0 rfl) ?_
  obtain ⟨hin5, r6, hv7, h⟩ := ld_b h
  obtain ⟨ha8, h⟩ := as_b h
  refine x_raldO X Z 0 5 rfl rfl hin5 hv7 ha8 dX5_restart_25 ?_
  refine lv_iconst (v := (0 : Int32)) hx hb dX5_restart_26 (by decide) ?_
  refine x_put X Z 2 1 (RW_X5_restart cy o q_words_C0 q_words_C1 q_words_C2 d d_words_C0 d_words_C1 d_words_C2 d_tests x1 (0 : Int32) (0 : Int32) words_C2_size_ (0 : Int32) languages_) rfl lp_X5_restart_X9_size (Nat.le_of_ble_eq_true rfl) rfl dX5_restart_27 (fun H locs Z => ?_)
  refine lv_iinc (v := (2 : Int32)) (lv' := [(2, .int (2 : Int32)), (0, .ref o), (1, .int x1)]) hx hb dX5_restart_30 hl (k := 0) rfl (by decide) (by decide) rfl (fun ls hl => ?_)
  refine lv_goto (tgt := 15) hx hb dX5_restart_33 (by decide) ?_
  refine lv_iload_n hx hb dX5_restart_15 rfl (lv_at hl 0 rfl) ?_
  refine lv_iconst (v := (3 : Int32)) hx hb dX5_restart_16 (by decide) ?_
  refine lv_icmp_ge (tgt := 36) hx hb dX5_restart_17 (by decide) (fun cnd => absurd cnd (by decide)) (fun cnd => ?_)
  refine lv_aload_n hx hb dX5_restart_20 rfl (lv_at hl 1 rfl) ?_
  refine x_get X Z 0 1 (v := .ref (d 1)) rfl rfl lk_X5_restart_X5_words dX5_restart_21 ?_
  refine lv_iload_n hx hb dX5_restart_24 rfl (lv_at hl 0 rfl) ?_
  obtain ⟨hin9, r10, hv11, h⟩ := ld_b h
  obtain ⟨ha12, h⟩ := as_b h
  refine x_raldO X Z 0 5 rfl rfl hin9 hv11 ha12 dX5_restart_25 ?_
  refine lv_iconst (v := (0 : Int32)) hx hb dX5_restart_26 (by decide) ?_
  refine x_put X Z 3 1 (RW_X5_restart cy o q_words_C0 q_words_C1 q_words_C2 d d_words_C0 d_words_C1 d_words_C2 d_tests x1 (0 : Int32) (0 : Int32) (0 : Int32) (0 : Int32) languages_) rfl lp_X5_restart_X9_size (Nat.le_of_ble_eq_true rfl) rfl dX5_restart_27 (fun H locs Z => ?_)
  refine lv_iinc (v := (3 : Int32)) (lv' := [(2, .int (3 : Int32)), (0, .ref o), (1, .int x1)]) hx hb dX5_restart_30 hl (k := 0) rfl (by decide) (by decide) rfl (fun ls hl => ?_)
  refine lv_goto (tgt := 15) hx hb dX5_restart_33 (by decide) ?_
  refine lv_iload_n hx hb dX5_restart_15 rfl (lv_at hl 0 rfl) ?_
  refine lv_iconst (v := (3 : Int32)) hx hb dX5_restart_16 (by decide) ?_
  refine lv_icmp_ge (tgt := 36) hx hb dX5_restart_17 (by decide) (fun cnd => ?_) (fun cnd => absurd (by decide) cnd)
  refine lv_iconst (v := (0 : Int32)) hx hb dX5_restart_36 (by decide) ?_
  refine lv_istore_n (lv' := [(2, .int (0 : Int32)), (0, .ref o), (1, .int x1)]) hx hb dX5_restart_37 rfl hl (by decide) rfl (fun ls hl => ?_)
  refine lv_iload_n hx hb dX5_restart_38 rfl (lv_at hl 0 rfl) ?_
  refine lv_iconst (v := (4 : Int32)) hx hb dX5_restart_39 (by decide) ?_
  refine lv_icmp_ge (tgt := 56) hx hb dX5_restart_40 (by decide) (fun cnd => absurd cnd (by decide)) (fun cnd => ?_)
  refine lv_aload_n hx hb dX5_restart_43 rfl (lv_at hl 1 rfl) ?_
  refine x_get X Z 0 3 (v := .ref (d 3)) rfl rfl lk_X5_restart_X5_languages dX5_restart_44 ?_
  refine lv_iload_n hx hb dX5_restart_47 rfl (lv_at hl 0 rfl) ?_
  refine lv_null hx hb dX5_restart_48 ?_
  obtain ⟨hin13, languages_14, hv15, h⟩ := st_b h
  refine x_rastN X Z 5 2 (RW_X5_restart cy o q_words_C0 q_words_C1 q_words_C2 d d_words_C0 d_words_C1 d_words_C2 d_tests x1 (0 : Int32) (0 : Int32) (0 : Int32) (0 : Int32) languages_14) rfl rfl hin13 hv15 rfl dX5_restart_49 (fun H locs Z => ?_)
  refine lv_iinc (v := (1 : Int32)) (lv' := [(2, .int (1 : Int32)), (0, .ref o), (1, .int x1)]) hx hb dX5_restart_50 hl (k := 0) rfl (by decide) (by decide) rfl (fun ls hl => ?_)
  refine lv_goto (tgt := 38) hx hb dX5_restart_53 (by decide) ?_
  refine lv_iload_n hx hb dX5_restart_38 rfl (lv_at hl 0 rfl) ?_
  refine lv_iconst (v := (4 : Int32)) hx hb dX5_restart_39 (by decide) ?_
  refine lv_icmp_ge (tgt := 56) hx hb dX5_restart_40 (by decide) (fun cnd => absurd cnd (by decide)) (fun cnd => ?_)
  refine lv_aload_n hx hb dX5_restart_43 rfl (lv_at hl 1 rfl) ?_
  refine x_get X Z 0 3 (v := .ref (d 3)) rfl rfl lk_X5_restart_X5_languages dX5_restart_44 ?_
  refine lv_iload_n hx hb dX5_restart_47 rfl (lv_at hl 0 rfl) ?_
  refine lv_null hx hb dX5_restart_48 ?_
  obtain ⟨hin16, languages_17, hv18, h⟩ := st_b h
  refine x_rastN X Z 5 2 (RW_X5_restart cy o q_words_C0 q_words_C1 q_words_C2 d d_words_C0 d_words_C1 d_words_C2 d_tests x1 (0 : Int32) (0 : Int32) (0 : Int32) (0 : Int32) languages_17) rfl rfl hin16 hv18 rfl dX5_restart_49 (fun H locs Z => ?_)
  refine lv_iinc (v := (2 : Int32)) (lv' := [(2, .int (2 : Int32)), (0, .ref o), (1, .int x1)]) hx hb dX5_restart_50 hl (k := 0) rfl (by decide) (by decide) rfl (fun ls hl => ?_)
  refine lv_goto (tgt := 38) hx hb dX5_restart_53 (by decide) ?_
  refine lv_iload_n hx hb dX5_restart_38 rfl (lv_at hl 0 rfl) ?_
  refine lv_iconst (v := (4 : Int32)) hx hb dX5_restart_39 (by decide) ?_
  refine lv_icmp_ge (tgt := 56) hx hb dX5_restart_40 (by decide) (fun cnd => absurd cnd (by decide)) (fun cnd => ?_)
  refine lv_aload_n hx hb dX5_restart_43 rfl (lv_at hl 1 rfl) ?_
  refine x_get X Z 0 3 (v := .ref (d 3)) rfl rfl lk_X5_restart_X5_languages dX5_restart_44 ?_
  refine lv_iload_n hx hb dX5_restart_47 rfl (lv_at hl 0 rfl) ?_
  refine lv_null hx hb dX5_restart_48 ?_
  obtain ⟨hin19, languages_20, hv21, h⟩ := st_b h
  refine x_rastN X Z 5 2 (RW_X5_restart cy o q_words_C0 q_words_C1 q_words_C2 d d_words_C0 d_words_C1 d_words_C2 d_tests x1 (0 : Int32) (0 : Int32) (0 : Int32) (0 : Int32) languages_20) rfl rfl hin19 hv21 rfl dX5_restart_49 (fun H locs Z => ?_)
  refine lv_iinc (v := (3 : Int32)) (lv' := [(2, .int (3 : Int32)), (0, .ref o), (1, .int x1)]) hx hb dX5_restart_50 hl (k := 0) rfl (by decide) (by decide) rfl (fun ls hl => ?_)
  refine lv_goto (tgt := 38) hx hb dX5_restart_53 (by decide) ?_
  refine lv_iload_n hx hb dX5_restart_38 rfl (lv_at hl 0 rfl) ?_
  refine lv_iconst (v := (4 : Int32)) hx hb dX5_restart_39 (by decide) ?_
  refine lv_icmp_ge (tgt := 56) hx hb dX5_restart_40 (by decide) (fun cnd => absurd cnd (by decide)) (fun cnd => ?_)
  refine lv_aload_n hx hb dX5_restart_43 rfl (lv_at hl 1 rfl) ?_
  refine x_get X Z 0 3 (v := .ref (d 3)) rfl rfl lk_X5_restart_X5_languages dX5_restart_44 ?_
  refine lv_iload_n hx hb dX5_restart_47 rfl (lv_at hl 0 rfl) ?_
  refine lv_null hx hb dX5_restart_48 ?_
  obtain ⟨hin22, languages_23, hv24, h⟩ := st_b h
  refine x_rastN X Z 5 2 (RW_X5_restart cy o q_words_C0 q_words_C1 q_words_C2 d d_words_C0 d_words_C1 d_words_C2 d_tests x1 (0 : Int32) (0 : Int32) (0 : Int32) (0 : Int32) languages_23) rfl rfl hin22 hv24 rfl dX5_restart_49 (fun H locs Z => ?_)
  refine lv_iinc (v := (4 : Int32)) (lv' := [(2, .int (4 : Int32)), (0, .ref o), (1, .int x1)]) hx hb dX5_restart_50 hl (k := 0) rfl (by decide) (by decide) rfl (fun ls hl => ?_)
  refine lv_goto (tgt := 38) hx hb dX5_restart_53 (by decide) ?_
  refine lv_iload_n hx hb dX5_restart_38 rfl (lv_at hl 0 rfl) ?_
  refine lv_iconst (v := (4 : Int32)) hx hb dX5_restart_39 (by decide) ?_
  refine lv_icmp_ge (tgt := 56) hx hb dX5_restart_40 (by decide) (fun cnd => ?_) (fun cnd => absurd (by decide) cnd)
  obtain rfl := Option.some.inj h
  exact K H locs ls _ dX5_restart_56 Z
theorem c_X5_restart (l : Launch) (D : va_G) (cy : Nat → ClassId) (o : Nat) (q_words_C0 : Nat) (q_words_C1 : Nat) (q_words_C2 : Nat) (d : Nat → Nat) (d_words_C0 : Nat → Nat) (d_words_C1 : Nat → Nat) (d_words_C2 : Nat → Nat) (d_tests : Nat → Nat) (words_ : Nat → Option Nat) (letters_ : Int32) (words_C0_size_ : Int32) (words_C1_size_ : Int32) (words_C2_size_ : Int32) (tests_count_ : Int32) (languages_ : Nat → Option Nat) (x1 : Int32) (out : Int32 × Int32 × Int32 × Int32 × Int32 × (Nat → Option Nat)) (h : f_X5_restart x1 q_words_C0 q_words_C1 q_words_C2 words_ letters_ words_C0_size_ words_C1_size_ words_C2_size_ tests_count_ languages_ = some out) : CtV l yX5_restart wsX5_restart rm_X5_restart D cy [.ref o, .int x1] (RW_X5_restart cy o q_words_C0 q_words_C1 q_words_C2 d d_words_C0 d_words_C1 d_words_C2 d_tests letters_ words_C0_size_ words_C1_size_ words_C2_size_ tests_count_ languages_) (RO_X5_restart cy o q_words_C0 q_words_C1 q_words_C2 d d_words_C0 d_words_C1 d_words_C2 d_tests words_) (RW_X5_restart cy o q_words_C0 q_words_C1 q_words_C2 d d_words_C0 d_words_C1 d_words_C2 d_tests out.1 out.2.1 out.2.2.1 out.2.2.2.1 out.2.2.2.2.1 out.2.2.2.2.2) :=
  mk_v (by decide) rfl (Nat.le_of_ble_eq_true rfl) (fun p e s m args below meth c A Q X K H locs ls Z hl => wt_X5_restart o q_words_C0 q_words_C1 q_words_C2 d d_words_C0 d_words_C1 d_words_C2 d_tests words_ letters_ words_C0_size_ words_C1_size_ words_C2_size_ tests_count_ languages_ x1 out X h K H locs ls Z hl)
/-! SubwordCounter setLetters (I)I -/
abbrev rm_X11_setLetters : Room := { frames := 1, cells := 0, slots := 0, locals := 22 }
def RW_X11_setLetters (cy : Nat → ClassId) (o : Nat) (q_now_words_C0 : Nat) (q_now_words_C1 : Nat) (q_now_words_C2 : Nat) (d : Nat → Nat) (d_now_words_C0 : Nat → Nat) (d_now_words_C1 : Nat → Nat) (d_now_words_C2 : Nat → Nat) (d_now : Nat → Nat) (d_now_tests : Nat → Nat) (mono : Value) (now_words_C0_size_ : Int32) (now_words_C1_size_ : Int32) (now_words_C2_size_ : Int32) (now_letters_ : Int32) (now_tests_count_ : Int32) (now_languages_ : Nat → Option Nat) : va_W := [(q_now_words_C0, ob 8 (oX9 d_now_words_C0 now_words_C0_size_)), (q_now_words_C1, ob 8 (oX9 d_now_words_C1 now_words_C1_size_)), (q_now_words_C2, ob 8 (oX9 d_now_words_C2 now_words_C2_size_)), ((d 0), ob 5 (oX5 d_now now_letters_)), ((d_now 2), ob 1 (oX1 d_now_tests now_tests_count_)), ((d_now 3), aR cy 2 4 now_languages_)]
def RO_X11_setLetters (cy : Nat → ClassId) (o : Nat) (q_now_words_C0 : Nat) (q_now_words_C1 : Nat) (q_now_words_C2 : Nat) (d : Nat → Nat) (d_now_words_C0 : Nat → Nat) (d_now_words_C1 : Nat → Nat) (d_now_words_C2 : Nat → Nat) (d_now : Nat → Nat) (d_now_tests : Nat → Nat) (mono : Value) (snapshotTaken_ : Int32) (inputLength_ : Int32) (now_words_ : Nat → Option Nat) : va_W := [(o, ob 10 (oX11 d mono snapshotTaken_ inputLength_)), ((d_now 1), aR cy 5 3 now_words_)]
theorem in_X11_setLetters_X11 : ∀ w ∈ u_ws RX11 TX11 12, w ∈ wsX11_setLetters := fun w h => (List.mem_cons_of_mem _ (List.mem_append_left _ (List.mem_append_left _ (List.mem_append_left _ (List.mem_append_right _ h)))))
theorem lk_X11_setLetters_X11_now : Lk wsX11_setLetters RX11 10 10 0 := ⟨RX11, TX11, 12, rfl, by decide, in_X11_setLetters_X11, mem_at 1 rfl⟩
theorem in_X11_setLetters_X5 : ∀ w ∈ u_ws RX5 TX5 4, w ∈ wsX11_setLetters := fun w h => (List.mem_cons_of_mem _ (List.mem_append_left _ (List.mem_append_left _ (List.mem_append_right _ h))))
theorem lk_X11_setLetters_X5_letters : Lk wsX11_setLetters RX11 74 5 0 := ⟨RX5, TX5, 4, rfl, by decide, in_X11_setLetters_X5, mem_at 2 rfl⟩
def f_X11_setLetters (x1 : Int32) (q_now_words_C0 : Nat) (q_now_words_C1 : Nat) (q_now_words_C2 : Nat) (now_words_ : Nat → Option Nat) (now_words_C0_size_ : Int32) (now_words_C1_size_ : Int32) (now_words_C2_size_ : Int32) (now_letters_ : Int32) (now_tests_count_ : Int32) (now_languages_ : Nat → Option Nat) : Option (Int32 × Int32 × Int32 × Int32 × Int32 × Int32 × (Nat → Option Nat)) :=
  if x1 < (1 : Int32) then
  (some ((-1 : Int32), now_words_C0_size_, now_words_C1_size_, now_words_C2_size_, now_letters_, now_tests_count_, now_languages_))
  else
  (if x1 ≤ (3 : Int32) then
  ((f_X5_restart x1 q_now_words_C0 q_now_words_C1 q_now_words_C2 now_words_ now_letters_ now_words_C0_size_ now_words_C1_size_ now_words_C2_size_ now_tests_count_ now_languages_).bind (fun u1 =>
  some (now_letters_, u1.2.1, u1.2.2.1, u1.2.2.2.1, u1.1, u1.2.2.2.2.1, u1.2.2.2.2.2)))
  else
  (some ((-1 : Int32), now_words_C0_size_, now_words_C1_size_, now_words_C2_size_, now_letters_, now_tests_count_, now_languages_)))
set_option maxHeartbeats 4000000 in
set_option maxRecDepth 100000 in
theorem wt_X11_setLetters {p : Program} {l : Launch} {e : Env} {s : State} {m : MethodId} {args : Array Value} {below : List Frame} {meth : Method} {c : Code} {A : Nat → Prop} {Q : State → Prop} {D : va_G} {cy : Nat → ClassId} (o : Nat) (q_now_words_C0 : Nat) (q_now_words_C1 : Nat) (q_now_words_C2 : Nat) (d : Nat → Nat) (d_now_words_C0 : Nat → Nat) (d_now_words_C1 : Nat → Nat) (d_now_words_C2 : Nat → Nat) (d_now : Nat → Nat) (d_now_tests : Nat → Nat) (mono : Value) (snapshotTaken_ : Int32) (inputLength_ : Int32) (now_words_ : Nat → Option Nat) (now_words_C0_size_ : Int32) (now_words_C1_size_ : Int32) (now_words_C2_size_ : Int32) (now_letters_ : Int32) (now_tests_count_ : Int32) (now_languages_ : Nat → Option Nat) (x1 : Int32) (out : Int32 × Int32 × Int32 × Int32 × Int32 × Int32 × (Nat → Option Nat)) (X : Cx p m c cX11_setLetters 3 s args wsX11_setLetters RX11 A D cy (RO_X11_setLetters cy o q_now_words_C0 q_now_words_C1 q_now_words_C2 d d_now_words_C0 d_now_words_C1 d_now_words_C2 d_now d_now_tests mono snapshotTaken_ inputLength_ now_words_)) (h : f_X11_setLetters x1 q_now_words_C0 q_now_words_C1 q_now_words_C2 now_words_ now_words_C0_size_ now_words_C1_size_ now_words_C2_size_ now_letters_ now_tests_count_ now_languages_ = some out) (K : ∀ (H : Heap) (locs : List Loc) (ls : Array Slot) (pc : Nat), decode cX11_setLetters pc = .ok (.ireturn, 1) → St A D s (RW_X11_setLetters cy o q_now_words_C0 q_now_words_C1 q_now_words_C2 d d_now_words_C0 d_now_words_C1 d_now_words_C2 d_now d_now_tests mono out.2.1 out.2.2.1 out.2.2.2.1 out.2.2.2.2.1 out.2.2.2.2.2.1 out.2.2.2.2.2.2) H locs → W p l e rm_X11_setLetters s m args below meth c H locs 0 0 Q (F0 m pc ls [.int out.1])) : ∀ (H : Heap) (locs : List Loc) (ls : Array Slot), St A D s (RW_X11_setLetters cy o q_now_words_C0 q_now_words_C1 q_now_words_C2 d d_now_words_C0 d_now_words_C1 d_now_words_C2 d_now d_now_tests mono now_words_C0_size_ now_words_C1_size_ now_words_C2_size_ now_letters_ now_tests_count_ now_languages_) H locs → lv_has ls 3 [(0, .ref o), (1, .int x1)] → W p l e rm_X11_setLetters s m args below meth c H locs 0 0 Q (F0 m 0 ls []) := by
  intro H locs ls Z hl
  have hx := X.1.1
  have hb := X.1.2.1
  unfold f_X11_setLetters at h
  refine lv_iload_n hx hb dX11_setLetters_0 rfl (lv_at hl 1 rfl) ?_
  refine lv_iconst (v := (1 : Int32)) hx hb dX11_setLetters_1 (by decide) ?_
  refine lv_icmp_lt (tgt := 10) hx hb dX11_setLetters_2 (by decide) (fun cnd => ?_) (fun cnd => ?_)
  · replace h := ifp h cnd
    refine lv_iconst (v := (-1 : Int32)) hx hb dX11_setLetters_10 (by decide) ?_
    obtain rfl := Option.some.inj h
    exact K H locs ls _ dX11_setLetters_11 Z
  · replace h := ifn h cnd
    refine lv_iload_n hx hb dX11_setLetters_5 rfl (lv_at hl 1 rfl) ?_
    refine lv_iconst (v := (3 : Int32)) hx hb dX11_setLetters_6 (by decide) ?_
    refine lv_icmp_le (tgt := 12) hx hb dX11_setLetters_7 (by decide) (fun cnd => ?_) (fun cnd => ?_)
    · replace h := ifp h cnd
      refine lv_aload_n hx hb dX11_setLetters_12 rfl (lv_at hl 0 rfl) ?_
      refine x_getO X Z 0 0 (v := .ref (d 0)) rfl rfl lk_X11_setLetters_X11_now dX11_setLetters_13 ?_
      refine x_get X Z 3 0 (v := .int now_letters_) rfl rfl lk_X11_setLetters_X5_letters dX11_setLetters_16 ?_
      refine lv_istore_n (lv' := [(2, .int now_letters_), (0, .ref o), (1, .int x1)]) hx hb dX11_setLetters_19 rfl hl (by decide) rfl (fun ls hl => ?_)
      refine lv_aload_n hx hb dX11_setLetters_20 rfl (lv_at hl 1 rfl) ?_
      refine x_getO X Z 0 0 (v := .ref (d 0)) rfl rfl lk_X11_setLetters_X11_now dX11_setLetters_21 ?_
      refine lv_iload_n hx hb dX11_setLetters_24 rfl (lv_at hl 2 rfl) ?_
      obtain ⟨u1, hc2, h⟩ := ob_some h
      refine x_runVv (RW' := (RW_X11_setLetters cy o q_now_words_C0 q_now_words_C1 q_now_words_C2 d d_now_words_C0 d_now_words_C1 d_now_words_C2 d_now d_now_tests mono u1.2.1 u1.2.2.1 u1.2.2.2.1 u1.1 u1.2.2.2.2.1 u1.2.2.2.2.2)) (wr := []) (isC := [3, 0, 1, 2, 4, 5]) (isR := []) (isF := [1, 2, 3, 0, 4, 5]) (rest := []) (As := [.int x1]) (n := 1) X Z (c_X5_restart l D cy (d 0) q_now_words_C0 q_now_words_C1 q_now_words_C2 d_now d_now_words_C0 d_now_words_C1 d_now_words_C2 d_now_tests now_words_ now_letters_ now_words_C0_size_ now_words_C1_size_ now_words_C2_size_ now_tests_count_ now_languages_ x1 u1 hc2) gX11_setLetters_X5_restart rfl (by decide +kernel) ⟨Nat.le_of_ble_eq_true rfl, Nat.le_of_ble_eq_true rfl⟩ ⟨rfl, rfl⟩ ⟨Nat.le_of_ble_eq_true rfl, Nat.le_of_ble_eq_true rfl⟩ (x_rv X Z 3 rfl rfl) ⟨rfl, rfl, (roC (Or.inr (mem_at 1 rfl)) roN), rfl, rfl, by decide⟩ ⟨rfl, rfl⟩ rfl hl.1 rfl (Nat.le_of_ble_eq_true rfl) dX11_setLetters_25 (fun H locs Z => ?_)
      refine lv_iload_n hx hb dX11_setLetters_28 rfl (lv_at hl 0 rfl) ?_
      obtain rfl := Option.some.inj h
      exact K H locs ls _ dX11_setLetters_29 Z
    · replace h := ifn h cnd
      refine lv_iconst (v := (-1 : Int32)) hx hb dX11_setLetters_10 (by decide) ?_
      obtain rfl := Option.some.inj h
      exact K H locs ls _ dX11_setLetters_11 Z
theorem c_X11_setLetters (l : Launch) (D : va_G) (cy : Nat → ClassId) (o : Nat) (q_now_words_C0 : Nat) (q_now_words_C1 : Nat) (q_now_words_C2 : Nat) (d : Nat → Nat) (d_now_words_C0 : Nat → Nat) (d_now_words_C1 : Nat → Nat) (d_now_words_C2 : Nat → Nat) (d_now : Nat → Nat) (d_now_tests : Nat → Nat) (mono : Value) (snapshotTaken_ : Int32) (inputLength_ : Int32) (now_words_ : Nat → Option Nat) (now_words_C0_size_ : Int32) (now_words_C1_size_ : Int32) (now_words_C2_size_ : Int32) (now_letters_ : Int32) (now_tests_count_ : Int32) (now_languages_ : Nat → Option Nat) (x1 : Int32) (out : Int32 × Int32 × Int32 × Int32 × Int32 × Int32 × (Nat → Option Nat)) (h : f_X11_setLetters x1 q_now_words_C0 q_now_words_C1 q_now_words_C2 now_words_ now_words_C0_size_ now_words_C1_size_ now_words_C2_size_ now_letters_ now_tests_count_ now_languages_ = some out) : CtI l yX11_setLetters wsX11_setLetters rm_X11_setLetters D cy [.ref o, .int x1] (RW_X11_setLetters cy o q_now_words_C0 q_now_words_C1 q_now_words_C2 d d_now_words_C0 d_now_words_C1 d_now_words_C2 d_now d_now_tests mono now_words_C0_size_ now_words_C1_size_ now_words_C2_size_ now_letters_ now_tests_count_ now_languages_) (RO_X11_setLetters cy o q_now_words_C0 q_now_words_C1 q_now_words_C2 d d_now_words_C0 d_now_words_C1 d_now_words_C2 d_now d_now_tests mono snapshotTaken_ inputLength_ now_words_) (RW_X11_setLetters cy o q_now_words_C0 q_now_words_C1 q_now_words_C2 d d_now_words_C0 d_now_words_C1 d_now_words_C2 d_now d_now_tests mono out.2.1 out.2.2.1 out.2.2.2.1 out.2.2.2.2.1 out.2.2.2.2.2.1 out.2.2.2.2.2.2) out.1 :=
  mk_i (ty := .int) (by decide) rfl rfl (Nat.le_of_ble_eq_true rfl) (fun p e s m args below meth c A Q X K H locs ls Z hl => wt_X11_setLetters o q_now_words_C0 q_now_words_C1 q_now_words_C2 d d_now_words_C0 d_now_words_C1 d_now_words_C2 d_now d_now_tests mono snapshotTaken_ inputLength_ now_words_ now_words_C0_size_ now_words_C1_size_ now_words_C2_size_ now_letters_ now_tests_count_ now_languages_ x1 out X h K H locs ls Z hl)
/-! SubwordCounter letters ()I -/
abbrev rm_X11_letters : Room := { frames := 0, cells := 0, slots := 0, locals := 0 }
def RW_X11_letters (cy : Nat → ClassId) (o : Nat) (d : Nat → Nat) (d_now : Nat → Nat) (mono : Value)  : va_W := []
def RO_X11_letters (cy : Nat → ClassId) (o : Nat) (d : Nat → Nat) (d_now : Nat → Nat) (mono : Value) (snapshotTaken_ : Int32) (inputLength_ : Int32) (now_letters_ : Int32) : va_W := [(o, ob 10 (oX11 d mono snapshotTaken_ inputLength_)), ((d 0), ob 5 (oX5 d_now now_letters_))]
theorem in_X11_letters_X11 : ∀ w ∈ u_ws RX11 TX11 12, w ∈ wsX11_letters := fun w h => (List.mem_cons_of_mem _ (List.mem_append_left _ (List.mem_append_right _ h)))
theorem lk_X11_letters_X11_now : Lk wsX11_letters RX11 10 10 0 := ⟨RX11, TX11, 12, rfl, by decide, in_X11_letters_X11, mem_at 1 rfl⟩
theorem in_X11_letters_X5 : ∀ w ∈ u_ws RX5 TX5 4, w ∈ wsX11_letters := fun w h => (List.mem_cons_of_mem _ (List.mem_append_right _ h))
theorem lk_X11_letters_X5_letters : Lk wsX11_letters RX11 74 5 0 := ⟨RX5, TX5, 4, rfl, by decide, in_X11_letters_X5, mem_at 2 rfl⟩
def f_X11_letters (now_letters_ : Int32) : Option (Int32) :=
  some now_letters_
set_option maxHeartbeats 4000000 in
set_option maxRecDepth 100000 in
theorem wt_X11_letters {p : Program} {l : Launch} {e : Env} {s : State} {m : MethodId} {args : Array Value} {below : List Frame} {meth : Method} {c : Code} {A : Nat → Prop} {Q : State → Prop} {D : va_G} {cy : Nat → ClassId} (o : Nat) (d : Nat → Nat) (d_now : Nat → Nat) (mono : Value) (snapshotTaken_ : Int32) (inputLength_ : Int32) (now_letters_ : Int32)  (out : Int32) (X : Cx p m c cX11_letters 1 s args wsX11_letters RX11 A D cy (RO_X11_letters cy o d d_now mono snapshotTaken_ inputLength_ now_letters_)) (h : f_X11_letters now_letters_ = some out) (K : ∀ (H : Heap) (locs : List Loc) (ls : Array Slot) (pc : Nat), decode cX11_letters pc = .ok (.ireturn, 1) → St A D s (RW_X11_letters cy o d d_now mono) H locs → W p l e rm_X11_letters s m args below meth c H locs 0 0 Q (F0 m pc ls [.int out])) : ∀ (H : Heap) (locs : List Loc) (ls : Array Slot), St A D s (RW_X11_letters cy o d d_now mono) H locs → lv_has ls 1 [(0, .ref o)] → W p l e rm_X11_letters s m args below meth c H locs 0 0 Q (F0 m 0 ls []) := by
  intro H locs ls Z hl
  have hx := X.1.1
  have hb := X.1.2.1
  unfold f_X11_letters at h
  refine lv_aload_n hx hb dX11_letters_0 rfl (lv_at hl 0 rfl) ?_
  refine x_getO X Z 0 0 (v := .ref (d 0)) rfl rfl lk_X11_letters_X11_now dX11_letters_1 ?_
  refine x_getO X Z 1 0 (v := .int now_letters_) rfl rfl lk_X11_letters_X5_letters dX11_letters_4 ?_
  obtain rfl := Option.some.inj h
  exact K H locs ls _ dX11_letters_7 Z
theorem c_X11_letters (l : Launch) (D : va_G) (cy : Nat → ClassId) (o : Nat) (d : Nat → Nat) (d_now : Nat → Nat) (mono : Value) (snapshotTaken_ : Int32) (inputLength_ : Int32) (now_letters_ : Int32)  (out : Int32) (h : f_X11_letters now_letters_ = some out) : CtI l yX11_letters wsX11_letters rm_X11_letters D cy [.ref o] (RW_X11_letters cy o d d_now mono) (RO_X11_letters cy o d d_now mono snapshotTaken_ inputLength_ now_letters_) (RW_X11_letters cy o d d_now mono) out :=
  mk_i (ty := .int) (by decide) rfl rfl (Nat.le_of_ble_eq_true rfl) (fun p e s m args below meth c A Q X K H locs ls Z hl => wt_X11_letters o d d_now mono snapshotTaken_ inputLength_ now_letters_ out X h K H locs ls Z hl)
/-! SubwordCounter isWord (I)Z -/
abbrev rm_X11_isWord : Room := { frames := 0, cells := 0, slots := 0, locals := 0 }
def RW_X11_isWord (cy : Nat → ClassId)   : va_W := []
def RO_X11_isWord (cy : Nat → ClassId)   : va_W := []
def f_X11_isWord (x0 : Int32)  : Option (Int32) :=
  if x0 < 0 then
  (some (0 : Int32))
  else
  (if (3 : Int32) ≤ x0 then
  (some (0 : Int32))
  else
  (some (1 : Int32)))
set_option maxHeartbeats 4000000 in
set_option maxRecDepth 100000 in
theorem wt_X11_isWord {p : Program} {l : Launch} {e : Env} {s : State} {m : MethodId} {args : Array Value} {below : List Frame} {meth : Method} {c : Code} {A : Nat → Prop} {Q : State → Prop} {D : va_G} {cy : Nat → ClassId}    (x0 : Int32) (out : Int32) (X : Cx p m c cX11_isWord 1 s args wsX11_isWord RX11 A D cy (RO_X11_isWord cy )) (h : f_X11_isWord x0 = some out) (K : ∀ (H : Heap) (locs : List Loc) (ls : Array Slot) (pc : Nat), decode cX11_isWord pc = .ok (.ireturn, 1) → (out = 0 ∨ out = 1) → St A D s (RW_X11_isWord cy ) H locs → W p l e rm_X11_isWord s m args below meth c H locs 0 0 Q (F0 m pc ls [.int out])) : ∀ (H : Heap) (locs : List Loc) (ls : Array Slot), St A D s (RW_X11_isWord cy ) H locs → lv_has ls 1 [(0, .int x0)] → W p l e rm_X11_isWord s m args below meth c H locs 0 0 Q (F0 m 0 ls []) := by
  intro H locs ls Z hl
  have hx := X.1.1
  have hb := X.1.2.1
  unfold f_X11_isWord at h
  refine lv_iload_n hx hb dX11_isWord_0 rfl (lv_at hl 0 rfl) ?_
  refine lv_if_lt (tgt := 13) hx hb dX11_isWord_1 (by decide) (fun cnd => ?_) (fun cnd => ?_)
  · replace h := ifp h cnd
    refine lv_iconst (v := (0 : Int32)) hx hb dX11_isWord_13 (by decide) ?_
    obtain rfl := Option.some.inj h
    exact K H locs ls _ dX11_isWord_14 (Or.inl rfl) Z
  · replace h := ifn h cnd
    refine lv_iload_n hx hb dX11_isWord_4 rfl (lv_at hl 0 rfl) ?_
    refine lv_iconst (v := (3 : Int32)) hx hb dX11_isWord_5 (by decide) ?_
    refine lv_icmp_ge (tgt := 13) hx hb dX11_isWord_6 (by decide) (fun cnd => ?_) (fun cnd => ?_)
    · replace h := ifp h cnd
      refine lv_iconst (v := (0 : Int32)) hx hb dX11_isWord_13 (by decide) ?_
      obtain rfl := Option.some.inj h
      exact K H locs ls _ dX11_isWord_14 (Or.inl rfl) Z
    · replace h := ifn h cnd
      refine lv_iconst (v := (1 : Int32)) hx hb dX11_isWord_9 (by decide) ?_
      refine lv_goto (tgt := 14) hx hb dX11_isWord_10 (by decide) ?_
      obtain rfl := Option.some.inj h
      exact K H locs ls _ dX11_isWord_14 (Or.inr rfl) Z
theorem c_X11_isWord (l : Launch) (D : va_G) (cy : Nat → ClassId)    (x0 : Int32) (out : Int32) (h : f_X11_isWord x0 = some out) : CtI l yX11_isWord wsX11_isWord rm_X11_isWord D cy [.int x0] (RW_X11_isWord cy ) (RO_X11_isWord cy ) (RW_X11_isWord cy ) out :=
  mk_z (by decide) rfl (Nat.le_of_ble_eq_true rfl) (fun p e s m args below meth c A Q X K H locs ls Z hl => wt_X11_isWord  x0 out X h K H locs ls Z hl)
/-! SubwordCounter$Word push (I)V -/
abbrev rm_X9_push : Room := { frames := 0, cells := 0, slots := 0, locals := 0 }
def RW_X9_push (cy : Nat → ClassId) (o : Nat) (d : Nat → Nat) (size_ : Int32) (letters_ : Nat → Int32) : va_W := [(o, ob 8 (oX9 d size_)), ((d 0), aI cy 12 letters_)]
def RO_X9_push (cy : Nat → ClassId) (o : Nat) (d : Nat → Nat)  : va_W := []
theorem in_X9_push_X9 : ∀ w ∈ u_ws RX9 TX9 3, w ∈ wsX9_push := fun w h => (List.mem_cons_of_mem _ (List.mem_append_right _ h))
theorem lk_X9_push_X9_size : Lk wsX9_push RX9 15 8 1 := ⟨RX9, TX9, 3, rfl, by decide, in_X9_push_X9, mem_at 1 rfl⟩
theorem lk_X9_push_X9_letters : Lk wsX9_push RX9 9 8 0 := ⟨RX9, TX9, 3, rfl, by decide, in_X9_push_X9, mem_at 2 rfl⟩
theorem lp_X9_push_X9_size : Lp wsX9_push RX9 15 8 1 .int := ⟨RX9, TX9, 3, tyX9, rfl, by decide, in_X9_push_X9, mem_at 1 rfl, tyX9_ok, nmX9, rfl, by decide +kernel⟩
def f_X9_push (x1 : Int32) (size_ : Int32) (letters_ : Nat → Int32) : Option (Int32 × (Nat → Int32)) :=
  if (12 : Int32) ≤ size_ then
  (some (size_, letters_))
  else
  (stA letters_ 12 size_ x1 (fun letters_2 =>
  some ((size_ + (1 : Int32)), letters_2)))
set_option maxHeartbeats 4000000 in
set_option maxRecDepth 100000 in
theorem wt_X9_push {p : Program} {l : Launch} {e : Env} {s : State} {m : MethodId} {args : Array Value} {below : List Frame} {meth : Method} {c : Code} {A : Nat → Prop} {Q : State → Prop} {D : va_G} {cy : Nat → ClassId} (o : Nat) (d : Nat → Nat)  (size_ : Int32) (letters_ : Nat → Int32) (x1 : Int32) (out : Int32 × (Nat → Int32)) (X : Cx p m c cX9_push 2 s args wsX9_push RX9 A D cy (RO_X9_push cy o d)) (h : f_X9_push x1 size_ letters_ = some out) (K : ∀ (H : Heap) (locs : List Loc) (ls : Array Slot) (pc : Nat), decode cX9_push pc = .ok (.return_, 1) → St A D s (RW_X9_push cy o d out.1 out.2) H locs → W p l e rm_X9_push s m args below meth c H locs 0 0 Q (F0 m pc ls [])) : ∀ (H : Heap) (locs : List Loc) (ls : Array Slot), St A D s (RW_X9_push cy o d size_ letters_) H locs → lv_has ls 2 [(0, .ref o), (1, .int x1)] → W p l e rm_X9_push s m args below meth c H locs 0 0 Q (F0 m 0 ls []) := by
  intro H locs ls Z hl
  have hx := X.1.1
  have hb := X.1.2.1
  unfold f_X9_push at h
  refine lv_aload_n hx hb dX9_push_0 rfl (lv_at hl 0 rfl) ?_
  refine x_get X Z 0 1 (v := .int size_) rfl rfl lk_X9_push_X9_size dX9_push_1 ?_
  refine lv_bipush (v := (12 : Int32)) hx hb dX9_push_4 (by decide) ?_
  refine lv_icmp_ge (tgt := 29) hx hb dX9_push_6 (by decide) (fun cnd => ?_) (fun cnd => ?_)
  · replace h := ifp h cnd
    obtain rfl := Option.some.inj h
    exact K H locs ls _ dX9_push_29 Z
  · replace h := ifn h cnd
    refine lv_aload_n hx hb dX9_push_9 rfl (lv_at hl 0 rfl) ?_
    refine x_get X Z 0 0 (v := .ref (d 0)) rfl rfl lk_X9_push_X9_letters dX9_push_10 ?_
    refine lv_aload_n hx hb dX9_push_13 rfl (lv_at hl 0 rfl) ?_
    refine x_get X Z 0 1 (v := .int size_) rfl rfl lk_X9_push_X9_size dX9_push_14 ?_
    refine lv_iload_n hx hb dX9_push_17 rfl (lv_at hl 1 rfl) ?_
    obtain ⟨hin1, letters_2, hv3, h⟩ := st_b h
    refine x_iast X Z 1 (RW_X9_push cy o d size_ letters_2) rfl hin1 hv3 rfl dX9_push_18 (fun H locs Z => ?_)
    refine lv_aload_n hx hb dX9_push_19 rfl (lv_at hl 0 rfl) ?_
    refine lv_dup hx hb dX9_push_20 rfl ?_
    refine x_get X Z 0 1 (v := .int size_) rfl rfl lk_X9_push_X9_size dX9_push_21 ?_
    refine lv_iconst (v := (1 : Int32)) hx hb dX9_push_24 (by decide) ?_
    refine lv_iadd hx hb dX9_push_25 ?_
    refine x_put X Z 0 1 (RW_X9_push cy o d (size_ + (1 : Int32)) letters_2) rfl lp_X9_push_X9_size (Nat.le_of_ble_eq_true rfl) rfl dX9_push_26 (fun H locs Z => ?_)
    obtain rfl := Option.some.inj h
    exact K H locs ls _ dX9_push_29 Z
theorem c_X9_push (l : Launch) (D : va_G) (cy : Nat → ClassId) (o : Nat) (d : Nat → Nat)  (size_ : Int32) (letters_ : Nat → Int32) (x1 : Int32) (out : Int32 × (Nat → Int32)) (h : f_X9_push x1 size_ letters_ = some out) : CtV l yX9_push wsX9_push rm_X9_push D cy [.ref o, .int x1] (RW_X9_push cy o d size_ letters_) (RO_X9_push cy o d) (RW_X9_push cy o d out.1 out.2) :=
  mk_v (by decide) rfl (Nat.le_of_ble_eq_true rfl) (fun p e s m args below meth c A Q X K H locs ls Z hl => wt_X9_push o d size_ letters_ x1 out X h K H locs ls Z hl)
/-! SubwordCounter append (II)I -/
abbrev rm_X11_append : Room := { frames := 1, cells := 0, slots := 0, locals := 21 }
def RW_X11_append (cy : Nat → ClassId) (o : Nat) (q_now_words_L1 : Nat) (d : Nat → Nat) (d_now_words_L1 : Nat → Nat) (d_now : Nat → Nat) (mono : Value) (now_words_L1_size_ : Int32) (now_words_L1_letters_ : Nat → Int32) : va_W := [(q_now_words_L1, ob 8 (oX9 d_now_words_L1 now_words_L1_size_)), ((d_now_words_L1 0), aI cy 12 now_words_L1_letters_)]
def RO_X11_append (cy : Nat → ClassId) (o : Nat) (q_now_words_L1 : Nat) (d : Nat → Nat) (d_now_words_L1 : Nat → Nat) (d_now : Nat → Nat) (mono : Value) (snapshotTaken_ : Int32) (inputLength_ : Int32) (now_letters_ : Int32) (now_words_ : Nat → Option Nat) : va_W := [(o, ob 10 (oX11 d mono snapshotTaken_ inputLength_)), ((d 0), ob 5 (oX5 d_now now_letters_)), ((d_now 1), aR cy 5 3 now_words_)]
theorem in_X11_append_X11 : ∀ w ∈ u_ws RX11 TX11 12, w ∈ wsX11_append := fun w h => (List.mem_cons_of_mem _ (List.mem_append_left _ (List.mem_append_left _ (List.mem_append_right _ h))))
theorem lk_X11_append_X11_now : Lk wsX11_append RX11 10 10 0 := ⟨RX11, TX11, 12, rfl, by decide, in_X11_append_X11, mem_at 1 rfl⟩
theorem in_X11_append_X5 : ∀ w ∈ u_ws RX5 TX5 4, w ∈ wsX11_append := fun w h => (List.mem_cons_of_mem _ (List.mem_append_left _ (List.mem_append_right _ h)))
theorem lk_X11_append_X5_letters : Lk wsX11_append RX11 74 5 0 := ⟨RX5, TX5, 4, rfl, by decide, in_X11_append_X5, mem_at 2 rfl⟩
theorem lk_X11_append_X5_words : Lk wsX11_append RX11 85 5 1 := ⟨RX5, TX5, 4, rfl, by decide, in_X11_append_X5, mem_at 3 rfl⟩
theorem in_X11_append_X9 : ∀ w ∈ u_ws RX9 TX9 3, w ∈ wsX11_append := fun w h => (List.mem_cons_of_mem _ (List.mem_append_right _ h))
theorem lk_X11_append_X9_size : Lk wsX11_append RX11 89 8 1 := ⟨RX9, TX9, 3, rfl, by decide, in_X11_append_X9, mem_at 4 rfl⟩
def f_X11_append (x1 : Int32) (x2 : Int32) (q_now_words_L1 : Nat) (now_letters_ : Int32) (now_words_ : Nat → Option Nat) (now_words_L1_size_ : Int32) (now_words_L1_letters_ : Nat → Int32) : Option (Int32 × Int32 × (Nat → Int32)) :=
  (f_X11_isWord x1).bind (fun u1 =>
  if u1 = 0 then
  (some ((-1 : Int32), now_words_L1_size_, now_words_L1_letters_))
  else
  (if x2 < 0 then
  (some ((-1 : Int32), now_words_L1_size_, now_words_L1_letters_))
  else
  (if x2 < now_letters_ then
  (ldA now_words_ 3 x1 (fun r4 =>
  asR r4 q_now_words_L1 (
  if now_words_L1_size_ < (12 : Int32) then
  ((f_X9_push x2 now_words_L1_size_ now_words_L1_letters_).bind (fun u7 =>
  some (u7.1, u7.1, u7.2)))
  else
  (some ((-3 : Int32), now_words_L1_size_, now_words_L1_letters_)))))
  else
  (some ((-1 : Int32), now_words_L1_size_, now_words_L1_letters_)))))
set_option maxHeartbeats 4000000 in
set_option maxRecDepth 100000 in
theorem wt_X11_append {p : Program} {l : Launch} {e : Env} {s : State} {m : MethodId} {args : Array Value} {below : List Frame} {meth : Method} {c : Code} {A : Nat → Prop} {Q : State → Prop} {D : va_G} {cy : Nat → ClassId} (o : Nat) (q_now_words_L1 : Nat) (d : Nat → Nat) (d_now_words_L1 : Nat → Nat) (d_now : Nat → Nat) (mono : Value) (snapshotTaken_ : Int32) (inputLength_ : Int32) (now_letters_ : Int32) (now_words_ : Nat → Option Nat) (now_words_L1_size_ : Int32) (now_words_L1_letters_ : Nat → Int32) (x1 : Int32) (x2 : Int32) (out : Int32 × Int32 × (Nat → Int32)) (X : Cx p m c cX11_append 4 s args wsX11_append RX11 A D cy (RO_X11_append cy o q_now_words_L1 d d_now_words_L1 d_now mono snapshotTaken_ inputLength_ now_letters_ now_words_)) (h : f_X11_append x1 x2 q_now_words_L1 now_letters_ now_words_ now_words_L1_size_ now_words_L1_letters_ = some out) (K : ∀ (H : Heap) (locs : List Loc) (ls : Array Slot) (pc : Nat), decode cX11_append pc = .ok (.ireturn, 1) → St A D s (RW_X11_append cy o q_now_words_L1 d d_now_words_L1 d_now mono out.2.1 out.2.2) H locs → W p l e rm_X11_append s m args below meth c H locs 0 0 Q (F0 m pc ls [.int out.1])) : ∀ (H : Heap) (locs : List Loc) (ls : Array Slot), St A D s (RW_X11_append cy o q_now_words_L1 d d_now_words_L1 d_now mono now_words_L1_size_ now_words_L1_letters_) H locs → lv_has ls 4 [(0, .ref o), (1, .int x1), (2, .int x2)] → W p l e rm_X11_append s m args below meth c H locs 0 0 Q (F0 m 0 ls []) := by
  intro H locs ls Z hl
  have hx := X.1.1
  have hb := X.1.2.1
  unfold f_X11_append at h
  refine lv_iload_n hx hb dX11_append_0 rfl (lv_at hl 1 rfl) ?_
  obtain ⟨u1, hc2, h⟩ := ob_some h
  refine x_runSi (RW' := (RW_X11_append cy o q_now_words_L1 d d_now_words_L1 d_now mono now_words_L1_size_ now_words_L1_letters_)) (wr := [(q_now_words_L1, ob 8 (oX9 d_now_words_L1 now_words_L1_size_)), ((d_now_words_L1 0), aI cy 12 now_words_L1_letters_)]) (isC := []) (isR := [0, 1]) (isF := [0, 1]) (rest := []) (As := [.int x1]) (n := 1) X Z (c_X11_isWord l D cy x1 u1 hc2) gX11_append_X11_isWord rfl (by decide +kernel) ⟨Nat.le_of_ble_eq_true rfl, Nat.le_of_ble_eq_true rfl⟩ ⟨rfl, rfl⟩ ⟨Nat.le_of_ble_eq_true rfl, Nat.le_of_ble_eq_true rfl⟩ ⟨rfl, rfl, roN, rfl, rfl, by decide⟩ ⟨rfl, rfl⟩ rfl hl.1 rfl (Nat.le_of_ble_eq_true rfl) dX11_append_1 (fun H locs Z => ?_)
  refine lv_if_eq (tgt := 22) hx hb dX11_append_4 (by decide) (fun cnd => ?_) (fun cnd => ?_)
  · replace h := ifp h cnd
    refine lv_iconst (v := (-1 : Int32)) hx hb dX11_append_22 (by decide) ?_
    obtain rfl := Option.some.inj h
    exact K H locs ls _ dX11_append_23 Z
  · replace h := ifn h cnd
    refine lv_iload_n hx hb dX11_append_7 rfl (lv_at hl 2 rfl) ?_
    refine lv_if_lt (tgt := 22) hx hb dX11_append_8 (by decide) (fun cnd => ?_) (fun cnd => ?_)
    · replace h := ifp h cnd
      refine lv_iconst (v := (-1 : Int32)) hx hb dX11_append_22 (by decide) ?_
      obtain rfl := Option.some.inj h
      exact K H locs ls _ dX11_append_23 Z
    · replace h := ifn h cnd
      refine lv_iload_n hx hb dX11_append_11 rfl (lv_at hl 2 rfl) ?_
      refine lv_aload_n hx hb dX11_append_12 rfl (lv_at hl 0 rfl) ?_
      refine x_getO X Z 0 0 (v := .ref (d 0)) rfl rfl lk_X11_append_X11_now dX11_append_13 ?_
      refine x_getO X Z 1 0 (v := .int now_letters_) rfl rfl lk_X11_append_X5_letters dX11_append_16 ?_
      refine lv_icmp_lt (tgt := 24) hx hb dX11_append_19 (by decide) (fun cnd => ?_) (fun cnd => ?_)
      · replace h := ifp h cnd
        refine lv_aload_n hx hb dX11_append_24 rfl (lv_at hl 0 rfl) ?_
        refine x_getO X Z 0 0 (v := .ref (d 0)) rfl rfl lk_X11_append_X11_now dX11_append_25 ?_
        refine x_getO X Z 1 1 (v := .ref (d_now 1)) rfl rfl lk_X11_append_X5_words dX11_append_28 ?_
        refine lv_iload_n hx hb dX11_append_31 rfl (lv_at hl 1 rfl) ?_
        obtain ⟨hin3, r4, hv5, h⟩ := ld_b h
        obtain ⟨ha6, h⟩ := as_b h
        refine x_raldO X Z 2 5 rfl rfl hin3 hv5 ha6 dX11_append_32 ?_
        refine lv_astore_n (lv' := [(3, .ref q_now_words_L1), (0, .ref o), (1, .int x1), (2, .int x2)]) hx hb dX11_append_33 rfl hl (by decide) rfl (fun ls hl => ?_)
        refine lv_aload_n hx hb dX11_append_34 rfl (lv_at hl 0 rfl) ?_
        refine x_get X Z 0 1 (v := .int now_words_L1_size_) rfl rfl lk_X11_append_X9_size dX11_append_35 ?_
        refine lv_bipush (v := (12 : Int32)) hx hb dX11_append_38 (by decide) ?_
        refine lv_icmp_lt (tgt := 46) hx hb dX11_append_40 (by decide) (fun cnd => ?_) (fun cnd => ?_)
        · replace h := ifp h cnd
          refine lv_aload_n hx hb dX11_append_46 rfl (lv_at hl 0 rfl) ?_
          refine lv_iload_n hx hb dX11_append_47 rfl (lv_at hl 3 rfl) ?_
          obtain ⟨u7, hc8, h⟩ := ob_some h
          refine x_runVv (RW' := (RW_X11_append cy o q_now_words_L1 d d_now_words_L1 d_now mono u7.1 u7.2)) (wr := []) (isC := [0, 1]) (isR := []) (isF := [0, 1]) (rest := []) (As := [.int x2]) (n := 1) X Z (c_X9_push l D cy q_now_words_L1 d_now_words_L1 now_words_L1_size_ now_words_L1_letters_ x2 u7 hc8) gX11_append_X9_push rfl (by decide +kernel) ⟨Nat.le_of_ble_eq_true rfl, Nat.le_of_ble_eq_true rfl⟩ ⟨rfl, rfl⟩ ⟨Nat.le_of_ble_eq_true rfl, Nat.le_of_ble_eq_true rfl⟩ (x_rv X Z 0 rfl rfl) ⟨rfl, rfl, roN, rfl, rfl, by decide⟩ ⟨rfl, rfl⟩ rfl hl.1 rfl (Nat.le_of_ble_eq_true rfl) dX11_append_48 (fun H locs Z => ?_)
          refine lv_aload_n hx hb dX11_append_51 rfl (lv_at hl 0 rfl) ?_
          refine x_get X Z 0 1 (v := .int u7.1) rfl rfl lk_X11_append_X9_size dX11_append_52 ?_
          obtain rfl := Option.some.inj h
          exact K H locs ls _ dX11_append_55 Z
        · replace h := ifn h cnd
          refine lv_bipush (v := (-3 : Int32)) hx hb dX11_append_43 (by decide) ?_
          obtain rfl := Option.some.inj h
          exact K H locs ls _ dX11_append_45 Z
      · replace h := ifn h cnd
        refine lv_iconst (v := (-1 : Int32)) hx hb dX11_append_22 (by decide) ?_
        obtain rfl := Option.some.inj h
        exact K H locs ls _ dX11_append_23 Z
theorem c_X11_append (l : Launch) (D : va_G) (cy : Nat → ClassId) (o : Nat) (q_now_words_L1 : Nat) (d : Nat → Nat) (d_now_words_L1 : Nat → Nat) (d_now : Nat → Nat) (mono : Value) (snapshotTaken_ : Int32) (inputLength_ : Int32) (now_letters_ : Int32) (now_words_ : Nat → Option Nat) (now_words_L1_size_ : Int32) (now_words_L1_letters_ : Nat → Int32) (x1 : Int32) (x2 : Int32) (out : Int32 × Int32 × (Nat → Int32)) (h : f_X11_append x1 x2 q_now_words_L1 now_letters_ now_words_ now_words_L1_size_ now_words_L1_letters_ = some out) : CtI l yX11_append wsX11_append rm_X11_append D cy [.ref o, .int x1, .int x2] (RW_X11_append cy o q_now_words_L1 d d_now_words_L1 d_now mono now_words_L1_size_ now_words_L1_letters_) (RO_X11_append cy o q_now_words_L1 d d_now_words_L1 d_now mono snapshotTaken_ inputLength_ now_letters_ now_words_) (RW_X11_append cy o q_now_words_L1 d d_now_words_L1 d_now mono out.2.1 out.2.2) out.1 :=
  mk_i (ty := .int) (by decide) rfl rfl (Nat.le_of_ble_eq_true rfl) (fun p e s m args below meth c A Q X K H locs ls Z hl => wt_X11_append o q_now_words_L1 d d_now_words_L1 d_now mono snapshotTaken_ inputLength_ now_letters_ now_words_ now_words_L1_size_ now_words_L1_letters_ x1 x2 out X h K H locs ls Z hl)
/-! SubwordCounter clearWord (I)I -/
abbrev rm_X11_clearWord : Room := { frames := 1, cells := 0, slots := 0, locals := 20 }
def RW_X11_clearWord (cy : Nat → ClassId) (o : Nat) (q_now_words_L1 : Nat) (d : Nat → Nat) (d_now_words_L1 : Nat → Nat) (d_now : Nat → Nat) (mono : Value) (now_words_L1_size_ : Int32) : va_W := [(q_now_words_L1, ob 8 (oX9 d_now_words_L1 now_words_L1_size_))]
def RO_X11_clearWord (cy : Nat → ClassId) (o : Nat) (q_now_words_L1 : Nat) (d : Nat → Nat) (d_now_words_L1 : Nat → Nat) (d_now : Nat → Nat) (mono : Value) (snapshotTaken_ : Int32) (inputLength_ : Int32) (now_letters_ : Int32) (now_words_ : Nat → Option Nat) : va_W := [(o, ob 10 (oX11 d mono snapshotTaken_ inputLength_)), ((d 0), ob 5 (oX5 d_now now_letters_)), ((d_now 1), aR cy 5 3 now_words_)]
theorem in_X11_clearWord_X11 : ∀ w ∈ u_ws RX11 TX11 12, w ∈ wsX11_clearWord := fun w h => (List.mem_cons_of_mem _ (List.mem_append_left _ (List.mem_append_left _ (List.mem_append_right _ h))))
theorem lk_X11_clearWord_X11_now : Lk wsX11_clearWord RX11 10 10 0 := ⟨RX11, TX11, 12, rfl, by decide, in_X11_clearWord_X11, mem_at 1 rfl⟩
theorem in_X11_clearWord_X5 : ∀ w ∈ u_ws RX5 TX5 4, w ∈ wsX11_clearWord := fun w h => (List.mem_cons_of_mem _ (List.mem_append_left _ (List.mem_append_right _ h)))
theorem lk_X11_clearWord_X5_words : Lk wsX11_clearWord RX11 85 5 1 := ⟨RX5, TX5, 4, rfl, by decide, in_X11_clearWord_X5, mem_at 2 rfl⟩
theorem in_X11_clearWord_X9 : ∀ w ∈ u_ws RX9 TX9 3, w ∈ wsX11_clearWord := fun w h => (List.mem_cons_of_mem _ (List.mem_append_right _ h))
theorem lk_X11_clearWord_X9_size : Lk wsX11_clearWord RX11 89 8 1 := ⟨RX9, TX9, 3, rfl, by decide, in_X11_clearWord_X9, mem_at 3 rfl⟩
theorem lp_X11_clearWord_X9_size : Lp wsX11_clearWord RX11 89 8 1 .int := ⟨RX9, TX9, 3, tyX9, rfl, by decide, in_X11_clearWord_X9, mem_at 3 rfl, tyX9_ok, nmX9, rfl, by decide +kernel⟩
def f_X11_clearWord (x1 : Int32) (q_now_words_L1 : Nat) (now_words_ : Nat → Option Nat) (now_words_L1_size_ : Int32) : Option (Int32 × Int32) :=
  (f_X11_isWord x1).bind (fun u1 =>
  if u1 = 0 then
  (some ((-1 : Int32), now_words_L1_size_))
  else
  (ldA now_words_ 3 x1 (fun r4 =>
  asR r4 q_now_words_L1 (
  ldA now_words_ 3 x1 (fun r8 =>
  asR r8 q_now_words_L1 (
  some (now_words_L1_size_, (0 : Int32))))))))
set_option maxHeartbeats 4000000 in
set_option maxRecDepth 100000 in
theorem wt_X11_clearWord {p : Program} {l : Launch} {e : Env} {s : State} {m : MethodId} {args : Array Value} {below : List Frame} {meth : Method} {c : Code} {A : Nat → Prop} {Q : State → Prop} {D : va_G} {cy : Nat → ClassId} (o : Nat) (q_now_words_L1 : Nat) (d : Nat → Nat) (d_now_words_L1 : Nat → Nat) (d_now : Nat → Nat) (mono : Value) (snapshotTaken_ : Int32) (inputLength_ : Int32) (now_letters_ : Int32) (now_words_ : Nat → Option Nat) (now_words_L1_size_ : Int32) (x1 : Int32) (out : Int32 × Int32) (X : Cx p m c cX11_clearWord 3 s args wsX11_clearWord RX11 A D cy (RO_X11_clearWord cy o q_now_words_L1 d d_now_words_L1 d_now mono snapshotTaken_ inputLength_ now_letters_ now_words_)) (h : f_X11_clearWord x1 q_now_words_L1 now_words_ now_words_L1_size_ = some out) (K : ∀ (H : Heap) (locs : List Loc) (ls : Array Slot) (pc : Nat), decode cX11_clearWord pc = .ok (.ireturn, 1) → St A D s (RW_X11_clearWord cy o q_now_words_L1 d d_now_words_L1 d_now mono out.2) H locs → W p l e rm_X11_clearWord s m args below meth c H locs 0 0 Q (F0 m pc ls [.int out.1])) : ∀ (H : Heap) (locs : List Loc) (ls : Array Slot), St A D s (RW_X11_clearWord cy o q_now_words_L1 d d_now_words_L1 d_now mono now_words_L1_size_) H locs → lv_has ls 3 [(0, .ref o), (1, .int x1)] → W p l e rm_X11_clearWord s m args below meth c H locs 0 0 Q (F0 m 0 ls []) := by
  intro H locs ls Z hl
  have hx := X.1.1
  have hb := X.1.2.1
  unfold f_X11_clearWord at h
  refine lv_iload_n hx hb dX11_clearWord_0 rfl (lv_at hl 1 rfl) ?_
  obtain ⟨u1, hc2, h⟩ := ob_some h
  refine x_runSi (RW' := (RW_X11_clearWord cy o q_now_words_L1 d d_now_words_L1 d_now mono now_words_L1_size_)) (wr := [(q_now_words_L1, ob 8 (oX9 d_now_words_L1 now_words_L1_size_))]) (isC := []) (isR := [0]) (isF := [0]) (rest := []) (As := [.int x1]) (n := 1) X Z (c_X11_isWord l D cy x1 u1 hc2) gX11_clearWord_X11_isWord rfl (by decide +kernel) ⟨Nat.le_of_ble_eq_true rfl, Nat.le_of_ble_eq_true rfl⟩ ⟨rfl, rfl⟩ ⟨Nat.le_of_ble_eq_true rfl, Nat.le_of_ble_eq_true rfl⟩ ⟨rfl, rfl, roN, rfl, rfl, by decide⟩ ⟨rfl, rfl⟩ rfl hl.1 rfl (Nat.le_of_ble_eq_true rfl) dX11_clearWord_1 (fun H locs Z => ?_)
  refine lv_if_ne (tgt := 9) hx hb dX11_clearWord_4 (by decide) (fun cnd => ?_) (fun cnd => ?_)
  · replace h := ifn h cnd
    refine lv_aload_n hx hb dX11_clearWord_9 rfl (lv_at hl 0 rfl) ?_
    refine x_getO X Z 0 0 (v := .ref (d 0)) rfl rfl lk_X11_clearWord_X11_now dX11_clearWord_10 ?_
    refine x_getO X Z 1 1 (v := .ref (d_now 1)) rfl rfl lk_X11_clearWord_X5_words dX11_clearWord_13 ?_
    refine lv_iload_n hx hb dX11_clearWord_16 rfl (lv_at hl 1 rfl) ?_
    obtain ⟨hin3, r4, hv5, h⟩ := ld_b h
    obtain ⟨ha6, h⟩ := as_b h
    refine x_raldO X Z 2 5 rfl rfl hin3 hv5 ha6 dX11_clearWord_17 ?_
    refine x_get X Z 0 1 (v := .int now_words_L1_size_) rfl rfl lk_X11_clearWord_X9_size dX11_clearWord_18 ?_
    refine lv_istore_n (lv' := [(2, .int now_words_L1_size_), (0, .ref o), (1, .int x1)]) hx hb dX11_clearWord_21 rfl hl (by decide) rfl (fun ls hl => ?_)
    refine lv_aload_n hx hb dX11_clearWord_22 rfl (lv_at hl 1 rfl) ?_
    refine x_getO X Z 0 0 (v := .ref (d 0)) rfl rfl lk_X11_clearWord_X11_now dX11_clearWord_23 ?_
    refine x_getO X Z 1 1 (v := .ref (d_now 1)) rfl rfl lk_X11_clearWord_X5_words dX11_clearWord_26 ?_
    refine lv_iload_n hx hb dX11_clearWord_29 rfl (lv_at hl 2 rfl) ?_
    obtain ⟨hin7, r8, hv9, h⟩ := ld_b h
    obtain ⟨ha10, h⟩ := as_b h
    refine x_raldO X Z 2 5 rfl rfl hin7 hv9 ha10 dX11_clearWord_30 ?_
    refine lv_iconst (v := (0 : Int32)) hx hb dX11_clearWord_31 (by decide) ?_
    refine x_put X Z 0 1 (RW_X11_clearWord cy o q_now_words_L1 d d_now_words_L1 d_now mono (0 : Int32)) rfl lp_X11_clearWord_X9_size (Nat.le_of_ble_eq_true rfl) rfl dX11_clearWord_32 (fun H locs Z => ?_)
    refine lv_iload_n hx hb dX11_clearWord_35 rfl (lv_at hl 0 rfl) ?_
    obtain rfl := Option.some.inj h
    exact K H locs ls _ dX11_clearWord_36 Z
  · replace h := ifp h cnd
    refine lv_iconst (v := (-1 : Int32)) hx hb dX11_clearWord_7 (by decide) ?_
    obtain rfl := Option.some.inj h
    exact K H locs ls _ dX11_clearWord_8 Z
theorem c_X11_clearWord (l : Launch) (D : va_G) (cy : Nat → ClassId) (o : Nat) (q_now_words_L1 : Nat) (d : Nat → Nat) (d_now_words_L1 : Nat → Nat) (d_now : Nat → Nat) (mono : Value) (snapshotTaken_ : Int32) (inputLength_ : Int32) (now_letters_ : Int32) (now_words_ : Nat → Option Nat) (now_words_L1_size_ : Int32) (x1 : Int32) (out : Int32 × Int32) (h : f_X11_clearWord x1 q_now_words_L1 now_words_ now_words_L1_size_ = some out) : CtI l yX11_clearWord wsX11_clearWord rm_X11_clearWord D cy [.ref o, .int x1] (RW_X11_clearWord cy o q_now_words_L1 d d_now_words_L1 d_now mono now_words_L1_size_) (RO_X11_clearWord cy o q_now_words_L1 d d_now_words_L1 d_now mono snapshotTaken_ inputLength_ now_letters_ now_words_) (RW_X11_clearWord cy o q_now_words_L1 d d_now_words_L1 d_now mono out.2) out.1 :=
  mk_i (ty := .int) (by decide) rfl rfl (Nat.le_of_ble_eq_true rfl) (fun p e s m args below meth c A Q X K H locs ls Z hl => wt_X11_clearWord o q_now_words_L1 d d_now_words_L1 d_now mono snapshotTaken_ inputLength_ now_letters_ now_words_ now_words_L1_size_ x1 out X h K H locs ls Z hl)
/-! SubwordCounter length (I)I -/
abbrev rm_X11_length : Room := { frames := 1, cells := 0, slots := 0, locals := 20 }
def RW_X11_length (cy : Nat → ClassId) (o : Nat) (q_now_words_L1 : Nat) (d : Nat → Nat) (d_now_words_L1 : Nat → Nat) (d_now : Nat → Nat) (mono : Value)  : va_W := []
def RO_X11_length (cy : Nat → ClassId) (o : Nat) (q_now_words_L1 : Nat) (d : Nat → Nat) (d_now_words_L1 : Nat → Nat) (d_now : Nat → Nat) (mono : Value) (snapshotTaken_ : Int32) (inputLength_ : Int32) (now_words_L1_size_ : Int32) (now_letters_ : Int32) (now_words_ : Nat → Option Nat) : va_W := [(o, ob 10 (oX11 d mono snapshotTaken_ inputLength_)), (q_now_words_L1, ob 8 (oX9 d_now_words_L1 now_words_L1_size_)), ((d 0), ob 5 (oX5 d_now now_letters_)), ((d_now 1), aR cy 5 3 now_words_)]
theorem in_X11_length_X11 : ∀ w ∈ u_ws RX11 TX11 12, w ∈ wsX11_length := fun w h => (List.mem_cons_of_mem _ (List.mem_append_left _ (List.mem_append_left _ (List.mem_append_right _ h))))
theorem lk_X11_length_X11_now : Lk wsX11_length RX11 10 10 0 := ⟨RX11, TX11, 12, rfl, by decide, in_X11_length_X11, mem_at 1 rfl⟩
theorem in_X11_length_X5 : ∀ w ∈ u_ws RX5 TX5 4, w ∈ wsX11_length := fun w h => (List.mem_cons_of_mem _ (List.mem_append_left _ (List.mem_append_right _ h)))
theorem lk_X11_length_X5_words : Lk wsX11_length RX11 85 5 1 := ⟨RX5, TX5, 4, rfl, by decide, in_X11_length_X5, mem_at 2 rfl⟩
theorem in_X11_length_X9 : ∀ w ∈ u_ws RX9 TX9 3, w ∈ wsX11_length := fun w h => (List.mem_cons_of_mem _ (List.mem_append_right _ h))
theorem lk_X11_length_X9_size : Lk wsX11_length RX11 89 8 1 := ⟨RX9, TX9, 3, rfl, by decide, in_X11_length_X9, mem_at 3 rfl⟩
def f_X11_length (x1 : Int32) (q_now_words_L1 : Nat) (now_words_L1_size_ : Int32) (now_words_ : Nat → Option Nat) : Option (Int32) :=
  (f_X11_isWord x1).bind (fun u1 =>
  if u1 = 0 then
  (some (-1 : Int32))
  else
  (ldA now_words_ 3 x1 (fun r4 =>
  asR r4 q_now_words_L1 (
  some now_words_L1_size_))))
set_option maxHeartbeats 4000000 in
set_option maxRecDepth 100000 in
theorem wt_X11_length {p : Program} {l : Launch} {e : Env} {s : State} {m : MethodId} {args : Array Value} {below : List Frame} {meth : Method} {c : Code} {A : Nat → Prop} {Q : State → Prop} {D : va_G} {cy : Nat → ClassId} (o : Nat) (q_now_words_L1 : Nat) (d : Nat → Nat) (d_now_words_L1 : Nat → Nat) (d_now : Nat → Nat) (mono : Value) (snapshotTaken_ : Int32) (inputLength_ : Int32) (now_words_L1_size_ : Int32) (now_letters_ : Int32) (now_words_ : Nat → Option Nat)  (x1 : Int32) (out : Int32) (X : Cx p m c cX11_length 2 s args wsX11_length RX11 A D cy (RO_X11_length cy o q_now_words_L1 d d_now_words_L1 d_now mono snapshotTaken_ inputLength_ now_words_L1_size_ now_letters_ now_words_)) (h : f_X11_length x1 q_now_words_L1 now_words_L1_size_ now_words_ = some out) (K : ∀ (H : Heap) (locs : List Loc) (ls : Array Slot) (pc : Nat), decode cX11_length pc = .ok (.ireturn, 1) → St A D s (RW_X11_length cy o q_now_words_L1 d d_now_words_L1 d_now mono) H locs → W p l e rm_X11_length s m args below meth c H locs 0 0 Q (F0 m pc ls [.int out])) : ∀ (H : Heap) (locs : List Loc) (ls : Array Slot), St A D s (RW_X11_length cy o q_now_words_L1 d d_now_words_L1 d_now mono) H locs → lv_has ls 2 [(0, .ref o), (1, .int x1)] → W p l e rm_X11_length s m args below meth c H locs 0 0 Q (F0 m 0 ls []) := by
  intro H locs ls Z hl
  have hx := X.1.1
  have hb := X.1.2.1
  unfold f_X11_length at h
  refine lv_iload_n hx hb dX11_length_0 rfl (lv_at hl 1 rfl) ?_
  obtain ⟨u1, hc2, h⟩ := ob_some h
  refine x_runSi (RW' := (RW_X11_length cy o q_now_words_L1 d d_now_words_L1 d_now mono)) (wr := []) (isC := []) (isR := []) (isF := []) (rest := []) (As := [.int x1]) (n := 1) X Z (c_X11_isWord l D cy x1 u1 hc2) gX11_length_X11_isWord rfl (by decide +kernel) ⟨Nat.le_of_ble_eq_true rfl, Nat.le_of_ble_eq_true rfl⟩ ⟨rfl, rfl⟩ ⟨Nat.le_of_ble_eq_true rfl, Nat.le_of_ble_eq_true rfl⟩ ⟨rfl, rfl, roN, rfl, rfl, by decide⟩ ⟨rfl, rfl⟩ rfl hl.1 rfl (Nat.le_of_ble_eq_true rfl) dX11_length_1 (fun H locs Z => ?_)
  refine lv_if_eq (tgt := 22) hx hb dX11_length_4 (by decide) (fun cnd => ?_) (fun cnd => ?_)
  · replace h := ifp h cnd
    refine lv_iconst (v := (-1 : Int32)) hx hb dX11_length_22 (by decide) ?_
    obtain rfl := Option.some.inj h
    exact K H locs ls _ dX11_length_23 Z
  · replace h := ifn h cnd
    refine lv_aload_n hx hb dX11_length_7 rfl (lv_at hl 0 rfl) ?_
    refine x_getO X Z 0 0 (v := .ref (d 0)) rfl rfl lk_X11_length_X11_now dX11_length_8 ?_
    refine x_getO X Z 2 1 (v := .ref (d_now 1)) rfl rfl lk_X11_length_X5_words dX11_length_11 ?_
    refine lv_iload_n hx hb dX11_length_14 rfl (lv_at hl 1 rfl) ?_
    obtain ⟨hin3, r4, hv5, h⟩ := ld_b h
    obtain ⟨ha6, h⟩ := as_b h
    refine x_raldO X Z 3 5 rfl rfl hin3 hv5 ha6 dX11_length_15 ?_
    refine x_getO X Z 1 1 (v := .int now_words_L1_size_) rfl rfl lk_X11_length_X9_size dX11_length_16 ?_
    refine lv_goto (tgt := 23) hx hb dX11_length_19 (by decide) ?_
    obtain rfl := Option.some.inj h
    exact K H locs ls _ dX11_length_23 Z
theorem c_X11_length (l : Launch) (D : va_G) (cy : Nat → ClassId) (o : Nat) (q_now_words_L1 : Nat) (d : Nat → Nat) (d_now_words_L1 : Nat → Nat) (d_now : Nat → Nat) (mono : Value) (snapshotTaken_ : Int32) (inputLength_ : Int32) (now_words_L1_size_ : Int32) (now_letters_ : Int32) (now_words_ : Nat → Option Nat)  (x1 : Int32) (out : Int32) (h : f_X11_length x1 q_now_words_L1 now_words_L1_size_ now_words_ = some out) : CtI l yX11_length wsX11_length rm_X11_length D cy [.ref o, .int x1] (RW_X11_length cy o q_now_words_L1 d d_now_words_L1 d_now mono) (RO_X11_length cy o q_now_words_L1 d d_now_words_L1 d_now mono snapshotTaken_ inputLength_ now_words_L1_size_ now_letters_ now_words_) (RW_X11_length cy o q_now_words_L1 d d_now_words_L1 d_now mono) out :=
  mk_i (ty := .int) (by decide) rfl rfl (Nat.le_of_ble_eq_true rfl) (fun p e s m args below meth c A Q X K H locs ls Z hl => wt_X11_length o q_now_words_L1 d d_now_words_L1 d_now mono snapshotTaken_ inputLength_ now_words_L1_size_ now_letters_ now_words_ x1 out X h K H locs ls Z hl)
/-! SubwordCounter letter (II)I -/
abbrev rm_X11_letter : Room := { frames := 1, cells := 0, slots := 0, locals := 20 }
def RW_X11_letter (cy : Nat → ClassId) (o : Nat) (q_now_words_L1 : Nat) (d : Nat → Nat) (d_now_words_L1 : Nat → Nat) (d_now : Nat → Nat) (mono : Value)  : va_W := []
def RO_X11_letter (cy : Nat → ClassId) (o : Nat) (q_now_words_L1 : Nat) (d : Nat → Nat) (d_now_words_L1 : Nat → Nat) (d_now : Nat → Nat) (mono : Value) (snapshotTaken_ : Int32) (inputLength_ : Int32) (now_words_L1_size_ : Int32) (now_letters_ : Int32) (now_words_L1_letters_ : Nat → Int32) (now_words_ : Nat → Option Nat) : va_W := [(o, ob 10 (oX11 d mono snapshotTaken_ inputLength_)), (q_now_words_L1, ob 8 (oX9 d_now_words_L1 now_words_L1_size_)), ((d 0), ob 5 (oX5 d_now now_letters_)), ((d_now_words_L1 0), aI cy 12 now_words_L1_letters_), ((d_now 1), aR cy 5 3 now_words_)]
theorem in_X11_letter_X11 : ∀ w ∈ u_ws RX11 TX11 12, w ∈ wsX11_letter := fun w h => (List.mem_cons_of_mem _ (List.mem_append_left _ (List.mem_append_left _ (List.mem_append_right _ h))))
theorem lk_X11_letter_X11_now : Lk wsX11_letter RX11 10 10 0 := ⟨RX11, TX11, 12, rfl, by decide, in_X11_letter_X11, mem_at 1 rfl⟩
theorem in_X11_letter_X5 : ∀ w ∈ u_ws RX5 TX5 4, w ∈ wsX11_letter := fun w h => (List.mem_cons_of_mem _ (List.mem_append_left _ (List.mem_append_right _ h)))
theorem lk_X11_letter_X5_words : Lk wsX11_letter RX11 85 5 1 := ⟨RX5, TX5, 4, rfl, by decide, in_X11_letter_X5, mem_at 2 rfl⟩
theorem in_X11_letter_X9 : ∀ w ∈ u_ws RX9 TX9 3, w ∈ wsX11_letter := fun w h => (List.mem_cons_of_mem _ (List.mem_append_right _ h))
theorem lk_X11_letter_X9_size : Lk wsX11_letter RX11 89 8 1 := ⟨RX9, TX9, 3, rfl, by decide, in_X11_letter_X9, mem_at 3 rfl⟩
theorem lk_X11_letter_X9_letters : Lk wsX11_letter RX11 95 8 0 := ⟨RX9, TX9, 3, rfl, by decide, in_X11_letter_X9, mem_at 4 rfl⟩
def f_X11_letter (x1 : Int32) (x2 : Int32) (q_now_words_L1 : Nat) (now_words_L1_size_ : Int32) (now_words_L1_letters_ : Nat → Int32) (now_words_ : Nat → Option Nat) : Option (Int32) :=
  (f_X11_isWord x1).bind (fun u1 =>
  if u1 = 0 then
  (some (-1 : Int32))
  else
  (ldA now_words_ 3 x1 (fun r4 =>
  asR r4 q_now_words_L1 (
  if x2 < 0 then
  (some (-2 : Int32))
  else
  (if now_words_L1_size_ ≤ x2 then
  (some (-2 : Int32))
  else
  (ldA now_words_L1_letters_ 12 x2 (fun v8 =>
  some v8)))))))
set_option maxHeartbeats 4000000 in
set_option maxRecDepth 100000 in
theorem wt_X11_letter {p : Program} {l : Launch} {e : Env} {s : State} {m : MethodId} {args : Array Value} {below : List Frame} {meth : Method} {c : Code} {A : Nat → Prop} {Q : State → Prop} {D : va_G} {cy : Nat → ClassId} (o : Nat) (q_now_words_L1 : Nat) (d : Nat → Nat) (d_now_words_L1 : Nat → Nat) (d_now : Nat → Nat) (mono : Value) (snapshotTaken_ : Int32) (inputLength_ : Int32) (now_words_L1_size_ : Int32) (now_letters_ : Int32) (now_words_L1_letters_ : Nat → Int32) (now_words_ : Nat → Option Nat)  (x1 : Int32) (x2 : Int32) (out : Int32) (X : Cx p m c cX11_letter 4 s args wsX11_letter RX11 A D cy (RO_X11_letter cy o q_now_words_L1 d d_now_words_L1 d_now mono snapshotTaken_ inputLength_ now_words_L1_size_ now_letters_ now_words_L1_letters_ now_words_)) (h : f_X11_letter x1 x2 q_now_words_L1 now_words_L1_size_ now_words_L1_letters_ now_words_ = some out) (K : ∀ (H : Heap) (locs : List Loc) (ls : Array Slot) (pc : Nat), decode cX11_letter pc = .ok (.ireturn, 1) → St A D s (RW_X11_letter cy o q_now_words_L1 d d_now_words_L1 d_now mono) H locs → W p l e rm_X11_letter s m args below meth c H locs 0 0 Q (F0 m pc ls [.int out])) : ∀ (H : Heap) (locs : List Loc) (ls : Array Slot), St A D s (RW_X11_letter cy o q_now_words_L1 d d_now_words_L1 d_now mono) H locs → lv_has ls 4 [(0, .ref o), (1, .int x1), (2, .int x2)] → W p l e rm_X11_letter s m args below meth c H locs 0 0 Q (F0 m 0 ls []) := by
  intro H locs ls Z hl
  have hx := X.1.1
  have hb := X.1.2.1
  unfold f_X11_letter at h
  refine lv_iload_n hx hb dX11_letter_0 rfl (lv_at hl 1 rfl) ?_
  obtain ⟨u1, hc2, h⟩ := ob_some h
  refine x_runSi (RW' := (RW_X11_letter cy o q_now_words_L1 d d_now_words_L1 d_now mono)) (wr := []) (isC := []) (isR := []) (isF := []) (rest := []) (As := [.int x1]) (n := 1) X Z (c_X11_isWord l D cy x1 u1 hc2) gX11_letter_X11_isWord rfl (by decide +kernel) ⟨Nat.le_of_ble_eq_true rfl, Nat.le_of_ble_eq_true rfl⟩ ⟨rfl, rfl⟩ ⟨Nat.le_of_ble_eq_true rfl, Nat.le_of_ble_eq_true rfl⟩ ⟨rfl, rfl, roN, rfl, rfl, by decide⟩ ⟨rfl, rfl⟩ rfl hl.1 rfl (Nat.le_of_ble_eq_true rfl) dX11_letter_1 (fun H locs Z => ?_)
  refine lv_if_ne (tgt := 9) hx hb dX11_letter_4 (by decide) (fun cnd => ?_) (fun cnd => ?_)
  · replace h := ifn h cnd
    refine lv_aload_n hx hb dX11_letter_9 rfl (lv_at hl 0 rfl) ?_
    refine x_getO X Z 0 0 (v := .ref (d 0)) rfl rfl lk_X11_letter_X11_now dX11_letter_10 ?_
    refine x_getO X Z 2 1 (v := .ref (d_now 1)) rfl rfl lk_X11_letter_X5_words dX11_letter_13 ?_
    refine lv_iload_n hx hb dX11_letter_16 rfl (lv_at hl 1 rfl) ?_
    obtain ⟨hin3, r4, hv5, h⟩ := ld_b h
    obtain ⟨ha6, h⟩ := as_b h
    refine x_raldO X Z 4 5 rfl rfl hin3 hv5 ha6 dX11_letter_17 ?_
    refine lv_astore_n (lv' := [(3, .ref q_now_words_L1), (0, .ref o), (1, .int x1), (2, .int x2)]) hx hb dX11_letter_18 rfl hl (by decide) rfl (fun ls hl => ?_)
    refine lv_iload_n hx hb dX11_letter_19 rfl (lv_at hl 3 rfl) ?_
    refine lv_if_lt (tgt := 40) hx hb dX11_letter_20 (by decide) (fun cnd => ?_) (fun cnd => ?_)
    · replace h := ifp h cnd
      refine lv_bipush (v := (-2 : Int32)) hx hb dX11_letter_40 (by decide) ?_
      obtain rfl := Option.some.inj h
      exact K H locs ls _ dX11_letter_42 Z
    · replace h := ifn h cnd
      refine lv_iload_n hx hb dX11_letter_23 rfl (lv_at hl 3 rfl) ?_
      refine lv_aload_n hx hb dX11_letter_24 rfl (lv_at hl 0 rfl) ?_
      refine x_getO X Z 1 1 (v := .int now_words_L1_size_) rfl rfl lk_X11_letter_X9_size dX11_letter_25 ?_
      refine lv_icmp_ge (tgt := 40) hx hb dX11_letter_28 (by decide) (fun cnd => ?_) (fun cnd => ?_)
      · replace h := ifp h cnd
        refine lv_bipush (v := (-2 : Int32)) hx hb dX11_letter_40 (by decide) ?_
        obtain rfl := Option.some.inj h
        exact K H locs ls _ dX11_letter_42 Z
      · replace h := ifn h cnd
        refine lv_aload_n hx hb dX11_letter_31 rfl (lv_at hl 0 rfl) ?_
        refine x_getO X Z 1 0 (v := .ref (d_now_words_L1 0)) rfl rfl lk_X11_letter_X9_letters dX11_letter_32 ?_
        refine lv_iload_n hx hb dX11_letter_35 rfl (lv_at hl 3 rfl) ?_
        obtain ⟨hin7, v8, hv9, h⟩ := ld_b h
        refine x_ialdO X Z 3 rfl hin7 hv9 dX11_letter_36 ?_
        refine lv_goto (tgt := 42) hx hb dX11_letter_37 (by decide) ?_
        obtain rfl := Option.some.inj h
        exact K H locs ls _ dX11_letter_42 Z
  · replace h := ifp h cnd
    refine lv_iconst (v := (-1 : Int32)) hx hb dX11_letter_7 (by decide) ?_
    obtain rfl := Option.some.inj h
    exact K H locs ls _ dX11_letter_8 Z
theorem c_X11_letter (l : Launch) (D : va_G) (cy : Nat → ClassId) (o : Nat) (q_now_words_L1 : Nat) (d : Nat → Nat) (d_now_words_L1 : Nat → Nat) (d_now : Nat → Nat) (mono : Value) (snapshotTaken_ : Int32) (inputLength_ : Int32) (now_words_L1_size_ : Int32) (now_letters_ : Int32) (now_words_L1_letters_ : Nat → Int32) (now_words_ : Nat → Option Nat)  (x1 : Int32) (x2 : Int32) (out : Int32) (h : f_X11_letter x1 x2 q_now_words_L1 now_words_L1_size_ now_words_L1_letters_ now_words_ = some out) : CtI l yX11_letter wsX11_letter rm_X11_letter D cy [.ref o, .int x1, .int x2] (RW_X11_letter cy o q_now_words_L1 d d_now_words_L1 d_now mono) (RO_X11_letter cy o q_now_words_L1 d d_now_words_L1 d_now mono snapshotTaken_ inputLength_ now_words_L1_size_ now_letters_ now_words_L1_letters_ now_words_) (RW_X11_letter cy o q_now_words_L1 d d_now_words_L1 d_now mono) out :=
  mk_i (ty := .int) (by decide) rfl rfl (Nat.le_of_ble_eq_true rfl) (fun p e s m args below meth c A Q X K H locs ls Z hl => wt_X11_letter o q_now_words_L1 d d_now_words_L1 d_now mono snapshotTaken_ inputLength_ now_words_L1_size_ now_letters_ now_words_L1_letters_ now_words_ x1 x2 out X h K H locs ls Z hl)
/-! SubwordCounter$Word turnRound ()Z -/
abbrev rm_X9_turnRound : Room := { frames := 0, cells := 0, slots := 0, locals := 0 }
def RW_X9_turnRound (cy : Nat → ClassId) (o : Nat) (d : Nat → Nat) (letters_ : Nat → Int32) : va_W := [((d 0), aI cy 12 letters_)]
def RO_X9_turnRound (cy : Nat → ClassId) (o : Nat) (d : Nat → Nat) (size_ : Int32) : va_W := [(o, ob 8 (oX9 d size_))]
theorem in_X9_turnRound_X9 : ∀ w ∈ u_ws RX9 TX9 3, w ∈ wsX9_turnRound := fun w h => (List.mem_cons_of_mem _ (List.mem_append_right _ h))
theorem lk_X9_turnRound_X9_letters : Lk wsX9_turnRound RX9 9 8 0 := ⟨RX9, TX9, 3, rfl, by decide, in_X9_turnRound_X9, mem_at 2 rfl⟩
theorem lk_X9_turnRound_X9_size : Lk wsX9_turnRound RX9 15 8 1 := ⟨RX9, TX9, 3, rfl, by decide, in_X9_turnRound_X9, mem_at 1 rfl⟩
def j_X9_turnRound_51 (size_ : Int32) (letters_ : Nat → Int32) (x2 : Int32) (x3 : Int32) (x4 : Int32) (t0 : Int32) : Option (((Nat → Int32) × Int32 × Int32) ⊕ ((Nat → Int32) × Int32)) :=
  stA letters_ 12 x2 x4 (fun letters_2 =>
  stA letters_2 12 ((size_ - (1 : Int32)) - x2) x3 (fun letters_5 =>
  some (.inl (letters_5, t0, (x2 + (1 : Int32))))))
set_option maxHeartbeats 4000000 in
set_option maxRecDepth 100000 in
theorem jw_X9_turnRound_51 {p : Program} {l : Launch} {e : Env} {s : State} {m : MethodId} {args : Array Value} {below : List Frame} {meth : Method} {c : Code} {A : Nat → Prop} {Q : State → Prop} {D : va_G} {cy : Nat → ClassId} (o : Nat) (d : Nat → Nat) (size_ : Int32) (letters_ : Nat → Int32) (x2 : Int32) (x3 : Int32) (x4 : Int32) (t0 : Int32) (o1 : ((Nat → Int32) × Int32 × Int32) ⊕ ((Nat → Int32) × Int32)) (X : Cx p m c cX9_turnRound 5 s args wsX9_turnRound RX9 A D cy (RO_X9_turnRound cy o d size_)) (h : j_X9_turnRound_51 size_ letters_ x2 x3 x4 t0 = some o1) (K : Sum.elim (fun v : (Nat → Int32) × Int32 × Int32 => ∀ (H : Heap) (locs : List Loc) (ls : Array Slot), St A D s (RW_X9_turnRound cy o d v.1) H locs → lv_has ls 5 [(0, .ref o), (1, .int v.2.1), (2, .int v.2.2)] → W p l e rm_X9_turnRound s m args below meth c H locs 0 0 Q (F0 m 4 ls [])) (fun v : (Nat → Int32) × Int32 => ∀ (H : Heap) (locs : List Loc) (ls : Array Slot), St A D s (RW_X9_turnRound cy o d v.1) H locs → lv_has ls 5 [(1, .int v.2)] → W p l e rm_X9_turnRound s m args below meth c H locs 0 0 Q (F0 m 80 ls [])) o1) : ∀ (H : Heap) (locs : List Loc) (ls : Array Slot), St A D s (RW_X9_turnRound cy o d letters_) H locs → lv_has ls 5 [(0, .ref o), (2, .int x2), (3, .int x3), (4, .int x4)] → W p l e rm_X9_turnRound s m args below meth c H locs 0 0 Q (F0 m 51 ls [.int t0]) := by
  intro H locs ls Z hl
  have hx := X.1.1
  have hb := X.1.2.1
  unfold j_X9_turnRound_51 at h
  refine lv_istore_n (lv' := [(1, .int t0), (0, .ref o), (2, .int x2), (3, .int x3), (4, .int x4)]) hx hb dX9_turnRound_51 rfl hl (by decide) rfl (fun ls hl => ?_)
  refine lv_aload_n hx hb dX9_turnRound_52 rfl (lv_at hl 1 rfl) ?_
  refine x_getO X Z 0 0 (v := .ref (d 0)) rfl rfl lk_X9_turnRound_X9_letters dX9_turnRound_53 ?_
  refine lv_iload_n hx hb dX9_turnRound_56 rfl (lv_at hl 2 rfl) ?_
  refine lv_iload hx hb dX9_turnRound_57 (lv_at hl 4 rfl) ?_
  obtain ⟨hin1, letters_2, hv3, h⟩ := st_b h
  refine x_iast X Z 0 (RW_X9_turnRound cy o d letters_2) rfl hin1 hv3 rfl dX9_turnRound_59 (fun H locs Z => ?_)
  refine lv_aload_n hx hb dX9_turnRound_60 rfl (lv_at hl 1 rfl) ?_
  refine x_getO X Z 0 0 (v := .ref (d 0)) rfl rfl lk_X9_turnRound_X9_letters dX9_turnRound_61 ?_
  refine lv_aload_n hx hb dX9_turnRound_64 rfl (lv_at hl 1 rfl) ?_
  refine x_getO X Z 0 1 (v := .int size_) rfl rfl lk_X9_turnRound_X9_size dX9_turnRound_65 ?_
  refine lv_iconst (v := (1 : Int32)) hx hb dX9_turnRound_68 (by decide) ?_
  refine lv_isub hx hb dX9_turnRound_69 ?_
  refine lv_iload_n hx hb dX9_turnRound_70 rfl (lv_at hl 2 rfl) ?_
  refine lv_isub hx hb dX9_turnRound_71 ?_
  refine lv_iload_n hx hb dX9_turnRound_72 rfl (lv_at hl 3 rfl) ?_
  obtain ⟨hin4, letters_5, hv6, h⟩ := st_b h
  refine x_iast X Z 0 (RW_X9_turnRound cy o d letters_5) rfl hin4 hv6 rfl dX9_turnRound_73 (fun H locs Z => ?_)
  refine lv_iinc (v := (x2 + (1 : Int32))) (lv' := [(2, .int (x2 + (1 : Int32))), (1, .int t0), (0, .ref o), (3, .int x3), (4, .int x4)]) hx hb dX9_turnRound_74 hl (k := 2) rfl rfl (by decide) rfl (fun ls hl => ?_)
  refine lv_goto (tgt := 4) hx hb dX9_turnRound_77 (by decide) ?_
  obtain rfl := Option.some.inj h
  exact sk_l K H locs ls Z (lv_sub hl [2, 1, 0] rfl)
def j_X9_turnRound_50 (size_ : Int32) (letters_ : Nat → Int32) (x2 : Int32) (x3 : Int32) (x4 : Int32) : Option (((Nat → Int32) × Int32 × Int32) ⊕ ((Nat → Int32) × Int32)) :=
  j_X9_turnRound_51 size_ letters_ x2 x3 x4 (0 : Int32)
set_option maxHeartbeats 4000000 in
set_option maxRecDepth 100000 in
theorem jw_X9_turnRound_50 {p : Program} {l : Launch} {e : Env} {s : State} {m : MethodId} {args : Array Value} {below : List Frame} {meth : Method} {c : Code} {A : Nat → Prop} {Q : State → Prop} {D : va_G} {cy : Nat → ClassId} (o : Nat) (d : Nat → Nat) (size_ : Int32) (letters_ : Nat → Int32) (x2 : Int32) (x3 : Int32) (x4 : Int32) (o1 : ((Nat → Int32) × Int32 × Int32) ⊕ ((Nat → Int32) × Int32)) (X : Cx p m c cX9_turnRound 5 s args wsX9_turnRound RX9 A D cy (RO_X9_turnRound cy o d size_)) (h : j_X9_turnRound_50 size_ letters_ x2 x3 x4 = some o1) (K : Sum.elim (fun v : (Nat → Int32) × Int32 × Int32 => ∀ (H : Heap) (locs : List Loc) (ls : Array Slot), St A D s (RW_X9_turnRound cy o d v.1) H locs → lv_has ls 5 [(0, .ref o), (1, .int v.2.1), (2, .int v.2.2)] → W p l e rm_X9_turnRound s m args below meth c H locs 0 0 Q (F0 m 4 ls [])) (fun v : (Nat → Int32) × Int32 => ∀ (H : Heap) (locs : List Loc) (ls : Array Slot), St A D s (RW_X9_turnRound cy o d v.1) H locs → lv_has ls 5 [(1, .int v.2)] → W p l e rm_X9_turnRound s m args below meth c H locs 0 0 Q (F0 m 80 ls [])) o1) : ∀ (H : Heap) (locs : List Loc) (ls : Array Slot), St A D s (RW_X9_turnRound cy o d letters_) H locs → lv_has ls 5 [(0, .ref o), (2, .int x2), (3, .int x3), (4, .int x4)] → W p l e rm_X9_turnRound s m args below meth c H locs 0 0 Q (F0 m 50 ls []) := by
  intro H locs ls Z hl
  have hx := X.1.1
  have hb := X.1.2.1
  unfold j_X9_turnRound_50 at h
  refine lv_iconst (v := (0 : Int32)) hx hb dX9_turnRound_50 (by decide) ?_
  exact jw_X9_turnRound_51 o d size_ letters_ x2 x3 x4 (0 : Int32) _ X h K H locs ls Z (lv_sub hl [0, 1, 2, 3] rfl)
def b_X9_turnRound_4 (size_ : Int32) (letters_ : Nat → Int32) (x1 : Int32) (x2 : Int32) : Option (((Nat → Int32) × Int32 × Int32) ⊕ ((Nat → Int32) × Int32)) :=
  dvI size_ (2 : Int32) (fun v8 =>
  if v8 ≤ x2 then
  (some (.inr (letters_, x1)))
  else
  (ldA letters_ 12 x2 (fun v11 =>
  ldA letters_ 12 ((size_ - (1 : Int32)) - x2) (fun v14 =>
  if x1 = 0 then
  (j_X9_turnRound_50 size_ letters_ x2 v11 v14)
  else
  (if v11 = v14 then
  (j_X9_turnRound_51 size_ letters_ x2 v11 v14 (1 : Int32))
  else
  (j_X9_turnRound_50 size_ letters_ x2 v11 v14))))))
set_option maxHeartbeats 4000000 in
set_option maxRecDepth 100000 in
theorem wb_X9_turnRound_4 {p : Program} {l : Launch} {e : Env} {s : State} {m : MethodId} {args : Array Value} {below : List Frame} {meth : Method} {c : Code} {A : Nat → Prop} {Q : State → Prop} {D : va_G} {cy : Nat → ClassId} (o : Nat) (d : Nat → Nat) (size_ : Int32)  (letters_ : Nat → Int32) (x1 : Int32) (x2 : Int32) (o1 : ((Nat → Int32) × Int32 × Int32) ⊕ ((Nat → Int32) × Int32)) (X : Cx p m c cX9_turnRound 5 s args wsX9_turnRound RX9 A D cy (RO_X9_turnRound cy o d size_)) (h : b_X9_turnRound_4 size_ letters_ x1 x2 = some o1) (K : Sum.elim (fun v : (Nat → Int32) × Int32 × Int32 => ∀ (H : Heap) (locs : List Loc) (ls : Array Slot), St A D s (RW_X9_turnRound cy o d v.1) H locs → lv_has ls 5 [(0, .ref o), (1, .int v.2.1), (2, .int v.2.2)] → W p l e rm_X9_turnRound s m args below meth c H locs 0 0 Q (F0 m 4 ls [])) (fun v : (Nat → Int32) × Int32 => ∀ (H : Heap) (locs : List Loc) (ls : Array Slot), St A D s (RW_X9_turnRound cy o d v.1) H locs → lv_has ls 5 [(1, .int v.2)] → W p l e rm_X9_turnRound s m args below meth c H locs 0 0 Q (F0 m 80 ls [])) o1) : ∀ (H : Heap) (locs : List Loc) (ls : Array Slot), St A D s (RW_X9_turnRound cy o d letters_) H locs → lv_has ls 5 [(0, .ref o), (1, .int x1), (2, .int x2)] → W p l e rm_X9_turnRound s m args below meth c H locs 0 0 Q (F0 m 4 ls []) := by
  intro H locs ls Z hl
  have hx := X.1.1
  have hb := X.1.2.1
  unfold b_X9_turnRound_4 at h
  refine lv_iload_n hx hb dX9_turnRound_4 rfl (lv_at hl 2 rfl) ?_
  refine lv_aload_n hx hb dX9_turnRound_5 rfl (lv_at hl 0 rfl) ?_
  refine x_getO X Z 0 1 (v := .int size_) rfl rfl lk_X9_turnRound_X9_size dX9_turnRound_6 ?_
  refine lv_iconst (v := (2 : Int32)) hx hb dX9_turnRound_9 (by decide) ?_
  obtain ⟨hz7, v8, hv9, h⟩ := dv_b h
  refine lv_idiv hx hb dX9_turnRound_10 hz7 ?_
  rw [hv9]
  refine lv_icmp_ge (tgt := 80) hx hb dX9_turnRound_11 (by decide) (fun cnd => ?_) (fun cnd => ?_)
  · replace h := ifp h cnd
    obtain rfl := Option.some.inj h
    exact (sk_r K) H locs ls Z (lv_sub hl [1] rfl)
  · replace h := ifn h cnd
    refine lv_aload_n hx hb dX9_turnRound_14 rfl (lv_at hl 0 rfl) ?_
    refine x_getO X Z 0 0 (v := .ref (d 0)) rfl rfl lk_X9_turnRound_X9_letters dX9_turnRound_15 ?_
    refine lv_iload_n hx hb dX9_turnRound_18 rfl (lv_at hl 2 rfl) ?_
    obtain ⟨hin10, v11, hv12, h⟩ := ld_b h
    refine x_iald X Z 0 rfl hin10 hv12 dX9_turnRound_19 ?_
    refine lv_istore_n (lv' := [(3, .int v11), (0, .ref o), (1, .int x1), (2, .int x2)]) hx hb dX9_turnRound_20 rfl hl (by decide) rfl (fun ls hl => ?_)
    refine lv_aload_n hx hb dX9_turnRound_21 rfl (lv_at hl 1 rfl) ?_
    refine x_getO X Z 0 0 (v := .ref (d 0)) rfl rfl lk_X9_turnRound_X9_letters dX9_turnRound_22 ?_
    refine lv_aload_n hx hb dX9_turnRound_25 rfl (lv_at hl 1 rfl) ?_
    refine x_getO X Z 0 1 (v := .int size_) rfl rfl lk_X9_turnRound_X9_size dX9_turnRound_26 ?_
    refine lv_iconst (v := (1 : Int32)) hx hb dX9_turnRound_29 (by decide) ?_
    refine lv_isub hx hb dX9_turnRound_30 ?_
    refine lv_iload_n hx hb dX9_turnRound_31 rfl (lv_at hl 3 rfl) ?_
    refine lv_isub hx hb dX9_turnRound_32 ?_
    obtain ⟨hin13, v14, hv15, h⟩ := ld_b h
    refine x_iald X Z 0 rfl hin13 hv15 dX9_turnRound_33 ?_
    refine lv_istore (lv' := [(4, .int v14), (3, .int v11), (0, .ref o), (1, .int x1), (2, .int x2)]) hx hb dX9_turnRound_34 hl (by decide) rfl (fun ls hl => ?_)
    refine lv_iload_n hx hb dX9_turnRound_36 rfl (lv_at hl 3 rfl) ?_
    refine lv_if_eq (tgt := 50) hx hb dX9_turnRound_37 (by decide) (fun cnd => ?_) (fun cnd => ?_)
    · replace h := ifp h cnd
      exact jw_X9_turnRound_50 o d size_ letters_ x2 v11 v14 _ X h K H locs ls Z (lv_sub hl [2, 4, 1, 0] rfl)
    · replace h := ifn h cnd
      refine lv_iload_n hx hb dX9_turnRound_40 rfl (lv_at hl 1 rfl) ?_
      refine lv_iload hx hb dX9_turnRound_41 (lv_at hl 0 rfl) ?_
      refine lv_icmp_ne (tgt := 50) hx hb dX9_turnRound_43 (by decide) (fun cnd => ?_) (fun cnd => ?_)
      · replace h := ifn h cnd
        exact jw_X9_turnRound_50 o d size_ letters_ x2 v11 v14 _ X h K H locs ls Z (lv_sub hl [2, 4, 1, 0] rfl)
      · replace h := ifp h cnd
        refine lv_iconst (v := (1 : Int32)) hx hb dX9_turnRound_46 (by decide) ?_
        refine lv_goto (tgt := 51) hx hb dX9_turnRound_47 (by decide) ?_
        exact jw_X9_turnRound_51 o d size_ letters_ x2 v11 v14 (1 : Int32) _ X h K H locs ls Z (lv_sub hl [2, 4, 1, 0] rfl)
set_option maxHeartbeats 4000000 in
set_option maxRecDepth 100000 in
theorem wl_X9_turnRound_4 {p : Program} {l : Launch} {e : Env} {s : State} {m : MethodId} {args : Array Value} {below : List Frame} {meth : Method} {c : Code} {A : Nat → Prop} {Q : State → Prop} {D : va_G} {cy : Nat → ClassId} (o : Nat) (d : Nat → Nat) (size_ : Int32)  (n : Nat) (v : (Nat → Int32) × Int32 × Int32) (x : (Nat → Int32) × Int32) (X : Cx p m c cX9_turnRound 5 s args wsX9_turnRound RX9 A D cy (RO_X9_turnRound cy o d size_)) (h : loopN (fun v => b_X9_turnRound_4 size_ v.1 v.2.1 v.2.2) n v = some x) (K : ∀ (H : Heap) (locs : List Loc) (ls : Array Slot), St A D s (RW_X9_turnRound cy o d x.1) H locs → lv_has ls 5 [(1, .int x.2)] → W p l e rm_X9_turnRound s m args below meth c H locs 0 0 Q (F0 m 80 ls [])) : ∀ (H : Heap) (locs : List Loc) (ls : Array Slot), St A D s (RW_X9_turnRound cy o d v.1) H locs → lv_has ls 5 [(0, .ref o), (1, .int v.2.1), (2, .int v.2.2)] → W p l e rm_X9_turnRound s m args below meth c H locs 0 0 Q (F0 m 4 ls []) :=
  loop_gen (B := (fun v => b_X9_turnRound_4 size_ v.1 v.2.1 v.2.2)) (Head := fun v : (Nat → Int32) × Int32 × Int32 => ∀ (H : Heap) (locs : List Loc) (ls : Array Slot), St A D s (RW_X9_turnRound cy o d v.1) H locs → lv_has ls 5 [(0, .ref o), (1, .int v.2.1), (2, .int v.2.2)] → W p l e rm_X9_turnRound s m args below meth c H locs 0 0 Q (F0 m 4 ls [])) (Exit := fun v : (Nat → Int32) × Int32 => ∀ (H : Heap) (locs : List Loc) (ls : Array Slot), St A D s (RW_X9_turnRound cy o d v.1) H locs → lv_has ls 5 [(1, .int v.2)] → W p l e rm_X9_turnRound s m args below meth c H locs 0 0 Q (F0 m 80 ls [])) (fun v o9 hb1 K1 => wb_X9_turnRound_4 o d size_ v.1 v.2.1 v.2.2 o9 X hb1 K1) n v x h K
def f_X9_turnRound (size_ : Int32) (letters_ : Nat → Int32) : Option (Int32 × (Nat → Int32)) :=
  (loopN (fun v => b_X9_turnRound_4 size_ v.1 v.2.1 v.2.2) FU (letters_, (1 : Int32), (0 : Int32))).bind (fun u16 =>
  bitZ u16.2 (some (u16.2, u16.1)))
set_option maxHeartbeats 4000000 in
set_option maxRecDepth 100000 in
theorem wt_X9_turnRound {p : Program} {l : Launch} {e : Env} {s : State} {m : MethodId} {args : Array Value} {below : List Frame} {meth : Method} {c : Code} {A : Nat → Prop} {Q : State → Prop} {D : va_G} {cy : Nat → ClassId} (o : Nat) (d : Nat → Nat) (size_ : Int32) (letters_ : Nat → Int32) (out : Int32 × (Nat → Int32)) (X : Cx p m c cX9_turnRound 5 s args wsX9_turnRound RX9 A D cy (RO_X9_turnRound cy o d size_)) (h : f_X9_turnRound size_ letters_ = some out) (K : ∀ (H : Heap) (locs : List Loc) (ls : Array Slot) (pc : Nat), decode cX9_turnRound pc = .ok (.ireturn, 1) → (out.1 = 0 ∨ out.1 = 1) → St A D s (RW_X9_turnRound cy o d out.2) H locs → W p l e rm_X9_turnRound s m args below meth c H locs 0 0 Q (F0 m pc ls [.int out.1])) : ∀ (H : Heap) (locs : List Loc) (ls : Array Slot), St A D s (RW_X9_turnRound cy o d letters_) H locs → lv_has ls 5 [(0, .ref o)] → W p l e rm_X9_turnRound s m args below meth c H locs 0 0 Q (F0 m 0 ls []) := by
  intro H locs ls Z hl
  have hx := X.1.1
  have hb := X.1.2.1
  unfold f_X9_turnRound at h
  refine lv_iconst (v := (1 : Int32)) hx hb dX9_turnRound_0 (by decide) ?_
  refine lv_istore_n (lv' := [(1, .int (1 : Int32)), (0, .ref o)]) hx hb dX9_turnRound_1 rfl hl (by decide) rfl (fun ls hl => ?_)
  refine lv_iconst (v := (0 : Int32)) hx hb dX9_turnRound_2 (by decide) ?_
  refine lv_istore_n (lv' := [(2, .int (0 : Int32)), (1, .int (1 : Int32)), (0, .ref o)]) hx hb dX9_turnRound_3 rfl hl (by decide) rfl (fun ls hl => ?_)
  obtain ⟨u16, hL17, h⟩ := ob_some h
  refine wl_X9_turnRound_4 o d size_ FU (letters_, (1 : Int32), (0 : Int32)) u16 X hL17 (fun H locs ls Z hl => ?_) H locs ls Z (lv_sub hl [2, 1, 0] rfl)
  refine lv_iload_n hx hb dX9_turnRound_80 rfl (lv_at hl 0 rfl) ?_
  obtain ⟨hz18, h⟩ := bz_b h
  obtain rfl := Option.some.inj h
  exact K H locs ls _ dX9_turnRound_81 hz18 Z
theorem c_X9_turnRound (l : Launch) (D : va_G) (cy : Nat → ClassId) (o : Nat) (d : Nat → Nat) (size_ : Int32) (letters_ : Nat → Int32) (out : Int32 × (Nat → Int32)) (h : f_X9_turnRound size_ letters_ = some out) : CtI l yX9_turnRound wsX9_turnRound rm_X9_turnRound D cy [.ref o] (RW_X9_turnRound cy o d letters_) (RO_X9_turnRound cy o d size_) (RW_X9_turnRound cy o d out.2) out.1 :=
  mk_z (by decide) rfl (Nat.le_of_ble_eq_true rfl) (fun p e s m args below meth c A Q X K H locs ls Z hl => wt_X9_turnRound o d size_ letters_ out X h K H locs ls Z hl)
/-! SubwordCounter reverse (I)I -/
abbrev rm_X11_reverse : Room := { frames := 1, cells := 0, slots := 0, locals := 24 }
def RW_X11_reverse (cy : Nat → ClassId) (o : Nat) (q_now_words_L1 : Nat) (d : Nat → Nat) (d_now_words_L1 : Nat → Nat) (d_now : Nat → Nat) (mono : Value) (now_words_L1_letters_ : Nat → Int32) : va_W := [((d_now_words_L1 0), aI cy 12 now_words_L1_letters_)]
def RO_X11_reverse (cy : Nat → ClassId) (o : Nat) (q_now_words_L1 : Nat) (d : Nat → Nat) (d_now_words_L1 : Nat → Nat) (d_now : Nat → Nat) (mono : Value) (snapshotTaken_ : Int32) (inputLength_ : Int32) (now_words_L1_size_ : Int32) (now_letters_ : Int32) (now_words_ : Nat → Option Nat) : va_W := [(o, ob 10 (oX11 d mono snapshotTaken_ inputLength_)), (q_now_words_L1, ob 8 (oX9 d_now_words_L1 now_words_L1_size_)), ((d 0), ob 5 (oX5 d_now now_letters_)), ((d_now 1), aR cy 5 3 now_words_)]
theorem in_X11_reverse_X11 : ∀ w ∈ u_ws RX11 TX11 12, w ∈ wsX11_reverse := fun w h => (List.mem_cons_of_mem _ (List.mem_append_left _ (List.mem_append_left _ (List.mem_append_right _ h))))
theorem lk_X11_reverse_X11_now : Lk wsX11_reverse RX11 10 10 0 := ⟨RX11, TX11, 12, rfl, by decide, in_X11_reverse_X11, mem_at 1 rfl⟩
theorem in_X11_reverse_X5 : ∀ w ∈ u_ws RX5 TX5 4, w ∈ wsX11_reverse := fun w h => (List.mem_cons_of_mem _ (List.mem_append_left _ (List.mem_append_right _ h)))
theorem lk_X11_reverse_X5_words : Lk wsX11_reverse RX11 85 5 1 := ⟨RX5, TX5, 4, rfl, by decide, in_X11_reverse_X5, mem_at 2 rfl⟩
def f_X11_reverse (x1 : Int32) (q_now_words_L1 : Nat) (now_words_L1_size_ : Int32) (now_words_ : Nat → Option Nat) (now_words_L1_letters_ : Nat → Int32) : Option (Int32 × (Nat → Int32)) :=
  (f_X11_isWord x1).bind (fun u1 =>
  if u1 = 0 then
  (some ((-1 : Int32), now_words_L1_letters_))
  else
  (ldA now_words_ 3 x1 (fun r4 =>
  asR r4 q_now_words_L1 (
  (f_X9_turnRound now_words_L1_size_ now_words_L1_letters_).bind (fun u7 =>
  if u7.1 = 0 then
  (some ((0 : Int32), u7.2))
  else
  (some ((1 : Int32), u7.2)))))))
set_option maxHeartbeats 4000000 in
set_option maxRecDepth 100000 in
theorem wt_X11_reverse {p : Program} {l : Launch} {e : Env} {s : State} {m : MethodId} {args : Array Value} {below : List Frame} {meth : Method} {c : Code} {A : Nat → Prop} {Q : State → Prop} {D : va_G} {cy : Nat → ClassId} (o : Nat) (q_now_words_L1 : Nat) (d : Nat → Nat) (d_now_words_L1 : Nat → Nat) (d_now : Nat → Nat) (mono : Value) (snapshotTaken_ : Int32) (inputLength_ : Int32) (now_words_L1_size_ : Int32) (now_letters_ : Int32) (now_words_ : Nat → Option Nat) (now_words_L1_letters_ : Nat → Int32) (x1 : Int32) (out : Int32 × (Nat → Int32)) (X : Cx p m c cX11_reverse 2 s args wsX11_reverse RX11 A D cy (RO_X11_reverse cy o q_now_words_L1 d d_now_words_L1 d_now mono snapshotTaken_ inputLength_ now_words_L1_size_ now_letters_ now_words_)) (h : f_X11_reverse x1 q_now_words_L1 now_words_L1_size_ now_words_ now_words_L1_letters_ = some out) (K : ∀ (H : Heap) (locs : List Loc) (ls : Array Slot) (pc : Nat), decode cX11_reverse pc = .ok (.ireturn, 1) → St A D s (RW_X11_reverse cy o q_now_words_L1 d d_now_words_L1 d_now mono out.2) H locs → W p l e rm_X11_reverse s m args below meth c H locs 0 0 Q (F0 m pc ls [.int out.1])) : ∀ (H : Heap) (locs : List Loc) (ls : Array Slot), St A D s (RW_X11_reverse cy o q_now_words_L1 d d_now_words_L1 d_now mono now_words_L1_letters_) H locs → lv_has ls 2 [(0, .ref o), (1, .int x1)] → W p l e rm_X11_reverse s m args below meth c H locs 0 0 Q (F0 m 0 ls []) := by
  intro H locs ls Z hl
  have hx := X.1.1
  have hb := X.1.2.1
  unfold f_X11_reverse at h
  refine lv_iload_n hx hb dX11_reverse_0 rfl (lv_at hl 1 rfl) ?_
  obtain ⟨u1, hc2, h⟩ := ob_some h
  refine x_runSi (RW' := (RW_X11_reverse cy o q_now_words_L1 d d_now_words_L1 d_now mono now_words_L1_letters_)) (wr := [((d_now_words_L1 0), aI cy 12 now_words_L1_letters_)]) (isC := []) (isR := [0]) (isF := [0]) (rest := []) (As := [.int x1]) (n := 1) X Z (c_X11_isWord l D cy x1 u1 hc2) gX11_reverse_X11_isWord rfl (by decide +kernel) ⟨Nat.le_of_ble_eq_true rfl, Nat.le_of_ble_eq_true rfl⟩ ⟨rfl, rfl⟩ ⟨Nat.le_of_ble_eq_true rfl, Nat.le_of_ble_eq_true rfl⟩ ⟨rfl, rfl, roN, rfl, rfl, by decide⟩ ⟨rfl, rfl⟩ rfl hl.1 rfl (Nat.le_of_ble_eq_true rfl) dX11_reverse_1 (fun H locs Z => ?_)
  refine lv_if_ne (tgt := 9) hx hb dX11_reverse_4 (by decide) (fun cnd => ?_) (fun cnd => ?_)
  · replace h := ifn h cnd
    refine lv_aload_n hx hb dX11_reverse_9 rfl (lv_at hl 0 rfl) ?_
    refine x_getO X Z 0 0 (v := .ref (d 0)) rfl rfl lk_X11_reverse_X11_now dX11_reverse_10 ?_
    refine x_getO X Z 2 1 (v := .ref (d_now 1)) rfl rfl lk_X11_reverse_X5_words dX11_reverse_13 ?_
    refine lv_iload_n hx hb dX11_reverse_16 rfl (lv_at hl 1 rfl) ?_
    obtain ⟨hin3, r4, hv5, h⟩ := ld_b h
    obtain ⟨ha6, h⟩ := as_b h
    refine x_raldO X Z 3 5 rfl rfl hin3 hv5 ha6 dX11_reverse_17 ?_
    obtain ⟨u7, hc8, h⟩ := ob_some h
    refine x_runVi (RW' := (RW_X11_reverse cy o q_now_words_L1 d d_now_words_L1 d_now mono u7.2)) (wr := []) (isC := [0]) (isR := []) (isF := [0]) (rest := []) (As := []) (n := 0) X Z (c_X9_turnRound l D cy q_now_words_L1 d_now_words_L1 now_words_L1_size_ now_words_L1_letters_ u7 hc8) gX11_reverse_X9_turnRound rfl (by decide +kernel) ⟨Nat.le_of_ble_eq_true rfl, Nat.le_of_ble_eq_true rfl⟩ ⟨rfl, rfl⟩ ⟨Nat.le_of_ble_eq_true rfl, Nat.le_of_ble_eq_true rfl⟩ (x_rvO X Z 1 rfl rfl) ⟨rfl, rfl, (roC (Or.inr (mem_at 1 rfl)) roN), rfl, rfl, by decide⟩ ⟨rfl, rfl⟩ rfl hl.1 rfl (Nat.le_of_ble_eq_true rfl) dX11_reverse_18 (fun H locs Z => ?_)
    refine lv_if_eq (tgt := 28) hx hb dX11_reverse_21 (by decide) (fun cnd => ?_) (fun cnd => ?_)
    · replace h := ifp h cnd
      refine lv_iconst (v := (0 : Int32)) hx hb dX11_reverse_28 (by decide) ?_
      obtain rfl := Option.some.inj h
      exact K H locs ls _ dX11_reverse_29 Z
    · replace h := ifn h cnd
      refine lv_iconst (v := (1 : Int32)) hx hb dX11_reverse_24 (by decide) ?_
      refine lv_goto (tgt := 29) hx hb dX11_reverse_25 (by decide) ?_
      obtain rfl := Option.some.inj h
      exact K H locs ls _ dX11_reverse_29 Z
  · replace h := ifp h cnd
    refine lv_iconst (v := (-1 : Int32)) hx hb dX11_reverse_7 (by decide) ?_
    obtain rfl := Option.some.inj h
    exact K H locs ls _ dX11_reverse_8 Z
theorem c_X11_reverse (l : Launch) (D : va_G) (cy : Nat → ClassId) (o : Nat) (q_now_words_L1 : Nat) (d : Nat → Nat) (d_now_words_L1 : Nat → Nat) (d_now : Nat → Nat) (mono : Value) (snapshotTaken_ : Int32) (inputLength_ : Int32) (now_words_L1_size_ : Int32) (now_letters_ : Int32) (now_words_ : Nat → Option Nat) (now_words_L1_letters_ : Nat → Int32) (x1 : Int32) (out : Int32 × (Nat → Int32)) (h : f_X11_reverse x1 q_now_words_L1 now_words_L1_size_ now_words_ now_words_L1_letters_ = some out) : CtI l yX11_reverse wsX11_reverse rm_X11_reverse D cy [.ref o, .int x1] (RW_X11_reverse cy o q_now_words_L1 d d_now_words_L1 d_now mono now_words_L1_letters_) (RO_X11_reverse cy o q_now_words_L1 d d_now_words_L1 d_now mono snapshotTaken_ inputLength_ now_words_L1_size_ now_letters_ now_words_) (RW_X11_reverse cy o q_now_words_L1 d d_now_words_L1 d_now mono out.2) out.1 :=
  mk_i (ty := .int) (by decide) rfl rfl (Nat.le_of_ble_eq_true rfl) (fun p e s m args below meth c A Q X K H locs ls Z hl => wt_X11_reverse o q_now_words_L1 d d_now_words_L1 d_now mono snapshotTaken_ inputLength_ now_words_L1_size_ now_letters_ now_words_ now_words_L1_letters_ x1 out X h K H locs ls Z hl)
/-! SubwordCounter$Word pushAll (LSubwordCounter$Word;)V -/
abbrev rm_X9_pushAll : Room := { frames := 1, cells := 0, slots := 0, locals := 21 }
def RW_X9_pushAll (cy : Nat → ClassId) (o : Nat) (q_p1 : Nat) (d : Nat → Nat) (d_p1 : Nat → Nat) (size_ : Int32) (letters_ : Nat → Int32) : va_W := [(o, ob 8 (oX9 d size_)), ((d 0), aI cy 12 letters_)]
def RO_X9_pushAll (cy : Nat → ClassId) (o : Nat) (q_p1 : Nat) (d : Nat → Nat) (d_p1 : Nat → Nat) (p1_size_ : Int32) (p1_letters_ : Nat → Int32) : va_W := [(q_p1, ob 8 (oX9 d_p1 p1_size_)), ((d_p1 0), aI cy 12 p1_letters_)]
theorem in_X9_pushAll_X9 : ∀ w ∈ u_ws RX9 TX9 3, w ∈ wsX9_pushAll := fun w h => (List.mem_cons_of_mem _ (List.mem_append_right _ h))
theorem lk_X9_pushAll_X9_letters : Lk wsX9_pushAll RX9 9 8 0 := ⟨RX9, TX9, 3, rfl, by decide, in_X9_pushAll_X9, mem_at 2 rfl⟩
theorem lk_X9_pushAll_X9_size : Lk wsX9_pushAll RX9 15 8 1 := ⟨RX9, TX9, 3, rfl, by decide, in_X9_pushAll_X9, mem_at 1 rfl⟩
def b_X9_pushAll_7 (p1_letters_ : Nat → Int32) (x2 : Int32) (size_ : Int32) (letters_ : Nat → Int32) (x3 : Int32) : Option ((Int32 × (Nat → Int32) × Int32) ⊕ (Int32 × (Nat → Int32))) :=
  if x2 ≤ x3 then
  (some (.inr (size_, letters_)))
  else
  (ldA p1_letters_ 12 x3 (fun v2 =>
  (f_X9_push v2 size_ letters_).bind (fun u4 =>
  some (.inl (u4.1, u4.2, (x3 + (1 : Int32)))))))
set_option maxHeartbeats 4000000 in
set_option maxRecDepth 100000 in
theorem wb_X9_pushAll_7 {p : Program} {l : Launch} {e : Env} {s : State} {m : MethodId} {args : Array Value} {below : List Frame} {meth : Method} {c : Code} {A : Nat → Prop} {Q : State → Prop} {D : va_G} {cy : Nat → ClassId} (o : Nat) (q_p1 : Nat) (d : Nat → Nat) (d_p1 : Nat → Nat) (p1_size_ : Int32) (p1_letters_ : Nat → Int32)  (x2 : Int32) (size_ : Int32) (letters_ : Nat → Int32) (x3 : Int32) (o1 : (Int32 × (Nat → Int32) × Int32) ⊕ (Int32 × (Nat → Int32))) (X : Cx p m c cX9_pushAll 4 s args wsX9_pushAll RX9 A D cy (RO_X9_pushAll cy o q_p1 d d_p1 p1_size_ p1_letters_)) (h : b_X9_pushAll_7 p1_letters_ x2 size_ letters_ x3 = some o1) (K : Sum.elim (fun v : Int32 × (Nat → Int32) × Int32 => ∀ (H : Heap) (locs : List Loc) (ls : Array Slot), St A D s (RW_X9_pushAll cy o q_p1 d d_p1 v.1 v.2.1) H locs → lv_has ls 4 [(0, .ref o), (1, .ref q_p1), (2, .int x2), (3, .int v.2.2)] → W p l e rm_X9_pushAll s m args below meth c H locs 0 0 Q (F0 m 7 ls [])) (fun v : Int32 × (Nat → Int32) => ∀ (H : Heap) (locs : List Loc) (ls : Array Slot), St A D s (RW_X9_pushAll cy o q_p1 d d_p1 v.1 v.2) H locs → lv_has ls 4 [] → W p l e rm_X9_pushAll s m args below meth c H locs 0 0 Q (F0 m 28 ls [])) o1) : ∀ (H : Heap) (locs : List Loc) (ls : Array Slot), St A D s (RW_X9_pushAll cy o q_p1 d d_p1 size_ letters_) H locs → lv_has ls 4 [(0, .ref o), (1, .ref q_p1), (2, .int x2), (3, .int x3)] → W p l e rm_X9_pushAll s m args below meth c H locs 0 0 Q (F0 m 7 ls []) := by
  intro H locs ls Z hl
  have hx := X.1.1
  have hb := X.1.2.1
  unfold b_X9_pushAll_7 at h
  refine lv_iload_n hx hb dX9_pushAll_7 rfl (lv_at hl 3 rfl) ?_
  refine lv_iload_n hx hb dX9_pushAll_8 rfl (lv_at hl 2 rfl) ?_
  refine lv_icmp_ge (tgt := 28) hx hb dX9_pushAll_9 (by decide) (fun cnd => ?_) (fun cnd => ?_)
  · replace h := ifp h cnd
    obtain rfl := Option.some.inj h
    exact (sk_r K) H locs ls Z (lv_sub hl [] rfl)
  · replace h := ifn h cnd
    refine lv_aload_n hx hb dX9_pushAll_12 rfl (lv_at hl 0 rfl) ?_
    refine lv_aload_n hx hb dX9_pushAll_13 rfl (lv_at hl 1 rfl) ?_
    refine x_getO X Z 0 0 (v := .ref (d_p1 0)) rfl rfl lk_X9_pushAll_X9_letters dX9_pushAll_14 ?_
    refine lv_iload_n hx hb dX9_pushAll_17 rfl (lv_at hl 3 rfl) ?_
    obtain ⟨hin1, v2, hv3, h⟩ := ld_b h
    refine x_ialdO X Z 1 rfl hin1 hv3 dX9_pushAll_18 ?_
    obtain ⟨u4, hc5, h⟩ := ob_some h
    refine x_runVv (RW' := (RW_X9_pushAll cy o q_p1 d d_p1 u4.1 u4.2)) (wr := []) (isC := [0, 1]) (isR := []) (isF := [0, 1]) (rest := []) (As := [.int v2]) (n := 1) X Z (c_X9_push l D cy o d size_ letters_ v2 u4 hc5) gX9_pushAll_X9_push rfl (by decide +kernel) ⟨Nat.le_of_ble_eq_true rfl, Nat.le_of_ble_eq_true rfl⟩ ⟨rfl, rfl⟩ ⟨Nat.le_of_ble_eq_true rfl, Nat.le_of_ble_eq_true rfl⟩ (x_rv X Z 0 rfl rfl) ⟨rfl, rfl, roN, rfl, rfl, by decide⟩ ⟨rfl, rfl⟩ rfl hl.1 rfl (Nat.le_of_ble_eq_true rfl) dX9_pushAll_19 (fun H locs Z => ?_)
    refine lv_iinc (v := (x3 + (1 : Int32))) (lv' := [(3, .int (x3 + (1 : Int32))), (0, .ref o), (1, .ref q_p1), (2, .int x2)]) hx hb dX9_pushAll_22 hl (k := 3) rfl rfl (by decide) rfl (fun ls hl => ?_)
    refine lv_goto (tgt := 7) hx hb dX9_pushAll_25 (by decide) ?_
    obtain rfl := Option.some.inj h
    exact sk_l K H locs ls Z (lv_sub hl [1, 2, 3, 0] rfl)
set_option maxHeartbeats 4000000 in
set_option maxRecDepth 100000 in
theorem wl_X9_pushAll_7 {p : Program} {l : Launch} {e : Env} {s : State} {m : MethodId} {args : Array Value} {below : List Frame} {meth : Method} {c : Code} {A : Nat → Prop} {Q : State → Prop} {D : va_G} {cy : Nat → ClassId} (o : Nat) (q_p1 : Nat) (d : Nat → Nat) (d_p1 : Nat → Nat) (p1_size_ : Int32) (p1_letters_ : Nat → Int32)  (x2 : Int32) (n : Nat) (v : Int32 × (Nat → Int32) × Int32) (x : Int32 × (Nat → Int32)) (X : Cx p m c cX9_pushAll 4 s args wsX9_pushAll RX9 A D cy (RO_X9_pushAll cy o q_p1 d d_p1 p1_size_ p1_letters_)) (h : loopN (fun v => b_X9_pushAll_7 p1_letters_ x2 v.1 v.2.1 v.2.2) n v = some x) (K : ∀ (H : Heap) (locs : List Loc) (ls : Array Slot), St A D s (RW_X9_pushAll cy o q_p1 d d_p1 x.1 x.2) H locs → lv_has ls 4 [] → W p l e rm_X9_pushAll s m args below meth c H locs 0 0 Q (F0 m 28 ls [])) : ∀ (H : Heap) (locs : List Loc) (ls : Array Slot), St A D s (RW_X9_pushAll cy o q_p1 d d_p1 v.1 v.2.1) H locs → lv_has ls 4 [(0, .ref o), (1, .ref q_p1), (2, .int x2), (3, .int v.2.2)] → W p l e rm_X9_pushAll s m args below meth c H locs 0 0 Q (F0 m 7 ls []) :=
  loop_gen (B := (fun v => b_X9_pushAll_7 p1_letters_ x2 v.1 v.2.1 v.2.2)) (Head := fun v : Int32 × (Nat → Int32) × Int32 => ∀ (H : Heap) (locs : List Loc) (ls : Array Slot), St A D s (RW_X9_pushAll cy o q_p1 d d_p1 v.1 v.2.1) H locs → lv_has ls 4 [(0, .ref o), (1, .ref q_p1), (2, .int x2), (3, .int v.2.2)] → W p l e rm_X9_pushAll s m args below meth c H locs 0 0 Q (F0 m 7 ls [])) (Exit := fun v : Int32 × (Nat → Int32) => ∀ (H : Heap) (locs : List Loc) (ls : Array Slot), St A D s (RW_X9_pushAll cy o q_p1 d d_p1 v.1 v.2) H locs → lv_has ls 4 [] → W p l e rm_X9_pushAll s m args below meth c H locs 0 0 Q (F0 m 28 ls [])) (fun v o9 hb1 K1 => wb_X9_pushAll_7 o q_p1 d d_p1 p1_size_ p1_letters_ x2 v.1 v.2.1 v.2.2 o9 X hb1 K1) n v x h K
def f_X9_pushAll (p1_size_ : Int32) (p1_letters_ : Nat → Int32) (size_ : Int32) (letters_ : Nat → Int32) : Option (Int32 × (Nat → Int32)) :=
  (loopN (fun v => b_X9_pushAll_7 p1_letters_ p1_size_ v.1 v.2.1 v.2.2) FU (size_, letters_, (0 : Int32))).bind (fun u6 =>
  some (u6.1, u6.2))
set_option maxHeartbeats 4000000 in
set_option maxRecDepth 100000 in
theorem wt_X9_pushAll {p : Program} {l : Launch} {e : Env} {s : State} {m : MethodId} {args : Array Value} {below : List Frame} {meth : Method} {c : Code} {A : Nat → Prop} {Q : State → Prop} {D : va_G} {cy : Nat → ClassId} (o : Nat) (q_p1 : Nat) (d : Nat → Nat) (d_p1 : Nat → Nat) (p1_size_ : Int32) (p1_letters_ : Nat → Int32) (size_ : Int32) (letters_ : Nat → Int32) (out : Int32 × (Nat → Int32)) (X : Cx p m c cX9_pushAll 4 s args wsX9_pushAll RX9 A D cy (RO_X9_pushAll cy o q_p1 d d_p1 p1_size_ p1_letters_)) (h : f_X9_pushAll p1_size_ p1_letters_ size_ letters_ = some out) (K : ∀ (H : Heap) (locs : List Loc) (ls : Array Slot) (pc : Nat), decode cX9_pushAll pc = .ok (.return_, 1) → St A D s (RW_X9_pushAll cy o q_p1 d d_p1 out.1 out.2) H locs → W p l e rm_X9_pushAll s m args below meth c H locs 0 0 Q (F0 m pc ls [])) : ∀ (H : Heap) (locs : List Loc) (ls : Array Slot), St A D s (RW_X9_pushAll cy o q_p1 d d_p1 size_ letters_) H locs → lv_has ls 4 [(0, .ref o), (1, .ref q_p1)] → W p l e rm_X9_pushAll s m args below meth c H locs 0 0 Q (F0 m 0 ls []) := by
  intro H locs ls Z hl
  have hx := X.1.1
  have hb := X.1.2.1
  unfold f_X9_pushAll at h
  refine lv_aload_n hx hb dX9_pushAll_0 rfl (lv_at hl 1 rfl) ?_
  refine x_getO X Z 0 1 (v := .int p1_size_) rfl rfl lk_X9_pushAll_X9_size dX9_pushAll_1 ?_
  refine lv_istore_n (lv' := [(2, .int p1_size_), (0, .ref o), (1, .ref q_p1)]) hx hb dX9_pushAll_4 rfl hl (by decide) rfl (fun ls hl => ?_)
  refine lv_iconst (v := (0 : Int32)) hx hb dX9_pushAll_5 (by decide) ?_
  refine lv_istore_n (lv' := [(3, .int (0 : Int32)), (2, .int p1_size_), (0, .ref o), (1, .ref q_p1)]) hx hb dX9_pushAll_6 rfl hl (by decide) rfl (fun ls hl => ?_)
  obtain ⟨u6, hL7, h⟩ := ob_some h
  refine wl_X9_pushAll_7 o q_p1 d d_p1 p1_size_ p1_letters_ p1_size_ FU (size_, letters_, (0 : Int32)) u6 X hL7 (fun H locs ls Z hl => ?_) H locs ls Z (lv_sub hl [2, 3, 1, 0] rfl)
  obtain rfl := Option.some.inj h
  exact K H locs ls _ dX9_pushAll_28 Z
theorem c_X9_pushAll (l : Launch) (D : va_G) (cy : Nat → ClassId) (o : Nat) (q_p1 : Nat) (d : Nat → Nat) (d_p1 : Nat → Nat) (p1_size_ : Int32) (p1_letters_ : Nat → Int32) (size_ : Int32) (letters_ : Nat → Int32) (out : Int32 × (Nat → Int32)) (h : f_X9_pushAll p1_size_ p1_letters_ size_ letters_ = some out) : CtV l yX9_pushAll wsX9_pushAll rm_X9_pushAll D cy [.ref o, .ref q_p1] (RW_X9_pushAll cy o q_p1 d d_p1 size_ letters_) (RO_X9_pushAll cy o q_p1 d d_p1 p1_size_ p1_letters_) (RW_X9_pushAll cy o q_p1 d d_p1 out.1 out.2) :=
  mk_v (by decide) rfl (Nat.le_of_ble_eq_true rfl) (fun p e s m args below meth c A Q X K H locs ls Z hl => wt_X9_pushAll o q_p1 d d_p1 p1_size_ p1_letters_ size_ letters_ out X h K H locs ls Z hl)
/-! SubwordCounter concatenate (II)I -/
abbrev rm_X11_concatenate : Room := { frames := 2, cells := 0, slots := 0, locals := 44 }
def RW_X11_concatenate (cy : Nat → ClassId) (o : Nat) (q_now_words_L1 : Nat) (q_now_words_L2 : Nat) (d : Nat → Nat) (d_now_words_L1 : Nat → Nat) (d_now_words_L2 : Nat → Nat) (d_now : Nat → Nat) (mono : Value) (now_words_L1_size_ : Int32) (now_words_L1_letters_ : Nat → Int32) : va_W := [(q_now_words_L1, ob 8 (oX9 d_now_words_L1 now_words_L1_size_)), ((d_now_words_L1 0), aI cy 12 now_words_L1_letters_)]
def RO_X11_concatenate (cy : Nat → ClassId) (o : Nat) (q_now_words_L1 : Nat) (q_now_words_L2 : Nat) (d : Nat → Nat) (d_now_words_L1 : Nat → Nat) (d_now_words_L2 : Nat → Nat) (d_now : Nat → Nat) (mono : Value) (snapshotTaken_ : Int32) (inputLength_ : Int32) (now_words_L2_size_ : Int32) (now_letters_ : Int32) (now_words_L2_letters_ : Nat → Int32) (now_words_ : Nat → Option Nat) : va_W := [(o, ob 10 (oX11 d mono snapshotTaken_ inputLength_)), (q_now_words_L2, ob 8 (oX9 d_now_words_L2 now_words_L2_size_)), ((d 0), ob 5 (oX5 d_now now_letters_)), ((d_now_words_L2 0), aI cy 12 now_words_L2_letters_), ((d_now 1), aR cy 5 3 now_words_)]
theorem in_X11_concatenate_X11 : ∀ w ∈ u_ws RX11 TX11 12, w ∈ wsX11_concatenate := fun w h => (List.mem_cons_of_mem _ (List.mem_append_left _ (List.mem_append_left _ (List.mem_append_right _ h))))
theorem lk_X11_concatenate_X11_now : Lk wsX11_concatenate RX11 10 10 0 := ⟨RX11, TX11, 12, rfl, by decide, in_X11_concatenate_X11, mem_at 1 rfl⟩
theorem in_X11_concatenate_X5 : ∀ w ∈ u_ws RX5 TX5 4, w ∈ wsX11_concatenate := fun w h => (List.mem_cons_of_mem _ (List.mem_append_left _ (List.mem_append_right _ h)))
theorem lk_X11_concatenate_X5_words : Lk wsX11_concatenate RX11 85 5 1 := ⟨RX5, TX5, 4, rfl, by decide, in_X11_concatenate_X5, mem_at 2 rfl⟩
theorem in_X11_concatenate_X9 : ∀ w ∈ u_ws RX9 TX9 3, w ∈ wsX11_concatenate := fun w h => (List.mem_cons_of_mem _ (List.mem_append_right _ h))
theorem lk_X11_concatenate_X9_size : Lk wsX11_concatenate RX11 89 8 1 := ⟨RX9, TX9, 3, rfl, by decide, in_X11_concatenate_X9, mem_at 3 rfl⟩
def f_X11_concatenate (x1 : Int32) (x2 : Int32) (q_now_words_L1 : Nat) (q_now_words_L2 : Nat) (now_words_L2_size_ : Int32) (now_words_L2_letters_ : Nat → Int32) (now_words_ : Nat → Option Nat) (now_words_L1_size_ : Int32) (now_words_L1_letters_ : Nat → Int32) : Option (Int32 × Int32 × (Nat → Int32)) :=
  (f_X11_isWord x1).bind (fun u1 =>
  if u1 = 0 then
  (some ((-1 : Int32), now_words_L1_size_, now_words_L1_letters_))
  else
  ((f_X11_isWord x2).bind (fun u3 =>
  if u3 = 0 then
  (some ((-1 : Int32), now_words_L1_size_, now_words_L1_letters_))
  else
  (ldA now_words_ 3 x1 (fun r6 =>
  asR r6 q_now_words_L1 (
  ldA now_words_ 3 x2 (fun r10 =>
  asR r10 q_now_words_L2 (
  if (now_words_L1_size_ + now_words_L2_size_) ≤ (12 : Int32) then
  (ldA now_words_ 3 x2 (fun r14 =>
  asR r14 q_now_words_L2 (
  (f_X9_pushAll now_words_L2_size_ now_words_L2_letters_ now_words_L1_size_ now_words_L1_letters_).bind (fun u17 =>
  some (u17.1, u17.1, u17.2)))))
  else
  (some ((-3 : Int32), now_words_L1_size_, now_words_L1_letters_))))))))))
set_option maxHeartbeats 4000000 in
set_option maxRecDepth 100000 in
theorem wt_X11_concatenate {p : Program} {l : Launch} {e : Env} {s : State} {m : MethodId} {args : Array Value} {below : List Frame} {meth : Method} {c : Code} {A : Nat → Prop} {Q : State → Prop} {D : va_G} {cy : Nat → ClassId} (o : Nat) (q_now_words_L1 : Nat) (q_now_words_L2 : Nat) (d : Nat → Nat) (d_now_words_L1 : Nat → Nat) (d_now_words_L2 : Nat → Nat) (d_now : Nat → Nat) (mono : Value) (snapshotTaken_ : Int32) (inputLength_ : Int32) (now_words_L2_size_ : Int32) (now_letters_ : Int32) (now_words_L2_letters_ : Nat → Int32) (now_words_ : Nat → Option Nat) (now_words_L1_size_ : Int32) (now_words_L1_letters_ : Nat → Int32) (x1 : Int32) (x2 : Int32) (out : Int32 × Int32 × (Nat → Int32)) (X : Cx p m c cX11_concatenate 4 s args wsX11_concatenate RX11 A D cy (RO_X11_concatenate cy o q_now_words_L1 q_now_words_L2 d d_now_words_L1 d_now_words_L2 d_now mono snapshotTaken_ inputLength_ now_words_L2_size_ now_letters_ now_words_L2_letters_ now_words_)) (h : f_X11_concatenate x1 x2 q_now_words_L1 q_now_words_L2 now_words_L2_size_ now_words_L2_letters_ now_words_ now_words_L1_size_ now_words_L1_letters_ = some out) (K : ∀ (H : Heap) (locs : List Loc) (ls : Array Slot) (pc : Nat), decode cX11_concatenate pc = .ok (.ireturn, 1) → St A D s (RW_X11_concatenate cy o q_now_words_L1 q_now_words_L2 d d_now_words_L1 d_now_words_L2 d_now mono out.2.1 out.2.2) H locs → W p l e rm_X11_concatenate s m args below meth c H locs 0 0 Q (F0 m pc ls [.int out.1])) : ∀ (H : Heap) (locs : List Loc) (ls : Array Slot), St A D s (RW_X11_concatenate cy o q_now_words_L1 q_now_words_L2 d d_now_words_L1 d_now_words_L2 d_now mono now_words_L1_size_ now_words_L1_letters_) H locs → lv_has ls 4 [(0, .ref o), (1, .int x1), (2, .int x2)] → W p l e rm_X11_concatenate s m args below meth c H locs 0 0 Q (F0 m 0 ls []) := by
  intro H locs ls Z hl
  have hx := X.1.1
  have hb := X.1.2.1
  unfold f_X11_concatenate at h
  refine lv_iload_n hx hb dX11_concatenate_0 rfl (lv_at hl 1 rfl) ?_
  obtain ⟨u1, hc2, h⟩ := ob_some h
  refine x_runSi (RW' := (RW_X11_concatenate cy o q_now_words_L1 q_now_words_L2 d d_now_words_L1 d_now_words_L2 d_now mono now_words_L1_size_ now_words_L1_letters_)) (wr := [(q_now_words_L1, ob 8 (oX9 d_now_words_L1 now_words_L1_size_)), ((d_now_words_L1 0), aI cy 12 now_words_L1_letters_)]) (isC := []) (isR := [0, 1]) (isF := [0, 1]) (rest := []) (As := [.int x1]) (n := 1) X Z (c_X11_isWord l D cy x1 u1 hc2) gX11_concatenate_X11_isWord rfl (by decide +kernel) ⟨Nat.le_of_ble_eq_true rfl, Nat.le_of_ble_eq_true rfl⟩ ⟨rfl, rfl⟩ ⟨Nat.le_of_ble_eq_true rfl, Nat.le_of_ble_eq_true rfl⟩ ⟨rfl, rfl, roN, rfl, rfl, by decide⟩ ⟨rfl, rfl⟩ rfl hl.1 rfl (Nat.le_of_ble_eq_true rfl) dX11_concatenate_1 (fun H locs Z => ?_)
  refine lv_if_eq (tgt := 14) hx hb dX11_concatenate_4 (by decide) (fun cnd => ?_) (fun cnd => ?_)
  · replace h := ifp h cnd
    refine lv_iconst (v := (-1 : Int32)) hx hb dX11_concatenate_14 (by decide) ?_
    obtain rfl := Option.some.inj h
    exact K H locs ls _ dX11_concatenate_15 Z
  · replace h := ifn h cnd
    refine lv_iload_n hx hb dX11_concatenate_7 rfl (lv_at hl 2 rfl) ?_
    obtain ⟨u3, hc4, h⟩ := ob_some h
    refine x_runSi (RW' := (RW_X11_concatenate cy o q_now_words_L1 q_now_words_L2 d d_now_words_L1 d_now_words_L2 d_now mono now_words_L1_size_ now_words_L1_letters_)) (wr := [(q_now_words_L1, ob 8 (oX9 d_now_words_L1 now_words_L1_size_)), ((d_now_words_L1 0), aI cy 12 now_words_L1_letters_)]) (isC := []) (isR := [0, 1]) (isF := [0, 1]) (rest := []) (As := [.int x2]) (n := 1) X Z (c_X11_isWord l D cy x2 u3 hc4) gX11_concatenate_X11_isWord rfl (by decide +kernel) ⟨Nat.le_of_ble_eq_true rfl, Nat.le_of_ble_eq_true rfl⟩ ⟨rfl, rfl⟩ ⟨Nat.le_of_ble_eq_true rfl, Nat.le_of_ble_eq_true rfl⟩ ⟨rfl, rfl, roN, rfl, rfl, by decide⟩ ⟨rfl, rfl⟩ rfl hl.1 rfl (Nat.le_of_ble_eq_true rfl) dX11_concatenate_8 (fun H locs Z => ?_)
    refine lv_if_ne (tgt := 16) hx hb dX11_concatenate_11 (by decide) (fun cnd => ?_) (fun cnd => ?_)
    · replace h := ifn h cnd
      refine lv_aload_n hx hb dX11_concatenate_16 rfl (lv_at hl 0 rfl) ?_
      refine x_getO X Z 0 0 (v := .ref (d 0)) rfl rfl lk_X11_concatenate_X11_now dX11_concatenate_17 ?_
      refine x_getO X Z 2 1 (v := .ref (d_now 1)) rfl rfl lk_X11_concatenate_X5_words dX11_concatenate_20 ?_
      refine lv_iload_n hx hb dX11_concatenate_23 rfl (lv_at hl 1 rfl) ?_
      obtain ⟨hin5, r6, hv7, h⟩ := ld_b h
      obtain ⟨ha8, h⟩ := as_b h
      refine x_raldO X Z 4 5 rfl rfl hin5 hv7 ha8 dX11_concatenate_24 ?_
      refine lv_astore_n (lv' := [(3, .ref q_now_words_L1), (0, .ref o), (1, .int x1), (2, .int x2)]) hx hb dX11_concatenate_25 rfl hl (by decide) rfl (fun ls hl => ?_)
      refine lv_aload_n hx hb dX11_concatenate_26 rfl (lv_at hl 0 rfl) ?_
      refine x_get X Z 0 1 (v := .int now_words_L1_size_) rfl rfl lk_X11_concatenate_X9_size dX11_concatenate_27 ?_
      refine lv_aload_n hx hb dX11_concatenate_30 rfl (lv_at hl 1 rfl) ?_
      refine x_getO X Z 0 0 (v := .ref (d 0)) rfl rfl lk_X11_concatenate_X11_now dX11_concatenate_31 ?_
      refine x_getO X Z 2 1 (v := .ref (d_now 1)) rfl rfl lk_X11_concatenate_X5_words dX11_concatenate_34 ?_
      refine lv_iload_n hx hb dX11_concatenate_37 rfl (lv_at hl 3 rfl) ?_
      obtain ⟨hin9, r10, hv11, h⟩ := ld_b h
      obtain ⟨ha12, h⟩ := as_b h
      refine x_raldO X Z 4 5 rfl rfl hin9 hv11 ha12 dX11_concatenate_38 ?_
      refine x_getO X Z 1 1 (v := .int now_words_L2_size_) rfl rfl lk_X11_concatenate_X9_size dX11_concatenate_39 ?_
      refine lv_iadd hx hb dX11_concatenate_42 ?_
      refine lv_bipush (v := (12 : Int32)) hx hb dX11_concatenate_43 (by decide) ?_
      refine lv_icmp_le (tgt := 51) hx hb dX11_concatenate_45 (by decide) (fun cnd => ?_) (fun cnd => ?_)
      · replace h := ifp h cnd
        refine lv_aload_n hx hb dX11_concatenate_51 rfl (lv_at hl 0 rfl) ?_
        refine lv_aload_n hx hb dX11_concatenate_52 rfl (lv_at hl 1 rfl) ?_
        refine x_getO X Z 0 0 (v := .ref (d 0)) rfl rfl lk_X11_concatenate_X11_now dX11_concatenate_53 ?_
        refine x_getO X Z 2 1 (v := .ref (d_now 1)) rfl rfl lk_X11_concatenate_X5_words dX11_concatenate_56 ?_
        refine lv_iload_n hx hb dX11_concatenate_59 rfl (lv_at hl 3 rfl) ?_
        obtain ⟨hin13, r14, hv15, h⟩ := ld_b h
        obtain ⟨ha16, h⟩ := as_b h
        refine x_raldO X Z 4 5 rfl rfl hin13 hv15 ha16 dX11_concatenate_60 ?_
        obtain ⟨u17, hc18, h⟩ := ob_some h
        refine x_runVv (RW' := (RW_X11_concatenate cy o q_now_words_L1 q_now_words_L2 d d_now_words_L1 d_now_words_L2 d_now mono u17.1 u17.2)) (wr := []) (isC := [0, 1]) (isR := []) (isF := [0, 1]) (rest := []) (As := [.ref q_now_words_L2]) (n := 1) X Z (c_X9_pushAll l D cy q_now_words_L1 q_now_words_L2 d_now_words_L1 d_now_words_L2 now_words_L2_size_ now_words_L2_letters_ now_words_L1_size_ now_words_L1_letters_ u17 hc18) gX11_concatenate_X9_pushAll rfl (by decide +kernel) ⟨Nat.le_of_ble_eq_true rfl, Nat.le_of_ble_eq_true rfl⟩ ⟨rfl, rfl⟩ ⟨Nat.le_of_ble_eq_true rfl, Nat.le_of_ble_eq_true rfl⟩ (x_rv X Z 0 rfl rfl) ⟨rfl, rfl, (roC (Or.inr (mem_at 1 rfl)) (roC (Or.inr (mem_at 3 rfl)) roN)), rfl, rfl, by decide⟩ ⟨rfl, rfl⟩ rfl hl.1 rfl (Nat.le_of_ble_eq_true rfl) dX11_concatenate_61 (fun H locs Z => ?_)
        refine lv_aload_n hx hb dX11_concatenate_64 rfl (lv_at hl 0 rfl) ?_
        refine x_get X Z 0 1 (v := .int u17.1) rfl rfl lk_X11_concatenate_X9_size dX11_concatenate_65 ?_
        obtain rfl := Option.some.inj h
        exact K H locs ls _ dX11_concatenate_68 Z
      · replace h := ifn h cnd
        refine lv_bipush (v := (-3 : Int32)) hx hb dX11_concatenate_48 (by decide) ?_
        obtain rfl := Option.some.inj h
        exact K H locs ls _ dX11_concatenate_50 Z
    · replace h := ifp h cnd
      refine lv_iconst (v := (-1 : Int32)) hx hb dX11_concatenate_14 (by decide) ?_
      obtain rfl := Option.some.inj h
      exact K H locs ls _ dX11_concatenate_15 Z
theorem c_X11_concatenate (l : Launch) (D : va_G) (cy : Nat → ClassId) (o : Nat) (q_now_words_L1 : Nat) (q_now_words_L2 : Nat) (d : Nat → Nat) (d_now_words_L1 : Nat → Nat) (d_now_words_L2 : Nat → Nat) (d_now : Nat → Nat) (mono : Value) (snapshotTaken_ : Int32) (inputLength_ : Int32) (now_words_L2_size_ : Int32) (now_letters_ : Int32) (now_words_L2_letters_ : Nat → Int32) (now_words_ : Nat → Option Nat) (now_words_L1_size_ : Int32) (now_words_L1_letters_ : Nat → Int32) (x1 : Int32) (x2 : Int32) (out : Int32 × Int32 × (Nat → Int32)) (h : f_X11_concatenate x1 x2 q_now_words_L1 q_now_words_L2 now_words_L2_size_ now_words_L2_letters_ now_words_ now_words_L1_size_ now_words_L1_letters_ = some out) : CtI l yX11_concatenate wsX11_concatenate rm_X11_concatenate D cy [.ref o, .int x1, .int x2] (RW_X11_concatenate cy o q_now_words_L1 q_now_words_L2 d d_now_words_L1 d_now_words_L2 d_now mono now_words_L1_size_ now_words_L1_letters_) (RO_X11_concatenate cy o q_now_words_L1 q_now_words_L2 d d_now_words_L1 d_now_words_L2 d_now mono snapshotTaken_ inputLength_ now_words_L2_size_ now_letters_ now_words_L2_letters_ now_words_) (RW_X11_concatenate cy o q_now_words_L1 q_now_words_L2 d d_now_words_L1 d_now_words_L2 d_now mono out.2.1 out.2.2) out.1 :=
  mk_i (ty := .int) (by decide) rfl rfl (Nat.le_of_ble_eq_true rfl) (fun p e s m args below meth c A Q X K H locs ls Z hl => wt_X11_concatenate o q_now_words_L1 q_now_words_L2 d d_now_words_L1 d_now_words_L2 d_now mono snapshotTaken_ inputLength_ now_words_L2_size_ now_letters_ now_words_L2_letters_ now_words_ now_words_L1_size_ now_words_L1_letters_ x1 x2 out X h K H locs ls Z hl)
/-! SubwordCounter$Word orderAgainst (LSubwordCounter$Word;)I -/
abbrev rm_X9_orderAgainst : Room := { frames := 0, cells := 0, slots := 0, locals := 0 }
def RW_X9_orderAgainst (cy : Nat → ClassId) (o : Nat) (q_p1 : Nat) (d : Nat → Nat) (d_p1 : Nat → Nat)  : va_W := []
def RO_X9_orderAgainst (cy : Nat → ClassId) (o : Nat) (q_p1 : Nat) (d : Nat → Nat) (d_p1 : Nat → Nat) (size_ : Int32) (p1_size_ : Int32) (letters_ : Nat → Int32) (p1_letters_ : Nat → Int32) : va_W := [(o, ob 8 (oX9 d size_)), (q_p1, ob 8 (oX9 d_p1 p1_size_)), ((d 0), aI cy 12 letters_), ((d_p1 0), aI cy 12 p1_letters_)]
theorem in_X9_orderAgainst_X9 : ∀ w ∈ u_ws RX9 TX9 3, w ∈ wsX9_orderAgainst := fun w h => (List.mem_cons_of_mem _ (List.mem_append_right _ h))
theorem lk_X9_orderAgainst_X9_size : Lk wsX9_orderAgainst RX9 15 8 1 := ⟨RX9, TX9, 3, rfl, by decide, in_X9_orderAgainst_X9, mem_at 1 rfl⟩
theorem lk_X9_orderAgainst_X9_letters : Lk wsX9_orderAgainst RX9 9 8 0 := ⟨RX9, TX9, 3, rfl, by decide, in_X9_orderAgainst_X9, mem_at 2 rfl⟩
def b_X9_orderAgainst_30 (size_ : Int32) (letters_ : Nat → Int32) (p1_letters_ : Nat → Int32)  (x2 : Int32) : Option ((Int32) ⊕ ((Int32) ⊕ (Unit))) :=
  if size_ ≤ x2 then
  (some (.inr (.inr ())))
  else
  (ldA letters_ 12 x2 (fun v2 =>
  ldA p1_letters_ 12 x2 (fun v5 =>
  if v2 = v5 then
  (some (.inl (x2 + (1 : Int32))))
  else
  (some (.inr (.inl x2))))))
set_option maxHeartbeats 4000000 in
set_option maxRecDepth 100000 in
theorem wb_X9_orderAgainst_30 {p : Program} {l : Launch} {e : Env} {s : State} {m : MethodId} {args : Array Value} {below : List Frame} {meth : Method} {c : Code} {A : Nat → Prop} {Q : State → Prop} {D : va_G} {cy : Nat → ClassId} (o : Nat) (q_p1 : Nat) (d : Nat → Nat) (d_p1 : Nat → Nat) (size_ : Int32) (p1_size_ : Int32) (letters_ : Nat → Int32) (p1_letters_ : Nat → Int32)   (x2 : Int32) (o1 : (Int32) ⊕ ((Int32) ⊕ (Unit))) (X : Cx p m c cX9_orderAgainst 3 s args wsX9_orderAgainst RX9 A D cy (RO_X9_orderAgainst cy o q_p1 d d_p1 size_ p1_size_ letters_ p1_letters_)) (h : b_X9_orderAgainst_30 size_ letters_ p1_letters_ x2 = some o1) (K : Sum.elim (fun v : Int32 => ∀ (H : Heap) (locs : List Loc) (ls : Array Slot), St A D s (RW_X9_orderAgainst cy o q_p1 d d_p1) H locs → lv_has ls 3 [(0, .ref o), (1, .ref q_p1), (2, .int v)] → W p l e rm_X9_orderAgainst s m args below meth c H locs 0 0 Q (F0 m 30 ls [])) (fun v : (Int32) ⊕ (Unit) => Sum.elim (fun w : Int32 => ∀ (H : Heap) (locs : List Loc) (ls : Array Slot), St A D s (RW_X9_orderAgainst cy o q_p1 d d_p1) H locs → lv_has ls 3 [(0, .ref o), (1, .ref q_p1), (2, .int w)] → W p l e rm_X9_orderAgainst s m args below meth c H locs 0 0 Q (F0 m 53 ls [])) (fun w => ∀ (H : Heap) (locs : List Loc) (ls : Array Slot), St A D s (RW_X9_orderAgainst cy o q_p1 d d_p1) H locs → lv_has ls 3 [] → W p l e rm_X9_orderAgainst s m args below meth c H locs 0 0 Q (F0 m 80 ls [])) v) o1) : ∀ (H : Heap) (locs : List Loc) (ls : Array Slot), St A D s (RW_X9_orderAgainst cy o q_p1 d d_p1) H locs → lv_has ls 3 [(0, .ref o), (1, .ref q_p1), (2, .int x2)] → W p l e rm_X9_orderAgainst s m args below meth c H locs 0 0 Q (F0 m 30 ls []) := by
  intro H locs ls Z hl
  have hx := X.1.1
  have hb := X.1.2.1
  unfold b_X9_orderAgainst_30 at h
  refine lv_iload_n hx hb dX9_orderAgainst_30 rfl (lv_at hl 2 rfl) ?_
  refine lv_aload_n hx hb dX9_orderAgainst_31 rfl (lv_at hl 0 rfl) ?_
  refine x_getO X Z 0 1 (v := .int size_) rfl rfl lk_X9_orderAgainst_X9_size dX9_orderAgainst_32 ?_
  refine lv_icmp_ge (tgt := 80) hx hb dX9_orderAgainst_35 (by decide) (fun cnd => ?_) (fun cnd => ?_)
  · replace h := ifp h cnd
    obtain rfl := Option.some.inj h
    exact (sk_r (sk_r K)) H locs ls Z (lv_sub hl [] rfl)
  · replace h := ifn h cnd
    refine lv_aload_n hx hb dX9_orderAgainst_38 rfl (lv_at hl 0 rfl) ?_
    refine x_getO X Z 0 0 (v := .ref (d 0)) rfl rfl lk_X9_orderAgainst_X9_letters dX9_orderAgainst_39 ?_
    refine lv_iload_n hx hb dX9_orderAgainst_42 rfl (lv_at hl 2 rfl) ?_
    obtain ⟨hin1, v2, hv3, h⟩ := ld_b h
    refine x_ialdO X Z 2 rfl hin1 hv3 dX9_orderAgainst_43 ?_
    refine lv_aload_n hx hb dX9_orderAgainst_44 rfl (lv_at hl 1 rfl) ?_
    refine x_getO X Z 1 0 (v := .ref (d_p1 0)) rfl rfl lk_X9_orderAgainst_X9_letters dX9_orderAgainst_45 ?_
    refine lv_iload_n hx hb dX9_orderAgainst_48 rfl (lv_at hl 2 rfl) ?_
    obtain ⟨hin4, v5, hv6, h⟩ := ld_b h
    refine x_ialdO X Z 3 rfl hin4 hv6 dX9_orderAgainst_49 ?_
    refine lv_icmp_eq (tgt := 74) hx hb dX9_orderAgainst_50 (by decide) (fun cnd => ?_) (fun cnd => ?_)
    · replace h := ifp h cnd
      refine lv_iinc (v := (x2 + (1 : Int32))) (lv' := [(2, .int (x2 + (1 : Int32))), (0, .ref o), (1, .ref q_p1)]) hx hb dX9_orderAgainst_74 hl (k := 2) rfl rfl (by decide) rfl (fun ls hl => ?_)
      refine lv_goto (tgt := 30) hx hb dX9_orderAgainst_77 (by decide) ?_
      obtain rfl := Option.some.inj h
      exact sk_l K H locs ls Z (lv_sub hl [1, 2, 0] rfl)
    · replace h := ifn h cnd
      obtain rfl := Option.some.inj h
      exact (sk_l (sk_r K)) H locs ls Z (lv_sub hl [0, 1, 2] rfl)
set_option maxHeartbeats 4000000 in
set_option maxRecDepth 100000 in
theorem wl_X9_orderAgainst_30 {p : Program} {l : Launch} {e : Env} {s : State} {m : MethodId} {args : Array Value} {below : List Frame} {meth : Method} {c : Code} {A : Nat → Prop} {Q : State → Prop} {D : va_G} {cy : Nat → ClassId} (o : Nat) (q_p1 : Nat) (d : Nat → Nat) (d_p1 : Nat → Nat) (size_ : Int32) (p1_size_ : Int32) (letters_ : Nat → Int32) (p1_letters_ : Nat → Int32)  (n : Nat) (v : Int32) (x : (Int32) ⊕ (Unit)) (X : Cx p m c cX9_orderAgainst 3 s args wsX9_orderAgainst RX9 A D cy (RO_X9_orderAgainst cy o q_p1 d d_p1 size_ p1_size_ letters_ p1_letters_)) (h : loopN (fun v => b_X9_orderAgainst_30 size_ letters_ p1_letters_ v) n v = some x) (K : Sum.elim (fun w : Int32 => ∀ (H : Heap) (locs : List Loc) (ls : Array Slot), St A D s (RW_X9_orderAgainst cy o q_p1 d d_p1) H locs → lv_has ls 3 [(0, .ref o), (1, .ref q_p1), (2, .int w)] → W p l e rm_X9_orderAgainst s m args below meth c H locs 0 0 Q (F0 m 53 ls [])) (fun w => ∀ (H : Heap) (locs : List Loc) (ls : Array Slot), St A D s (RW_X9_orderAgainst cy o q_p1 d d_p1) H locs → lv_has ls 3 [] → W p l e rm_X9_orderAgainst s m args below meth c H locs 0 0 Q (F0 m 80 ls [])) x) : ∀ (H : Heap) (locs : List Loc) (ls : Array Slot), St A D s (RW_X9_orderAgainst cy o q_p1 d d_p1) H locs → lv_has ls 3 [(0, .ref o), (1, .ref q_p1), (2, .int v)] → W p l e rm_X9_orderAgainst s m args below meth c H locs 0 0 Q (F0 m 30 ls []) :=
  loop_gen (B := (fun v => b_X9_orderAgainst_30 size_ letters_ p1_letters_ v)) (Head := fun v : Int32 => ∀ (H : Heap) (locs : List Loc) (ls : Array Slot), St A D s (RW_X9_orderAgainst cy o q_p1 d d_p1) H locs → lv_has ls 3 [(0, .ref o), (1, .ref q_p1), (2, .int v)] → W p l e rm_X9_orderAgainst s m args below meth c H locs 0 0 Q (F0 m 30 ls [])) (Exit := fun v : (Int32) ⊕ (Unit) => Sum.elim (fun w : Int32 => ∀ (H : Heap) (locs : List Loc) (ls : Array Slot), St A D s (RW_X9_orderAgainst cy o q_p1 d d_p1) H locs → lv_has ls 3 [(0, .ref o), (1, .ref q_p1), (2, .int w)] → W p l e rm_X9_orderAgainst s m args below meth c H locs 0 0 Q (F0 m 53 ls [])) (fun w => ∀ (H : Heap) (locs : List Loc) (ls : Array Slot), St A D s (RW_X9_orderAgainst cy o q_p1 d d_p1) H locs → lv_has ls 3 [] → W p l e rm_X9_orderAgainst s m args below meth c H locs 0 0 Q (F0 m 80 ls [])) v) (fun v o9 hb1 K1 => wb_X9_orderAgainst_30 o q_p1 d d_p1 size_ p1_size_ letters_ p1_letters_ v o9 X hb1 K1) n v x h K
def f_X9_orderAgainst (size_ : Int32) (p1_size_ : Int32) (letters_ : Nat → Int32) (p1_letters_ : Nat → Int32) : Option (Int32) :=
  if size_ = p1_size_ then
  ((loopN (fun v => b_X9_orderAgainst_30 size_ letters_ p1_letters_ v) FU (0 : Int32)).bind (fun u7 =>
  Sum.elim (fun u7 =>
  ldA letters_ 12 u7 (fun v10 =>
  ldA p1_letters_ 12 u7 (fun v13 =>
  if v13 ≤ v10 then
  (some (2 : Int32))
  else
  (some (0 : Int32))))) (fun u7 =>
  some (1 : Int32)) u7))
  else
  (if p1_size_ ≤ size_ then
  (some (2 : Int32))
  else
  (some (0 : Int32)))
set_option maxHeartbeats 4000000 in
set_option maxRecDepth 100000 in
theorem wt_X9_orderAgainst {p : Program} {l : Launch} {e : Env} {s : State} {m : MethodId} {args : Array Value} {below : List Frame} {meth : Method} {c : Code} {A : Nat → Prop} {Q : State → Prop} {D : va_G} {cy : Nat → ClassId} (o : Nat) (q_p1 : Nat) (d : Nat → Nat) (d_p1 : Nat → Nat) (size_ : Int32) (p1_size_ : Int32) (letters_ : Nat → Int32) (p1_letters_ : Nat → Int32)  (out : Int32) (X : Cx p m c cX9_orderAgainst 3 s args wsX9_orderAgainst RX9 A D cy (RO_X9_orderAgainst cy o q_p1 d d_p1 size_ p1_size_ letters_ p1_letters_)) (h : f_X9_orderAgainst size_ p1_size_ letters_ p1_letters_ = some out) (K : ∀ (H : Heap) (locs : List Loc) (ls : Array Slot) (pc : Nat), decode cX9_orderAgainst pc = .ok (.ireturn, 1) → St A D s (RW_X9_orderAgainst cy o q_p1 d d_p1) H locs → W p l e rm_X9_orderAgainst s m args below meth c H locs 0 0 Q (F0 m pc ls [.int out])) : ∀ (H : Heap) (locs : List Loc) (ls : Array Slot), St A D s (RW_X9_orderAgainst cy o q_p1 d d_p1) H locs → lv_has ls 3 [(0, .ref o), (1, .ref q_p1)] → W p l e rm_X9_orderAgainst s m args below meth c H locs 0 0 Q (F0 m 0 ls []) := by
  intro H locs ls Z hl
  have hx := X.1.1
  have hb := X.1.2.1
  unfold f_X9_orderAgainst at h
  refine lv_aload_n hx hb dX9_orderAgainst_0 rfl (lv_at hl 0 rfl) ?_
  refine x_getO X Z 0 1 (v := .int size_) rfl rfl lk_X9_orderAgainst_X9_size dX9_orderAgainst_1 ?_
  refine lv_aload_n hx hb dX9_orderAgainst_4 rfl (lv_at hl 1 rfl) ?_
  refine x_getO X Z 1 1 (v := .int p1_size_) rfl rfl lk_X9_orderAgainst_X9_size dX9_orderAgainst_5 ?_
  refine lv_icmp_eq (tgt := 28) hx hb dX9_orderAgainst_8 (by decide) (fun cnd => ?_) (fun cnd => ?_)
  · replace h := ifp h cnd
    refine lv_iconst (v := (0 : Int32)) hx hb dX9_orderAgainst_28 (by decide) ?_
    refine lv_istore_n (lv' := [(2, .int (0 : Int32)), (0, .ref o), (1, .ref q_p1)]) hx hb dX9_orderAgainst_29 rfl hl (by decide) rfl (fun ls hl => ?_)
    obtain ⟨u7, hL8, h⟩ := ob_some h
    rcases u7 with u7 | u7
    · replace h := se_l h
      refine wl_X9_orderAgainst_30 o q_p1 d d_p1 size_ p1_size_ letters_ p1_letters_ FU (0 : Int32) (.inl u7) X hL8 (sk_li (fun H locs ls Z hl => ?_)) H locs ls Z (lv_sub hl [1, 2, 0] rfl)
      refine lv_aload_n hx hb dX9_orderAgainst_53 rfl (lv_at hl 0 rfl) ?_
      refine x_getO X Z 0 0 (v := .ref (d 0)) rfl rfl lk_X9_orderAgainst_X9_letters dX9_orderAgainst_54 ?_
      refine lv_iload_n hx hb dX9_orderAgainst_57 rfl (lv_at hl 2 rfl) ?_
      obtain ⟨hin9, v10, hv11, h⟩ := ld_b h
      refine x_ialdO X Z 2 rfl hin9 hv11 dX9_orderAgainst_58 ?_
      refine lv_aload_n hx hb dX9_orderAgainst_59 rfl (lv_at hl 1 rfl) ?_
      refine x_getO X Z 1 0 (v := .ref (d_p1 0)) rfl rfl lk_X9_orderAgainst_X9_letters dX9_orderAgainst_60 ?_
      refine lv_iload_n hx hb dX9_orderAgainst_63 rfl (lv_at hl 2 rfl) ?_
      obtain ⟨hin12, v13, hv14, h⟩ := ld_b h
      refine x_ialdO X Z 3 rfl hin12 hv14 dX9_orderAgainst_64 ?_
      refine lv_icmp_ge (tgt := 72) hx hb dX9_orderAgainst_65 (by decide) (fun cnd => ?_) (fun cnd => ?_)
      · replace h := ifp h cnd
        refine lv_iconst (v := (2 : Int32)) hx hb dX9_orderAgainst_72 (by decide) ?_
        obtain rfl := Option.some.inj h
        exact K H locs ls _ dX9_orderAgainst_73 Z
      · replace h := ifn h cnd
        refine lv_iconst (v := (0 : Int32)) hx hb dX9_orderAgainst_68 (by decide) ?_
        refine lv_goto (tgt := 73) hx hb dX9_orderAgainst_69 (by decide) ?_
        obtain rfl := Option.some.inj h
        exact K H locs ls _ dX9_orderAgainst_73 Z
    · replace h := se_r h
      refine wl_X9_orderAgainst_30 o q_p1 d d_p1 size_ p1_size_ letters_ p1_letters_ FU (0 : Int32) (.inr u7) X hL8 (sk_ri (fun H locs ls Z hl => ?_)) H locs ls Z (lv_sub hl [1, 2, 0] rfl)
      refine lv_iconst (v := (1 : Int32)) hx hb dX9_orderAgainst_80 (by decide) ?_
      obtain rfl := Option.some.inj h
      exact K H locs ls _ dX9_orderAgainst_81 Z
  · replace h := ifn h cnd
    refine lv_aload_n hx hb dX9_orderAgainst_11 rfl (lv_at hl 0 rfl) ?_
    refine x_getO X Z 0 1 (v := .int size_) rfl rfl lk_X9_orderAgainst_X9_size dX9_orderAgainst_12 ?_
    refine lv_aload_n hx hb dX9_orderAgainst_15 rfl (lv_at hl 1 rfl) ?_
    refine x_getO X Z 1 1 (v := .int p1_size_) rfl rfl lk_X9_orderAgainst_X9_size dX9_orderAgainst_16 ?_
    refine lv_icmp_ge (tgt := 26) hx hb dX9_orderAgainst_19 (by decide) (fun cnd => ?_) (fun cnd => ?_)
    · replace h := ifp h cnd
      refine lv_iconst (v := (2 : Int32)) hx hb dX9_orderAgainst_26 (by decide) ?_
      obtain rfl := Option.some.inj h
      exact K H locs ls _ dX9_orderAgainst_27 Z
    · replace h := ifn h cnd
      refine lv_iconst (v := (0 : Int32)) hx hb dX9_orderAgainst_22 (by decide) ?_
      refine lv_goto (tgt := 27) hx hb dX9_orderAgainst_23 (by decide) ?_
      obtain rfl := Option.some.inj h
      exact K H locs ls _ dX9_orderAgainst_27 Z
theorem c_X9_orderAgainst (l : Launch) (D : va_G) (cy : Nat → ClassId) (o : Nat) (q_p1 : Nat) (d : Nat → Nat) (d_p1 : Nat → Nat) (size_ : Int32) (p1_size_ : Int32) (letters_ : Nat → Int32) (p1_letters_ : Nat → Int32)  (out : Int32) (h : f_X9_orderAgainst size_ p1_size_ letters_ p1_letters_ = some out) : CtI l yX9_orderAgainst wsX9_orderAgainst rm_X9_orderAgainst D cy [.ref o, .ref q_p1] (RW_X9_orderAgainst cy o q_p1 d d_p1) (RO_X9_orderAgainst cy o q_p1 d d_p1 size_ p1_size_ letters_ p1_letters_) (RW_X9_orderAgainst cy o q_p1 d d_p1) out :=
  mk_i (ty := .int) (by decide) rfl rfl (Nat.le_of_ble_eq_true rfl) (fun p e s m args below meth c A Q X K H locs ls Z hl => wt_X9_orderAgainst o q_p1 d d_p1 size_ p1_size_ letters_ p1_letters_ out X h K H locs ls Z hl)
/-! SubwordCounter compare (II)I -/
abbrev rm_X11_compare : Room := { frames := 1, cells := 0, slots := 0, locals := 22 }
def RW_X11_compare (cy : Nat → ClassId) (o : Nat) (q_now_words_L1 : Nat) (q_now_words_L2 : Nat) (d : Nat → Nat) (d_now_words_L1 : Nat → Nat) (d_now_words_L2 : Nat → Nat) (d_now : Nat → Nat) (mono : Value)  : va_W := []
def RO_X11_compare (cy : Nat → ClassId) (o : Nat) (q_now_words_L1 : Nat) (q_now_words_L2 : Nat) (d : Nat → Nat) (d_now_words_L1 : Nat → Nat) (d_now_words_L2 : Nat → Nat) (d_now : Nat → Nat) (mono : Value) (snapshotTaken_ : Int32) (inputLength_ : Int32) (now_words_L1_size_ : Int32) (now_words_L2_size_ : Int32) (now_letters_ : Int32) (now_words_L1_letters_ : Nat → Int32) (now_words_L2_letters_ : Nat → Int32) (now_words_ : Nat → Option Nat) : va_W := [(o, ob 10 (oX11 d mono snapshotTaken_ inputLength_)), (q_now_words_L1, ob 8 (oX9 d_now_words_L1 now_words_L1_size_)), (q_now_words_L2, ob 8 (oX9 d_now_words_L2 now_words_L2_size_)), ((d 0), ob 5 (oX5 d_now now_letters_)), ((d_now_words_L1 0), aI cy 12 now_words_L1_letters_), ((d_now_words_L2 0), aI cy 12 now_words_L2_letters_), ((d_now 1), aR cy 5 3 now_words_)]
theorem in_X11_compare_X11 : ∀ w ∈ u_ws RX11 TX11 12, w ∈ wsX11_compare := fun w h => (List.mem_cons_of_mem _ (List.mem_append_left _ (List.mem_append_left _ (List.mem_append_right _ h))))
theorem lk_X11_compare_X11_now : Lk wsX11_compare RX11 10 10 0 := ⟨RX11, TX11, 12, rfl, by decide, in_X11_compare_X11, mem_at 1 rfl⟩
theorem in_X11_compare_X5 : ∀ w ∈ u_ws RX5 TX5 4, w ∈ wsX11_compare := fun w h => (List.mem_cons_of_mem _ (List.mem_append_left _ (List.mem_append_right _ h)))
theorem lk_X11_compare_X5_words : Lk wsX11_compare RX11 85 5 1 := ⟨RX5, TX5, 4, rfl, by decide, in_X11_compare_X5, mem_at 2 rfl⟩
def f_X11_compare (x1 : Int32) (x2 : Int32) (q_now_words_L1 : Nat) (q_now_words_L2 : Nat) (now_words_L1_size_ : Int32) (now_words_L2_size_ : Int32) (now_words_L1_letters_ : Nat → Int32) (now_words_L2_letters_ : Nat → Int32) (now_words_ : Nat → Option Nat) : Option (Int32) :=
  (f_X11_isWord x1).bind (fun u1 =>
  if u1 = 0 then
  (some (-1 : Int32))
  else
  ((f_X11_isWord x2).bind (fun u3 =>
  if u3 = 0 then
  (some (-1 : Int32))
  else
  (ldA now_words_ 3 x1 (fun r6 =>
  asR r6 q_now_words_L1 (
  ldA now_words_ 3 x2 (fun r10 =>
  asR r10 q_now_words_L2 (
  (f_X9_orderAgainst now_words_L1_size_ now_words_L2_size_ now_words_L1_letters_ now_words_L2_letters_).bind (fun u13 =>
  some u13)))))))))
set_option maxHeartbeats 4000000 in
set_option maxRecDepth 100000 in
theorem wt_X11_compare {p : Program} {l : Launch} {e : Env} {s : State} {m : MethodId} {args : Array Value} {below : List Frame} {meth : Method} {c : Code} {A : Nat → Prop} {Q : State → Prop} {D : va_G} {cy : Nat → ClassId} (o : Nat) (q_now_words_L1 : Nat) (q_now_words_L2 : Nat) (d : Nat → Nat) (d_now_words_L1 : Nat → Nat) (d_now_words_L2 : Nat → Nat) (d_now : Nat → Nat) (mono : Value) (snapshotTaken_ : Int32) (inputLength_ : Int32) (now_words_L1_size_ : Int32) (now_words_L2_size_ : Int32) (now_letters_ : Int32) (now_words_L1_letters_ : Nat → Int32) (now_words_L2_letters_ : Nat → Int32) (now_words_ : Nat → Option Nat)  (x1 : Int32) (x2 : Int32) (out : Int32) (X : Cx p m c cX11_compare 3 s args wsX11_compare RX11 A D cy (RO_X11_compare cy o q_now_words_L1 q_now_words_L2 d d_now_words_L1 d_now_words_L2 d_now mono snapshotTaken_ inputLength_ now_words_L1_size_ now_words_L2_size_ now_letters_ now_words_L1_letters_ now_words_L2_letters_ now_words_)) (h : f_X11_compare x1 x2 q_now_words_L1 q_now_words_L2 now_words_L1_size_ now_words_L2_size_ now_words_L1_letters_ now_words_L2_letters_ now_words_ = some out) (K : ∀ (H : Heap) (locs : List Loc) (ls : Array Slot) (pc : Nat), decode cX11_compare pc = .ok (.ireturn, 1) → St A D s (RW_X11_compare cy o q_now_words_L1 q_now_words_L2 d d_now_words_L1 d_now_words_L2 d_now mono) H locs → W p l e rm_X11_compare s m args below meth c H locs 0 0 Q (F0 m pc ls [.int out])) : ∀ (H : Heap) (locs : List Loc) (ls : Array Slot), St A D s (RW_X11_compare cy o q_now_words_L1 q_now_words_L2 d d_now_words_L1 d_now_words_L2 d_now mono) H locs → lv_has ls 3 [(0, .ref o), (1, .int x1), (2, .int x2)] → W p l e rm_X11_compare s m args below meth c H locs 0 0 Q (F0 m 0 ls []) := by
  intro H locs ls Z hl
  have hx := X.1.1
  have hb := X.1.2.1
  unfold f_X11_compare at h
  refine lv_iload_n hx hb dX11_compare_0 rfl (lv_at hl 1 rfl) ?_
  obtain ⟨u1, hc2, h⟩ := ob_some h
  refine x_runSi (RW' := (RW_X11_compare cy o q_now_words_L1 q_now_words_L2 d d_now_words_L1 d_now_words_L2 d_now mono)) (wr := []) (isC := []) (isR := []) (isF := []) (rest := []) (As := [.int x1]) (n := 1) X Z (c_X11_isWord l D cy x1 u1 hc2) gX11_compare_X11_isWord rfl (by decide +kernel) ⟨Nat.le_of_ble_eq_true rfl, Nat.le_of_ble_eq_true rfl⟩ ⟨rfl, rfl⟩ ⟨Nat.le_of_ble_eq_true rfl, Nat.le_of_ble_eq_true rfl⟩ ⟨rfl, rfl, roN, rfl, rfl, by decide⟩ ⟨rfl, rfl⟩ rfl hl.1 rfl (Nat.le_of_ble_eq_true rfl) dX11_compare_1 (fun H locs Z => ?_)
  refine lv_if_eq (tgt := 14) hx hb dX11_compare_4 (by decide) (fun cnd => ?_) (fun cnd => ?_)
  · replace h := ifp h cnd
    refine lv_iconst (v := (-1 : Int32)) hx hb dX11_compare_14 (by decide) ?_
    obtain rfl := Option.some.inj h
    exact K H locs ls _ dX11_compare_15 Z
  · replace h := ifn h cnd
    refine lv_iload_n hx hb dX11_compare_7 rfl (lv_at hl 2 rfl) ?_
    obtain ⟨u3, hc4, h⟩ := ob_some h
    refine x_runSi (RW' := (RW_X11_compare cy o q_now_words_L1 q_now_words_L2 d d_now_words_L1 d_now_words_L2 d_now mono)) (wr := []) (isC := []) (isR := []) (isF := []) (rest := []) (As := [.int x2]) (n := 1) X Z (c_X11_isWord l D cy x2 u3 hc4) gX11_compare_X11_isWord rfl (by decide +kernel) ⟨Nat.le_of_ble_eq_true rfl, Nat.le_of_ble_eq_true rfl⟩ ⟨rfl, rfl⟩ ⟨Nat.le_of_ble_eq_true rfl, Nat.le_of_ble_eq_true rfl⟩ ⟨rfl, rfl, roN, rfl, rfl, by decide⟩ ⟨rfl, rfl⟩ rfl hl.1 rfl (Nat.le_of_ble_eq_true rfl) dX11_compare_8 (fun H locs Z => ?_)
    refine lv_if_ne (tgt := 16) hx hb dX11_compare_11 (by decide) (fun cnd => ?_) (fun cnd => ?_)
    · replace h := ifn h cnd
      refine lv_aload_n hx hb dX11_compare_16 rfl (lv_at hl 0 rfl) ?_
      refine x_getO X Z 0 0 (v := .ref (d 0)) rfl rfl lk_X11_compare_X11_now dX11_compare_17 ?_
      refine x_getO X Z 3 1 (v := .ref (d_now 1)) rfl rfl lk_X11_compare_X5_words dX11_compare_20 ?_
      refine lv_iload_n hx hb dX11_compare_23 rfl (lv_at hl 1 rfl) ?_
      obtain ⟨hin5, r6, hv7, h⟩ := ld_b h
      obtain ⟨ha8, h⟩ := as_b h
      refine x_raldO X Z 6 5 rfl rfl hin5 hv7 ha8 dX11_compare_24 ?_
      refine lv_aload_n hx hb dX11_compare_25 rfl (lv_at hl 0 rfl) ?_
      refine x_getO X Z 0 0 (v := .ref (d 0)) rfl rfl lk_X11_compare_X11_now dX11_compare_26 ?_
      refine x_getO X Z 3 1 (v := .ref (d_now 1)) rfl rfl lk_X11_compare_X5_words dX11_compare_29 ?_
      refine lv_iload_n hx hb dX11_compare_32 rfl (lv_at hl 2 rfl) ?_
      obtain ⟨hin9, r10, hv11, h⟩ := ld_b h
      obtain ⟨ha12, h⟩ := as_b h
      refine x_raldO X Z 6 5 rfl rfl hin9 hv11 ha12 dX11_compare_33 ?_
      obtain ⟨u13, hc14, h⟩ := ob_some h
      refine x_runVi (RW' := (RW_X11_compare cy o q_now_words_L1 q_now_words_L2 d d_now_words_L1 d_now_words_L2 d_now mono)) (wr := []) (isC := []) (isR := []) (isF := []) (rest := []) (As := [.ref q_now_words_L2]) (n := 1) X Z (c_X9_orderAgainst l D cy q_now_words_L1 q_now_words_L2 d_now_words_L1 d_now_words_L2 now_words_L1_size_ now_words_L2_size_ now_words_L1_letters_ now_words_L2_letters_ u13 hc14) gX11_compare_X9_orderAgainst rfl (by decide +kernel) ⟨Nat.le_of_ble_eq_true rfl, Nat.le_of_ble_eq_true rfl⟩ ⟨rfl, rfl⟩ ⟨Nat.le_of_ble_eq_true rfl, Nat.le_of_ble_eq_true rfl⟩ (x_rvO X Z 1 rfl rfl) ⟨rfl, rfl, (roC (Or.inr (mem_at 1 rfl)) (roC (Or.inr (mem_at 2 rfl)) (roC (Or.inr (mem_at 4 rfl)) (roC (Or.inr (mem_at 5 rfl)) roN)))), rfl, rfl, by decide⟩ ⟨rfl, rfl⟩ rfl hl.1 rfl (Nat.le_of_ble_eq_true rfl) dX11_compare_34 (fun H locs Z => ?_)
      obtain rfl := Option.some.inj h
      exact K H locs ls _ dX11_compare_37 Z
    · replace h := ifp h cnd
      refine lv_iconst (v := (-1 : Int32)) hx hb dX11_compare_14 (by decide) ?_
      obtain rfl := Option.some.inj h
      exact K H locs ls _ dX11_compare_15 Z
theorem c_X11_compare (l : Launch) (D : va_G) (cy : Nat → ClassId) (o : Nat) (q_now_words_L1 : Nat) (q_now_words_L2 : Nat) (d : Nat → Nat) (d_now_words_L1 : Nat → Nat) (d_now_words_L2 : Nat → Nat) (d_now : Nat → Nat) (mono : Value) (snapshotTaken_ : Int32) (inputLength_ : Int32) (now_words_L1_size_ : Int32) (now_words_L2_size_ : Int32) (now_letters_ : Int32) (now_words_L1_letters_ : Nat → Int32) (now_words_L2_letters_ : Nat → Int32) (now_words_ : Nat → Option Nat)  (x1 : Int32) (x2 : Int32) (out : Int32) (h : f_X11_compare x1 x2 q_now_words_L1 q_now_words_L2 now_words_L1_size_ now_words_L2_size_ now_words_L1_letters_ now_words_L2_letters_ now_words_ = some out) : CtI l yX11_compare wsX11_compare rm_X11_compare D cy [.ref o, .int x1, .int x2] (RW_X11_compare cy o q_now_words_L1 q_now_words_L2 d d_now_words_L1 d_now_words_L2 d_now mono) (RO_X11_compare cy o q_now_words_L1 q_now_words_L2 d d_now_words_L1 d_now_words_L2 d_now mono snapshotTaken_ inputLength_ now_words_L1_size_ now_words_L2_size_ now_letters_ now_words_L1_letters_ now_words_L2_letters_ now_words_) (RW_X11_compare cy o q_now_words_L1 q_now_words_L2 d d_now_words_L1 d_now_words_L2 d_now mono) out :=
  mk_i (ty := .int) (by decide) rfl rfl (Nat.le_of_ble_eq_true rfl) (fun p e s m args below meth c A Q X K H locs ls Z hl => wt_X11_compare o q_now_words_L1 q_now_words_L2 d d_now_words_L1 d_now_words_L2 d_now mono snapshotTaken_ inputLength_ now_words_L1_size_ now_words_L2_size_ now_letters_ now_words_L1_letters_ now_words_L2_letters_ now_words_ x1 x2 out X h K H locs ls Z hl)
/-! java/util/Arrays fill ([II)V -/
abbrev rm_J7_fill_53178 : Room := { frames := 0, cells := 0, slots := 0, locals := 0 }
def RW_J7_fill_53178 (cy : Nat → ClassId) (q_p0 : Nat) (n_p0 : Nat) (p0_ : Nat → Int32) : va_W := [(q_p0, aI cy n_p0 p0_)]
def RO_J7_fill_53178 (cy : Nat → ClassId) (q_p0 : Nat) (n_p0 : Nat)  : va_W := []
def b_J7_fill_53178_5 (n_p0 : Nat)  (x1 : Int32) (x3 : Int32) (p0_ : Nat → Int32) (x2 : Int32) : Option (((Nat → Int32) × Int32) ⊕ ((Nat → Int32))) :=
  if x3 ≤ x2 then
  (some (.inr p0_))
  else
  (stA p0_ n_p0 x2 x1 (fun p0_2 =>
  some (.inl (p0_2, (x2 + (1 : Int32))))))
set_option maxHeartbeats 4000000 in
set_option maxRecDepth 100000 in
theorem wb_J7_fill_53178_5 {p : Program} {l : Launch} {e : Env} {s : State} {m : MethodId} {args : Array Value} {below : List Frame} {meth : Method} {c : Code} {A : Nat → Prop} {Q : State → Prop} {D : va_G} {cy : Nat → ClassId} (q_p0 : Nat) (n_p0 : Nat)   (x1 : Int32) (x3 : Int32) (p0_ : Nat → Int32) (x2 : Int32) (o1 : ((Nat → Int32) × Int32) ⊕ ((Nat → Int32))) (X : Cx p m c cJ7_fill_53178 4 s args wsJ7_fill_53178 RJ7 A D cy (RO_J7_fill_53178 cy q_p0 n_p0)) (h : b_J7_fill_53178_5 n_p0 x1 x3 p0_ x2 = some o1) (K : Sum.elim (fun v : (Nat → Int32) × Int32 => ∀ (H : Heap) (locs : List Loc) (ls : Array Slot), St A D s (RW_J7_fill_53178 cy q_p0 n_p0 v.1) H locs → lv_has ls 4 [(0, .ref q_p0), (1, .int x1), (2, .int v.2), (3, .int x3)] → W p l e rm_J7_fill_53178 s m args below meth c H locs 0 0 Q (F0 m 5 ls [])) (fun v : (Nat → Int32) => ∀ (H : Heap) (locs : List Loc) (ls : Array Slot), St A D s (RW_J7_fill_53178 cy q_p0 n_p0 v) H locs → lv_has ls 4 [] → W p l e rm_J7_fill_53178 s m args below meth c H locs 0 0 Q (F0 m 20 ls [])) o1) : ∀ (H : Heap) (locs : List Loc) (ls : Array Slot), St A D s (RW_J7_fill_53178 cy q_p0 n_p0 p0_) H locs → lv_has ls 4 [(0, .ref q_p0), (1, .int x1), (2, .int x2), (3, .int x3)] → W p l e rm_J7_fill_53178 s m args below meth c H locs 0 0 Q (F0 m 5 ls []) := by
  intro H locs ls Z hl
  have hx := X.1.1
  have hb := X.1.2.1
  unfold b_J7_fill_53178_5 at h
  refine lv_iload_n hx hb dJ7_fill_53178_5 rfl (lv_at hl 2 rfl) ?_
  refine lv_iload_n hx hb dJ7_fill_53178_6 rfl (lv_at hl 3 rfl) ?_
  refine lv_icmp_ge (tgt := 20) hx hb dJ7_fill_53178_7 (by decide) (fun cnd => ?_) (fun cnd => ?_)
  · replace h := ifp h cnd
    obtain rfl := Option.some.inj h
    exact (sk_r K) H locs ls Z (lv_sub hl [] rfl)
  · replace h := ifn h cnd
    refine lv_aload_n hx hb dJ7_fill_53178_10 rfl (lv_at hl 0 rfl) ?_
    refine lv_iload_n hx hb dJ7_fill_53178_11 rfl (lv_at hl 2 rfl) ?_
    refine lv_iload_n hx hb dJ7_fill_53178_12 rfl (lv_at hl 1 rfl) ?_
    obtain ⟨hin1, p0_2, hv3, h⟩ := st_b h
    refine x_iast X Z 0 (RW_J7_fill_53178 cy q_p0 n_p0 p0_2) rfl hin1 hv3 rfl dJ7_fill_53178_13 (fun H locs Z => ?_)
    refine lv_iinc (v := (x2 + (1 : Int32))) (lv' := [(2, .int (x2 + (1 : Int32))), (0, .ref q_p0), (1, .int x1), (3, .int x3)]) hx hb dJ7_fill_53178_14 hl (k := 2) rfl rfl (by decide) rfl (fun ls hl => ?_)
    refine lv_goto (tgt := 5) hx hb dJ7_fill_53178_17 (by decide) ?_
    obtain rfl := Option.some.inj h
    exact sk_l K H locs ls Z (lv_sub hl [1, 2, 0, 3] rfl)
set_option maxHeartbeats 4000000 in
set_option maxRecDepth 100000 in
theorem wl_J7_fill_53178_5 {p : Program} {l : Launch} {e : Env} {s : State} {m : MethodId} {args : Array Value} {below : List Frame} {meth : Method} {c : Code} {A : Nat → Prop} {Q : State → Prop} {D : va_G} {cy : Nat → ClassId} (q_p0 : Nat) (n_p0 : Nat)   (x1 : Int32) (x3 : Int32) (n : Nat) (v : (Nat → Int32) × Int32) (x : (Nat → Int32)) (X : Cx p m c cJ7_fill_53178 4 s args wsJ7_fill_53178 RJ7 A D cy (RO_J7_fill_53178 cy q_p0 n_p0)) (h : loopN (fun v => b_J7_fill_53178_5 n_p0 x1 x3 v.1 v.2) n v = some x) (K : ∀ (H : Heap) (locs : List Loc) (ls : Array Slot), St A D s (RW_J7_fill_53178 cy q_p0 n_p0 x) H locs → lv_has ls 4 [] → W p l e rm_J7_fill_53178 s m args below meth c H locs 0 0 Q (F0 m 20 ls [])) : ∀ (H : Heap) (locs : List Loc) (ls : Array Slot), St A D s (RW_J7_fill_53178 cy q_p0 n_p0 v.1) H locs → lv_has ls 4 [(0, .ref q_p0), (1, .int x1), (2, .int v.2), (3, .int x3)] → W p l e rm_J7_fill_53178 s m args below meth c H locs 0 0 Q (F0 m 5 ls []) :=
  loop_gen (B := (fun v => b_J7_fill_53178_5 n_p0 x1 x3 v.1 v.2)) (Head := fun v : (Nat → Int32) × Int32 => ∀ (H : Heap) (locs : List Loc) (ls : Array Slot), St A D s (RW_J7_fill_53178 cy q_p0 n_p0 v.1) H locs → lv_has ls 4 [(0, .ref q_p0), (1, .int x1), (2, .int v.2), (3, .int x3)] → W p l e rm_J7_fill_53178 s m args below meth c H locs 0 0 Q (F0 m 5 ls [])) (Exit := fun v : (Nat → Int32) => ∀ (H : Heap) (locs : List Loc) (ls : Array Slot), St A D s (RW_J7_fill_53178 cy q_p0 n_p0 v) H locs → lv_has ls 4 [] → W p l e rm_J7_fill_53178 s m args below meth c H locs 0 0 Q (F0 m 20 ls [])) (fun v o9 hb1 K1 => wb_J7_fill_53178_5 q_p0 n_p0 x1 x3 v.1 v.2 o9 X hb1 K1) n v x h K
def f_J7_fill_53178 (x1 : Int32) (n_p0 : Nat) (p0_ : Nat → Int32) : Option ((Nat → Int32)) :=
  (loopN (fun v => b_J7_fill_53178_5 n_p0 x1 (Int32.ofNat n_p0) v.1 v.2) FU (p0_, (0 : Int32))).bind (fun u4 =>
  some u4)
set_option maxHeartbeats 4000000 in
set_option maxRecDepth 100000 in
theorem wt_J7_fill_53178 {p : Program} {l : Launch} {e : Env} {s : State} {m : MethodId} {args : Array Value} {below : List Frame} {meth : Method} {c : Code} {A : Nat → Prop} {Q : State → Prop} {D : va_G} {cy : Nat → ClassId} (q_p0 : Nat) (n_p0 : Nat)  (p0_ : Nat → Int32) (x1 : Int32) (out : (Nat → Int32)) (X : Cx p m c cJ7_fill_53178 4 s args wsJ7_fill_53178 RJ7 A D cy (RO_J7_fill_53178 cy q_p0 n_p0)) (h : f_J7_fill_53178 x1 n_p0 p0_ = some out) (K : ∀ (H : Heap) (locs : List Loc) (ls : Array Slot) (pc : Nat), decode cJ7_fill_53178 pc = .ok (.return_, 1) → St A D s (RW_J7_fill_53178 cy q_p0 n_p0 out) H locs → W p l e rm_J7_fill_53178 s m args below meth c H locs 0 0 Q (F0 m pc ls [])) : ∀ (H : Heap) (locs : List Loc) (ls : Array Slot), St A D s (RW_J7_fill_53178 cy q_p0 n_p0 p0_) H locs → lv_has ls 4 [(0, .ref q_p0), (1, .int x1)] → W p l e rm_J7_fill_53178 s m args below meth c H locs 0 0 Q (F0 m 0 ls []) := by
  intro H locs ls Z hl
  have hx := X.1.1
  have hb := X.1.2.1
  unfold f_J7_fill_53178 at h
  refine lv_iconst (v := (0 : Int32)) hx hb dJ7_fill_53178_0 (by decide) ?_
  refine lv_istore_n (lv' := [(2, .int (0 : Int32)), (0, .ref q_p0), (1, .int x1)]) hx hb dJ7_fill_53178_1 rfl hl (by decide) rfl (fun ls hl => ?_)
  refine lv_aload_n hx hb dJ7_fill_53178_2 rfl (lv_at hl 1 rfl) ?_
  refine x_alenI X Z 0 rfl dJ7_fill_53178_3 ?_
  refine lv_istore_n (lv' := [(3, .int (Int32.ofNat n_p0)), (2, .int (0 : Int32)), (0, .ref q_p0), (1, .int x1)]) hx hb dJ7_fill_53178_4 rfl hl (by decide) rfl (fun ls hl => ?_)
  obtain ⟨u4, hL5, h⟩ := ob_some h
  refine wl_J7_fill_53178_5 q_p0 n_p0 x1 (Int32.ofNat n_p0) FU (p0_, (0 : Int32)) u4 X hL5 (fun H locs ls Z hl => ?_) H locs ls Z (lv_sub hl [2, 3, 1, 0] rfl)
  obtain rfl := Option.some.inj h
  exact K H locs ls _ dJ7_fill_53178_20 Z
theorem c_J7_fill_53178 (l : Launch) (D : va_G) (cy : Nat → ClassId) (q_p0 : Nat) (n_p0 : Nat)  (p0_ : Nat → Int32) (x1 : Int32) (out : (Nat → Int32)) (h : f_J7_fill_53178 x1 n_p0 p0_ = some out) : CtV l yJ7_fill_53178 wsJ7_fill_53178 rm_J7_fill_53178 D cy [.ref q_p0, .int x1] (RW_J7_fill_53178 cy q_p0 n_p0 p0_) (RO_J7_fill_53178 cy q_p0 n_p0) (RW_J7_fill_53178 cy q_p0 n_p0 out) :=
  mk_v (by decide) rfl (Nat.le_of_ble_eq_true rfl) (fun p e s m args below meth c A Q X K H locs ls Z hl => wt_J7_fill_53178 q_p0 n_p0 p0_ x1 out X h K H locs ls Z hl)
/-! SubwordCounter$Word occurrencesIn (LSubwordCounter$Word;)I -/
abbrev rm_X9_occurrencesIn : Room := { frames := 1, cells := 0, slots := 0, locals := 23 }
def RW_X9_occurrencesIn (cy : Nat → ClassId) (o : Nat) (q_p1 : Nat) (d : Nat → Nat) (d_p1 : Nat → Nat) (ways_ : Nat → Int32) : va_W := [((d 2), aI cy 13 ways_)]
def RO_X9_occurrencesIn (cy : Nat → ClassId) (o : Nat) (q_p1 : Nat) (d : Nat → Nat) (d_p1 : Nat → Nat) (size_ : Int32) (p1_size_ : Int32) (letters_ : Nat → Int32) (p1_letters_ : Nat → Int32) : va_W := [(o, ob 8 (oX9 d size_)), (q_p1, ob 8 (oX9 d_p1 p1_size_)), ((d 0), aI cy 12 letters_), ((d_p1 0), aI cy 12 p1_letters_)]
theorem in_X9_occurrencesIn_X9 : ∀ w ∈ u_ws RX9 TX9 3, w ∈ wsX9_occurrencesIn := fun w h => (List.mem_cons_of_mem _ (List.mem_append_right _ h))
theorem lk_X9_occurrencesIn_X9_letters : Lk wsX9_occurrencesIn RX9 9 8 0 := ⟨RX9, TX9, 3, rfl, by decide, in_X9_occurrencesIn_X9, mem_at 3 rfl⟩
theorem lk_X9_occurrencesIn_X9_ways : Lk wsX9_occurrencesIn RX9 19 8 2 := ⟨RX9, TX9, 3, rfl, by decide, in_X9_occurrencesIn_X9, mem_at 1 rfl⟩
theorem lk_X9_occurrencesIn_X9_size : Lk wsX9_occurrencesIn RX9 15 8 1 := ⟨RX9, TX9, 3, rfl, by decide, in_X9_occurrencesIn_X9, mem_at 2 rfl⟩
def b_X9_occurrencesIn_30 (letters_ : Nat → Int32) (p1_letters_ : Nat → Int32) (x2 : Int32) (ways_ : Nat → Int32) (x3 : Int32) : Option (((Nat → Int32) × Int32) ⊕ ((Nat → Int32))) :=
  if x3 < (1 : Int32) then
  (some (.inr ways_))
  else
  (ldA letters_ 12 (x3 - (1 : Int32)) (fun v2 =>
  ldA p1_letters_ 12 x2 (fun v5 =>
  if v2 = v5 then
  (ldA ways_ 13 x3 (fun v8 =>
  ldA ways_ 13 (x3 - (1 : Int32)) (fun v11 =>
  stA ways_ 13 x3 (v8 + v11) (fun ways_14 =>
  some (.inl (ways_14, (x3 + (-1 : Int32))))))))
  else
  (some (.inl (ways_, (x3 + (-1 : Int32))))))))
set_option maxHeartbeats 4000000 in
set_option maxRecDepth 100000 in
theorem wb_X9_occurrencesIn_30 {p : Program} {l : Launch} {e : Env} {s : State} {m : MethodId} {args : Array Value} {below : List Frame} {meth : Method} {c : Code} {A : Nat → Prop} {Q : State → Prop} {D : va_G} {cy : Nat → ClassId} (o : Nat) (q_p1 : Nat) (d : Nat → Nat) (d_p1 : Nat → Nat) (size_ : Int32) (p1_size_ : Int32) (letters_ : Nat → Int32) (p1_letters_ : Nat → Int32)  (x2 : Int32) (ways_ : Nat → Int32) (x3 : Int32) (o1 : ((Nat → Int32) × Int32) ⊕ ((Nat → Int32))) (X : Cx p m c cX9_occurrencesIn 4 s args wsX9_occurrencesIn RX9 A D cy (RO_X9_occurrencesIn cy o q_p1 d d_p1 size_ p1_size_ letters_ p1_letters_)) (h : b_X9_occurrencesIn_30 letters_ p1_letters_ x2 ways_ x3 = some o1) (K : Sum.elim (fun v : (Nat → Int32) × Int32 => ∀ (H : Heap) (locs : List Loc) (ls : Array Slot), St A D s (RW_X9_occurrencesIn cy o q_p1 d d_p1 v.1) H locs → lv_has ls 4 [(0, .ref o), (1, .ref q_p1), (2, .int x2), (3, .int v.2)] → W p l e rm_X9_occurrencesIn s m args below meth c H locs 0 0 Q (F0 m 30 ls [])) (fun v : (Nat → Int32) => ∀ (H : Heap) (locs : List Loc) (ls : Array Slot), St A D s (RW_X9_occurrencesIn cy o q_p1 d d_p1 v) H locs → lv_has ls 4 [(0, .ref o), (1, .ref q_p1), (2, .int x2)] → W p l e rm_X9_occurrencesIn s m args below meth c H locs 0 0 Q (F0 m 75 ls [])) o1) : ∀ (H : Heap) (locs : List Loc) (ls : Array Slot), St A D s (RW_X9_occurrencesIn cy o q_p1 d d_p1 ways_) H locs → lv_has ls 4 [(0, .ref o), (1, .ref q_p1), (2, .int x2), (3, .int x3)] → W p l e rm_X9_occurrencesIn s m args below meth c H locs 0 0 Q (F0 m 30 ls []) := by
  intro H locs ls Z hl
  have hx := X.1.1
  have hb := X.1.2.1
  unfold b_X9_occurrencesIn_30 at h
  refine lv_iload_n hx hb dX9_occurrencesIn_30 rfl (lv_at hl 3 rfl) ?_
  refine lv_iconst (v := (1 : Int32)) hx hb dX9_occurrencesIn_31 (by decide) ?_
  refine lv_icmp_lt (tgt := 75) hx hb dX9_occurrencesIn_32 (by decide) (fun cnd => ?_) (fun cnd => ?_)
  · replace h := ifp h cnd
    obtain rfl := Option.some.inj h
    exact (sk_r K) H locs ls Z (lv_sub hl [0, 1, 2] rfl)
  · replace h := ifn h cnd
    refine lv_aload_n hx hb dX9_occurrencesIn_35 rfl (lv_at hl 0 rfl) ?_
    refine x_getO X Z 0 0 (v := .ref (d 0)) rfl rfl lk_X9_occurrencesIn_X9_letters dX9_occurrencesIn_36 ?_
    refine lv_iload_n hx hb dX9_occurrencesIn_39 rfl (lv_at hl 3 rfl) ?_
    refine lv_iconst (v := (1 : Int32)) hx hb dX9_occurrencesIn_40 (by decide) ?_
    refine lv_isub hx hb dX9_occurrencesIn_41 ?_
    obtain ⟨hin1, v2, hv3, h⟩ := ld_b h
    refine x_ialdO X Z 2 rfl hin1 hv3 dX9_occurrencesIn_42 ?_
    refine lv_aload_n hx hb dX9_occurrencesIn_43 rfl (lv_at hl 1 rfl) ?_
    refine x_getO X Z 1 0 (v := .ref (d_p1 0)) rfl rfl lk_X9_occurrencesIn_X9_letters dX9_occurrencesIn_44 ?_
    refine lv_iload_n hx hb dX9_occurrencesIn_47 rfl (lv_at hl 2 rfl) ?_
    obtain ⟨hin4, v5, hv6, h⟩ := ld_b h
    refine x_ialdO X Z 3 rfl hin4 hv6 dX9_occurrencesIn_48 ?_
    refine lv_icmp_ne (tgt := 69) hx hb dX9_occurrencesIn_49 (by decide) (fun cnd => ?_) (fun cnd => ?_)
    · replace h := ifn h cnd
      refine lv_iinc (v := (x3 + (-1 : Int32))) (lv' := [(3, .int (x3 + (-1 : Int32))), (0, .ref o), (1, .ref q_p1), (2, .int x2)]) hx hb dX9_occurrencesIn_69 hl (k := 3) rfl rfl (by decide) rfl (fun ls hl => ?_)
      refine lv_goto (tgt := 30) hx hb dX9_occurrencesIn_72 (by decide) ?_
      obtain rfl := Option.some.inj h
      exact sk_l K H locs ls Z (lv_sub hl [1, 2, 3, 0] rfl)
    · replace h := ifp h cnd
      refine lv_aload_n hx hb dX9_occurrencesIn_52 rfl (lv_at hl 0 rfl) ?_
      refine x_getO X Z 0 2 (v := .ref (d 2)) rfl rfl lk_X9_occurrencesIn_X9_ways dX9_occurrencesIn_53 ?_
      refine lv_iload_n hx hb dX9_occurrencesIn_56 rfl (lv_at hl 3 rfl) ?_
      refine lv_dup2_11 hx hb dX9_occurrencesIn_57 rfl rfl ?_
      obtain ⟨hin7, v8, hv9, h⟩ := ld_b h
      refine x_iald X Z 0 rfl hin7 hv9 dX9_occurrencesIn_58 ?_
      refine lv_aload_n hx hb dX9_occurrencesIn_59 rfl (lv_at hl 0 rfl) ?_
      refine x_getO X Z 0 2 (v := .ref (d 2)) rfl rfl lk_X9_occurrencesIn_X9_ways dX9_occurrencesIn_60 ?_
      refine lv_iload_n hx hb dX9_occurrencesIn_63 rfl (lv_at hl 3 rfl) ?_
      refine lv_iconst (v := (1 : Int32)) hx hb dX9_occurrencesIn_64 (by decide) ?_
      refine lv_isub hx hb dX9_occurrencesIn_65 ?_
      obtain ⟨hin10, v11, hv12, h⟩ := ld_b h
      refine x_iald X Z 0 rfl hin10 hv12 dX9_occurrencesIn_66 ?_
      refine lv_iadd hx hb dX9_occurrencesIn_67 ?_
      obtain ⟨hin13, ways_14, hv15, h⟩ := st_b h
      refine x_iast X Z 0 (RW_X9_occurrencesIn cy o q_p1 d d_p1 ways_14) rfl hin13 hv15 rfl dX9_occurrencesIn_68 (fun H locs Z => ?_)
      refine lv_iinc (v := (x3 + (-1 : Int32))) (lv' := [(3, .int (x3 + (-1 : Int32))), (0, .ref o), (1, .ref q_p1), (2, .int x2)]) hx hb dX9_occurrencesIn_69 hl (k := 3) rfl rfl (by decide) rfl (fun ls hl => ?_)
      refine lv_goto (tgt := 30) hx hb dX9_occurrencesIn_72 (by decide) ?_
      obtain rfl := Option.some.inj h
      exact sk_l K H locs ls Z (lv_sub hl [1, 2, 3, 0] rfl)
set_option maxHeartbeats 4000000 in
set_option maxRecDepth 100000 in
theorem wl_X9_occurrencesIn_30 {p : Program} {l : Launch} {e : Env} {s : State} {m : MethodId} {args : Array Value} {below : List Frame} {meth : Method} {c : Code} {A : Nat → Prop} {Q : State → Prop} {D : va_G} {cy : Nat → ClassId} (o : Nat) (q_p1 : Nat) (d : Nat → Nat) (d_p1 : Nat → Nat) (size_ : Int32) (p1_size_ : Int32) (letters_ : Nat → Int32) (p1_letters_ : Nat → Int32)  (x2 : Int32) (n : Nat) (v : (Nat → Int32) × Int32) (x : (Nat → Int32)) (X : Cx p m c cX9_occurrencesIn 4 s args wsX9_occurrencesIn RX9 A D cy (RO_X9_occurrencesIn cy o q_p1 d d_p1 size_ p1_size_ letters_ p1_letters_)) (h : loopN (fun v => b_X9_occurrencesIn_30 letters_ p1_letters_ x2 v.1 v.2) n v = some x) (K : ∀ (H : Heap) (locs : List Loc) (ls : Array Slot), St A D s (RW_X9_occurrencesIn cy o q_p1 d d_p1 x) H locs → lv_has ls 4 [(0, .ref o), (1, .ref q_p1), (2, .int x2)] → W p l e rm_X9_occurrencesIn s m args below meth c H locs 0 0 Q (F0 m 75 ls [])) : ∀ (H : Heap) (locs : List Loc) (ls : Array Slot), St A D s (RW_X9_occurrencesIn cy o q_p1 d d_p1 v.1) H locs → lv_has ls 4 [(0, .ref o), (1, .ref q_p1), (2, .int x2), (3, .int v.2)] → W p l e rm_X9_occurrencesIn s m args below meth c H locs 0 0 Q (F0 m 30 ls []) :=
  loop_gen (B := (fun v => b_X9_occurrencesIn_30 letters_ p1_letters_ x2 v.1 v.2)) (Head := fun v : (Nat → Int32) × Int32 => ∀ (H : Heap) (locs : List Loc) (ls : Array Slot), St A D s (RW_X9_occurrencesIn cy o q_p1 d d_p1 v.1) H locs → lv_has ls 4 [(0, .ref o), (1, .ref q_p1), (2, .int x2), (3, .int v.2)] → W p l e rm_X9_occurrencesIn s m args below meth c H locs 0 0 Q (F0 m 30 ls [])) (Exit := fun v : (Nat → Int32) => ∀ (H : Heap) (locs : List Loc) (ls : Array Slot), St A D s (RW_X9_occurrencesIn cy o q_p1 d d_p1 v) H locs → lv_has ls 4 [(0, .ref o), (1, .ref q_p1), (2, .int x2)] → W p l e rm_X9_occurrencesIn s m args below meth c H locs 0 0 Q (F0 m 75 ls [])) (fun v o9 hb1 K1 => wb_X9_occurrencesIn_30 o q_p1 d d_p1 size_ p1_size_ letters_ p1_letters_ x2 v.1 v.2 o9 X hb1 K1) n v x h K
def b_X9_occurrencesIn_17 (size_ : Int32) (p1_size_ : Int32) (letters_ : Nat → Int32) (p1_letters_ : Nat → Int32) (ways_ : Nat → Int32) (x2 : Int32) : Option (((Nat → Int32) × Int32) ⊕ ((Nat → Int32))) :=
  if p1_size_ ≤ x2 then
  (some (.inr ways_))
  else
  ((loopN (fun v => b_X9_occurrencesIn_30 letters_ p1_letters_ x2 v.1 v.2) FU (ways_, size_)).bind (fun u16 =>
  some (.inl (u16, (x2 + (1 : Int32))))))
set_option maxHeartbeats 4000000 in
set_option maxRecDepth 100000 in
theorem wb_X9_occurrencesIn_17 {p : Program} {l : Launch} {e : Env} {s : State} {m : MethodId} {args : Array Value} {below : List Frame} {meth : Method} {c : Code} {A : Nat → Prop} {Q : State → Prop} {D : va_G} {cy : Nat → ClassId} (o : Nat) (q_p1 : Nat) (d : Nat → Nat) (d_p1 : Nat → Nat) (size_ : Int32) (p1_size_ : Int32) (letters_ : Nat → Int32) (p1_letters_ : Nat → Int32)  (ways_ : Nat → Int32) (x2 : Int32) (o1 : ((Nat → Int32) × Int32) ⊕ ((Nat → Int32))) (X : Cx p m c cX9_occurrencesIn 4 s args wsX9_occurrencesIn RX9 A D cy (RO_X9_occurrencesIn cy o q_p1 d d_p1 size_ p1_size_ letters_ p1_letters_)) (h : b_X9_occurrencesIn_17 size_ p1_size_ letters_ p1_letters_ ways_ x2 = some o1) (K : Sum.elim (fun v : (Nat → Int32) × Int32 => ∀ (H : Heap) (locs : List Loc) (ls : Array Slot), St A D s (RW_X9_occurrencesIn cy o q_p1 d d_p1 v.1) H locs → lv_has ls 4 [(0, .ref o), (1, .ref q_p1), (2, .int v.2)] → W p l e rm_X9_occurrencesIn s m args below meth c H locs 0 0 Q (F0 m 17 ls [])) (fun v : (Nat → Int32) => ∀ (H : Heap) (locs : List Loc) (ls : Array Slot), St A D s (RW_X9_occurrencesIn cy o q_p1 d d_p1 v) H locs → lv_has ls 4 [(0, .ref o)] → W p l e rm_X9_occurrencesIn s m args below meth c H locs 0 0 Q (F0 m 81 ls [])) o1) : ∀ (H : Heap) (locs : List Loc) (ls : Array Slot), St A D s (RW_X9_occurrencesIn cy o q_p1 d d_p1 ways_) H locs → lv_has ls 4 [(0, .ref o), (1, .ref q_p1), (2, .int x2)] → W p l e rm_X9_occurrencesIn s m args below meth c H locs 0 0 Q (F0 m 17 ls []) := by
  intro H locs ls Z hl
  have hx := X.1.1
  have hb := X.1.2.1
  unfold b_X9_occurrencesIn_17 at h
  refine lv_iload_n hx hb dX9_occurrencesIn_17 rfl (lv_at hl 2 rfl) ?_
  refine lv_aload_n hx hb dX9_occurrencesIn_18 rfl (lv_at hl 1 rfl) ?_
  refine x_getO X Z 1 1 (v := .int p1_size_) rfl rfl lk_X9_occurrencesIn_X9_size dX9_occurrencesIn_19 ?_
  refine lv_icmp_ge (tgt := 81) hx hb dX9_occurrencesIn_22 (by decide) (fun cnd => ?_) (fun cnd => ?_)
  · replace h := ifp h cnd
    obtain rfl := Option.some.inj h
    exact (sk_r K) H locs ls Z (lv_sub hl [0] rfl)
  · replace h := ifn h cnd
    refine lv_aload_n hx hb dX9_occurrencesIn_25 rfl (lv_at hl 0 rfl) ?_
    refine x_getO X Z 0 1 (v := .int size_) rfl rfl lk_X9_occurrencesIn_X9_size dX9_occurrencesIn_26 ?_
    refine lv_istore_n (lv' := [(3, .int size_), (0, .ref o), (1, .ref q_p1), (2, .int x2)]) hx hb dX9_occurrencesIn_29 rfl hl (by decide) rfl (fun ls hl => ?_)
    obtain ⟨u16, hL17, h⟩ := ob_some h
    refine wl_X9_occurrencesIn_30 o q_p1 d d_p1 size_ p1_size_ letters_ p1_letters_ x2 FU (ways_, size_) u16 X hL17 (fun H locs ls Z hl => ?_) H locs ls Z (lv_sub hl [1, 2, 3, 0] rfl)
    refine lv_iinc (v := (x2 + (1 : Int32))) (lv' := [(2, .int (x2 + (1 : Int32))), (0, .ref o), (1, .ref q_p1)]) hx hb dX9_occurrencesIn_75 hl (k := 2) rfl rfl (by decide) rfl (fun ls hl => ?_)
    refine lv_goto (tgt := 17) hx hb dX9_occurrencesIn_78 (by decide) ?_
    obtain rfl := Option.some.inj h
    exact sk_l K H locs ls Z (lv_sub hl [1, 2, 0] rfl)
set_option maxHeartbeats 4000000 in
set_option maxRecDepth 100000 in
theorem wl_X9_occurrencesIn_17 {p : Program} {l : Launch} {e : Env} {s : State} {m : MethodId} {args : Array Value} {below : List Frame} {meth : Method} {c : Code} {A : Nat → Prop} {Q : State → Prop} {D : va_G} {cy : Nat → ClassId} (o : Nat) (q_p1 : Nat) (d : Nat → Nat) (d_p1 : Nat → Nat) (size_ : Int32) (p1_size_ : Int32) (letters_ : Nat → Int32) (p1_letters_ : Nat → Int32)  (n : Nat) (v : (Nat → Int32) × Int32) (x : (Nat → Int32)) (X : Cx p m c cX9_occurrencesIn 4 s args wsX9_occurrencesIn RX9 A D cy (RO_X9_occurrencesIn cy o q_p1 d d_p1 size_ p1_size_ letters_ p1_letters_)) (h : loopN (fun v => b_X9_occurrencesIn_17 size_ p1_size_ letters_ p1_letters_ v.1 v.2) n v = some x) (K : ∀ (H : Heap) (locs : List Loc) (ls : Array Slot), St A D s (RW_X9_occurrencesIn cy o q_p1 d d_p1 x) H locs → lv_has ls 4 [(0, .ref o)] → W p l e rm_X9_occurrencesIn s m args below meth c H locs 0 0 Q (F0 m 81 ls [])) : ∀ (H : Heap) (locs : List Loc) (ls : Array Slot), St A D s (RW_X9_occurrencesIn cy o q_p1 d d_p1 v.1) H locs → lv_has ls 4 [(0, .ref o), (1, .ref q_p1), (2, .int v.2)] → W p l e rm_X9_occurrencesIn s m args below meth c H locs 0 0 Q (F0 m 17 ls []) :=
  loop_gen (B := (fun v => b_X9_occurrencesIn_17 size_ p1_size_ letters_ p1_letters_ v.1 v.2)) (Head := fun v : (Nat → Int32) × Int32 => ∀ (H : Heap) (locs : List Loc) (ls : Array Slot), St A D s (RW_X9_occurrencesIn cy o q_p1 d d_p1 v.1) H locs → lv_has ls 4 [(0, .ref o), (1, .ref q_p1), (2, .int v.2)] → W p l e rm_X9_occurrencesIn s m args below meth c H locs 0 0 Q (F0 m 17 ls [])) (Exit := fun v : (Nat → Int32) => ∀ (H : Heap) (locs : List Loc) (ls : Array Slot), St A D s (RW_X9_occurrencesIn cy o q_p1 d d_p1 v) H locs → lv_has ls 4 [(0, .ref o)] → W p l e rm_X9_occurrencesIn s m args below meth c H locs 0 0 Q (F0 m 81 ls [])) (fun v o9 hb1 K1 => wb_X9_occurrencesIn_17 o q_p1 d d_p1 size_ p1_size_ letters_ p1_letters_ v.1 v.2 o9 X hb1 K1) n v x h K
def f_X9_occurrencesIn (size_ : Int32) (p1_size_ : Int32) (letters_ : Nat → Int32) (p1_letters_ : Nat → Int32) (ways_ : Nat → Int32) : Option (Int32 × (Nat → Int32)) :=
  (f_J7_fill_53178 (0 : Int32) 13 ways_).bind (fun u18 =>
  stA u18 13 (0 : Int32) (1 : Int32) (fun ways_21 =>
  (loopN (fun v => b_X9_occurrencesIn_17 size_ p1_size_ letters_ p1_letters_ v.1 v.2) FU (ways_21, (0 : Int32))).bind (fun u23 =>
  ldA u23 13 size_ (fun v26 =>
  some (v26, u23)))))
set_option maxHeartbeats 4000000 in
set_option maxRecDepth 100000 in
theorem wt_X9_occurrencesIn {p : Program} {l : Launch} {e : Env} {s : State} {m : MethodId} {args : Array Value} {below : List Frame} {meth : Method} {c : Code} {A : Nat → Prop} {Q : State → Prop} {D : va_G} {cy : Nat → ClassId} (o : Nat) (q_p1 : Nat) (d : Nat → Nat) (d_p1 : Nat → Nat) (size_ : Int32) (p1_size_ : Int32) (letters_ : Nat → Int32) (p1_letters_ : Nat → Int32) (ways_ : Nat → Int32) (out : Int32 × (Nat → Int32)) (X : Cx p m c cX9_occurrencesIn 4 s args wsX9_occurrencesIn RX9 A D cy (RO_X9_occurrencesIn cy o q_p1 d d_p1 size_ p1_size_ letters_ p1_letters_)) (h : f_X9_occurrencesIn size_ p1_size_ letters_ p1_letters_ ways_ = some out) (K : ∀ (H : Heap) (locs : List Loc) (ls : Array Slot) (pc : Nat), decode cX9_occurrencesIn pc = .ok (.ireturn, 1) → St A D s (RW_X9_occurrencesIn cy o q_p1 d d_p1 out.2) H locs → W p l e rm_X9_occurrencesIn s m args below meth c H locs 0 0 Q (F0 m pc ls [.int out.1])) : ∀ (H : Heap) (locs : List Loc) (ls : Array Slot), St A D s (RW_X9_occurrencesIn cy o q_p1 d d_p1 ways_) H locs → lv_has ls 4 [(0, .ref o), (1, .ref q_p1)] → W p l e rm_X9_occurrencesIn s m args below meth c H locs 0 0 Q (F0 m 0 ls []) := by
  intro H locs ls Z hl
  have hx := X.1.1
  have hb := X.1.2.1
  unfold f_X9_occurrencesIn at h
  refine lv_aload_n hx hb dX9_occurrencesIn_0 rfl (lv_at hl 0 rfl) ?_
  refine x_getO X Z 0 2 (v := .ref (d 2)) rfl rfl lk_X9_occurrencesIn_X9_ways dX9_occurrencesIn_1 ?_
  refine lv_iconst (v := (0 : Int32)) hx hb dX9_occurrencesIn_4 (by decide) ?_
  obtain ⟨u18, hc19, h⟩ := ob_some h
  refine x_runSv (RW' := (RW_X9_occurrencesIn cy o q_p1 d d_p1 u18)) (wr := []) (isC := [0]) (isR := []) (isF := [0]) (rest := []) (As := [.ref (d 2), .int (0 : Int32)]) (n := 2) X Z (c_J7_fill_53178 l D cy (d 2) 13 ways_ (0 : Int32) u18 hc19) gX9_occurrencesIn_J7_fill_53178 rfl (by decide +kernel) ⟨Nat.le_of_ble_eq_true rfl, Nat.le_of_ble_eq_true rfl⟩ ⟨rfl, rfl⟩ ⟨Nat.le_of_ble_eq_true rfl, Nat.le_of_ble_eq_true rfl⟩ ⟨rfl, rfl, roN, rfl, rfl, by decide⟩ ⟨rfl, rfl⟩ rfl hl.1 rfl (Nat.le_of_ble_eq_true rfl) dX9_occurrencesIn_5 (fun H locs Z => ?_)
  refine lv_aload_n hx hb dX9_occurrencesIn_8 rfl (lv_at hl 0 rfl) ?_
  refine x_getO X Z 0 2 (v := .ref (d 2)) rfl rfl lk_X9_occurrencesIn_X9_ways dX9_occurrencesIn_9 ?_
  refine lv_iconst (v := (0 : Int32)) hx hb dX9_occurrencesIn_12 (by decide) ?_
  refine lv_iconst (v := (1 : Int32)) hx hb dX9_occurrencesIn_13 (by decide) ?_
  obtain ⟨hin20, ways_21, hv22, h⟩ := st_b h
  refine x_iast X Z 0 (RW_X9_occurrencesIn cy o q_p1 d d_p1 ways_21) rfl hin20 hv22 rfl dX9_occurrencesIn_14 (fun H locs Z => ?_)
  refine lv_iconst (v := (0 : Int32)) hx hb dX9_occurrencesIn_15 (by decide) ?_
  refine lv_istore_n (lv' := [(2, .int (0 : Int32)), (0, .ref o), (1, .ref q_p1)]) hx hb dX9_occurrencesIn_16 rfl hl (by decide) rfl (fun ls hl => ?_)
  obtain ⟨u23, hL24, h⟩ := ob_some h
  refine wl_X9_occurrencesIn_17 o q_p1 d d_p1 size_ p1_size_ letters_ p1_letters_ FU (ways_21, (0 : Int32)) u23 X hL24 (fun H locs ls Z hl => ?_) H locs ls Z (lv_sub hl [1, 2, 0] rfl)
  refine lv_aload_n hx hb dX9_occurrencesIn_81 rfl (lv_at hl 0 rfl) ?_
  refine x_getO X Z 0 2 (v := .ref (d 2)) rfl rfl lk_X9_occurrencesIn_X9_ways dX9_occurrencesIn_82 ?_
  refine lv_aload_n hx hb dX9_occurrencesIn_85 rfl (lv_at hl 0 rfl) ?_
  refine x_getO X Z 0 1 (v := .int size_) rfl rfl lk_X9_occurrencesIn_X9_size dX9_occurrencesIn_86 ?_
  obtain ⟨hin25, v26, hv27, h⟩ := ld_b h
  refine x_iald X Z 0 rfl hin25 hv27 dX9_occurrencesIn_89 ?_
  obtain rfl := Option.some.inj h
  exact K H locs ls _ dX9_occurrencesIn_90 Z
theorem c_X9_occurrencesIn (l : Launch) (D : va_G) (cy : Nat → ClassId) (o : Nat) (q_p1 : Nat) (d : Nat → Nat) (d_p1 : Nat → Nat) (size_ : Int32) (p1_size_ : Int32) (letters_ : Nat → Int32) (p1_letters_ : Nat → Int32) (ways_ : Nat → Int32) (out : Int32 × (Nat → Int32)) (h : f_X9_occurrencesIn size_ p1_size_ letters_ p1_letters_ ways_ = some out) : CtI l yX9_occurrencesIn wsX9_occurrencesIn rm_X9_occurrencesIn D cy [.ref o, .ref q_p1] (RW_X9_occurrencesIn cy o q_p1 d d_p1 ways_) (RO_X9_occurrencesIn cy o q_p1 d d_p1 size_ p1_size_ letters_ p1_letters_) (RW_X9_occurrencesIn cy o q_p1 d d_p1 out.2) out.1 :=
  mk_i (ty := .int) (by decide) rfl rfl (Nat.le_of_ble_eq_true rfl) (fun p e s m args below meth c A Q X K H locs ls Z hl => wt_X9_occurrencesIn o q_p1 d d_p1 size_ p1_size_ letters_ p1_letters_ ways_ out X h K H locs ls Z hl)
/-! SubwordCounter occurrences (II)I -/
abbrev rm_X11_occurrences : Room := { frames := 2, cells := 0, slots := 0, locals := 46 }
def RW_X11_occurrences (cy : Nat → ClassId) (o : Nat) (q_now_words_L1 : Nat) (q_now_words_L2 : Nat) (d : Nat → Nat) (d_now_words_L1 : Nat → Nat) (d_now_words_L2 : Nat → Nat) (d_now : Nat → Nat) (mono : Value) (now_words_L1_ways_ : Nat → Int32) : va_W := [((d_now_words_L1 2), aI cy 13 now_words_L1_ways_)]
def RO_X11_occurrences (cy : Nat → ClassId) (o : Nat) (q_now_words_L1 : Nat) (q_now_words_L2 : Nat) (d : Nat → Nat) (d_now_words_L1 : Nat → Nat) (d_now_words_L2 : Nat → Nat) (d_now : Nat → Nat) (mono : Value) (snapshotTaken_ : Int32) (inputLength_ : Int32) (now_words_L1_size_ : Int32) (now_words_L2_size_ : Int32) (now_letters_ : Int32) (now_words_L1_letters_ : Nat → Int32) (now_words_L2_letters_ : Nat → Int32) (now_words_ : Nat → Option Nat) : va_W := [(o, ob 10 (oX11 d mono snapshotTaken_ inputLength_)), (q_now_words_L1, ob 8 (oX9 d_now_words_L1 now_words_L1_size_)), (q_now_words_L2, ob 8 (oX9 d_now_words_L2 now_words_L2_size_)), ((d 0), ob 5 (oX5 d_now now_letters_)), ((d_now_words_L1 0), aI cy 12 now_words_L1_letters_), ((d_now_words_L2 0), aI cy 12 now_words_L2_letters_), ((d_now 1), aR cy 5 3 now_words_)]
theorem in_X11_occurrences_X11 : ∀ w ∈ u_ws RX11 TX11 12, w ∈ wsX11_occurrences := fun w h => (List.mem_cons_of_mem _ (List.mem_append_left _ (List.mem_append_left _ (List.mem_append_right _ h))))
theorem lk_X11_occurrences_X11_now : Lk wsX11_occurrences RX11 10 10 0 := ⟨RX11, TX11, 12, rfl, by decide, in_X11_occurrences_X11, mem_at 1 rfl⟩
theorem in_X11_occurrences_X5 : ∀ w ∈ u_ws RX5 TX5 4, w ∈ wsX11_occurrences := fun w h => (List.mem_cons_of_mem _ (List.mem_append_left _ (List.mem_append_right _ h)))
theorem lk_X11_occurrences_X5_words : Lk wsX11_occurrences RX11 85 5 1 := ⟨RX5, TX5, 4, rfl, by decide, in_X11_occurrences_X5, mem_at 2 rfl⟩
def f_X11_occurrences (x1 : Int32) (x2 : Int32) (q_now_words_L1 : Nat) (q_now_words_L2 : Nat) (now_words_L1_size_ : Int32) (now_words_L2_size_ : Int32) (now_words_L1_letters_ : Nat → Int32) (now_words_L2_letters_ : Nat → Int32) (now_words_ : Nat → Option Nat) (now_words_L1_ways_ : Nat → Int32) : Option (Int32 × (Nat → Int32)) :=
  (f_X11_isWord x1).bind (fun u1 =>
  if u1 = 0 then
  (some ((-1 : Int32), now_words_L1_ways_))
  else
  ((f_X11_isWord x2).bind (fun u3 =>
  if u3 = 0 then
  (some ((-1 : Int32), now_words_L1_ways_))
  else
  (ldA now_words_ 3 x1 (fun r6 =>
  asR r6 q_now_words_L1 (
  ldA now_words_ 3 x2 (fun r10 =>
  asR r10 q_now_words_L2 (
  (f_X9_occurrencesIn now_words_L1_size_ now_words_L2_size_ now_words_L1_letters_ now_words_L2_letters_ now_words_L1_ways_).bind (fun u13 =>
  some (u13.1, u13.2))))))))))
set_option maxHeartbeats 4000000 in
set_option maxRecDepth 100000 in
theorem wt_X11_occurrences {p : Program} {l : Launch} {e : Env} {s : State} {m : MethodId} {args : Array Value} {below : List Frame} {meth : Method} {c : Code} {A : Nat → Prop} {Q : State → Prop} {D : va_G} {cy : Nat → ClassId} (o : Nat) (q_now_words_L1 : Nat) (q_now_words_L2 : Nat) (d : Nat → Nat) (d_now_words_L1 : Nat → Nat) (d_now_words_L2 : Nat → Nat) (d_now : Nat → Nat) (mono : Value) (snapshotTaken_ : Int32) (inputLength_ : Int32) (now_words_L1_size_ : Int32) (now_words_L2_size_ : Int32) (now_letters_ : Int32) (now_words_L1_letters_ : Nat → Int32) (now_words_L2_letters_ : Nat → Int32) (now_words_ : Nat → Option Nat) (now_words_L1_ways_ : Nat → Int32) (x1 : Int32) (x2 : Int32) (out : Int32 × (Nat → Int32)) (X : Cx p m c cX11_occurrences 3 s args wsX11_occurrences RX11 A D cy (RO_X11_occurrences cy o q_now_words_L1 q_now_words_L2 d d_now_words_L1 d_now_words_L2 d_now mono snapshotTaken_ inputLength_ now_words_L1_size_ now_words_L2_size_ now_letters_ now_words_L1_letters_ now_words_L2_letters_ now_words_)) (h : f_X11_occurrences x1 x2 q_now_words_L1 q_now_words_L2 now_words_L1_size_ now_words_L2_size_ now_words_L1_letters_ now_words_L2_letters_ now_words_ now_words_L1_ways_ = some out) (K : ∀ (H : Heap) (locs : List Loc) (ls : Array Slot) (pc : Nat), decode cX11_occurrences pc = .ok (.ireturn, 1) → St A D s (RW_X11_occurrences cy o q_now_words_L1 q_now_words_L2 d d_now_words_L1 d_now_words_L2 d_now mono out.2) H locs → W p l e rm_X11_occurrences s m args below meth c H locs 0 0 Q (F0 m pc ls [.int out.1])) : ∀ (H : Heap) (locs : List Loc) (ls : Array Slot), St A D s (RW_X11_occurrences cy o q_now_words_L1 q_now_words_L2 d d_now_words_L1 d_now_words_L2 d_now mono now_words_L1_ways_) H locs → lv_has ls 3 [(0, .ref o), (1, .int x1), (2, .int x2)] → W p l e rm_X11_occurrences s m args below meth c H locs 0 0 Q (F0 m 0 ls []) := by
  intro H locs ls Z hl
  have hx := X.1.1
  have hb := X.1.2.1
  unfold f_X11_occurrences at h
  refine lv_iload_n hx hb dX11_occurrences_0 rfl (lv_at hl 1 rfl) ?_
  obtain ⟨u1, hc2, h⟩ := ob_some h
  refine x_runSi (RW' := (RW_X11_occurrences cy o q_now_words_L1 q_now_words_L2 d d_now_words_L1 d_now_words_L2 d_now mono now_words_L1_ways_)) (wr := [((d_now_words_L1 2), aI cy 13 now_words_L1_ways_)]) (isC := []) (isR := [0]) (isF := [0]) (rest := []) (As := [.int x1]) (n := 1) X Z (c_X11_isWord l D cy x1 u1 hc2) gX11_occurrences_X11_isWord rfl (by decide +kernel) ⟨Nat.le_of_ble_eq_true rfl, Nat.le_of_ble_eq_true rfl⟩ ⟨rfl, rfl⟩ ⟨Nat.le_of_ble_eq_true rfl, Nat.le_of_ble_eq_true rfl⟩ ⟨rfl, rfl, roN, rfl, rfl, by decide⟩ ⟨rfl, rfl⟩ rfl hl.1 rfl (Nat.le_of_ble_eq_true rfl) dX11_occurrences_1 (fun H locs Z => ?_)
  refine lv_if_eq (tgt := 14) hx hb dX11_occurrences_4 (by decide) (fun cnd => ?_) (fun cnd => ?_)
  · replace h := ifp h cnd
    refine lv_iconst (v := (-1 : Int32)) hx hb dX11_occurrences_14 (by decide) ?_
    obtain rfl := Option.some.inj h
    exact K H locs ls _ dX11_occurrences_15 Z
  · replace h := ifn h cnd
    refine lv_iload_n hx hb dX11_occurrences_7 rfl (lv_at hl 2 rfl) ?_
    obtain ⟨u3, hc4, h⟩ := ob_some h
    refine x_runSi (RW' := (RW_X11_occurrences cy o q_now_words_L1 q_now_words_L2 d d_now_words_L1 d_now_words_L2 d_now mono now_words_L1_ways_)) (wr := [((d_now_words_L1 2), aI cy 13 now_words_L1_ways_)]) (isC := []) (isR := [0]) (isF := [0]) (rest := []) (As := [.int x2]) (n := 1) X Z (c_X11_isWord l D cy x2 u3 hc4) gX11_occurrences_X11_isWord rfl (by decide +kernel) ⟨Nat.le_of_ble_eq_true rfl, Nat.le_of_ble_eq_true rfl⟩ ⟨rfl, rfl⟩ ⟨Nat.le_of_ble_eq_true rfl, Nat.le_of_ble_eq_true rfl⟩ ⟨rfl, rfl, roN, rfl, rfl, by decide⟩ ⟨rfl, rfl⟩ rfl hl.1 rfl (Nat.le_of_ble_eq_true rfl) dX11_occurrences_8 (fun H locs Z => ?_)
    refine lv_if_ne (tgt := 16) hx hb dX11_occurrences_11 (by decide) (fun cnd => ?_) (fun cnd => ?_)
    · replace h := ifn h cnd
      refine lv_aload_n hx hb dX11_occurrences_16 rfl (lv_at hl 0 rfl) ?_
      refine x_getO X Z 0 0 (v := .ref (d 0)) rfl rfl lk_X11_occurrences_X11_now dX11_occurrences_17 ?_
      refine x_getO X Z 3 1 (v := .ref (d_now 1)) rfl rfl lk_X11_occurrences_X5_words dX11_occurrences_20 ?_
      refine lv_iload_n hx hb dX11_occurrences_23 rfl (lv_at hl 1 rfl) ?_
      obtain ⟨hin5, r6, hv7, h⟩ := ld_b h
      obtain ⟨ha8, h⟩ := as_b h
      refine x_raldO X Z 6 5 rfl rfl hin5 hv7 ha8 dX11_occurrences_24 ?_
      refine lv_aload_n hx hb dX11_occurrences_25 rfl (lv_at hl 0 rfl) ?_
      refine x_getO X Z 0 0 (v := .ref (d 0)) rfl rfl lk_X11_occurrences_X11_now dX11_occurrences_26 ?_
      refine x_getO X Z 3 1 (v := .ref (d_now 1)) rfl rfl lk_X11_occurrences_X5_words dX11_occurrences_29 ?_
      refine lv_iload_n hx hb dX11_occurrences_32 rfl (lv_at hl 2 rfl) ?_
      obtain ⟨hin9, r10, hv11, h⟩ := ld_b h
      obtain ⟨ha12, h⟩ := as_b h
      refine x_raldO X Z 6 5 rfl rfl hin9 hv11 ha12 dX11_occurrences_33 ?_
      obtain ⟨u13, hc14, h⟩ := ob_some h
      refine x_runVi (RW' := (RW_X11_occurrences cy o q_now_words_L1 q_now_words_L2 d d_now_words_L1 d_now_words_L2 d_now mono u13.2)) (wr := []) (isC := [0]) (isR := []) (isF := [0]) (rest := []) (As := [.ref q_now_words_L2]) (n := 1) X Z (c_X9_occurrencesIn l D cy q_now_words_L1 q_now_words_L2 d_now_words_L1 d_now_words_L2 now_words_L1_size_ now_words_L2_size_ now_words_L1_letters_ now_words_L2_letters_ now_words_L1_ways_ u13 hc14) gX11_occurrences_X9_occurrencesIn rfl (by decide +kernel) ⟨Nat.le_of_ble_eq_true rfl, Nat.le_of_ble_eq_true rfl⟩ ⟨rfl, rfl⟩ ⟨Nat.le_of_ble_eq_true rfl, Nat.le_of_ble_eq_true rfl⟩ (x_rvO X Z 1 rfl rfl) ⟨rfl, rfl, (roC (Or.inr (mem_at 1 rfl)) (roC (Or.inr (mem_at 2 rfl)) (roC (Or.inr (mem_at 4 rfl)) (roC (Or.inr (mem_at 5 rfl)) roN)))), rfl, rfl, by decide⟩ ⟨rfl, rfl⟩ rfl hl.1 rfl (Nat.le_of_ble_eq_true rfl) dX11_occurrences_34 (fun H locs Z => ?_)
      obtain rfl := Option.some.inj h
      exact K H locs ls _ dX11_occurrences_37 Z
    · replace h := ifp h cnd
      refine lv_iconst (v := (-1 : Int32)) hx hb dX11_occurrences_14 (by decide) ?_
      obtain rfl := Option.some.inj h
      exact K H locs ls _ dX11_occurrences_15 Z
theorem c_X11_occurrences (l : Launch) (D : va_G) (cy : Nat → ClassId) (o : Nat) (q_now_words_L1 : Nat) (q_now_words_L2 : Nat) (d : Nat → Nat) (d_now_words_L1 : Nat → Nat) (d_now_words_L2 : Nat → Nat) (d_now : Nat → Nat) (mono : Value) (snapshotTaken_ : Int32) (inputLength_ : Int32) (now_words_L1_size_ : Int32) (now_words_L2_size_ : Int32) (now_letters_ : Int32) (now_words_L1_letters_ : Nat → Int32) (now_words_L2_letters_ : Nat → Int32) (now_words_ : Nat → Option Nat) (now_words_L1_ways_ : Nat → Int32) (x1 : Int32) (x2 : Int32) (out : Int32 × (Nat → Int32)) (h : f_X11_occurrences x1 x2 q_now_words_L1 q_now_words_L2 now_words_L1_size_ now_words_L2_size_ now_words_L1_letters_ now_words_L2_letters_ now_words_ now_words_L1_ways_ = some out) : CtI l yX11_occurrences wsX11_occurrences rm_X11_occurrences D cy [.ref o, .int x1, .int x2] (RW_X11_occurrences cy o q_now_words_L1 q_now_words_L2 d d_now_words_L1 d_now_words_L2 d_now mono now_words_L1_ways_) (RO_X11_occurrences cy o q_now_words_L1 q_now_words_L2 d d_now_words_L1 d_now_words_L2 d_now mono snapshotTaken_ inputLength_ now_words_L1_size_ now_words_L2_size_ now_letters_ now_words_L1_letters_ now_words_L2_letters_ now_words_) (RW_X11_occurrences cy o q_now_words_L1 q_now_words_L2 d d_now_words_L1 d_now_words_L2 d_now mono out.2) out.1 :=
  mk_i (ty := .int) (by decide) rfl rfl (Nat.le_of_ble_eq_true rfl) (fun p e s m args below meth c A Q X K H locs ls Z hl => wt_X11_occurrences o q_now_words_L1 q_now_words_L2 d d_now_words_L1 d_now_words_L2 d_now mono snapshotTaken_ inputLength_ now_words_L1_size_ now_words_L2_size_ now_letters_ now_words_L1_letters_ now_words_L2_letters_ now_words_ now_words_L1_ways_ x1 x2 out X h K H locs ls Z hl)
/-! SubwordCounter separatingModulus (LSubwordCounter$Word;LSubwordCounter$Word;LSubwordCounter$Word;)I -/
abbrev rm_X11_separatingModulus : Room := { frames := 2, cells := 0, slots := 0, locals := 46 }
def RW_X11_separatingModulus (cy : Nat → ClassId) (q_p0 : Nat) (q_p1 : Nat) (q_p2 : Nat) (d_p0 : Nat → Nat) (d_p1 : Nat → Nat) (d_p2 : Nat → Nat) (p0_ways_ : Nat → Int32) : va_W := [((d_p0 2), aI cy 13 p0_ways_)]
def RO_X11_separatingModulus (cy : Nat → ClassId) (q_p0 : Nat) (q_p1 : Nat) (q_p2 : Nat) (d_p0 : Nat → Nat) (d_p1 : Nat → Nat) (d_p2 : Nat → Nat) (p0_size_ : Int32) (p1_size_ : Int32) (p2_size_ : Int32) (p0_letters_ : Nat → Int32) (p1_letters_ : Nat → Int32) (p2_letters_ : Nat → Int32) : va_W := [(q_p0, ob 8 (oX9 d_p0 p0_size_)), (q_p1, ob 8 (oX9 d_p1 p1_size_)), (q_p2, ob 8 (oX9 d_p2 p2_size_)), ((d_p0 0), aI cy 12 p0_letters_), ((d_p1 0), aI cy 12 p1_letters_), ((d_p2 0), aI cy 12 p2_letters_)]
def b_X11_separatingModulus_25  (x3 : Int32) (x4 : Int32)  (x5 : Int32) : Option ((Int32) ⊕ ((Int32) ⊕ (Unit))) :=
  if (99 : Int32) < x5 then
  (some (.inr (.inr ())))
  else
  (rmI x3 x5 (fun v2 =>
  rmI x4 x5 (fun v5 =>
  if v2 = v5 then
  (some (.inl (x5 + (1 : Int32))))
  else
  (some (.inr (.inl x5))))))
set_option maxHeartbeats 4000000 in
set_option maxRecDepth 100000 in
theorem wb_X11_separatingModulus_25 {p : Program} {l : Launch} {e : Env} {s : State} {m : MethodId} {args : Array Value} {below : List Frame} {meth : Method} {c : Code} {A : Nat → Prop} {Q : State → Prop} {D : va_G} {cy : Nat → ClassId} (q_p0 : Nat) (q_p1 : Nat) (q_p2 : Nat) (d_p0 : Nat → Nat) (d_p1 : Nat → Nat) (d_p2 : Nat → Nat) (p0_size_ : Int32) (p1_size_ : Int32) (p2_size_ : Int32) (p0_letters_ : Nat → Int32) (p1_letters_ : Nat → Int32) (p2_letters_ : Nat → Int32) (p0_ways_ : Nat → Int32) (x3 : Int32) (x4 : Int32)  (x5 : Int32) (o1 : (Int32) ⊕ ((Int32) ⊕ (Unit))) (X : Cx p m c cX11_separatingModulus 6 s args wsX11_separatingModulus RX11 A D cy (RO_X11_separatingModulus cy q_p0 q_p1 q_p2 d_p0 d_p1 d_p2 p0_size_ p1_size_ p2_size_ p0_letters_ p1_letters_ p2_letters_)) (h : b_X11_separatingModulus_25 x3 x4 x5 = some o1) (K : Sum.elim (fun v : Int32 => ∀ (H : Heap) (locs : List Loc) (ls : Array Slot), St A D s (RW_X11_separatingModulus cy q_p0 q_p1 q_p2 d_p0 d_p1 d_p2 p0_ways_) H locs → lv_has ls 6 [(3, .int x3), (4, .int x4), (5, .int v)] → W p l e rm_X11_separatingModulus s m args below meth c H locs 0 0 Q (F0 m 25 ls [])) (fun v : (Int32) ⊕ (Unit) => Sum.elim (fun w : Int32 => ∀ (H : Heap) (locs : List Loc) (ls : Array Slot), St A D s (RW_X11_separatingModulus cy q_p0 q_p1 q_p2 d_p0 d_p1 d_p2 p0_ways_) H locs → lv_has ls 6 [(5, .int w)] → W p l e rm_X11_separatingModulus s m args below meth c H locs 0 0 Q (F0 m 44 ls [])) (fun w => ∀ (H : Heap) (locs : List Loc) (ls : Array Slot), St A D s (RW_X11_separatingModulus cy q_p0 q_p1 q_p2 d_p0 d_p1 d_p2 p0_ways_) H locs → lv_has ls 6 [] → W p l e rm_X11_separatingModulus s m args below meth c H locs 0 0 Q (F0 m 53 ls [])) v) o1) : ∀ (H : Heap) (locs : List Loc) (ls : Array Slot), St A D s (RW_X11_separatingModulus cy q_p0 q_p1 q_p2 d_p0 d_p1 d_p2 p0_ways_) H locs → lv_has ls 6 [(3, .int x3), (4, .int x4), (5, .int x5)] → W p l e rm_X11_separatingModulus s m args below meth c H locs 0 0 Q (F0 m 25 ls []) := by
  intro H locs ls Z hl
  have hx := X.1.1
  have hb := X.1.2.1
  unfold b_X11_separatingModulus_25 at h
  refine lv_iload hx hb dX11_separatingModulus_25 (lv_at hl 2 rfl) ?_
  refine lv_bipush (v := (99 : Int32)) hx hb dX11_separatingModulus_27 (by decide) ?_
  refine lv_icmp_gt (tgt := 53) hx hb dX11_separatingModulus_29 (by decide) (fun cnd => ?_) (fun cnd => ?_)
  · replace h := ifp h cnd
    obtain rfl := Option.some.inj h
    exact (sk_r (sk_r K)) H locs ls Z (lv_sub hl [] rfl)
  · replace h := ifn h cnd
    refine lv_iload_n hx hb dX11_separatingModulus_32 rfl (lv_at hl 0 rfl) ?_
    refine lv_iload hx hb dX11_separatingModulus_33 (lv_at hl 2 rfl) ?_
    obtain ⟨hz1, v2, hv3, h⟩ := rm_b h
    refine lv_irem hx hb dX11_separatingModulus_35 hz1 ?_
    rw [hv3]
    refine lv_iload hx hb dX11_separatingModulus_36 (lv_at hl 1 rfl) ?_
    refine lv_iload hx hb dX11_separatingModulus_38 (lv_at hl 2 rfl) ?_
    obtain ⟨hz4, v5, hv6, h⟩ := rm_b h
    refine lv_irem hx hb dX11_separatingModulus_40 hz4 ?_
    rw [hv6]
    refine lv_icmp_eq (tgt := 47) hx hb dX11_separatingModulus_41 (by decide) (fun cnd => ?_) (fun cnd => ?_)
    · replace h := ifp h cnd
      refine lv_iinc (v := (x5 + (1 : Int32))) (lv' := [(5, .int (x5 + (1 : Int32))), (3, .int x3), (4, .int x4)]) hx hb dX11_separatingModulus_47 hl (k := 2) rfl rfl (by decide) rfl (fun ls hl => ?_)
      refine lv_goto (tgt := 25) hx hb dX11_separatingModulus_50 (by decide) ?_
      obtain rfl := Option.some.inj h
      exact sk_l K H locs ls Z (lv_sub hl [1, 2, 0] rfl)
    · replace h := ifn h cnd
      obtain rfl := Option.some.inj h
      exact (sk_l (sk_r K)) H locs ls Z (lv_sub hl [2] rfl)
set_option maxHeartbeats 4000000 in
set_option maxRecDepth 100000 in
theorem wl_X11_separatingModulus_25 {p : Program} {l : Launch} {e : Env} {s : State} {m : MethodId} {args : Array Value} {below : List Frame} {meth : Method} {c : Code} {A : Nat → Prop} {Q : State → Prop} {D : va_G} {cy : Nat → ClassId} (q_p0 : Nat) (q_p1 : Nat) (q_p2 : Nat) (d_p0 : Nat → Nat) (d_p1 : Nat → Nat) (d_p2 : Nat → Nat) (p0_size_ : Int32) (p1_size_ : Int32) (p2_size_ : Int32) (p0_letters_ : Nat → Int32) (p1_letters_ : Nat → Int32) (p2_letters_ : Nat → Int32) (p0_ways_ : Nat → Int32) (x3 : Int32) (x4 : Int32) (n : Nat) (v : Int32) (x : (Int32) ⊕ (Unit)) (X : Cx p m c cX11_separatingModulus 6 s args wsX11_separatingModulus RX11 A D cy (RO_X11_separatingModulus cy q_p0 q_p1 q_p2 d_p0 d_p1 d_p2 p0_size_ p1_size_ p2_size_ p0_letters_ p1_letters_ p2_letters_)) (h : loopN (fun v => b_X11_separatingModulus_25 x3 x4 v) n v = some x) (K : Sum.elim (fun w : Int32 => ∀ (H : Heap) (locs : List Loc) (ls : Array Slot), St A D s (RW_X11_separatingModulus cy q_p0 q_p1 q_p2 d_p0 d_p1 d_p2 p0_ways_) H locs → lv_has ls 6 [(5, .int w)] → W p l e rm_X11_separatingModulus s m args below meth c H locs 0 0 Q (F0 m 44 ls [])) (fun w => ∀ (H : Heap) (locs : List Loc) (ls : Array Slot), St A D s (RW_X11_separatingModulus cy q_p0 q_p1 q_p2 d_p0 d_p1 d_p2 p0_ways_) H locs → lv_has ls 6 [] → W p l e rm_X11_separatingModulus s m args below meth c H locs 0 0 Q (F0 m 53 ls [])) x) : ∀ (H : Heap) (locs : List Loc) (ls : Array Slot), St A D s (RW_X11_separatingModulus cy q_p0 q_p1 q_p2 d_p0 d_p1 d_p2 p0_ways_) H locs → lv_has ls 6 [(3, .int x3), (4, .int x4), (5, .int v)] → W p l e rm_X11_separatingModulus s m args below meth c H locs 0 0 Q (F0 m 25 ls []) :=
  loop_gen (B := (fun v => b_X11_separatingModulus_25 x3 x4 v)) (Head := fun v : Int32 => ∀ (H : Heap) (locs : List Loc) (ls : Array Slot), St A D s (RW_X11_separatingModulus cy q_p0 q_p1 q_p2 d_p0 d_p1 d_p2 p0_ways_) H locs → lv_has ls 6 [(3, .int x3), (4, .int x4), (5, .int v)] → W p l e rm_X11_separatingModulus s m args below meth c H locs 0 0 Q (F0 m 25 ls [])) (Exit := fun v : (Int32) ⊕ (Unit) => Sum.elim (fun w : Int32 => ∀ (H : Heap) (locs : List Loc) (ls : Array Slot), St A D s (RW_X11_separatingModulus cy q_p0 q_p1 q_p2 d_p0 d_p1 d_p2 p0_ways_) H locs → lv_has ls 6 [(5, .int w)] → W p l e rm_X11_separatingModulus s m args below meth c H locs 0 0 Q (F0 m 44 ls [])) (fun w => ∀ (H : Heap) (locs : List Loc) (ls : Array Slot), St A D s (RW_X11_separatingModulus cy q_p0 q_p1 q_p2 d_p0 d_p1 d_p2 p0_ways_) H locs → lv_has ls 6 [] → W p l e rm_X11_separatingModulus s m args below meth c H locs 0 0 Q (F0 m 53 ls [])) v) (fun v o9 hb1 K1 => wb_X11_separatingModulus_25 q_p0 q_p1 q_p2 d_p0 d_p1 d_p2 p0_size_ p1_size_ p2_size_ p0_letters_ p1_letters_ p2_letters_ p0_ways_ x3 x4 v o9 X hb1 K1) n v x h K
def f_X11_separatingModulus (p0_size_ : Int32) (p1_size_ : Int32) (p2_size_ : Int32) (p0_letters_ : Nat → Int32) (p1_letters_ : Nat → Int32) (p2_letters_ : Nat → Int32) (p0_ways_ : Nat → Int32) : Option (Int32 × (Nat → Int32)) :=
  (f_X9_occurrencesIn p0_size_ p1_size_ p0_letters_ p1_letters_ p0_ways_).bind (fun u7 =>
  (f_X9_occurrencesIn p0_size_ p2_size_ p0_letters_ p2_letters_ u7.2).bind (fun u9 =>
  if u7.1 = u9.1 then
  (some ((-2 : Int32), u9.2))
  else
  ((loopN (fun v => b_X11_separatingModulus_25 u7.1 u9.1 v) FU (2 : Int32)).bind (fun u11 =>
  Sum.elim (fun u11 =>
  some (u11, u9.2)) (fun u11 =>
  some ((-2 : Int32), u9.2)) u11))))
set_option maxHeartbeats 4000000 in
set_option maxRecDepth 100000 in
theorem wt_X11_separatingModulus {p : Program} {l : Launch} {e : Env} {s : State} {m : MethodId} {args : Array Value} {below : List Frame} {meth : Method} {c : Code} {A : Nat → Prop} {Q : State → Prop} {D : va_G} {cy : Nat → ClassId} (q_p0 : Nat) (q_p1 : Nat) (q_p2 : Nat) (d_p0 : Nat → Nat) (d_p1 : Nat → Nat) (d_p2 : Nat → Nat) (p0_size_ : Int32) (p1_size_ : Int32) (p2_size_ : Int32) (p0_letters_ : Nat → Int32) (p1_letters_ : Nat → Int32) (p2_letters_ : Nat → Int32) (p0_ways_ : Nat → Int32) (out : Int32 × (Nat → Int32)) (X : Cx p m c cX11_separatingModulus 6 s args wsX11_separatingModulus RX11 A D cy (RO_X11_separatingModulus cy q_p0 q_p1 q_p2 d_p0 d_p1 d_p2 p0_size_ p1_size_ p2_size_ p0_letters_ p1_letters_ p2_letters_)) (h : f_X11_separatingModulus p0_size_ p1_size_ p2_size_ p0_letters_ p1_letters_ p2_letters_ p0_ways_ = some out) (K : ∀ (H : Heap) (locs : List Loc) (ls : Array Slot) (pc : Nat), decode cX11_separatingModulus pc = .ok (.ireturn, 1) → St A D s (RW_X11_separatingModulus cy q_p0 q_p1 q_p2 d_p0 d_p1 d_p2 out.2) H locs → W p l e rm_X11_separatingModulus s m args below meth c H locs 0 0 Q (F0 m pc ls [.int out.1])) : ∀ (H : Heap) (locs : List Loc) (ls : Array Slot), St A D s (RW_X11_separatingModulus cy q_p0 q_p1 q_p2 d_p0 d_p1 d_p2 p0_ways_) H locs → lv_has ls 6 [(0, .ref q_p0), (1, .ref q_p1), (2, .ref q_p2)] → W p l e rm_X11_separatingModulus s m args below meth c H locs 0 0 Q (F0 m 0 ls []) := by
  intro H locs ls Z hl
  have hx := X.1.1
  have hb := X.1.2.1
  unfold f_X11_separatingModulus at h
  refine lv_aload_n hx hb dX11_separatingModulus_0 rfl (lv_at hl 0 rfl) ?_
  refine lv_aload_n hx hb dX11_separatingModulus_1 rfl (lv_at hl 1 rfl) ?_
  obtain ⟨u7, hc8, h⟩ := ob_some h
  refine x_runVi (RW' := (RW_X11_separatingModulus cy q_p0 q_p1 q_p2 d_p0 d_p1 d_p2 u7.2)) (wr := []) (isC := [0]) (isR := []) (isF := [0]) (rest := []) (As := [.ref q_p1]) (n := 1) X Z (c_X9_occurrencesIn l D cy q_p0 q_p1 d_p0 d_p1 p0_size_ p1_size_ p0_letters_ p1_letters_ p0_ways_ u7 hc8) gX11_separatingModulus_X9_occurrencesIn rfl (by decide +kernel) ⟨Nat.le_of_ble_eq_true rfl, Nat.le_of_ble_eq_true rfl⟩ ⟨rfl, rfl⟩ ⟨Nat.le_of_ble_eq_true rfl, Nat.le_of_ble_eq_true rfl⟩ (x_rvO X Z 0 rfl rfl) ⟨rfl, rfl, (roC (Or.inr (mem_at 0 rfl)) (roC (Or.inr (mem_at 1 rfl)) (roC (Or.inr (mem_at 3 rfl)) (roC (Or.inr (mem_at 4 rfl)) roN)))), rfl, rfl, by decide⟩ ⟨rfl, rfl⟩ rfl hl.1 rfl (Nat.le_of_ble_eq_true rfl) dX11_separatingModulus_2 (fun H locs Z => ?_)
  refine lv_istore_n (lv' := [(3, .int u7.1), (0, .ref q_p0), (1, .ref q_p1), (2, .ref q_p2)]) hx hb dX11_separatingModulus_5 rfl hl (by decide) rfl (fun ls hl => ?_)
  refine lv_aload_n hx hb dX11_separatingModulus_6 rfl (lv_at hl 1 rfl) ?_
  refine lv_aload_n hx hb dX11_separatingModulus_7 rfl (lv_at hl 3 rfl) ?_
  obtain ⟨u9, hc10, h⟩ := ob_some h
  refine x_runVi (RW' := (RW_X11_separatingModulus cy q_p0 q_p1 q_p2 d_p0 d_p1 d_p2 u9.2)) (wr := []) (isC := [0]) (isR := []) (isF := [0]) (rest := []) (As := [.ref q_p2]) (n := 1) X Z (c_X9_occurrencesIn l D cy q_p0 q_p2 d_p0 d_p2 p0_size_ p2_size_ p0_letters_ p2_letters_ u7.2 u9 hc10) gX11_separatingModulus_X9_occurrencesIn rfl (by decide +kernel) ⟨Nat.le_of_ble_eq_true rfl, Nat.le_of_ble_eq_true rfl⟩ ⟨rfl, rfl⟩ ⟨Nat.le_of_ble_eq_true rfl, Nat.le_of_ble_eq_true rfl⟩ (x_rvO X Z 0 rfl rfl) ⟨rfl, rfl, (roC (Or.inr (mem_at 0 rfl)) (roC (Or.inr (mem_at 2 rfl)) (roC (Or.inr (mem_at 3 rfl)) (roC (Or.inr (mem_at 5 rfl)) roN)))), rfl, rfl, by decide⟩ ⟨rfl, rfl⟩ rfl hl.1 rfl (Nat.le_of_ble_eq_true rfl) dX11_separatingModulus_8 (fun H locs Z => ?_)
  refine lv_istore (lv' := [(4, .int u9.1), (3, .int u7.1), (0, .ref q_p0), (1, .ref q_p1), (2, .ref q_p2)]) hx hb dX11_separatingModulus_11 hl (by decide) rfl (fun ls hl => ?_)
  refine lv_iload_n hx hb dX11_separatingModulus_13 rfl (lv_at hl 1 rfl) ?_
  refine lv_iload hx hb dX11_separatingModulus_14 (lv_at hl 0 rfl) ?_
  refine lv_icmp_ne (tgt := 22) hx hb dX11_separatingModulus_16 (by decide) (fun cnd => ?_) (fun cnd => ?_)
  · replace h := ifn h cnd
    refine lv_iconst (v := (2 : Int32)) hx hb dX11_separatingModulus_22 (by decide) ?_
    refine lv_istore (lv' := [(5, .int (2 : Int32)), (4, .int u9.1), (3, .int u7.1), (0, .ref q_p0), (1, .ref q_p1), (2, .ref q_p2)]) hx hb dX11_separatingModulus_23 hl (by decide) rfl (fun ls hl => ?_)
    obtain ⟨u11, hL12, h⟩ := ob_some h
    rcases u11 with u11 | u11
    · replace h := se_l h
      refine wl_X11_separatingModulus_25 q_p0 q_p1 q_p2 d_p0 d_p1 d_p2 p0_size_ p1_size_ p2_size_ p0_letters_ p1_letters_ p2_letters_ u9.2 u7.1 u9.1 FU (2 : Int32) (.inl u11) X hL12 (sk_li (fun H locs ls Z hl => ?_)) H locs ls Z (lv_sub hl [2, 1, 0] rfl)
      refine lv_iload hx hb dX11_separatingModulus_44 (lv_at hl 0 rfl) ?_
      obtain rfl := Option.some.inj h
      exact K H locs ls _ dX11_separatingModulus_46 Z
    · replace h := se_r h
      refine wl_X11_separatingModulus_25 q_p0 q_p1 q_p2 d_p0 d_p1 d_p2 p0_size_ p1_size_ p2_size_ p0_letters_ p1_letters_ p2_letters_ u9.2 u7.1 u9.1 FU (2 : Int32) (.inr u11) X hL12 (sk_ri (fun H locs ls Z hl => ?_)) H locs ls Z (lv_sub hl [2, 1, 0] rfl)
      refine lv_bipush (v := (-2 : Int32)) hx hb dX11_separatingModulus_53 (by decide) ?_
      obtain rfl := Option.some.inj h
      exact K H locs ls _ dX11_separatingModulus_55 Z
  · replace h := ifp h cnd
    refine lv_bipush (v := (-2 : Int32)) hx hb dX11_separatingModulus_19 (by decide) ?_
    obtain rfl := Option.some.inj h
    exact K H locs ls _ dX11_separatingModulus_21 Z
theorem c_X11_separatingModulus (l : Launch) (D : va_G) (cy : Nat → ClassId) (q_p0 : Nat) (q_p1 : Nat) (q_p2 : Nat) (d_p0 : Nat → Nat) (d_p1 : Nat → Nat) (d_p2 : Nat → Nat) (p0_size_ : Int32) (p1_size_ : Int32) (p2_size_ : Int32) (p0_letters_ : Nat → Int32) (p1_letters_ : Nat → Int32) (p2_letters_ : Nat → Int32) (p0_ways_ : Nat → Int32) (out : Int32 × (Nat → Int32)) (h : f_X11_separatingModulus p0_size_ p1_size_ p2_size_ p0_letters_ p1_letters_ p2_letters_ p0_ways_ = some out) : CtI l yX11_separatingModulus wsX11_separatingModulus rm_X11_separatingModulus D cy [.ref q_p0, .ref q_p1, .ref q_p2] (RW_X11_separatingModulus cy q_p0 q_p1 q_p2 d_p0 d_p1 d_p2 p0_ways_) (RO_X11_separatingModulus cy q_p0 q_p1 q_p2 d_p0 d_p1 d_p2 p0_size_ p1_size_ p2_size_ p0_letters_ p1_letters_ p2_letters_) (RW_X11_separatingModulus cy q_p0 q_p1 q_p2 d_p0 d_p1 d_p2 out.2) out.1 :=
  mk_i (ty := .int) (by decide) rfl rfl (Nat.le_of_ble_eq_true rfl) (fun p e s m args below meth c A Q X K H locs ls Z hl => wt_X11_separatingModulus q_p0 q_p1 q_p2 d_p0 d_p1 d_p2 p0_size_ p1_size_ p2_size_ p0_letters_ p1_letters_ p2_letters_ p0_ways_ out X h K H locs ls Z hl)
/-! SubwordCounter thirdWord (II)LSubwordCounter$Word; -/
abbrev rm_X11_thirdWord : Room := { frames := 0, cells := 0, slots := 0, locals := 0 }
def RW_X11_thirdWord (cy : Nat → ClassId) (o : Nat) (d : Nat → Nat) (d_now : Nat → Nat) (d_candidate : Nat → Nat) (mono : Value)  : va_W := []
def RO_X11_thirdWord (cy : Nat → ClassId) (o : Nat) (d : Nat → Nat) (d_now : Nat → Nat) (d_candidate : Nat → Nat) (mono : Value) (snapshotTaken_ : Int32) (inputLength_ : Int32) (now_letters_ : Int32) (now_words_ : Nat → Option Nat) : va_W := [(o, ob 10 (oX11 d mono snapshotTaken_ inputLength_)), ((d 0), ob 5 (oX5 d_now now_letters_)), ((d_now 1), aR cy 5 3 now_words_)]
theorem in_X11_thirdWord_X11 : ∀ w ∈ u_ws RX11 TX11 12, w ∈ wsX11_thirdWord := fun w h => (List.mem_cons_of_mem _ (List.mem_append_left _ (List.mem_append_right _ h)))
theorem lk_X11_thirdWord_X11_now : Lk wsX11_thirdWord RX11 10 10 0 := ⟨RX11, TX11, 12, rfl, by decide, in_X11_thirdWord_X11, mem_at 1 rfl⟩
theorem in_X11_thirdWord_X5 : ∀ w ∈ u_ws RX5 TX5 4, w ∈ wsX11_thirdWord := fun w h => (List.mem_cons_of_mem _ (List.mem_append_right _ h))
theorem lk_X11_thirdWord_X5_words : Lk wsX11_thirdWord RX11 85 5 1 := ⟨RX5, TX5, 4, rfl, by decide, in_X11_thirdWord_X5, mem_at 2 rfl⟩
theorem lk_X11_thirdWord_X11_candidate : Lk wsX11_thirdWord RX11 40 10 6 := ⟨RX11, TX11, 12, rfl, by decide, in_X11_thirdWord_X11, mem_at 3 rfl⟩
def b_X11_thirdWord_2 (d : Nat → Nat)  (x1 : Int32) (x2 : Int32)  (x3 : Int32) : Option ((Int32) ⊕ ((Int32) ⊕ (Unit))) :=
  if (3 : Int32) ≤ x3 then
  (some (.inr (.inr ())))
  else
  (if x3 = x1 then
  (some (.inl (x3 + (1 : Int32))))
  else
  (if x3 = x2 then
  (some (.inl (x3 + (1 : Int32))))
  else
  (some (.inr (.inl x3)))))
set_option maxHeartbeats 4000000 in
set_option maxRecDepth 100000 in
theorem wb_X11_thirdWord_2 {p : Program} {l : Launch} {e : Env} {s : State} {m : MethodId} {args : Array Value} {below : List Frame} {meth : Method} {c : Code} {A : Nat → Prop} {Q : State → Prop} {D : va_G} {cy : Nat → ClassId} (o : Nat) (d : Nat → Nat) (d_now : Nat → Nat) (d_candidate : Nat → Nat) (mono : Value) (snapshotTaken_ : Int32) (inputLength_ : Int32) (now_letters_ : Int32) (now_words_ : Nat → Option Nat)  (x1 : Int32) (x2 : Int32)  (x3 : Int32) (o1 : (Int32) ⊕ ((Int32) ⊕ (Unit))) (X : Cx p m c cX11_thirdWord 4 s args wsX11_thirdWord RX11 A D cy (RO_X11_thirdWord cy o d d_now d_candidate mono snapshotTaken_ inputLength_ now_letters_ now_words_)) (h : b_X11_thirdWord_2 d x1 x2 x3 = some o1) (K : Sum.elim (fun v : Int32 => ∀ (H : Heap) (locs : List Loc) (ls : Array Slot), St A D s (RW_X11_thirdWord cy o d d_now d_candidate mono) H locs → lv_has ls 4 [(0, .ref o), (1, .int x1), (2, .int x2), (3, .int v)] → W p l e rm_X11_thirdWord s m args below meth c H locs 0 0 Q (F0 m 2 ls [])) (fun v : (Int32) ⊕ (Unit) => Sum.elim (fun w : Int32 => ∀ (H : Heap) (locs : List Loc) (ls : Array Slot), St A D s (RW_X11_thirdWord cy o d d_now d_candidate mono) H locs → lv_has ls 4 [(0, .ref o), (3, .int w)] → W p l e rm_X11_thirdWord s m args below meth c H locs 0 0 Q (F0 m 17 ls [])) (fun w => ∀ (H : Heap) (locs : List Loc) (ls : Array Slot), St A D s (RW_X11_thirdWord cy o d d_now d_candidate mono) H locs → lv_has ls 4 [(0, .ref o)] → W p l e rm_X11_thirdWord s m args below meth c H locs 0 0 Q (F0 m 33 ls [])) v) o1) : ∀ (H : Heap) (locs : List Loc) (ls : Array Slot), St A D s (RW_X11_thirdWord cy o d d_now d_candidate mono) H locs → lv_has ls 4 [(0, .ref o), (1, .int x1), (2, .int x2), (3, .int x3)] → W p l e rm_X11_thirdWord s m args below meth c H locs 0 0 Q (F0 m 2 ls []) := by
  intro H locs ls Z hl
  have hx := X.1.1
  have hb := X.1.2.1
  unfold b_X11_thirdWord_2 at h
  refine lv_iload_n hx hb dX11_thirdWord_2 rfl (lv_at hl 3 rfl) ?_
  refine lv_iconst (v := (3 : Int32)) hx hb dX11_thirdWord_3 (by decide) ?_
  refine lv_icmp_ge (tgt := 33) hx hb dX11_thirdWord_4 (by decide) (fun cnd => ?_) (fun cnd => ?_)
  · replace h := ifp h cnd
    obtain rfl := Option.some.inj h
    exact (sk_r (sk_r K)) H locs ls Z (lv_sub hl [0] rfl)
  · replace h := ifn h cnd
    refine lv_iload_n hx hb dX11_thirdWord_7 rfl (lv_at hl 3 rfl) ?_
    refine lv_iload_n hx hb dX11_thirdWord_8 rfl (lv_at hl 1 rfl) ?_
    refine lv_icmp_eq (tgt := 27) hx hb dX11_thirdWord_9 (by decide) (fun cnd => ?_) (fun cnd => ?_)
    · replace h := ifp h cnd
      refine lv_iinc (v := (x3 + (1 : Int32))) (lv' := [(3, .int (x3 + (1 : Int32))), (0, .ref o), (1, .int x1), (2, .int x2)]) hx hb dX11_thirdWord_27 hl (k := 3) rfl rfl (by decide) rfl (fun ls hl => ?_)
      refine lv_goto (tgt := 2) hx hb dX11_thirdWord_30 (by decide) ?_
      obtain rfl := Option.some.inj h
      exact sk_l K H locs ls Z (lv_sub hl [1, 2, 3, 0] rfl)
    · replace h := ifn h cnd
      refine lv_iload_n hx hb dX11_thirdWord_12 rfl (lv_at hl 3 rfl) ?_
      refine lv_iload_n hx hb dX11_thirdWord_13 rfl (lv_at hl 2 rfl) ?_
      refine lv_icmp_eq (tgt := 27) hx hb dX11_thirdWord_14 (by decide) (fun cnd => ?_) (fun cnd => ?_)
      · replace h := ifp h cnd
        refine lv_iinc (v := (x3 + (1 : Int32))) (lv' := [(3, .int (x3 + (1 : Int32))), (0, .ref o), (1, .int x1), (2, .int x2)]) hx hb dX11_thirdWord_27 hl (k := 3) rfl rfl (by decide) rfl (fun ls hl => ?_)
        refine lv_goto (tgt := 2) hx hb dX11_thirdWord_30 (by decide) ?_
        obtain rfl := Option.some.inj h
        exact sk_l K H locs ls Z (lv_sub hl [1, 2, 3, 0] rfl)
      · replace h := ifn h cnd
        obtain rfl := Option.some.inj h
        exact (sk_l (sk_r K)) H locs ls Z (lv_sub hl [0, 3] rfl)
set_option maxHeartbeats 4000000 in
set_option maxRecDepth 100000 in
theorem wl_X11_thirdWord_2 {p : Program} {l : Launch} {e : Env} {s : State} {m : MethodId} {args : Array Value} {below : List Frame} {meth : Method} {c : Code} {A : Nat → Prop} {Q : State → Prop} {D : va_G} {cy : Nat → ClassId} (o : Nat) (d : Nat → Nat) (d_now : Nat → Nat) (d_candidate : Nat → Nat) (mono : Value) (snapshotTaken_ : Int32) (inputLength_ : Int32) (now_letters_ : Int32) (now_words_ : Nat → Option Nat)  (x1 : Int32) (x2 : Int32) (n : Nat) (v : Int32) (x : (Int32) ⊕ (Unit)) (X : Cx p m c cX11_thirdWord 4 s args wsX11_thirdWord RX11 A D cy (RO_X11_thirdWord cy o d d_now d_candidate mono snapshotTaken_ inputLength_ now_letters_ now_words_)) (h : loopN (fun v => b_X11_thirdWord_2 d x1 x2 v) n v = some x) (K : Sum.elim (fun w : Int32 => ∀ (H : Heap) (locs : List Loc) (ls : Array Slot), St A D s (RW_X11_thirdWord cy o d d_now d_candidate mono) H locs → lv_has ls 4 [(0, .ref o), (3, .int w)] → W p l e rm_X11_thirdWord s m args below meth c H locs 0 0 Q (F0 m 17 ls [])) (fun w => ∀ (H : Heap) (locs : List Loc) (ls : Array Slot), St A D s (RW_X11_thirdWord cy o d d_now d_candidate mono) H locs → lv_has ls 4 [(0, .ref o)] → W p l e rm_X11_thirdWord s m args below meth c H locs 0 0 Q (F0 m 33 ls [])) x) : ∀ (H : Heap) (locs : List Loc) (ls : Array Slot), St A D s (RW_X11_thirdWord cy o d d_now d_candidate mono) H locs → lv_has ls 4 [(0, .ref o), (1, .int x1), (2, .int x2), (3, .int v)] → W p l e rm_X11_thirdWord s m args below meth c H locs 0 0 Q (F0 m 2 ls []) :=
  loop_gen (B := (fun v => b_X11_thirdWord_2 d x1 x2 v)) (Head := fun v : Int32 => ∀ (H : Heap) (locs : List Loc) (ls : Array Slot), St A D s (RW_X11_thirdWord cy o d d_now d_candidate mono) H locs → lv_has ls 4 [(0, .ref o), (1, .int x1), (2, .int x2), (3, .int v)] → W p l e rm_X11_thirdWord s m args below meth c H locs 0 0 Q (F0 m 2 ls [])) (Exit := fun v : (Int32) ⊕ (Unit) => Sum.elim (fun w : Int32 => ∀ (H : Heap) (locs : List Loc) (ls : Array Slot), St A D s (RW_X11_thirdWord cy o d d_now d_candidate mono) H locs → lv_has ls 4 [(0, .ref o), (3, .int w)] → W p l e rm_X11_thirdWord s m args below meth c H locs 0 0 Q (F0 m 17 ls [])) (fun w => ∀ (H : Heap) (locs : List Loc) (ls : Array Slot), St A D s (RW_X11_thirdWord cy o d d_now d_candidate mono) H locs → lv_has ls 4 [(0, .ref o)] → W p l e rm_X11_thirdWord s m args below meth c H locs 0 0 Q (F0 m 33 ls [])) v) (fun v o9 hb1 K1 => wb_X11_thirdWord_2 o d d_now d_candidate mono snapshotTaken_ inputLength_ now_letters_ now_words_ x1 x2 v o9 X hb1 K1) n v x h K
def f_X11_thirdWord (x1 : Int32) (x2 : Int32) (d : Nat → Nat) (now_words_ : Nat → Option Nat) : Option (Nat) :=
  (loopN (fun v => b_X11_thirdWord_2 d x1 x2 v) FU (0 : Int32)).bind (fun u1 =>
  Sum.elim (fun u1 =>
  ldA now_words_ 3 u1 (fun r4 =>
  r4.bind (fun a6 =>
  some a6))) (fun u1 =>
  some (d 6)) u1)
set_option maxHeartbeats 4000000 in
set_option maxRecDepth 100000 in
theorem wt_X11_thirdWord {p : Program} {l : Launch} {e : Env} {s : State} {m : MethodId} {args : Array Value} {below : List Frame} {meth : Method} {c : Code} {A : Nat → Prop} {Q : State → Prop} {D : va_G} {cy : Nat → ClassId} (o : Nat) (d : Nat → Nat) (d_now : Nat → Nat) (d_candidate : Nat → Nat) (mono : Value) (snapshotTaken_ : Int32) (inputLength_ : Int32) (now_letters_ : Int32) (now_words_ : Nat → Option Nat)  (x1 : Int32) (x2 : Int32) (out : Nat) (X : Cx p m c cX11_thirdWord 4 s args wsX11_thirdWord RX11 A D cy (RO_X11_thirdWord cy o d d_now d_candidate mono snapshotTaken_ inputLength_ now_letters_ now_words_)) (h : f_X11_thirdWord x1 x2 d now_words_ = some out) (K : ∀ (H : Heap) (locs : List Loc) (ls : Array Slot) (pc : Nat), decode cX11_thirdWord pc = .ok (.areturn, 1) → St A D s (RW_X11_thirdWord cy o d d_now d_candidate mono) H locs → W p l e rm_X11_thirdWord s m args below meth c H locs 0 0 Q (F0 m pc ls [.ref out])) : ∀ (H : Heap) (locs : List Loc) (ls : Array Slot), St A D s (RW_X11_thirdWord cy o d d_now d_candidate mono) H locs → lv_has ls 4 [(0, .ref o), (1, .int x1), (2, .int x2)] → W p l e rm_X11_thirdWord s m args below meth c H locs 0 0 Q (F0 m 0 ls []) := by
  intro H locs ls Z hl
  have hx := X.1.1
  have hb := X.1.2.1
  unfold f_X11_thirdWord at h
  refine lv_iconst (v := (0 : Int32)) hx hb dX11_thirdWord_0 (by decide) ?_
  refine lv_istore_n (lv' := [(3, .int (0 : Int32)), (0, .ref o), (1, .int x1), (2, .int x2)]) hx hb dX11_thirdWord_1 rfl hl (by decide) rfl (fun ls hl => ?_)
  obtain ⟨u1, hL2, h⟩ := ob_some h
  rcases u1 with u1 | u1
  · replace h := se_l h
    refine wl_X11_thirdWord_2 o d d_now d_candidate mono snapshotTaken_ inputLength_ now_letters_ now_words_ x1 x2 FU (0 : Int32) (.inl u1) X hL2 (sk_li (fun H locs ls Z hl => ?_)) H locs ls Z (lv_sub hl [1, 2, 3, 0] rfl)
    refine lv_aload_n hx hb dX11_thirdWord_17 rfl (lv_at hl 0 rfl) ?_
    refine x_getO X Z 0 0 (v := .ref (d 0)) rfl rfl lk_X11_thirdWord_X11_now dX11_thirdWord_18 ?_
    refine x_getO X Z 1 1 (v := .ref (d_now 1)) rfl rfl lk_X11_thirdWord_X5_words dX11_thirdWord_21 ?_
    refine lv_iload_n hx hb dX11_thirdWord_24 rfl (lv_at hl 1 rfl) ?_
    obtain ⟨hin3, r4, hv5, h⟩ := ld_b h
    obtain ⟨a6, hr7, h⟩ := ob_some h
    refine x_raldO X Z 2 5 rfl rfl hin3 hv5 hr7 dX11_thirdWord_25 ?_
    obtain rfl := Option.some.inj h
    exact K H locs ls _ dX11_thirdWord_26 Z
  · replace h := se_r h
    refine wl_X11_thirdWord_2 o d d_now d_candidate mono snapshotTaken_ inputLength_ now_letters_ now_words_ x1 x2 FU (0 : Int32) (.inr u1) X hL2 (sk_ri (fun H locs ls Z hl => ?_)) H locs ls Z (lv_sub hl [1, 2, 3, 0] rfl)
    refine lv_aload_n hx hb dX11_thirdWord_33 rfl (lv_at hl 0 rfl) ?_
    refine x_getO X Z 0 6 (v := .ref (d 6)) rfl rfl lk_X11_thirdWord_X11_candidate dX11_thirdWord_34 ?_
    obtain rfl := Option.some.inj h
    exact K H locs ls _ dX11_thirdWord_37 Z
theorem c_X11_thirdWord (l : Launch) (D : va_G) (cy : Nat → ClassId) (o : Nat) (d : Nat → Nat) (d_now : Nat → Nat) (d_candidate : Nat → Nat) (mono : Value) (snapshotTaken_ : Int32) (inputLength_ : Int32) (now_letters_ : Int32) (now_words_ : Nat → Option Nat)  (x1 : Int32) (x2 : Int32) (out : Nat) (h : f_X11_thirdWord x1 x2 d now_words_ = some out) : CtR l yX11_thirdWord wsX11_thirdWord rm_X11_thirdWord D cy [.ref o, .int x1, .int x2] (RW_X11_thirdWord cy o d d_now d_candidate mono) (RO_X11_thirdWord cy o d d_now d_candidate mono snapshotTaken_ inputLength_ now_letters_ now_words_) (RW_X11_thirdWord cy o d d_now d_candidate mono) out :=
  mk_r (by decide) rfl (Nat.le_of_ble_eq_true rfl) (fun p e s m args below meth c A Q X K H locs ls Z hl => wt_X11_thirdWord o d d_now d_candidate mono snapshotTaken_ inputLength_ now_letters_ now_words_ x1 x2 out X h K H locs ls Z hl)
/-! SubwordCounter$Word copyFrom (LSubwordCounter$Word;)V -/
abbrev rm_X9_copyFrom : Room := { frames := 1, cells := 0, slots := 0, locals := 26 }
def RW_X9_copyFrom (cy : Nat → ClassId) (o : Nat) (q_p1 : Nat) (d : Nat → Nat) (d_p1 : Nat → Nat) (size_ : Int32) (letters_ : Nat → Int32) (p1_letters_ : Nat → Int32) : va_W := [(o, ob 8 (oX9 d size_)), ((d 0), aI cy 12 letters_), ((d_p1 0), aI cy 12 p1_letters_)]
def RO_X9_copyFrom (cy : Nat → ClassId) (o : Nat) (q_p1 : Nat) (d : Nat → Nat) (d_p1 : Nat → Nat) (p1_size_ : Int32) : va_W := [(q_p1, ob 8 (oX9 d_p1 p1_size_))]
theorem in_X9_copyFrom_X9 : ∀ w ∈ u_ws RX9 TX9 3, w ∈ wsX9_copyFrom := fun w h => (List.mem_cons_of_mem _ (List.mem_append_right _ h))
theorem lk_X9_copyFrom_X9_letters : Lk wsX9_copyFrom RX9 9 8 0 := ⟨RX9, TX9, 3, rfl, by decide, in_X9_copyFrom_X9, mem_at 1 rfl⟩
theorem lc_X9_copyFrom_26 : Lc wsX9_copyFrom RX9 26 := ⟨mem_at 2 rfl, mem_at 3 rfl, mem_at 4 rfl, mem_at 5 rfl⟩
theorem lk_X9_copyFrom_X9_size : Lk wsX9_copyFrom RX9 15 8 1 := ⟨RX9, TX9, 3, rfl, by decide, in_X9_copyFrom_X9, mem_at 6 rfl⟩
theorem lp_X9_copyFrom_X9_size : Lp wsX9_copyFrom RX9 15 8 1 .int := ⟨RX9, TX9, 3, tyX9, rfl, by decide, in_X9_copyFrom_X9, mem_at 6 rfl, tyX9_ok, nmX9, rfl, by decide +kernel⟩
def f_X9_copyFrom (p1_size_ : Int32) (p1_letters_ : Nat → Int32) (size_ : Int32) (letters_ : Nat → Int32) : Option (Int32 × (Nat → Int32)) :=
  cpA p1_letters_ letters_ 12 12 (0 : Int32) (0 : Int32) (12 : Int32) (fun letters_1 =>
  some (p1_size_, letters_1))
set_option maxHeartbeats 4000000 in
set_option maxRecDepth 100000 in
theorem wt_X9_copyFrom {p : Program} {l : Launch} {e : Env} {s : State} {m : MethodId} {args : Array Value} {below : List Frame} {meth : Method} {c : Code} {A : Nat → Prop} {Q : State → Prop} {D : va_G} {cy : Nat → ClassId} (o : Nat) (q_p1 : Nat) (d : Nat → Nat) (d_p1 : Nat → Nat) (p1_size_ : Int32) (size_ : Int32) (letters_ : Nat → Int32) (p1_letters_ : Nat → Int32) (out : Int32 × (Nat → Int32)) (X : Cx p m c cX9_copyFrom 2 s args wsX9_copyFrom RX9 A D cy (RO_X9_copyFrom cy o q_p1 d d_p1 p1_size_)) (h : f_X9_copyFrom p1_size_ p1_letters_ size_ letters_ = some out) (K : ∀ (H : Heap) (locs : List Loc) (ls : Array Slot) (pc : Nat), decode cX9_copyFrom pc = .ok (.return_, 1) → St A D s (RW_X9_copyFrom cy o q_p1 d d_p1 out.1 out.2 p1_letters_) H locs → W p l e rm_X9_copyFrom s m args below meth c H locs 0 0 Q (F0 m pc ls [])) : ∀ (H : Heap) (locs : List Loc) (ls : Array Slot), St A D s (RW_X9_copyFrom cy o q_p1 d d_p1 size_ letters_ p1_letters_) H locs → lv_has ls 2 [(0, .ref o), (1, .ref q_p1)] → W p l e rm_X9_copyFrom s m args below meth c H locs 0 0 Q (F0 m 0 ls []) := by
  intro H locs ls Z hl
  have hx := X.1.1
  have hb := X.1.2.1
  unfold f_X9_copyFrom at h
  refine lv_aload_n hx hb dX9_copyFrom_0 rfl (lv_at hl 1 rfl) ?_
  refine x_getO X Z 0 0 (v := .ref (d_p1 0)) rfl rfl lk_X9_copyFrom_X9_letters dX9_copyFrom_1 ?_
  refine lv_iconst (v := (0 : Int32)) hx hb dX9_copyFrom_4 (by decide) ?_
  refine lv_aload_n hx hb dX9_copyFrom_5 rfl (lv_at hl 0 rfl) ?_
  refine x_get X Z 0 0 (v := .ref (d 0)) rfl rfl lk_X9_copyFrom_X9_letters dX9_copyFrom_6 ?_
  refine lv_iconst (v := (0 : Int32)) hx hb dX9_copyFrom_9 (by decide) ?_
  refine lv_bipush (v := (12 : Int32)) hx hb dX9_copyFrom_10 (by decide) ?_
  obtain ⟨hcx3, letters_1, hv2, h⟩ := cp_b h
  refine x_cpyI X Z hl 2 1 (RW_X9_copyFrom cy o q_p1 d d_p1 size_ letters_1 p1_letters_) lc_X9_copyFrom_26 rfl rfl hcx3 hv2 rfl (Nat.le_of_ble_eq_true rfl) (Nat.le_of_ble_eq_true rfl) dX9_copyFrom_12 (fun H locs Z => ?_)
  refine lv_aload_n hx hb dX9_copyFrom_15 rfl (lv_at hl 0 rfl) ?_
  refine lv_aload_n hx hb dX9_copyFrom_16 rfl (lv_at hl 1 rfl) ?_
  refine x_getO X Z 0 1 (v := .int p1_size_) rfl rfl lk_X9_copyFrom_X9_size dX9_copyFrom_17 ?_
  refine x_put X Z 0 1 (RW_X9_copyFrom cy o q_p1 d d_p1 p1_size_ letters_1 p1_letters_) rfl lp_X9_copyFrom_X9_size (Nat.le_of_ble_eq_true rfl) rfl dX9_copyFrom_20 (fun H locs Z => ?_)
  obtain rfl := Option.some.inj h
  exact K H locs ls _ dX9_copyFrom_23 Z
theorem c_X9_copyFrom (l : Launch) (D : va_G) (cy : Nat → ClassId) (o : Nat) (q_p1 : Nat) (d : Nat → Nat) (d_p1 : Nat → Nat) (p1_size_ : Int32) (size_ : Int32) (letters_ : Nat → Int32) (p1_letters_ : Nat → Int32) (out : Int32 × (Nat → Int32)) (h : f_X9_copyFrom p1_size_ p1_letters_ size_ letters_ = some out) : CtV l yX9_copyFrom wsX9_copyFrom rm_X9_copyFrom D cy [.ref o, .ref q_p1] (RW_X9_copyFrom cy o q_p1 d d_p1 size_ letters_ p1_letters_) (RO_X9_copyFrom cy o q_p1 d d_p1 p1_size_) (RW_X9_copyFrom cy o q_p1 d d_p1 out.1 out.2 p1_letters_) :=
  mk_v (by decide) rfl (Nat.le_of_ble_eq_true rfl) (fun p e s m args below meth c A Q X K H locs ls Z hl => wt_X9_copyFrom o q_p1 d d_p1 p1_size_ size_ letters_ p1_letters_ out X h K H locs ls Z hl)
/-! SubwordCounter$Word setListed (III)V -/
abbrev rm_X9_setListed : Room := { frames := 1, cells := 0, slots := 0, locals := 21 }
def RW_X9_setListed (cy : Nat → ClassId) (o : Nat) (d : Nat → Nat) (size_ : Int32) (letters_ : Nat → Int32) : va_W := [(o, ob 8 (oX9 d size_)), ((d 0), aI cy 12 letters_)]
def RO_X9_setListed (cy : Nat → ClassId) (o : Nat) (d : Nat → Nat)  : va_W := []
theorem in_X9_setListed_X9 : ∀ w ∈ u_ws RX9 TX9 3, w ∈ wsX9_setListed := fun w h => (List.mem_cons_of_mem _ (List.mem_append_right _ h))
theorem lk_X9_setListed_X9_letters : Lk wsX9_setListed RX9 9 8 0 := ⟨RX9, TX9, 3, rfl, by decide, in_X9_setListed_X9, mem_at 9 rfl⟩
theorem lp_X9_setListed_X9_size : Lp wsX9_setListed RX9 15 8 1 .int := ⟨RX9, TX9, 3, tyX9, rfl, by decide, in_X9_setListed_X9, mem_at 5 rfl, tyX9_ok, nmX9, rfl, by decide +kernel⟩
theorem lk_X9_setListed_X9_size : Lk wsX9_setListed RX9 15 8 1 := ⟨RX9, TX9, 3, rfl, by decide, in_X9_setListed_X9, mem_at 5 rfl⟩
def b_X9_setListed_28  (x5 : Int32) (letters_ : Nat → Int32) (x4 : Int32) (x6 : Int32) : Option (((Nat → Int32) × Int32 × Int32) ⊕ ((Nat → Int32))) :=
  if x6 < 0 then
  (some (.inr letters_))
  else
  (rmI x4 x5 (fun v2 =>
  stA letters_ 12 x6 v2 (fun letters_5 =>
  dvI x4 x5 (fun v8 =>
  some (.inl (letters_5, v8, (x6 + (-1 : Int32))))))))
set_option maxHeartbeats 4000000 in
set_option maxRecDepth 100000 in
theorem wb_X9_setListed_28 {p : Program} {l : Launch} {e : Env} {s : State} {m : MethodId} {args : Array Value} {below : List Frame} {meth : Method} {c : Code} {A : Nat → Prop} {Q : State → Prop} {D : va_G} {cy : Nat → ClassId} (o : Nat) (d : Nat → Nat)  (size_ : Int32) (x5 : Int32) (letters_ : Nat → Int32) (x4 : Int32) (x6 : Int32) (o1 : ((Nat → Int32) × Int32 × Int32) ⊕ ((Nat → Int32))) (X : Cx p m c cX9_setListed 7 s args wsX9_setListed RX9 A D cy (RO_X9_setListed cy o d)) (h : b_X9_setListed_28 x5 letters_ x4 x6 = some o1) (K : Sum.elim (fun v : (Nat → Int32) × Int32 × Int32 => ∀ (H : Heap) (locs : List Loc) (ls : Array Slot), St A D s (RW_X9_setListed cy o d size_ v.1) H locs → lv_has ls 7 [(0, .ref o), (4, .int v.2.1), (5, .int x5), (6, .int v.2.2)] → W p l e rm_X9_setListed s m args below meth c H locs 0 0 Q (F0 m 28 ls [])) (fun v : (Nat → Int32) => ∀ (H : Heap) (locs : List Loc) (ls : Array Slot), St A D s (RW_X9_setListed cy o d size_ v) H locs → lv_has ls 7 [] → W p l e rm_X9_setListed s m args below meth c H locs 0 0 Q (F0 m 58 ls [])) o1) : ∀ (H : Heap) (locs : List Loc) (ls : Array Slot), St A D s (RW_X9_setListed cy o d size_ letters_) H locs → lv_has ls 7 [(0, .ref o), (4, .int x4), (5, .int x5), (6, .int x6)] → W p l e rm_X9_setListed s m args below meth c H locs 0 0 Q (F0 m 28 ls []) := by
  intro H locs ls Z hl
  have hx := X.1.1
  have hb := X.1.2.1
  unfold b_X9_setListed_28 at h
  refine lv_iload hx hb dX9_setListed_28 (lv_at hl 3 rfl) ?_
  refine lv_if_lt (tgt := 58) hx hb dX9_setListed_30 (by decide) (fun cnd => ?_) (fun cnd => ?_)
  · replace h := ifp h cnd
    obtain rfl := Option.some.inj h
    exact (sk_r K) H locs ls Z (lv_sub hl [] rfl)
  · replace h := ifn h cnd
    refine lv_aload_n hx hb dX9_setListed_33 rfl (lv_at hl 0 rfl) ?_
    refine x_get X Z 0 0 (v := .ref (d 0)) rfl rfl lk_X9_setListed_X9_letters dX9_setListed_34 ?_
    refine lv_iload hx hb dX9_setListed_37 (lv_at hl 3 rfl) ?_
    refine lv_iload hx hb dX9_setListed_39 (lv_at hl 1 rfl) ?_
    refine lv_iload hx hb dX9_setListed_41 (lv_at hl 2 rfl) ?_
    obtain ⟨hz1, v2, hv3, h⟩ := rm_b h
    refine lv_irem hx hb dX9_setListed_43 hz1 ?_
    rw [hv3]
    obtain ⟨hin4, letters_5, hv6, h⟩ := st_b h
    refine x_iast X Z 1 (RW_X9_setListed cy o d size_ letters_5) rfl hin4 hv6 rfl dX9_setListed_44 (fun H locs Z => ?_)
    refine lv_iload hx hb dX9_setListed_45 (lv_at hl 1 rfl) ?_
    refine lv_iload hx hb dX9_setListed_47 (lv_at hl 2 rfl) ?_
    obtain ⟨hz7, v8, hv9, h⟩ := dv_b h
    refine lv_idiv hx hb dX9_setListed_49 hz7 ?_
    rw [hv9]
    refine lv_istore (lv' := [(4, .int v8), (0, .ref o), (5, .int x5), (6, .int x6)]) hx hb dX9_setListed_50 hl (by decide) rfl (fun ls hl => ?_)
    refine lv_iinc (v := (x6 + (-1 : Int32))) (lv' := [(6, .int (x6 + (-1 : Int32))), (4, .int v8), (0, .ref o), (5, .int x5)]) hx hb dX9_setListed_52 hl (k := 3) rfl rfl (by decide) rfl (fun ls hl => ?_)
    refine lv_goto (tgt := 28) hx hb dX9_setListed_55 (by decide) ?_
    obtain rfl := Option.some.inj h
    exact sk_l K H locs ls Z (lv_sub hl [2, 1, 3, 0] rfl)
set_option maxHeartbeats 4000000 in
set_option maxRecDepth 100000 in
theorem wl_X9_setListed_28 {p : Program} {l : Launch} {e : Env} {s : State} {m : MethodId} {args : Array Value} {below : List Frame} {meth : Method} {c : Code} {A : Nat → Prop} {Q : State → Prop} {D : va_G} {cy : Nat → ClassId} (o : Nat) (d : Nat → Nat)  (size_ : Int32) (x5 : Int32) (n : Nat) (v : (Nat → Int32) × Int32 × Int32) (x : (Nat → Int32)) (X : Cx p m c cX9_setListed 7 s args wsX9_setListed RX9 A D cy (RO_X9_setListed cy o d)) (h : loopN (fun v => b_X9_setListed_28 x5 v.1 v.2.1 v.2.2) n v = some x) (K : ∀ (H : Heap) (locs : List Loc) (ls : Array Slot), St A D s (RW_X9_setListed cy o d size_ x) H locs → lv_has ls 7 [] → W p l e rm_X9_setListed s m args below meth c H locs 0 0 Q (F0 m 58 ls [])) : ∀ (H : Heap) (locs : List Loc) (ls : Array Slot), St A D s (RW_X9_setListed cy o d size_ v.1) H locs → lv_has ls 7 [(0, .ref o), (4, .int v.2.1), (5, .int x5), (6, .int v.2.2)] → W p l e rm_X9_setListed s m args below meth c H locs 0 0 Q (F0 m 28 ls []) :=
  loop_gen (B := (fun v => b_X9_setListed_28 x5 v.1 v.2.1 v.2.2)) (Head := fun v : (Nat → Int32) × Int32 × Int32 => ∀ (H : Heap) (locs : List Loc) (ls : Array Slot), St A D s (RW_X9_setListed cy o d size_ v.1) H locs → lv_has ls 7 [(0, .ref o), (4, .int v.2.1), (5, .int x5), (6, .int v.2.2)] → W p l e rm_X9_setListed s m args below meth c H locs 0 0 Q (F0 m 28 ls [])) (Exit := fun v : (Nat → Int32) => ∀ (H : Heap) (locs : List Loc) (ls : Array Slot), St A D s (RW_X9_setListed cy o d size_ v) H locs → lv_has ls 7 [] → W p l e rm_X9_setListed s m args below meth c H locs 0 0 Q (F0 m 58 ls [])) (fun v o9 hb1 K1 => wb_X9_setListed_28 o d size_ x5 v.1 v.2.1 v.2.2 o9 X hb1 K1) n v x h K
def f_X9_setListed (x1 : Int32) (x2 : Int32) (x3 : Int32) (size_ : Int32) (letters_ : Nat → Int32) : Option (Int32 × (Nat → Int32)) :=
  (loopN (fun v => b_X9_setListed_28 (mxI x3 (1 : Int32)) v.1 v.2.1 v.2.2) FU (letters_, x2, ((mnI x1 (12 : Int32)) - (1 : Int32)))).bind (fun u10 =>
  some ((mnI x1 (12 : Int32)), u10))
set_option maxHeartbeats 4000000 in
set_option maxRecDepth 100000 in
theorem wt_X9_setListed {p : Program} {l : Launch} {e : Env} {s : State} {m : MethodId} {args : Array Value} {below : List Frame} {meth : Method} {c : Code} {A : Nat → Prop} {Q : State → Prop} {D : va_G} {cy : Nat → ClassId} (o : Nat) (d : Nat → Nat)  (size_ : Int32) (letters_ : Nat → Int32) (x1 : Int32) (x2 : Int32) (x3 : Int32) (out : Int32 × (Nat → Int32)) (X : Cx p m c cX9_setListed 7 s args wsX9_setListed RX9 A D cy (RO_X9_setListed cy o d)) (h : f_X9_setListed x1 x2 x3 size_ letters_ = some out) (K : ∀ (H : Heap) (locs : List Loc) (ls : Array Slot) (pc : Nat), decode cX9_setListed pc = .ok (.return_, 1) → St A D s (RW_X9_setListed cy o d out.1 out.2) H locs → W p l e rm_X9_setListed s m args below meth c H locs 0 0 Q (F0 m pc ls [])) : ∀ (H : Heap) (locs : List Loc) (ls : Array Slot), St A D s (RW_X9_setListed cy o d size_ letters_) H locs → lv_has ls 7 [(0, .ref o), (1, .int x1), (2, .int x2), (3, .int x3)] → W p l e rm_X9_setListed s m args below meth c H locs 0 0 Q (F0 m 0 ls []) := by
  intro H locs ls Z hl
  have hx := X.1.1
  have hb := X.1.2.1
  unfold f_X9_setListed at h
  refine lv_aload_n hx hb dX9_setListed_0 rfl (lv_at hl 0 rfl) ?_
  refine lv_iload_n hx hb dX9_setListed_1 rfl (lv_at hl 1 rfl) ?_
  refine lv_bipush (v := (12 : Int32)) hx hb dX9_setListed_2 (by decide) ?_
  refine x_mmin X Z hl (mem_at 1 rfl) (mem_at 2 rfl) (mem_at 3 rfl) (mem_at 4 rfl) (Nat.le_of_ble_eq_true rfl) (Nat.le_of_ble_eq_true rfl) (Nat.le_of_ble_eq_true rfl) (Nat.le_of_ble_eq_true rfl) dX9_setListed_4 ?_
  refine x_put X Z 0 1 (RW_X9_setListed cy o d (mnI x1 (12 : Int32)) letters_) rfl lp_X9_setListed_X9_size (Nat.le_of_ble_eq_true rfl) rfl dX9_setListed_7 (fun H locs Z => ?_)
  refine lv_iload_n hx hb dX9_setListed_10 rfl (lv_at hl 2 rfl) ?_
  refine lv_istore (lv' := [(4, .int x2), (0, .ref o), (1, .int x1), (2, .int x2), (3, .int x3)]) hx hb dX9_setListed_11 hl (by decide) rfl (fun ls hl => ?_)
  refine lv_iload_n hx hb dX9_setListed_13 rfl (lv_at hl 4 rfl) ?_
  refine lv_iconst (v := (1 : Int32)) hx hb dX9_setListed_14 (by decide) ?_
  refine x_mmax X Z hl (mem_at 6 rfl) (mem_at 7 rfl) (mem_at 3 rfl) (mem_at 8 rfl) (Nat.le_of_ble_eq_true rfl) (Nat.le_of_ble_eq_true rfl) (Nat.le_of_ble_eq_true rfl) (Nat.le_of_ble_eq_true rfl) dX9_setListed_15 ?_
  refine lv_istore (lv' := [(5, .int (mxI x3 (1 : Int32))), (4, .int x2), (0, .ref o), (1, .int x1), (2, .int x2), (3, .int x3)]) hx hb dX9_setListed_18 hl (by decide) rfl (fun ls hl => ?_)
  refine lv_aload_n hx hb dX9_setListed_20 rfl (lv_at hl 2 rfl) ?_
  refine x_get X Z 0 1 (v := .int (mnI x1 (12 : Int32))) rfl rfl lk_X9_setListed_X9_size dX9_setListed_21 ?_
  refine lv_iconst (v := (1 : Int32)) hx hb dX9_setListed_24 (by decide) ?_
  refine lv_isub hx hb dX9_setListed_25 ?_
  refine lv_istore (lv' := [(6, .int ((mnI x1 (12 : Int32)) - (1 : Int32))), (5, .int (mxI x3 (1 : Int32))), (4, .int x2), (0, .ref o), (1, .int x1), (2, .int x2), (3, .int x3)]) hx hb dX9_setListed_26 hl (by decide) rfl (fun ls hl => ?_)
  obtain ⟨u10, hL11, h⟩ := ob_some h
  refine wl_X9_setListed_28 o d (mnI x1 (12 : Int32)) (mxI x3 (1 : Int32)) FU (letters_, x2, ((mnI x1 (12 : Int32)) - (1 : Int32))) u10 X hL11 (fun H locs ls Z hl => ?_) H locs ls Z (lv_sub hl [3, 2, 1, 0] rfl)
  obtain rfl := Option.some.inj h
  exact K H locs ls _ dX9_setListed_58 Z
theorem c_X9_setListed (l : Launch) (D : va_G) (cy : Nat → ClassId) (o : Nat) (d : Nat → Nat)  (size_ : Int32) (letters_ : Nat → Int32) (x1 : Int32) (x2 : Int32) (x3 : Int32) (out : Int32 × (Nat → Int32)) (h : f_X9_setListed x1 x2 x3 size_ letters_ = some out) : CtV l yX9_setListed wsX9_setListed rm_X9_setListed D cy [.ref o, .int x1, .int x2, .int x3] (RW_X9_setListed cy o d size_ letters_) (RO_X9_setListed cy o d) (RW_X9_setListed cy o d out.1 out.2) :=
  mk_v (by decide) rfl (Nat.le_of_ble_eq_true rfl) (fun p e s m args below meth c A Q X K H locs ls Z hl => wt_X9_setListed o d size_ letters_ x1 x2 x3 out X h K H locs ls Z hl)
/-! SubwordCounter separate (II)I -/
abbrev rm_X11_separate : Room := { frames := 3, cells := 0, slots := 0, locals := 71 }
def RW_X11_separate (cy : Nat → ClassId) (o : Nat) (q_W_106 : Nat) (q_now_words_L1 : Nat) (q_now_words_L2 : Nat) (d : Nat → Nat) (d_W_106 : Nat → Nat) (d_now_words_L1 : Nat → Nat) (d_now_words_L2 : Nat → Nat) (d_now : Nat → Nat) (d_candidate : Nat → Nat) (mono : Value) (W_106_size_ : Int32) (candidate_size_ : Int32) (W_106_letters_ : Nat → Int32) (candidate_letters_ : Nat → Int32) (candidate_ways_ : Nat → Int32) : va_W := [(q_W_106, ob 8 (oX9 d_W_106 W_106_size_)), ((d 6), ob 8 (oX9 d_candidate candidate_size_)), ((d_W_106 0), aI cy 12 W_106_letters_), ((d_candidate 0), aI cy 12 candidate_letters_), ((d_candidate 2), aI cy 13 candidate_ways_)]
def RO_X11_separate (cy : Nat → ClassId) (o : Nat) (q_W_106 : Nat) (q_now_words_L1 : Nat) (q_now_words_L2 : Nat) (d : Nat → Nat) (d_W_106 : Nat → Nat) (d_now_words_L1 : Nat → Nat) (d_now_words_L2 : Nat → Nat) (d_now : Nat → Nat) (d_candidate : Nat → Nat) (mono : Value) (snapshotTaken_ : Int32) (inputLength_ : Int32) (now_words_L1_size_ : Int32) (now_words_L2_size_ : Int32) (now_letters_ : Int32) (now_words_L1_letters_ : Nat → Int32) (now_words_L2_letters_ : Nat → Int32) (now_words_ : Nat → Option Nat) : va_W := [(o, ob 10 (oX11 d mono snapshotTaken_ inputLength_)), (q_now_words_L1, ob 8 (oX9 d_now_words_L1 now_words_L1_size_)), (q_now_words_L2, ob 8 (oX9 d_now_words_L2 now_words_L2_size_)), ((d 0), ob 5 (oX5 d_now now_letters_)), ((d_now_words_L1 0), aI cy 12 now_words_L1_letters_), ((d_now_words_L2 0), aI cy 12 now_words_L2_letters_), ((d_now 1), aR cy 5 3 now_words_)]
theorem in_X11_separate_X11 : ∀ w ∈ u_ws RX11 TX11 12, w ∈ wsX11_separate := fun w h => (List.mem_cons_of_mem _ (List.mem_append_left _ (List.mem_append_left _ (List.mem_append_right _ h))))
theorem lk_X11_separate_X11_candidate : Lk wsX11_separate RX11 40 10 6 := ⟨RX11, TX11, 12, rfl, by decide, in_X11_separate_X11, mem_at 3 rfl⟩
theorem lk_X11_separate_X11_now : Lk wsX11_separate RX11 10 10 0 := ⟨RX11, TX11, 12, rfl, by decide, in_X11_separate_X11, mem_at 1 rfl⟩
theorem in_X11_separate_X5 : ∀ w ∈ u_ws RX5 TX5 4, w ∈ wsX11_separate := fun w h => (List.mem_cons_of_mem _ (List.mem_append_left _ (List.mem_append_right _ h)))
theorem lk_X11_separate_X5_letters : Lk wsX11_separate RX11 74 5 0 := ⟨RX5, TX5, 4, rfl, by decide, in_X11_separate_X5, mem_at 2 rfl⟩
theorem lk_X11_separate_X5_words : Lk wsX11_separate RX11 85 5 1 := ⟨RX5, TX5, 4, rfl, by decide, in_X11_separate_X5, mem_at 4 rfl⟩
def b_X11_separate_45 (q_W_106 : Nat) (d : Nat → Nat) (q_now_words_L1 : Nat) (q_now_words_L2 : Nat) (now_words_L1_size_ : Int32) (now_words_L2_size_ : Int32) (now_letters_ : Int32) (now_words_L1_letters_ : Nat → Int32) (now_words_L2_letters_ : Nat → Int32) (now_words_ : Nat → Option Nat) (x1 : Int32) (x2 : Int32) (x3 : Int32) (x4 : Int32) (candidate_size_ : Int32) (candidate_letters_ : Nat → Int32) (candidate_ways_ : Nat → Int32) (x5 : Int32) : Option ((Int32 × (Nat → Int32) × (Nat → Int32) × Int32) ⊕ ((Int32 × (Nat → Int32) × (Nat → Int32) × Int32) ⊕ (Int32 × (Nat → Int32) × (Nat → Int32)))) :=
  if x3 ≤ x5 then
  (some (.inr (.inr (candidate_size_, candidate_letters_, candidate_ways_))))
  else
  ((f_X9_setListed x4 x5 now_letters_ candidate_size_ candidate_letters_).bind (fun u1 =>
  ldA now_words_ 3 x1 (fun r4 =>
  asR r4 q_now_words_L1 (
  ldA now_words_ 3 x2 (fun r8 =>
  asR r8 q_now_words_L2 (
  (f_X11_separatingModulus u1.1 now_words_L1_size_ now_words_L2_size_ u1.2 now_words_L1_letters_ now_words_L2_letters_ candidate_ways_).bind (fun u11 =>
  if u11.1 = (-2 : Int32) then
  (some (.inl (u1.1, u1.2, u11.2, (x5 + (1 : Int32)))))
  else
  (some (.inr (.inl (u1.1, u1.2, u11.2, u11.1)))))))))))
set_option maxHeartbeats 4000000 in
set_option maxRecDepth 100000 in
theorem wb_X11_separate_45 {p : Program} {l : Launch} {e : Env} {s : State} {m : MethodId} {args : Array Value} {below : List Frame} {meth : Method} {c : Code} {A : Nat → Prop} {Q : State → Prop} {D : va_G} {cy : Nat → ClassId} (o : Nat) (q_W_106 : Nat) (q_now_words_L1 : Nat) (q_now_words_L2 : Nat) (d : Nat → Nat) (d_W_106 : Nat → Nat) (d_now_words_L1 : Nat → Nat) (d_now_words_L2 : Nat → Nat) (d_now : Nat → Nat) (d_candidate : Nat → Nat) (mono : Value) (snapshotTaken_ : Int32) (inputLength_ : Int32) (now_words_L1_size_ : Int32) (now_words_L2_size_ : Int32) (now_letters_ : Int32) (now_words_L1_letters_ : Nat → Int32) (now_words_L2_letters_ : Nat → Int32) (now_words_ : Nat → Option Nat) (W_106_size_ : Int32) (W_106_letters_ : Nat → Int32) (x1 : Int32) (x2 : Int32) (x3 : Int32) (x4 : Int32) (candidate_size_ : Int32) (candidate_letters_ : Nat → Int32) (candidate_ways_ : Nat → Int32) (x5 : Int32) (o1 : (Int32 × (Nat → Int32) × (Nat → Int32) × Int32) ⊕ ((Int32 × (Nat → Int32) × (Nat → Int32) × Int32) ⊕ (Int32 × (Nat → Int32) × (Nat → Int32)))) (X : Cx p m c cX11_separate 7 s args wsX11_separate RX11 A D cy (RO_X11_separate cy o q_W_106 q_now_words_L1 q_now_words_L2 d d_W_106 d_now_words_L1 d_now_words_L2 d_now d_candidate mono snapshotTaken_ inputLength_ now_words_L1_size_ now_words_L2_size_ now_letters_ now_words_L1_letters_ now_words_L2_letters_ now_words_)) (h : b_X11_separate_45 q_W_106 d q_now_words_L1 q_now_words_L2 now_words_L1_size_ now_words_L2_size_ now_letters_ now_words_L1_letters_ now_words_L2_letters_ now_words_ x1 x2 x3 x4 candidate_size_ candidate_letters_ candidate_ways_ x5 = some o1) (K : Sum.elim (fun v : Int32 × (Nat → Int32) × (Nat → Int32) × Int32 => ∀ (H : Heap) (locs : List Loc) (ls : Array Slot), St A D s (RW_X11_separate cy o q_W_106 q_now_words_L1 q_now_words_L2 d d_W_106 d_now_words_L1 d_now_words_L2 d_now d_candidate mono W_106_size_ v.1 W_106_letters_ v.2.1 v.2.2.1) H locs → lv_has ls 7 [(0, .ref o), (1, .int x1), (2, .int x2), (3, .int x3), (4, .int x4), (5, .int v.2.2.2)] → W p l e rm_X11_separate s m args below meth c H locs 0 0 Q (F0 m 45 ls [])) (fun v : (Int32 × (Nat → Int32) × (Nat → Int32) × Int32) ⊕ (Int32 × (Nat → Int32) × (Nat → Int32)) => Sum.elim (fun w : Int32 × (Nat → Int32) × (Nat → Int32) × Int32 => ∀ (H : Heap) (locs : List Loc) (ls : Array Slot), St A D s (RW_X11_separate cy o q_W_106 q_now_words_L1 q_now_words_L2 d d_W_106 d_now_words_L1 d_now_words_L2 d_now d_candidate mono W_106_size_ w.1 W_106_letters_ w.2.1 w.2.2.1) H locs → lv_has ls 7 [(0, .ref o), (1, .int x1), (2, .int x2), (6, .int w.2.2.2)] → W p l e rm_X11_separate s m args below meth c H locs 0 0 Q (F0 m 103 ls [])) (fun w => ∀ (H : Heap) (locs : List Loc) (ls : Array Slot), St A D s (RW_X11_separate cy o q_W_106 q_now_words_L1 q_now_words_L2 d d_W_106 d_now_words_L1 d_now_words_L2 d_now d_candidate mono W_106_size_ w.1 W_106_letters_ w.2.1 w.2.2) H locs → lv_has ls 7 [(0, .ref o), (1, .int x1), (2, .int x2), (3, .int x3), (4, .int x4)] → W p l e rm_X11_separate s m args below meth c H locs 0 0 Q (F0 m 125 ls [])) v) o1) : ∀ (H : Heap) (locs : List Loc) (ls : Array Slot), St A D s (RW_X11_separate cy o q_W_106 q_now_words_L1 q_now_words_L2 d d_W_106 d_now_words_L1 d_now_words_L2 d_now d_candidate mono W_106_size_ candidate_size_ W_106_letters_ candidate_letters_ candidate_ways_) H locs → lv_has ls 7 [(0, .ref o), (1, .int x1), (2, .int x2), (3, .int x3), (4, .int x4), (5, .int x5)] → W p l e rm_X11_separate s m args below meth c H locs 0 0 Q (F0 m 45 ls []) := by
  intro H locs ls Z hl
  have hx := X.1.1
  have hb := X.1.2.1
  unfold b_X11_separate_45 at h
  refine lv_iload hx hb dX11_separate_45 (lv_at hl 5 rfl) ?_
  refine lv_iload_n hx hb dX11_separate_47 rfl (lv_at hl 3 rfl) ?_
  refine lv_icmp_ge (tgt := 125) hx hb dX11_separate_48 (by decide) (fun cnd => ?_) (fun cnd => ?_)
  · replace h := ifp h cnd
    obtain rfl := Option.some.inj h
    exact (sk_r (sk_r K)) H locs ls Z (lv_sub hl [0, 1, 2, 3, 4] rfl)
  · replace h := ifn h cnd
    refine lv_aload_n hx hb dX11_separate_51 rfl (lv_at hl 0 rfl) ?_
    refine x_getO X Z 0 6 (v := .ref (d 6)) rfl rfl lk_X11_separate_X11_candidate dX11_separate_52 ?_
    refine lv_iload hx hb dX11_separate_55 (lv_at hl 4 rfl) ?_
    refine lv_iload hx hb dX11_separate_57 (lv_at hl 5 rfl) ?_
    refine lv_aload_n hx hb dX11_separate_59 rfl (lv_at hl 0 rfl) ?_
    refine x_getO X Z 0 0 (v := .ref (d 0)) rfl rfl lk_X11_separate_X11_now dX11_separate_60 ?_
    refine x_getO X Z 3 0 (v := .int now_letters_) rfl rfl lk_X11_separate_X5_letters dX11_separate_63 ?_
    obtain ⟨u1, hc2, h⟩ := ob_some h
    refine x_runVv (RW' := (RW_X11_separate cy o q_W_106 q_now_words_L1 q_now_words_L2 d d_W_106 d_now_words_L1 d_now_words_L2 d_now d_candidate mono W_106_size_ u1.1 W_106_letters_ u1.2 candidate_ways_)) (wr := [(q_W_106, ob 8 (oX9 d_W_106 W_106_size_)), ((d_W_106 0), aI cy 12 W_106_letters_), ((d_candidate 2), aI cy 13 candidate_ways_)]) (isC := [1, 3]) (isR := [0, 2, 4]) (isF := [0, 3, 1, 4, 2]) (rest := []) (As := [.int x4, .int x5, .int now_letters_]) (n := 3) X Z (c_X9_setListed l D cy (d 6) d_candidate candidate_size_ candidate_letters_ x4 x5 now_letters_ u1 hc2) gX11_separate_X9_setListed rfl (by decide +kernel) ⟨Nat.le_of_ble_eq_true rfl, Nat.le_of_ble_eq_true rfl⟩ ⟨rfl, rfl⟩ ⟨Nat.le_of_ble_eq_true rfl, Nat.le_of_ble_eq_true rfl⟩ (x_rv X Z 1 rfl rfl) ⟨rfl, rfl, roN, rfl, rfl, by decide⟩ ⟨rfl, rfl⟩ rfl hl.1 rfl (Nat.le_of_ble_eq_true rfl) dX11_separate_66 (fun H locs Z => ?_)
    refine lv_aload_n hx hb dX11_separate_69 rfl (lv_at hl 0 rfl) ?_
    refine x_getO X Z 0 6 (v := .ref (d 6)) rfl rfl lk_X11_separate_X11_candidate dX11_separate_70 ?_
    refine lv_aload_n hx hb dX11_separate_73 rfl (lv_at hl 0 rfl) ?_
    refine x_getO X Z 0 0 (v := .ref (d 0)) rfl rfl lk_X11_separate_X11_now dX11_separate_74 ?_
    refine x_getO X Z 3 1 (v := .ref (d_now 1)) rfl rfl lk_X11_separate_X5_words dX11_separate_77 ?_
    refine lv_iload_n hx hb dX11_separate_80 rfl (lv_at hl 1 rfl) ?_
    obtain ⟨hin3, r4, hv5, h⟩ := ld_b h
    obtain ⟨ha6, h⟩ := as_b h
    refine x_raldO X Z 6 5 rfl rfl hin3 hv5 ha6 dX11_separate_81 ?_
    refine lv_aload_n hx hb dX11_separate_82 rfl (lv_at hl 0 rfl) ?_
    refine x_getO X Z 0 0 (v := .ref (d 0)) rfl rfl lk_X11_separate_X11_now dX11_separate_83 ?_
    refine x_getO X Z 3 1 (v := .ref (d_now 1)) rfl rfl lk_X11_separate_X5_words dX11_separate_86 ?_
    refine lv_iload_n hx hb dX11_separate_89 rfl (lv_at hl 2 rfl) ?_
    obtain ⟨hin7, r8, hv9, h⟩ := ld_b h
    obtain ⟨ha10, h⟩ := as_b h
    refine x_raldO X Z 6 5 rfl rfl hin7 hv9 ha10 dX11_separate_90 ?_
    obtain ⟨u11, hc12, h⟩ := ob_some h
    refine x_runSi (RW' := (RW_X11_separate cy o q_W_106 q_now_words_L1 q_now_words_L2 d d_W_106 d_now_words_L1 d_now_words_L2 d_now d_candidate mono W_106_size_ u1.1 W_106_letters_ u1.2 u11.2)) (wr := [(q_W_106, ob 8 (oX9 d_W_106 W_106_size_)), ((d 6), ob 8 (oX9 d_candidate u1.1)), ((d_W_106 0), aI cy 12 W_106_letters_), ((d_candidate 0), aI cy 12 u1.2)]) (isC := [4]) (isR := [0, 1, 2, 3]) (isF := [0, 1, 2, 3, 4]) (rest := []) (As := [.ref (d 6), .ref q_now_words_L1, .ref q_now_words_L2]) (n := 3) X Z (c_X11_separatingModulus l D cy (d 6) q_now_words_L1 q_now_words_L2 d_candidate d_now_words_L1 d_now_words_L2 u1.1 now_words_L1_size_ now_words_L2_size_ u1.2 now_words_L1_letters_ now_words_L2_letters_ candidate_ways_ u11 hc12) gX11_separate_X11_separatingModulus rfl (by decide +kernel) ⟨Nat.le_of_ble_eq_true rfl, Nat.le_of_ble_eq_true rfl⟩ ⟨rfl, rfl⟩ ⟨Nat.le_of_ble_eq_true rfl, Nat.le_of_ble_eq_true rfl⟩ ⟨rfl, rfl, (roC (Or.inl (mem_at 1 rfl)) (roC (Or.inr (mem_at 1 rfl)) (roC (Or.inr (mem_at 2 rfl)) (roC (Or.inl (mem_at 3 rfl)) (roC (Or.inr (mem_at 4 rfl)) (roC (Or.inr (mem_at 5 rfl)) roN)))))), rfl, rfl, by decide⟩ ⟨rfl, rfl⟩ rfl hl.1 rfl (Nat.le_of_ble_eq_true rfl) dX11_separate_91 (fun H locs Z => ?_)
    refine lv_istore (lv' := [(6, .int u11.1), (0, .ref o), (1, .int x1), (2, .int x2), (3, .int x3), (4, .int x4), (5, .int x5)]) hx hb dX11_separate_94 hl (by decide) rfl (fun ls hl => ?_)
    refine lv_iload hx hb dX11_separate_96 (lv_at hl 0 rfl) ?_
    refine lv_bipush (v := (-2 : Int32)) hx hb dX11_separate_98 (by decide) ?_
    refine lv_icmp_eq (tgt := 119) hx hb dX11_separate_100 (by decide) (fun cnd => ?_) (fun cnd => ?_)
    · replace h := ifp h cnd
      refine lv_iinc (v := (x5 + (1 : Int32))) (lv' := [(5, .int (x5 + (1 : Int32))), (6, .int u11.1), (0, .ref o), (1, .int x1), (2, .int x2), (3, .int x3), (4, .int x4)]) hx hb dX11_separate_119 hl (k := 6) rfl rfl (by decide) rfl (fun ls hl => ?_)
      refine lv_goto (tgt := 45) hx hb dX11_separate_122 (by decide) ?_
      obtain rfl := Option.some.inj h
      exact sk_l K H locs ls Z (lv_sub hl [2, 3, 4, 5, 6, 0] rfl)
    · replace h := ifn h cnd
      obtain rfl := Option.some.inj h
      exact (sk_l (sk_r K)) H locs ls Z (lv_sub hl [1, 2, 3, 0] rfl)
set_option maxHeartbeats 4000000 in
set_option maxRecDepth 100000 in
theorem wl_X11_separate_45 {p : Program} {l : Launch} {e : Env} {s : State} {m : MethodId} {args : Array Value} {below : List Frame} {meth : Method} {c : Code} {A : Nat → Prop} {Q : State → Prop} {D : va_G} {cy : Nat → ClassId} (o : Nat) (q_W_106 : Nat) (q_now_words_L1 : Nat) (q_now_words_L2 : Nat) (d : Nat → Nat) (d_W_106 : Nat → Nat) (d_now_words_L1 : Nat → Nat) (d_now_words_L2 : Nat → Nat) (d_now : Nat → Nat) (d_candidate : Nat → Nat) (mono : Value) (snapshotTaken_ : Int32) (inputLength_ : Int32) (now_words_L1_size_ : Int32) (now_words_L2_size_ : Int32) (now_letters_ : Int32) (now_words_L1_letters_ : Nat → Int32) (now_words_L2_letters_ : Nat → Int32) (now_words_ : Nat → Option Nat) (W_106_size_ : Int32) (W_106_letters_ : Nat → Int32) (x1 : Int32) (x2 : Int32) (x3 : Int32) (x4 : Int32) (n : Nat) (v : Int32 × (Nat → Int32) × (Nat → Int32) × Int32) (x : (Int32 × (Nat → Int32) × (Nat → Int32) × Int32) ⊕ (Int32 × (Nat → Int32) × (Nat → Int32))) (X : Cx p m c cX11_separate 7 s args wsX11_separate RX11 A D cy (RO_X11_separate cy o q_W_106 q_now_words_L1 q_now_words_L2 d d_W_106 d_now_words_L1 d_now_words_L2 d_now d_candidate mono snapshotTaken_ inputLength_ now_words_L1_size_ now_words_L2_size_ now_letters_ now_words_L1_letters_ now_words_L2_letters_ now_words_)) (h : loopN (fun v => b_X11_separate_45 q_W_106 d q_now_words_L1 q_now_words_L2 now_words_L1_size_ now_words_L2_size_ now_letters_ now_words_L1_letters_ now_words_L2_letters_ now_words_ x1 x2 x3 x4 v.1 v.2.1 v.2.2.1 v.2.2.2) n v = some x) (K : Sum.elim (fun w : Int32 × (Nat → Int32) × (Nat → Int32) × Int32 => ∀ (H : Heap) (locs : List Loc) (ls : Array Slot), St A D s (RW_X11_separate cy o q_W_106 q_now_words_L1 q_now_words_L2 d d_W_106 d_now_words_L1 d_now_words_L2 d_now d_candidate mono W_106_size_ w.1 W_106_letters_ w.2.1 w.2.2.1) H locs → lv_has ls 7 [(0, .ref o), (1, .int x1), (2, .int x2), (6, .int w.2.2.2)] → W p l e rm_X11_separate s m args below meth c H locs 0 0 Q (F0 m 103 ls [])) (fun w => ∀ (H : Heap) (locs : List Loc) (ls : Array Slot), St A D s (RW_X11_separate cy o q_W_106 q_now_words_L1 q_now_words_L2 d d_W_106 d_now_words_L1 d_now_words_L2 d_now d_candidate mono W_106_size_ w.1 W_106_letters_ w.2.1 w.2.2) H locs → lv_has ls 7 [(0, .ref o), (1, .int x1), (2, .int x2), (3, .int x3), (4, .int x4)] → W p l e rm_X11_separate s m args below meth c H locs 0 0 Q (F0 m 125 ls [])) x) : ∀ (H : Heap) (locs : List Loc) (ls : Array Slot), St A D s (RW_X11_separate cy o q_W_106 q_now_words_L1 q_now_words_L2 d d_W_106 d_now_words_L1 d_now_words_L2 d_now d_candidate mono W_106_size_ v.1 W_106_letters_ v.2.1 v.2.2.1) H locs → lv_has ls 7 [(0, .ref o), (1, .int x1), (2, .int x2), (3, .int x3), (4, .int x4), (5, .int v.2.2.2)] → W p l e rm_X11_separate s m args below meth c H locs 0 0 Q (F0 m 45 ls []) :=
  loop_gen (B := (fun v => b_X11_separate_45 q_W_106 d q_now_words_L1 q_now_words_L2 now_words_L1_size_ now_words_L2_size_ now_letters_ now_words_L1_letters_ now_words_L2_letters_ now_words_ x1 x2 x3 x4 v.1 v.2.1 v.2.2.1 v.2.2.2)) (Head := fun v : Int32 × (Nat → Int32) × (Nat → Int32) × Int32 => ∀ (H : Heap) (locs : List Loc) (ls : Array Slot), St A D s (RW_X11_separate cy o q_W_106 q_now_words_L1 q_now_words_L2 d d_W_106 d_now_words_L1 d_now_words_L2 d_now d_candidate mono W_106_size_ v.1 W_106_letters_ v.2.1 v.2.2.1) H locs → lv_has ls 7 [(0, .ref o), (1, .int x1), (2, .int x2), (3, .int x3), (4, .int x4), (5, .int v.2.2.2)] → W p l e rm_X11_separate s m args below meth c H locs 0 0 Q (F0 m 45 ls [])) (Exit := fun v : (Int32 × (Nat → Int32) × (Nat → Int32) × Int32) ⊕ (Int32 × (Nat → Int32) × (Nat → Int32)) => Sum.elim (fun w : Int32 × (Nat → Int32) × (Nat → Int32) × Int32 => ∀ (H : Heap) (locs : List Loc) (ls : Array Slot), St A D s (RW_X11_separate cy o q_W_106 q_now_words_L1 q_now_words_L2 d d_W_106 d_now_words_L1 d_now_words_L2 d_now d_candidate mono W_106_size_ w.1 W_106_letters_ w.2.1 w.2.2.1) H locs → lv_has ls 7 [(0, .ref o), (1, .int x1), (2, .int x2), (6, .int w.2.2.2)] → W p l e rm_X11_separate s m args below meth c H locs 0 0 Q (F0 m 103 ls [])) (fun w => ∀ (H : Heap) (locs : List Loc) (ls : Array Slot), St A D s (RW_X11_separate cy o q_W_106 q_now_words_L1 q_now_words_L2 d d_W_106 d_now_words_L1 d_now_words_L2 d_now d_candidate mono W_106_size_ w.1 W_106_letters_ w.2.1 w.2.2) H locs → lv_has ls 7 [(0, .ref o), (1, .int x1), (2, .int x2), (3, .int x3), (4, .int x4)] → W p l e rm_X11_separate s m args below meth c H locs 0 0 Q (F0 m 125 ls [])) v) (fun v o9 hb1 K1 => wb_X11_separate_45 o q_W_106 q_now_words_L1 q_now_words_L2 d d_W_106 d_now_words_L1 d_now_words_L2 d_now d_candidate mono snapshotTaken_ inputLength_ now_words_L1_size_ now_words_L2_size_ now_letters_ now_words_L1_letters_ now_words_L2_letters_ now_words_ W_106_size_ W_106_letters_ x1 x2 x3 x4 v.1 v.2.1 v.2.2.1 v.2.2.2 o9 X hb1 K1) n v x h K
def b_X11_separate_26 (q_W_106 : Nat) (d : Nat → Nat) (q_now_words_L1 : Nat) (q_now_words_L2 : Nat) (now_words_L1_size_ : Int32) (now_words_L2_size_ : Int32) (now_letters_ : Int32) (now_words_L1_letters_ : Nat → Int32) (now_words_L2_letters_ : Nat → Int32) (now_words_ : Nat → Option Nat) (x1 : Int32) (x2 : Int32) (candidate_size_ : Int32) (candidate_letters_ : Nat → Int32) (candidate_ways_ : Nat → Int32) (x3 : Int32) (x4 : Int32) : Option ((Int32 × (Nat → Int32) × (Nat → Int32) × Int32 × Int32) ⊕ ((Int32 × (Nat → Int32) × (Nat → Int32) × Int32) ⊕ (Int32 × (Nat → Int32) × (Nat → Int32)))) :=
  if (4 : Int32) < x4 then
  (some (.inr (.inr (candidate_size_, candidate_letters_, candidate_ways_))))
  else
  ((loopN (fun v => b_X11_separate_45 q_W_106 d q_now_words_L1 q_now_words_L2 now_words_L1_size_ now_words_L2_size_ now_letters_ now_words_L1_letters_ now_words_L2_letters_ now_words_ x1 x2 (x3 * now_letters_) x4 v.1 v.2.1 v.2.2.1 v.2.2.2) FU (candidate_size_, candidate_letters_, candidate_ways_, (0 : Int32))).bind (fun u13 =>
  Sum.elim (fun u13 =>
  some (.inr (.inl (u13.1, u13.2.1, u13.2.2.1, u13.2.2.2)))) (fun u13 =>
  some (.inl (u13.1, u13.2.1, u13.2.2, (x3 * now_letters_), (x4 + (1 : Int32))))) u13))
set_option maxHeartbeats 4000000 in
set_option maxRecDepth 100000 in
theorem wb_X11_separate_26 {p : Program} {l : Launch} {e : Env} {s : State} {m : MethodId} {args : Array Value} {below : List Frame} {meth : Method} {c : Code} {A : Nat → Prop} {Q : State → Prop} {D : va_G} {cy : Nat → ClassId} (o : Nat) (q_W_106 : Nat) (q_now_words_L1 : Nat) (q_now_words_L2 : Nat) (d : Nat → Nat) (d_W_106 : Nat → Nat) (d_now_words_L1 : Nat → Nat) (d_now_words_L2 : Nat → Nat) (d_now : Nat → Nat) (d_candidate : Nat → Nat) (mono : Value) (snapshotTaken_ : Int32) (inputLength_ : Int32) (now_words_L1_size_ : Int32) (now_words_L2_size_ : Int32) (now_letters_ : Int32) (now_words_L1_letters_ : Nat → Int32) (now_words_L2_letters_ : Nat → Int32) (now_words_ : Nat → Option Nat) (W_106_size_ : Int32) (W_106_letters_ : Nat → Int32) (x1 : Int32) (x2 : Int32) (candidate_size_ : Int32) (candidate_letters_ : Nat → Int32) (candidate_ways_ : Nat → Int32) (x3 : Int32) (x4 : Int32) (o1 : (Int32 × (Nat → Int32) × (Nat → Int32) × Int32 × Int32) ⊕ ((Int32 × (Nat → Int32) × (Nat → Int32) × Int32) ⊕ (Int32 × (Nat → Int32) × (Nat → Int32)))) (X : Cx p m c cX11_separate 7 s args wsX11_separate RX11 A D cy (RO_X11_separate cy o q_W_106 q_now_words_L1 q_now_words_L2 d d_W_106 d_now_words_L1 d_now_words_L2 d_now d_candidate mono snapshotTaken_ inputLength_ now_words_L1_size_ now_words_L2_size_ now_letters_ now_words_L1_letters_ now_words_L2_letters_ now_words_)) (h : b_X11_separate_26 q_W_106 d q_now_words_L1 q_now_words_L2 now_words_L1_size_ now_words_L2_size_ now_letters_ now_words_L1_letters_ now_words_L2_letters_ now_words_ x1 x2 candidate_size_ candidate_letters_ candidate_ways_ x3 x4 = some o1) (K : Sum.elim (fun v : Int32 × (Nat → Int32) × (Nat → Int32) × Int32 × Int32 => ∀ (H : Heap) (locs : List Loc) (ls : Array Slot), St A D s (RW_X11_separate cy o q_W_106 q_now_words_L1 q_now_words_L2 d d_W_106 d_now_words_L1 d_now_words_L2 d_now d_candidate mono W_106_size_ v.1 W_106_letters_ v.2.1 v.2.2.1) H locs → lv_has ls 7 [(0, .ref o), (1, .int x1), (2, .int x2), (3, .int v.2.2.2.1), (4, .int v.2.2.2.2)] → W p l e rm_X11_separate s m args below meth c H locs 0 0 Q (F0 m 26 ls [])) (fun v : (Int32 × (Nat → Int32) × (Nat → Int32) × Int32) ⊕ (Int32 × (Nat → Int32) × (Nat → Int32)) => Sum.elim (fun w : Int32 × (Nat → Int32) × (Nat → Int32) × Int32 => ∀ (H : Heap) (locs : List Loc) (ls : Array Slot), St A D s (RW_X11_separate cy o q_W_106 q_now_words_L1 q_now_words_L2 d d_W_106 d_now_words_L1 d_now_words_L2 d_now d_candidate mono W_106_size_ w.1 W_106_letters_ w.2.1 w.2.2.1) H locs → lv_has ls 7 [(0, .ref o), (1, .int x1), (2, .int x2), (6, .int w.2.2.2)] → W p l e rm_X11_separate s m args below meth c H locs 0 0 Q (F0 m 103 ls [])) (fun w => ∀ (H : Heap) (locs : List Loc) (ls : Array Slot), St A D s (RW_X11_separate cy o q_W_106 q_now_words_L1 q_now_words_L2 d d_W_106 d_now_words_L1 d_now_words_L2 d_now d_candidate mono W_106_size_ w.1 W_106_letters_ w.2.1 w.2.2) H locs → lv_has ls 7 [] → W p l e rm_X11_separate s m args below meth c H locs 0 0 Q (F0 m 131 ls [])) v) o1) : ∀ (H : Heap) (locs : List Loc) (ls : Array Slot), St A D s (RW_X11_separate cy o q_W_106 q_now_words_L1 q_now_words_L2 d d_W_106 d_now_words_L1 d_now_words_L2 d_now d_candidate mono W_106_size_ candidate_size_ W_106_letters_ candidate_letters_ candidate_ways_) H locs → lv_has ls 7 [(0, .ref o), (1, .int x1), (2, .int x2), (3, .int x3), (4, .int x4)] → W p l e rm_X11_separate s m args below meth c H locs 0 0 Q (F0 m 26 ls []) := by
  intro H locs ls Z hl
  have hx := X.1.1
  have hb := X.1.2.1
  unfold b_X11_separate_26 at h
  refine lv_iload hx hb dX11_separate_26 (lv_at hl 4 rfl) ?_
  refine lv_iconst (v := (4 : Int32)) hx hb dX11_separate_28 (by decide) ?_
  refine lv_icmp_gt (tgt := 131) hx hb dX11_separate_29 (by decide) (fun cnd => ?_) (fun cnd => ?_)
  · replace h := ifp h cnd
    obtain rfl := Option.some.inj h
    exact (sk_r (sk_r K)) H locs ls Z (lv_sub hl [] rfl)
  · replace h := ifn h cnd
    refine lv_iload_n hx hb dX11_separate_32 rfl (lv_at hl 3 rfl) ?_
    refine lv_aload_n hx hb dX11_separate_33 rfl (lv_at hl 0 rfl) ?_
    refine x_getO X Z 0 0 (v := .ref (d 0)) rfl rfl lk_X11_separate_X11_now dX11_separate_34 ?_
    refine x_getO X Z 3 0 (v := .int now_letters_) rfl rfl lk_X11_separate_X5_letters dX11_separate_37 ?_
    refine lv_imul hx hb dX11_separate_40 ?_
    refine lv_istore_n (lv' := [(3, .int (x3 * now_letters_)), (0, .ref o), (1, .int x1), (2, .int x2), (4, .int x4)]) hx hb dX11_separate_41 rfl hl (by decide) rfl (fun ls hl => ?_)
    refine lv_iconst (v := (0 : Int32)) hx hb dX11_separate_42 (by decide) ?_
    refine lv_istore (lv' := [(5, .int (0 : Int32)), (3, .int (x3 * now_letters_)), (0, .ref o), (1, .int x1), (2, .int x2), (4, .int x4)]) hx hb dX11_separate_43 hl (by decide) rfl (fun ls hl => ?_)
    obtain ⟨u13, hL14, h⟩ := ob_some h
    rcases u13 with u13 | u13
    · replace h := se_l h
      refine wl_X11_separate_45 o q_W_106 q_now_words_L1 q_now_words_L2 d d_W_106 d_now_words_L1 d_now_words_L2 d_now d_candidate mono snapshotTaken_ inputLength_ now_words_L1_size_ now_words_L2_size_ now_letters_ now_words_L1_letters_ now_words_L2_letters_ now_words_ W_106_size_ W_106_letters_ x1 x2 (x3 * now_letters_) x4 FU (candidate_size_, candidate_letters_, candidate_ways_, (0 : Int32)) (.inl u13) X hL14 (sk_li (fun H locs ls Z hl => ?_)) H locs ls Z (lv_sub hl [2, 3, 4, 1, 5, 0] rfl)
      obtain rfl := Option.some.inj h
      exact (sk_l (sk_r K)) H locs ls Z (lv_sub hl [0, 1, 2, 3] rfl)
    · replace h := se_r h
      refine wl_X11_separate_45 o q_W_106 q_now_words_L1 q_now_words_L2 d d_W_106 d_now_words_L1 d_now_words_L2 d_now d_candidate mono snapshotTaken_ inputLength_ now_words_L1_size_ now_words_L2_size_ now_letters_ now_words_L1_letters_ now_words_L2_letters_ now_words_ W_106_size_ W_106_letters_ x1 x2 (x3 * now_letters_) x4 FU (candidate_size_, candidate_letters_, candidate_ways_, (0 : Int32)) (.inr u13) X hL14 (sk_ri (fun H locs ls Z hl => ?_)) H locs ls Z (lv_sub hl [2, 3, 4, 1, 5, 0] rfl)
      refine lv_iinc (v := (x4 + (1 : Int32))) (lv' := [(4, .int (x4 + (1 : Int32))), (0, .ref o), (1, .int x1), (2, .int x2), (3, .int (x3 * now_letters_))]) hx hb dX11_separate_125 hl (k := 4) rfl rfl (by decide) rfl (fun ls hl => ?_)
      refine lv_goto (tgt := 26) hx hb dX11_separate_128 (by decide) ?_
      obtain rfl := Option.some.inj h
      exact sk_l K H locs ls Z (lv_sub hl [1, 2, 3, 4, 0] rfl)
set_option maxHeartbeats 4000000 in
set_option maxRecDepth 100000 in
theorem wl_X11_separate_26 {p : Program} {l : Launch} {e : Env} {s : State} {m : MethodId} {args : Array Value} {below : List Frame} {meth : Method} {c : Code} {A : Nat → Prop} {Q : State → Prop} {D : va_G} {cy : Nat → ClassId} (o : Nat) (q_W_106 : Nat) (q_now_words_L1 : Nat) (q_now_words_L2 : Nat) (d : Nat → Nat) (d_W_106 : Nat → Nat) (d_now_words_L1 : Nat → Nat) (d_now_words_L2 : Nat → Nat) (d_now : Nat → Nat) (d_candidate : Nat → Nat) (mono : Value) (snapshotTaken_ : Int32) (inputLength_ : Int32) (now_words_L1_size_ : Int32) (now_words_L2_size_ : Int32) (now_letters_ : Int32) (now_words_L1_letters_ : Nat → Int32) (now_words_L2_letters_ : Nat → Int32) (now_words_ : Nat → Option Nat) (W_106_size_ : Int32) (W_106_letters_ : Nat → Int32) (x1 : Int32) (x2 : Int32) (n : Nat) (v : Int32 × (Nat → Int32) × (Nat → Int32) × Int32 × Int32) (x : (Int32 × (Nat → Int32) × (Nat → Int32) × Int32) ⊕ (Int32 × (Nat → Int32) × (Nat → Int32))) (X : Cx p m c cX11_separate 7 s args wsX11_separate RX11 A D cy (RO_X11_separate cy o q_W_106 q_now_words_L1 q_now_words_L2 d d_W_106 d_now_words_L1 d_now_words_L2 d_now d_candidate mono snapshotTaken_ inputLength_ now_words_L1_size_ now_words_L2_size_ now_letters_ now_words_L1_letters_ now_words_L2_letters_ now_words_)) (h : loopN (fun v => b_X11_separate_26 q_W_106 d q_now_words_L1 q_now_words_L2 now_words_L1_size_ now_words_L2_size_ now_letters_ now_words_L1_letters_ now_words_L2_letters_ now_words_ x1 x2 v.1 v.2.1 v.2.2.1 v.2.2.2.1 v.2.2.2.2) n v = some x) (K : Sum.elim (fun w : Int32 × (Nat → Int32) × (Nat → Int32) × Int32 => ∀ (H : Heap) (locs : List Loc) (ls : Array Slot), St A D s (RW_X11_separate cy o q_W_106 q_now_words_L1 q_now_words_L2 d d_W_106 d_now_words_L1 d_now_words_L2 d_now d_candidate mono W_106_size_ w.1 W_106_letters_ w.2.1 w.2.2.1) H locs → lv_has ls 7 [(0, .ref o), (1, .int x1), (2, .int x2), (6, .int w.2.2.2)] → W p l e rm_X11_separate s m args below meth c H locs 0 0 Q (F0 m 103 ls [])) (fun w => ∀ (H : Heap) (locs : List Loc) (ls : Array Slot), St A D s (RW_X11_separate cy o q_W_106 q_now_words_L1 q_now_words_L2 d d_W_106 d_now_words_L1 d_now_words_L2 d_now d_candidate mono W_106_size_ w.1 W_106_letters_ w.2.1 w.2.2) H locs → lv_has ls 7 [] → W p l e rm_X11_separate s m args below meth c H locs 0 0 Q (F0 m 131 ls [])) x) : ∀ (H : Heap) (locs : List Loc) (ls : Array Slot), St A D s (RW_X11_separate cy o q_W_106 q_now_words_L1 q_now_words_L2 d d_W_106 d_now_words_L1 d_now_words_L2 d_now d_candidate mono W_106_size_ v.1 W_106_letters_ v.2.1 v.2.2.1) H locs → lv_has ls 7 [(0, .ref o), (1, .int x1), (2, .int x2), (3, .int v.2.2.2.1), (4, .int v.2.2.2.2)] → W p l e rm_X11_separate s m args below meth c H locs 0 0 Q (F0 m 26 ls []) :=
  loop_gen (B := (fun v => b_X11_separate_26 q_W_106 d q_now_words_L1 q_now_words_L2 now_words_L1_size_ now_words_L2_size_ now_letters_ now_words_L1_letters_ now_words_L2_letters_ now_words_ x1 x2 v.1 v.2.1 v.2.2.1 v.2.2.2.1 v.2.2.2.2)) (Head := fun v : Int32 × (Nat → Int32) × (Nat → Int32) × Int32 × Int32 => ∀ (H : Heap) (locs : List Loc) (ls : Array Slot), St A D s (RW_X11_separate cy o q_W_106 q_now_words_L1 q_now_words_L2 d d_W_106 d_now_words_L1 d_now_words_L2 d_now d_candidate mono W_106_size_ v.1 W_106_letters_ v.2.1 v.2.2.1) H locs → lv_has ls 7 [(0, .ref o), (1, .int x1), (2, .int x2), (3, .int v.2.2.2.1), (4, .int v.2.2.2.2)] → W p l e rm_X11_separate s m args below meth c H locs 0 0 Q (F0 m 26 ls [])) (Exit := fun v : (Int32 × (Nat → Int32) × (Nat → Int32) × Int32) ⊕ (Int32 × (Nat → Int32) × (Nat → Int32)) => Sum.elim (fun w : Int32 × (Nat → Int32) × (Nat → Int32) × Int32 => ∀ (H : Heap) (locs : List Loc) (ls : Array Slot), St A D s (RW_X11_separate cy o q_W_106 q_now_words_L1 q_now_words_L2 d d_W_106 d_now_words_L1 d_now_words_L2 d_now d_candidate mono W_106_size_ w.1 W_106_letters_ w.2.1 w.2.2.1) H locs → lv_has ls 7 [(0, .ref o), (1, .int x1), (2, .int x2), (6, .int w.2.2.2)] → W p l e rm_X11_separate s m args below meth c H locs 0 0 Q (F0 m 103 ls [])) (fun w => ∀ (H : Heap) (locs : List Loc) (ls : Array Slot), St A D s (RW_X11_separate cy o q_W_106 q_now_words_L1 q_now_words_L2 d d_W_106 d_now_words_L1 d_now_words_L2 d_now d_candidate mono W_106_size_ w.1 W_106_letters_ w.2.1 w.2.2) H locs → lv_has ls 7 [] → W p l e rm_X11_separate s m args below meth c H locs 0 0 Q (F0 m 131 ls [])) v) (fun v o9 hb1 K1 => wb_X11_separate_26 o q_W_106 q_now_words_L1 q_now_words_L2 d d_W_106 d_now_words_L1 d_now_words_L2 d_now d_candidate mono snapshotTaken_ inputLength_ now_words_L1_size_ now_words_L2_size_ now_letters_ now_words_L1_letters_ now_words_L2_letters_ now_words_ W_106_size_ W_106_letters_ x1 x2 v.1 v.2.1 v.2.2.1 v.2.2.2.1 v.2.2.2.2 o9 X hb1 K1) n v x h K
def f_X11_separate (x1 : Int32) (x2 : Int32) (q_W_106 : Nat) (d : Nat → Nat) (q_now_words_L1 : Nat) (q_now_words_L2 : Nat) (now_words_L1_size_ : Int32) (now_words_L2_size_ : Int32) (now_letters_ : Int32) (now_words_L1_letters_ : Nat → Int32) (now_words_L2_letters_ : Nat → Int32) (now_words_ : Nat → Option Nat) (W_106_size_ : Int32) (candidate_size_ : Int32) (W_106_letters_ : Nat → Int32) (candidate_letters_ : Nat → Int32) (candidate_ways_ : Nat → Int32) : Option (Int32 × Int32 × Int32 × (Nat → Int32) × (Nat → Int32) × (Nat → Int32)) :=
  (f_X11_isWord x1).bind (fun u15 =>
  if u15 = 0 then
  (some ((-1 : Int32), W_106_size_, candidate_size_, W_106_letters_, candidate_letters_, candidate_ways_))
  else
  ((f_X11_isWord x2).bind (fun u17 =>
  if u17 = 0 then
  (some ((-1 : Int32), W_106_size_, candidate_size_, W_106_letters_, candidate_letters_, candidate_ways_))
  else
  (if x1 = x2 then
  (some ((-1 : Int32), W_106_size_, candidate_size_, W_106_letters_, candidate_letters_, candidate_ways_))
  else
  ((loopN (fun v => b_X11_separate_26 q_W_106 d q_now_words_L1 q_now_words_L2 now_words_L1_size_ now_words_L2_size_ now_letters_ now_words_L1_letters_ now_words_L2_letters_ now_words_ x1 x2 v.1 v.2.1 v.2.2.1 v.2.2.2.1 v.2.2.2.2) FU (candidate_size_, candidate_letters_, candidate_ways_, (1 : Int32), (1 : Int32))).bind (fun u19 =>
  Sum.elim (fun u19 =>
  (f_X11_thirdWord x1 x2 d now_words_).bind (fun u21 =>
  asR (some u21) q_W_106 (
  (f_X9_copyFrom u19.1 u19.2.1 W_106_size_ W_106_letters_).bind (fun u24 =>
  some (u19.2.2.2, u24.1, u19.1, u24.2, u19.2.1, u19.2.2.1))))) (fun u19 =>
  some ((-2 : Int32), W_106_size_, u19.1, W_106_letters_, u19.2.1, u19.2.2)) u19))))))
set_option maxHeartbeats 4000000 in
set_option maxRecDepth 100000 in
theorem wt_X11_separate {p : Program} {l : Launch} {e : Env} {s : State} {m : MethodId} {args : Array Value} {below : List Frame} {meth : Method} {c : Code} {A : Nat → Prop} {Q : State → Prop} {D : va_G} {cy : Nat → ClassId} (o : Nat) (q_W_106 : Nat) (q_now_words_L1 : Nat) (q_now_words_L2 : Nat) (d : Nat → Nat) (d_W_106 : Nat → Nat) (d_now_words_L1 : Nat → Nat) (d_now_words_L2 : Nat → Nat) (d_now : Nat → Nat) (d_candidate : Nat → Nat) (mono : Value) (snapshotTaken_ : Int32) (inputLength_ : Int32) (now_words_L1_size_ : Int32) (now_words_L2_size_ : Int32) (now_letters_ : Int32) (now_words_L1_letters_ : Nat → Int32) (now_words_L2_letters_ : Nat → Int32) (now_words_ : Nat → Option Nat) (W_106_size_ : Int32) (candidate_size_ : Int32) (W_106_letters_ : Nat → Int32) (candidate_letters_ : Nat → Int32) (candidate_ways_ : Nat → Int32) (x1 : Int32) (x2 : Int32) (out : Int32 × Int32 × Int32 × (Nat → Int32) × (Nat → Int32) × (Nat → Int32)) (X : Cx p m c cX11_separate 7 s args wsX11_separate RX11 A D cy (RO_X11_separate cy o q_W_106 q_now_words_L1 q_now_words_L2 d d_W_106 d_now_words_L1 d_now_words_L2 d_now d_candidate mono snapshotTaken_ inputLength_ now_words_L1_size_ now_words_L2_size_ now_letters_ now_words_L1_letters_ now_words_L2_letters_ now_words_)) (h : f_X11_separate x1 x2 q_W_106 d q_now_words_L1 q_now_words_L2 now_words_L1_size_ now_words_L2_size_ now_letters_ now_words_L1_letters_ now_words_L2_letters_ now_words_ W_106_size_ candidate_size_ W_106_letters_ candidate_letters_ candidate_ways_ = some out) (K : ∀ (H : Heap) (locs : List Loc) (ls : Array Slot) (pc : Nat), decode cX11_separate pc = .ok (.ireturn, 1) → St A D s (RW_X11_separate cy o q_W_106 q_now_words_L1 q_now_words_L2 d d_W_106 d_now_words_L1 d_now_words_L2 d_now d_candidate mono out.2.1 out.2.2.1 out.2.2.2.1 out.2.2.2.2.1 out.2.2.2.2.2) H locs → W p l e rm_X11_separate s m args below meth c H locs 0 0 Q (F0 m pc ls [.int out.1])) : ∀ (H : Heap) (locs : List Loc) (ls : Array Slot), St A D s (RW_X11_separate cy o q_W_106 q_now_words_L1 q_now_words_L2 d d_W_106 d_now_words_L1 d_now_words_L2 d_now d_candidate mono W_106_size_ candidate_size_ W_106_letters_ candidate_letters_ candidate_ways_) H locs → lv_has ls 7 [(0, .ref o), (1, .int x1), (2, .int x2)] → W p l e rm_X11_separate s m args below meth c H locs 0 0 Q (F0 m 0 ls []) := by
  intro H locs ls Z hl
  have hx := X.1.1
  have hb := X.1.2.1
  unfold f_X11_separate at h
  refine lv_iload_n hx hb dX11_separate_0 rfl (lv_at hl 1 rfl) ?_
  obtain ⟨u15, hc16, h⟩ := ob_some h
  refine x_runSi (RW' := (RW_X11_separate cy o q_W_106 q_now_words_L1 q_now_words_L2 d d_W_106 d_now_words_L1 d_now_words_L2 d_now d_candidate mono W_106_size_ candidate_size_ W_106_letters_ candidate_letters_ candidate_ways_)) (wr := [(q_W_106, ob 8 (oX9 d_W_106 W_106_size_)), ((d 6), ob 8 (oX9 d_candidate candidate_size_)), ((d_W_106 0), aI cy 12 W_106_letters_), ((d_candidate 0), aI cy 12 candidate_letters_), ((d_candidate 2), aI cy 13 candidate_ways_)]) (isC := []) (isR := [0, 1, 2, 3, 4]) (isF := [0, 1, 2, 3, 4]) (rest := []) (As := [.int x1]) (n := 1) X Z (c_X11_isWord l D cy x1 u15 hc16) gX11_separate_X11_isWord rfl (by decide +kernel) ⟨Nat.le_of_ble_eq_true rfl, Nat.le_of_ble_eq_true rfl⟩ ⟨rfl, rfl⟩ ⟨Nat.le_of_ble_eq_true rfl, Nat.le_of_ble_eq_true rfl⟩ ⟨rfl, rfl, roN, rfl, rfl, by decide⟩ ⟨rfl, rfl⟩ rfl hl.1 rfl (Nat.le_of_ble_eq_true rfl) dX11_separate_1 (fun H locs Z => ?_)
  refine lv_if_eq (tgt := 19) hx hb dX11_separate_4 (by decide) (fun cnd => ?_) (fun cnd => ?_)
  · replace h := ifp h cnd
    refine lv_iconst (v := (-1 : Int32)) hx hb dX11_separate_19 (by decide) ?_
    obtain rfl := Option.some.inj h
    exact K H locs ls _ dX11_separate_20 Z
  · replace h := ifn h cnd
    refine lv_iload_n hx hb dX11_separate_7 rfl (lv_at hl 2 rfl) ?_
    obtain ⟨u17, hc18, h⟩ := ob_some h
    refine x_runSi (RW' := (RW_X11_separate cy o q_W_106 q_now_words_L1 q_now_words_L2 d d_W_106 d_now_words_L1 d_now_words_L2 d_now d_candidate mono W_106_size_ candidate_size_ W_106_letters_ candidate_letters_ candidate_ways_)) (wr := [(q_W_106, ob 8 (oX9 d_W_106 W_106_size_)), ((d 6), ob 8 (oX9 d_candidate candidate_size_)), ((d_W_106 0), aI cy 12 W_106_letters_), ((d_candidate 0), aI cy 12 candidate_letters_), ((d_candidate 2), aI cy 13 candidate_ways_)]) (isC := []) (isR := [0, 1, 2, 3, 4]) (isF := [0, 1, 2, 3, 4]) (rest := []) (As := [.int x2]) (n := 1) X Z (c_X11_isWord l D cy x2 u17 hc18) gX11_separate_X11_isWord rfl (by decide +kernel) ⟨Nat.le_of_ble_eq_true rfl, Nat.le_of_ble_eq_true rfl⟩ ⟨rfl, rfl⟩ ⟨Nat.le_of_ble_eq_true rfl, Nat.le_of_ble_eq_true rfl⟩ ⟨rfl, rfl, roN, rfl, rfl, by decide⟩ ⟨rfl, rfl⟩ rfl hl.1 rfl (Nat.le_of_ble_eq_true rfl) dX11_separate_8 (fun H locs Z => ?_)
    refine lv_if_eq (tgt := 19) hx hb dX11_separate_11 (by decide) (fun cnd => ?_) (fun cnd => ?_)
    · replace h := ifp h cnd
      refine lv_iconst (v := (-1 : Int32)) hx hb dX11_separate_19 (by decide) ?_
      obtain rfl := Option.some.inj h
      exact K H locs ls _ dX11_separate_20 Z
    · replace h := ifn h cnd
      refine lv_iload_n hx hb dX11_separate_14 rfl (lv_at hl 1 rfl) ?_
      refine lv_iload_n hx hb dX11_separate_15 rfl (lv_at hl 2 rfl) ?_
      refine lv_icmp_ne (tgt := 21) hx hb dX11_separate_16 (by decide) (fun cnd => ?_) (fun cnd => ?_)
      · replace h := ifn h cnd
        refine lv_iconst (v := (1 : Int32)) hx hb dX11_separate_21 (by decide) ?_
        refine lv_istore_n (lv' := [(3, .int (1 : Int32)), (0, .ref o), (1, .int x1), (2, .int x2)]) hx hb dX11_separate_22 rfl hl (by decide) rfl (fun ls hl => ?_)
        refine lv_iconst (v := (1 : Int32)) hx hb dX11_separate_23 (by decide) ?_
        refine lv_istore (lv' := [(4, .int (1 : Int32)), (3, .int (1 : Int32)), (0, .ref o), (1, .int x1), (2, .int x2)]) hx hb dX11_separate_24 hl (by decide) rfl (fun ls hl => ?_)
        obtain ⟨u19, hL20, h⟩ := ob_some h
        rcases u19 with u19 | u19
        · replace h := se_l h
          refine wl_X11_separate_26 o q_W_106 q_now_words_L1 q_now_words_L2 d d_W_106 d_now_words_L1 d_now_words_L2 d_now d_candidate mono snapshotTaken_ inputLength_ now_words_L1_size_ now_words_L2_size_ now_letters_ now_words_L1_letters_ now_words_L2_letters_ now_words_ W_106_size_ W_106_letters_ x1 x2 FU (candidate_size_, candidate_letters_, candidate_ways_, (1 : Int32), (1 : Int32)) (.inl u19) X hL20 (sk_li (fun H locs ls Z hl => ?_)) H locs ls Z (lv_sub hl [2, 3, 4, 1, 0] rfl)
          refine lv_aload_n hx hb dX11_separate_103 rfl (lv_at hl 0 rfl) ?_
          refine lv_iload_n hx hb dX11_separate_104 rfl (lv_at hl 1 rfl) ?_
          refine lv_iload_n hx hb dX11_separate_105 rfl (lv_at hl 2 rfl) ?_
          obtain ⟨u21, hc22, h⟩ := ob_some h
          obtain ⟨ha23, h⟩ := as_b h
          refine x_runVr (RW' := (RW_X11_separate cy o q_W_106 q_now_words_L1 q_now_words_L2 d d_W_106 d_now_words_L1 d_now_words_L2 d_now d_candidate mono W_106_size_ u19.1 W_106_letters_ u19.2.1 u19.2.2.1)) (wr := [(q_W_106, ob 8 (oX9 d_W_106 W_106_size_)), ((d 6), ob 8 (oX9 d_candidate u19.1)), ((d_W_106 0), aI cy 12 W_106_letters_), ((d_candidate 0), aI cy 12 u19.2.1), ((d_candidate 2), aI cy 13 u19.2.2.1)]) (isC := []) (isR := [0, 1, 2, 3, 4]) (isF := [0, 1, 2, 3, 4]) (rest := []) (As := [.int x1, .int x2]) (n := 2) X Z (c_X11_thirdWord l D cy o d d_now d_candidate mono snapshotTaken_ inputLength_ now_letters_ now_words_ x1 x2 u21 hc22) gX11_separate_X11_thirdWord rfl (by decide +kernel) ⟨Nat.le_of_ble_eq_true rfl, Nat.le_of_ble_eq_true rfl⟩ ⟨rfl, rfl⟩ ⟨Nat.le_of_ble_eq_true rfl, Nat.le_of_ble_eq_true rfl⟩ (x_rvO X Z 0 rfl rfl) ⟨rfl, rfl, (roC (Or.inr (mem_at 0 rfl)) (roC (Or.inr (mem_at 3 rfl)) (roC (Or.inr (mem_at 6 rfl)) roN))), rfl, rfl, by decide⟩ ⟨rfl, rfl⟩ rfl hl.1 rfl (Nat.le_of_ble_eq_true rfl) dX11_separate_106 (fun H locs Z => ?_)
          rw [Option.some.inj ha23]
          refine lv_aload_n hx hb dX11_separate_109 rfl (lv_at hl 0 rfl) ?_
          refine x_getO X Z 0 6 (v := .ref (d 6)) rfl rfl lk_X11_separate_X11_candidate dX11_separate_110 ?_
          obtain ⟨u24, hc25, h⟩ := ob_some h
          refine x_runVv (RW' := (RW_X11_separate cy o q_W_106 q_now_words_L1 q_now_words_L2 d d_W_106 d_now_words_L1 d_now_words_L2 d_now d_candidate mono u24.1 u19.1 u24.2 u19.2.1 u19.2.2.1)) (wr := [((d 6), ob 8 (oX9 d_candidate u19.1)), ((d_candidate 2), aI cy 13 u19.2.2.1)]) (isC := [0, 2, 3]) (isR := [1, 4]) (isF := [2, 0, 3, 4, 1]) (rest := []) (As := [.ref (d 6)]) (n := 1) X Z (c_X9_copyFrom l D cy q_W_106 (d 6) d_W_106 d_candidate u19.1 W_106_size_ W_106_letters_ u19.2.1 u24 hc25) gX11_separate_X9_copyFrom rfl (by decide +kernel) ⟨Nat.le_of_ble_eq_true rfl, Nat.le_of_ble_eq_true rfl⟩ ⟨rfl, rfl⟩ ⟨Nat.le_of_ble_eq_true rfl, Nat.le_of_ble_eq_true rfl⟩ (x_rv X Z 0 rfl rfl) ⟨rfl, rfl, (roC (Or.inl (mem_at 0 rfl)) roN), rfl, rfl, by decide⟩ ⟨rfl, rfl⟩ rfl hl.1 rfl (Nat.le_of_ble_eq_true rfl) dX11_separate_113 (fun H locs Z => ?_)
          refine lv_iload hx hb dX11_separate_116 (lv_at hl 3 rfl) ?_
          obtain rfl := Option.some.inj h
          exact K H locs ls _ dX11_separate_118 Z
        · replace h := se_r h
          refine wl_X11_separate_26 o q_W_106 q_now_words_L1 q_now_words_L2 d d_W_106 d_now_words_L1 d_now_words_L2 d_now d_candidate mono snapshotTaken_ inputLength_ now_words_L1_size_ now_words_L2_size_ now_letters_ now_words_L1_letters_ now_words_L2_letters_ now_words_ W_106_size_ W_106_letters_ x1 x2 FU (candidate_size_, candidate_letters_, candidate_ways_, (1 : Int32), (1 : Int32)) (.inr u19) X hL20 (sk_ri (fun H locs ls Z hl => ?_)) H locs ls Z (lv_sub hl [2, 3, 4, 1, 0] rfl)
          refine lv_bipush (v := (-2 : Int32)) hx hb dX11_separate_131 (by decide) ?_
          obtain rfl := Option.some.inj h
          exact K H locs ls _ dX11_separate_133 Z
      · replace h := ifp h cnd
        refine lv_iconst (v := (-1 : Int32)) hx hb dX11_separate_19 (by decide) ?_
        obtain rfl := Option.some.inj h
        exact K H locs ls _ dX11_separate_20 Z
theorem c_X11_separate (l : Launch) (D : va_G) (cy : Nat → ClassId) (o : Nat) (q_W_106 : Nat) (q_now_words_L1 : Nat) (q_now_words_L2 : Nat) (d : Nat → Nat) (d_W_106 : Nat → Nat) (d_now_words_L1 : Nat → Nat) (d_now_words_L2 : Nat → Nat) (d_now : Nat → Nat) (d_candidate : Nat → Nat) (mono : Value) (snapshotTaken_ : Int32) (inputLength_ : Int32) (now_words_L1_size_ : Int32) (now_words_L2_size_ : Int32) (now_letters_ : Int32) (now_words_L1_letters_ : Nat → Int32) (now_words_L2_letters_ : Nat → Int32) (now_words_ : Nat → Option Nat) (W_106_size_ : Int32) (candidate_size_ : Int32) (W_106_letters_ : Nat → Int32) (candidate_letters_ : Nat → Int32) (candidate_ways_ : Nat → Int32) (x1 : Int32) (x2 : Int32) (out : Int32 × Int32 × Int32 × (Nat → Int32) × (Nat → Int32) × (Nat → Int32)) (h : f_X11_separate x1 x2 q_W_106 d q_now_words_L1 q_now_words_L2 now_words_L1_size_ now_words_L2_size_ now_letters_ now_words_L1_letters_ now_words_L2_letters_ now_words_ W_106_size_ candidate_size_ W_106_letters_ candidate_letters_ candidate_ways_ = some out) : CtI l yX11_separate wsX11_separate rm_X11_separate D cy [.ref o, .int x1, .int x2] (RW_X11_separate cy o q_W_106 q_now_words_L1 q_now_words_L2 d d_W_106 d_now_words_L1 d_now_words_L2 d_now d_candidate mono W_106_size_ candidate_size_ W_106_letters_ candidate_letters_ candidate_ways_) (RO_X11_separate cy o q_W_106 q_now_words_L1 q_now_words_L2 d d_W_106 d_now_words_L1 d_now_words_L2 d_now d_candidate mono snapshotTaken_ inputLength_ now_words_L1_size_ now_words_L2_size_ now_letters_ now_words_L1_letters_ now_words_L2_letters_ now_words_) (RW_X11_separate cy o q_W_106 q_now_words_L1 q_now_words_L2 d d_W_106 d_now_words_L1 d_now_words_L2 d_now d_candidate mono out.2.1 out.2.2.1 out.2.2.2.1 out.2.2.2.2.1 out.2.2.2.2.2) out.1 :=
  mk_i (ty := .int) (by decide) rfl rfl (Nat.le_of_ble_eq_true rfl) (fun p e s m args below meth c A Q X K H locs ls Z hl => wt_X11_separate o q_W_106 q_now_words_L1 q_now_words_L2 d d_W_106 d_now_words_L1 d_now_words_L2 d_now d_candidate mono snapshotTaken_ inputLength_ now_words_L1_size_ now_words_L2_size_ now_letters_ now_words_L1_letters_ now_words_L2_letters_ now_words_ W_106_size_ candidate_size_ W_106_letters_ candidate_letters_ candidate_ways_ x1 x2 out X h K H locs ls Z hl)
/-! SubwordCounter feed (I)I -/
abbrev rm_X11_feed : Room := { frames := 0, cells := 0, slots := 0, locals := 0 }
def RW_X11_feed (cy : Nat → ClassId) (o : Nat) (d : Nat → Nat) (mono : Value) (snapshotTaken_ : Int32) (inputLength_ : Int32) (input_ : Nat → Int32) : va_W := [(o, ob 10 (oX11 d mono snapshotTaken_ inputLength_)), ((d 3), aI cy 8 input_)]
def RO_X11_feed (cy : Nat → ClassId) (o : Nat) (d : Nat → Nat) (mono : Value)  : va_W := []
theorem in_X11_feed_X11 : ∀ w ∈ u_ws RX11 TX11 12, w ∈ wsX11_feed := fun w h => (List.mem_cons_of_mem _ (List.mem_append_right _ h))
theorem lk_X11_feed_X11_inputLength : Lk wsX11_feed RX11 27 10 4 := ⟨RX11, TX11, 12, rfl, by decide, in_X11_feed_X11, mem_at 1 rfl⟩
theorem lk_X11_feed_X11_input : Lk wsX11_feed RX11 23 10 3 := ⟨RX11, TX11, 12, rfl, by decide, in_X11_feed_X11, mem_at 2 rfl⟩
theorem lp_X11_feed_X11_inputLength : Lp wsX11_feed RX11 27 10 4 .int := ⟨RX11, TX11, 12, tyX11, rfl, by decide, in_X11_feed_X11, mem_at 1 rfl, tyX11_ok, nmX11, rfl, by decide +kernel⟩
def f_X11_feed (x1 : Int32) (inputLength_ : Int32) (input_ : Nat → Int32) : Option (Int32 × Int32 × (Nat → Int32)) :=
  if x1 < (1 : Int32) then
  (some ((-1 : Int32), inputLength_, input_))
  else
  (if x1 ≤ (127 : Int32) then
  (if inputLength_ < (8 : Int32) then
  (stA input_ 8 inputLength_ x1 (fun input_2 =>
  some ((inputLength_ + (1 : Int32)), (inputLength_ + (1 : Int32)), input_2)))
  else
  (some ((-3 : Int32), inputLength_, input_)))
  else
  (some ((-1 : Int32), inputLength_, input_)))
set_option maxHeartbeats 4000000 in
set_option maxRecDepth 100000 in
theorem wt_X11_feed {p : Program} {l : Launch} {e : Env} {s : State} {m : MethodId} {args : Array Value} {below : List Frame} {meth : Method} {c : Code} {A : Nat → Prop} {Q : State → Prop} {D : va_G} {cy : Nat → ClassId} (o : Nat) (d : Nat → Nat) (mono : Value)  (snapshotTaken_ : Int32) (inputLength_ : Int32) (input_ : Nat → Int32) (x1 : Int32) (out : Int32 × Int32 × (Nat → Int32)) (X : Cx p m c cX11_feed 2 s args wsX11_feed RX11 A D cy (RO_X11_feed cy o d mono)) (h : f_X11_feed x1 inputLength_ input_ = some out) (K : ∀ (H : Heap) (locs : List Loc) (ls : Array Slot) (pc : Nat), decode cX11_feed pc = .ok (.ireturn, 1) → St A D s (RW_X11_feed cy o d mono snapshotTaken_ out.2.1 out.2.2) H locs → W p l e rm_X11_feed s m args below meth c H locs 0 0 Q (F0 m pc ls [.int out.1])) : ∀ (H : Heap) (locs : List Loc) (ls : Array Slot), St A D s (RW_X11_feed cy o d mono snapshotTaken_ inputLength_ input_) H locs → lv_has ls 2 [(0, .ref o), (1, .int x1)] → W p l e rm_X11_feed s m args below meth c H locs 0 0 Q (F0 m 0 ls []) := by
  intro H locs ls Z hl
  have hx := X.1.1
  have hb := X.1.2.1
  unfold f_X11_feed at h
  refine lv_iload_n hx hb dX11_feed_0 rfl (lv_at hl 1 rfl) ?_
  refine lv_iconst (v := (1 : Int32)) hx hb dX11_feed_1 (by decide) ?_
  refine lv_icmp_lt (tgt := 11) hx hb dX11_feed_2 (by decide) (fun cnd => ?_) (fun cnd => ?_)
  · replace h := ifp h cnd
    refine lv_iconst (v := (-1 : Int32)) hx hb dX11_feed_11 (by decide) ?_
    obtain rfl := Option.some.inj h
    exact K H locs ls _ dX11_feed_12 Z
  · replace h := ifn h cnd
    refine lv_iload_n hx hb dX11_feed_5 rfl (lv_at hl 1 rfl) ?_
    refine lv_bipush (v := (127 : Int32)) hx hb dX11_feed_6 (by decide) ?_
    refine lv_icmp_le (tgt := 13) hx hb dX11_feed_8 (by decide) (fun cnd => ?_) (fun cnd => ?_)
    · replace h := ifp h cnd
      refine lv_aload_n hx hb dX11_feed_13 rfl (lv_at hl 0 rfl) ?_
      refine x_get X Z 0 4 (v := .int inputLength_) rfl rfl lk_X11_feed_X11_inputLength dX11_feed_14 ?_
      refine lv_bipush (v := (8 : Int32)) hx hb dX11_feed_17 (by decide) ?_
      refine lv_icmp_lt (tgt := 25) hx hb dX11_feed_19 (by decide) (fun cnd => ?_) (fun cnd => ?_)
      · replace h := ifp h cnd
        refine lv_aload_n hx hb dX11_feed_25 rfl (lv_at hl 0 rfl) ?_
        refine x_get X Z 0 3 (v := .ref (d 3)) rfl rfl lk_X11_feed_X11_input dX11_feed_26 ?_
        refine lv_aload_n hx hb dX11_feed_29 rfl (lv_at hl 0 rfl) ?_
        refine x_get X Z 0 4 (v := .int inputLength_) rfl rfl lk_X11_feed_X11_inputLength dX11_feed_30 ?_
        refine lv_iload_n hx hb dX11_feed_33 rfl (lv_at hl 1 rfl) ?_
        obtain ⟨hin1, input_2, hv3, h⟩ := st_b h
        refine x_iast X Z 1 (RW_X11_feed cy o d mono snapshotTaken_ inputLength_ input_2) rfl hin1 hv3 rfl dX11_feed_34 (fun H locs Z => ?_)
        refine lv_aload_n hx hb dX11_feed_35 rfl (lv_at hl 0 rfl) ?_
        refine lv_dup hx hb dX11_feed_36 rfl ?_
        refine x_get X Z 0 4 (v := .int inputLength_) rfl rfl lk_X11_feed_X11_inputLength dX11_feed_37 ?_
        refine lv_iconst (v := (1 : Int32)) hx hb dX11_feed_40 (by decide) ?_
        refine lv_iadd hx hb dX11_feed_41 ?_
        refine x_put X Z 0 4 (RW_X11_feed cy o d mono snapshotTaken_ (inputLength_ + (1 : Int32)) input_2) rfl lp_X11_feed_X11_inputLength (Nat.le_of_ble_eq_true rfl) rfl dX11_feed_42 (fun H locs Z => ?_)
        refine lv_aload_n hx hb dX11_feed_45 rfl (lv_at hl 0 rfl) ?_
        refine x_get X Z 0 4 (v := .int (inputLength_ + (1 : Int32))) rfl rfl lk_X11_feed_X11_inputLength dX11_feed_46 ?_
        obtain rfl := Option.some.inj h
        exact K H locs ls _ dX11_feed_49 Z
      · replace h := ifn h cnd
        refine lv_bipush (v := (-3 : Int32)) hx hb dX11_feed_22 (by decide) ?_
        obtain rfl := Option.some.inj h
        exact K H locs ls _ dX11_feed_24 Z
    · replace h := ifn h cnd
      refine lv_iconst (v := (-1 : Int32)) hx hb dX11_feed_11 (by decide) ?_
      obtain rfl := Option.some.inj h
      exact K H locs ls _ dX11_feed_12 Z
theorem c_X11_feed (l : Launch) (D : va_G) (cy : Nat → ClassId) (o : Nat) (d : Nat → Nat) (mono : Value)  (snapshotTaken_ : Int32) (inputLength_ : Int32) (input_ : Nat → Int32) (x1 : Int32) (out : Int32 × Int32 × (Nat → Int32)) (h : f_X11_feed x1 inputLength_ input_ = some out) : CtI l yX11_feed wsX11_feed rm_X11_feed D cy [.ref o, .int x1] (RW_X11_feed cy o d mono snapshotTaken_ inputLength_ input_) (RO_X11_feed cy o d mono) (RW_X11_feed cy o d mono snapshotTaken_ out.2.1 out.2.2) out.1 :=
  mk_i (ty := .int) (by decide) rfl rfl (Nat.le_of_ble_eq_true rfl) (fun p e s m args below meth c A Q X K H locs ls Z hl => wt_X11_feed o d mono snapshotTaken_ inputLength_ input_ x1 out X h K H locs ls Z hl)
/-! SubwordCounter isTest (I)Z -/
abbrev rm_X11_isTest : Room := { frames := 0, cells := 0, slots := 0, locals := 0 }
def RW_X11_isTest (cy : Nat → ClassId) (o : Nat) (d : Nat → Nat) (d_now : Nat → Nat) (d_now_tests : Nat → Nat) (mono : Value)  : va_W := []
def RO_X11_isTest (cy : Nat → ClassId) (o : Nat) (d : Nat → Nat) (d_now : Nat → Nat) (d_now_tests : Nat → Nat) (mono : Value) (snapshotTaken_ : Int32) (inputLength_ : Int32) (now_letters_ : Int32) (now_tests_count_ : Int32) : va_W := [(o, ob 10 (oX11 d mono snapshotTaken_ inputLength_)), ((d 0), ob 5 (oX5 d_now now_letters_)), ((d_now 2), ob 1 (oX1 d_now_tests now_tests_count_))]
theorem in_X11_isTest_X11 : ∀ w ∈ u_ws RX11 TX11 12, w ∈ wsX11_isTest := fun w h => (List.mem_cons_of_mem _ (List.mem_append_left _ (List.mem_append_left _ (List.mem_append_right _ h))))
theorem lk_X11_isTest_X11_now : Lk wsX11_isTest RX11 10 10 0 := ⟨RX11, TX11, 12, rfl, by decide, in_X11_isTest_X11, mem_at 1 rfl⟩
theorem in_X11_isTest_X5 : ∀ w ∈ u_ws RX5 TX5 4, w ∈ wsX11_isTest := fun w h => (List.mem_cons_of_mem _ (List.mem_append_left _ (List.mem_append_right _ h)))
theorem lk_X11_isTest_X5_tests : Lk wsX11_isTest RX11 127 5 2 := ⟨RX5, TX5, 4, rfl, by decide, in_X11_isTest_X5, mem_at 2 rfl⟩
theorem in_X11_isTest_X1 : ∀ w ∈ u_ws RX1 TX1 2, w ∈ wsX11_isTest := fun w h => (List.mem_cons_of_mem _ (List.mem_append_right _ h))
theorem lk_X11_isTest_X1_count : Lk wsX11_isTest RX11 131 1 1 := ⟨RX1, TX1, 2, rfl, by decide, in_X11_isTest_X1, mem_at 3 rfl⟩
def f_X11_isTest (x1 : Int32) (now_tests_count_ : Int32) : Option (Int32) :=
  if x1 < 0 then
  (some (0 : Int32))
  else
  (if now_tests_count_ ≤ x1 then
  (some (0 : Int32))
  else
  (some (1 : Int32)))
set_option maxHeartbeats 4000000 in
set_option maxRecDepth 100000 in
theorem wt_X11_isTest {p : Program} {l : Launch} {e : Env} {s : State} {m : MethodId} {args : Array Value} {below : List Frame} {meth : Method} {c : Code} {A : Nat → Prop} {Q : State → Prop} {D : va_G} {cy : Nat → ClassId} (o : Nat) (d : Nat → Nat) (d_now : Nat → Nat) (d_now_tests : Nat → Nat) (mono : Value) (snapshotTaken_ : Int32) (inputLength_ : Int32) (now_letters_ : Int32) (now_tests_count_ : Int32)  (x1 : Int32) (out : Int32) (X : Cx p m c cX11_isTest 2 s args wsX11_isTest RX11 A D cy (RO_X11_isTest cy o d d_now d_now_tests mono snapshotTaken_ inputLength_ now_letters_ now_tests_count_)) (h : f_X11_isTest x1 now_tests_count_ = some out) (K : ∀ (H : Heap) (locs : List Loc) (ls : Array Slot) (pc : Nat), decode cX11_isTest pc = .ok (.ireturn, 1) → (out = 0 ∨ out = 1) → St A D s (RW_X11_isTest cy o d d_now d_now_tests mono) H locs → W p l e rm_X11_isTest s m args below meth c H locs 0 0 Q (F0 m pc ls [.int out])) : ∀ (H : Heap) (locs : List Loc) (ls : Array Slot), St A D s (RW_X11_isTest cy o d d_now d_now_tests mono) H locs → lv_has ls 2 [(0, .ref o), (1, .int x1)] → W p l e rm_X11_isTest s m args below meth c H locs 0 0 Q (F0 m 0 ls []) := by
  intro H locs ls Z hl
  have hx := X.1.1
  have hb := X.1.2.1
  unfold f_X11_isTest at h
  refine lv_iload_n hx hb dX11_isTest_0 rfl (lv_at hl 1 rfl) ?_
  refine lv_if_lt (tgt := 22) hx hb dX11_isTest_1 (by decide) (fun cnd => ?_) (fun cnd => ?_)
  · replace h := ifp h cnd
    refine lv_iconst (v := (0 : Int32)) hx hb dX11_isTest_22 (by decide) ?_
    obtain rfl := Option.some.inj h
    exact K H locs ls _ dX11_isTest_23 (Or.inl rfl) Z
  · replace h := ifn h cnd
    refine lv_iload_n hx hb dX11_isTest_4 rfl (lv_at hl 1 rfl) ?_
    refine lv_aload_n hx hb dX11_isTest_5 rfl (lv_at hl 0 rfl) ?_
    refine x_getO X Z 0 0 (v := .ref (d 0)) rfl rfl lk_X11_isTest_X11_now dX11_isTest_6 ?_
    refine x_getO X Z 1 2 (v := .ref (d_now 2)) rfl rfl lk_X11_isTest_X5_tests dX11_isTest_9 ?_
    refine x_getO X Z 2 1 (v := .int now_tests_count_) rfl rfl lk_X11_isTest_X1_count dX11_isTest_12 ?_
    refine lv_icmp_ge (tgt := 22) hx hb dX11_isTest_15 (by decide) (fun cnd => ?_) (fun cnd => ?_)
    · replace h := ifp h cnd
      refine lv_iconst (v := (0 : Int32)) hx hb dX11_isTest_22 (by decide) ?_
      obtain rfl := Option.some.inj h
      exact K H locs ls _ dX11_isTest_23 (Or.inl rfl) Z
    · replace h := ifn h cnd
      refine lv_iconst (v := (1 : Int32)) hx hb dX11_isTest_18 (by decide) ?_
      refine lv_goto (tgt := 23) hx hb dX11_isTest_19 (by decide) ?_
      obtain rfl := Option.some.inj h
      exact K H locs ls _ dX11_isTest_23 (Or.inr rfl) Z
theorem c_X11_isTest (l : Launch) (D : va_G) (cy : Nat → ClassId) (o : Nat) (d : Nat → Nat) (d_now : Nat → Nat) (d_now_tests : Nat → Nat) (mono : Value) (snapshotTaken_ : Int32) (inputLength_ : Int32) (now_letters_ : Int32) (now_tests_count_ : Int32)  (x1 : Int32) (out : Int32) (h : f_X11_isTest x1 now_tests_count_ = some out) : CtI l yX11_isTest wsX11_isTest rm_X11_isTest D cy [.ref o, .int x1] (RW_X11_isTest cy o d d_now d_now_tests mono) (RO_X11_isTest cy o d d_now d_now_tests mono snapshotTaken_ inputLength_ now_letters_ now_tests_count_) (RW_X11_isTest cy o d d_now d_now_tests mono) out :=
  mk_z (by decide) rfl (Nat.le_of_ble_eq_true rfl) (fun p e s m args below meth c A Q X K H locs ls Z hl => wt_X11_isTest o d d_now d_now_tests mono snapshotTaken_ inputLength_ now_letters_ now_tests_count_ x1 out X h K H locs ls Z hl)
/-! SubwordCounter$Bundle remove (I)V -/
abbrev rm_X1_remove : Room := { frames := 0, cells := 0, slots := 0, locals := 0 }
def RW_X1_remove (cy : Nat → ClassId) (o : Nat) (d : Nat → Nat) (PT : va_W) (count_ : Int32) (members_ : Nat → Option Nat) : va_W := [(o, ob 1 (oX1 d count_)), ((d 0), aR cy 4 8 members_)]
def RO_X1_remove (cy : Nat → ClassId) (o : Nat) (d : Nat → Nat) (PT : va_W)  : va_W := [] ++ PT
theorem in_X1_remove_X1 : ∀ w ∈ u_ws RX1 TX1 2, w ∈ wsX1_remove := fun w h => (List.mem_cons_of_mem _ (List.mem_append_right _ h))
theorem lk_X1_remove_X1_count : Lk wsX1_remove RX1 17 1 1 := ⟨RX1, TX1, 2, rfl, by decide, in_X1_remove_X1, mem_at 1 rfl⟩
theorem lk_X1_remove_X1_members : Lk wsX1_remove RX1 13 1 0 := ⟨RX1, TX1, 2, rfl, by decide, in_X1_remove_X1, mem_at 2 rfl⟩
theorem lp_X1_remove_X1_count : Lp wsX1_remove RX1 17 1 1 .int := ⟨RX1, TX1, 2, tyX1, rfl, by decide, in_X1_remove_X1, mem_at 1 rfl, tyX1_ok, nmX1, rfl, by decide +kernel⟩
def b_X1_remove_2 (tq : Nat → Option TV) (count_ : Int32) (members_ : Nat → Option Nat) (x2 : Int32) : Option (((Nat → Option Nat) × Int32) ⊕ ((Nat → Option Nat))) :=
  if count_ ≤ (x2 + (1 : Int32)) then
  (some (.inr members_))
  else
  (ldA members_ 8 (x2 + (1 : Int32)) (fun r2 =>
  tsA tq r2 (fun a4 tv5 =>
  stA members_ 8 x2 (some a4) (fun members_9 =>
  some (.inl (members_9, (x2 + (1 : Int32))))))))
set_option maxHeartbeats 4000000 in
set_option maxRecDepth 100000 in
theorem wb_X1_remove_2 {p : Program} {l : Launch} {e : Env} {s : State} {m : MethodId} {args : Array Value} {below : List Frame} {meth : Method} {c : Code} {A : Nat → Prop} {Q : State → Prop} {D : va_G} {cy : Nat → ClassId} (o : Nat) (d : Nat → Nat) (PT : va_W) (tq : Nat → Option TV)  (count_ : Int32) (members_ : Nat → Option Nat) (x2 : Int32) (o1 : ((Nat → Option Nat) × Int32) ⊕ ((Nat → Option Nat))) (hT : TP cy PT tq) (X : Cx p m c cX1_remove 3 s args wsX1_remove RX1 A D cy (RO_X1_remove cy o d PT)) (h : b_X1_remove_2 tq count_ members_ x2 = some o1) (K : Sum.elim (fun v : (Nat → Option Nat) × Int32 => ∀ (H : Heap) (locs : List Loc) (ls : Array Slot), St A D s (RW_X1_remove cy o d PT count_ v.1) H locs → lv_has ls 3 [(0, .ref o), (2, .int v.2)] → W p l e rm_X1_remove s m args below meth c H locs 0 0 Q (F0 m 2 ls [])) (fun v : (Nat → Option Nat) => ∀ (H : Heap) (locs : List Loc) (ls : Array Slot), St A D s (RW_X1_remove cy o d PT count_ v) H locs → lv_has ls 3 [(0, .ref o)] → W p l e rm_X1_remove s m args below meth c H locs 0 0 Q (F0 m 32 ls [])) o1) : ∀ (H : Heap) (locs : List Loc) (ls : Array Slot), St A D s (RW_X1_remove cy o d PT count_ members_) H locs → lv_has ls 3 [(0, .ref o), (2, .int x2)] → W p l e rm_X1_remove s m args below meth c H locs 0 0 Q (F0 m 2 ls []) := by
  intro H locs ls Z hl
  have hx := X.1.1
  have hb := X.1.2.1
  unfold b_X1_remove_2 at h
  refine lv_iload_n hx hb dX1_remove_2 rfl (lv_at hl 1 rfl) ?_
  refine lv_iconst (v := (1 : Int32)) hx hb dX1_remove_3 (by decide) ?_
  refine lv_iadd hx hb dX1_remove_4 ?_
  refine lv_aload_n hx hb dX1_remove_5 rfl (lv_at hl 0 rfl) ?_
  refine x_get X Z 0 1 (v := .int count_) rfl rfl lk_X1_remove_X1_count dX1_remove_6 ?_
  refine lv_icmp_ge (tgt := 32) hx hb dX1_remove_9 (by decide) (fun cnd => ?_) (fun cnd => ?_)
  · replace h := ifp h cnd
    obtain rfl := Option.some.inj h
    exact (sk_r K) H locs ls Z (lv_sub hl [0] rfl)
  · replace h := ifn h cnd
    refine lv_aload_n hx hb dX1_remove_12 rfl (lv_at hl 0 rfl) ?_
    refine x_get X Z 0 0 (v := .ref (d 0)) rfl rfl lk_X1_remove_X1_members dX1_remove_13 ?_
    refine lv_iload_n hx hb dX1_remove_16 rfl (lv_at hl 1 rfl) ?_
    refine lv_aload_n hx hb dX1_remove_17 rfl (lv_at hl 0 rfl) ?_
    refine x_get X Z 0 0 (v := .ref (d 0)) rfl rfl lk_X1_remove_X1_members dX1_remove_18 ?_
    refine lv_iload_n hx hb dX1_remove_21 rfl (lv_at hl 1 rfl) ?_
    refine lv_iconst (v := (1 : Int32)) hx hb dX1_remove_22 (by decide) ?_
    refine lv_iadd hx hb dX1_remove_23 ?_
    obtain ⟨hin1, r2, hv3, h⟩ := ld_b h
    obtain ⟨a4, tv5, hr6, ht7, h⟩ := ts_b h
    refine x_rald X Z 1 4 rfl rfl hin1 hv3 hr6 dX1_remove_24 ?_
    obtain ⟨hin8, members_9, hv10, h⟩ := st_b h
    refine x_rast X Z 1 4 (RW_X1_remove cy o d PT count_ members_9) rfl rfl (x_anyO X Z (List.mem_append_right _ (hT a4 tv5 ht7).1) rfl) hin8 hv10 rfl dX1_remove_25 (fun H locs Z => ?_)
    refine lv_iinc (v := (x2 + (1 : Int32))) (lv' := [(2, .int (x2 + (1 : Int32))), (0, .ref o)]) hx hb dX1_remove_26 hl (k := 1) rfl rfl (by decide) rfl (fun ls hl => ?_)
    refine lv_goto (tgt := 2) hx hb dX1_remove_29 (by decide) ?_
    obtain rfl := Option.some.inj h
    exact sk_l K H locs ls Z (lv_sub hl [1, 0] rfl)
set_option maxHeartbeats 4000000 in
set_option maxRecDepth 100000 in
theorem wl_X1_remove_2 {p : Program} {l : Launch} {e : Env} {s : State} {m : MethodId} {args : Array Value} {below : List Frame} {meth : Method} {c : Code} {A : Nat → Prop} {Q : State → Prop} {D : va_G} {cy : Nat → ClassId} (o : Nat) (d : Nat → Nat) (PT : va_W) (tq : Nat → Option TV)  (count_ : Int32) (n : Nat) (v : (Nat → Option Nat) × Int32) (x : (Nat → Option Nat)) (hT : TP cy PT tq) (X : Cx p m c cX1_remove 3 s args wsX1_remove RX1 A D cy (RO_X1_remove cy o d PT)) (h : loopN (fun v => b_X1_remove_2 tq count_ v.1 v.2) n v = some x) (K : ∀ (H : Heap) (locs : List Loc) (ls : Array Slot), St A D s (RW_X1_remove cy o d PT count_ x) H locs → lv_has ls 3 [(0, .ref o)] → W p l e rm_X1_remove s m args below meth c H locs 0 0 Q (F0 m 32 ls [])) : ∀ (H : Heap) (locs : List Loc) (ls : Array Slot), St A D s (RW_X1_remove cy o d PT count_ v.1) H locs → lv_has ls 3 [(0, .ref o), (2, .int v.2)] → W p l e rm_X1_remove s m args below meth c H locs 0 0 Q (F0 m 2 ls []) :=
  loop_gen (B := (fun v => b_X1_remove_2 tq count_ v.1 v.2)) (Head := fun v : (Nat → Option Nat) × Int32 => ∀ (H : Heap) (locs : List Loc) (ls : Array Slot), St A D s (RW_X1_remove cy o d PT count_ v.1) H locs → lv_has ls 3 [(0, .ref o), (2, .int v.2)] → W p l e rm_X1_remove s m args below meth c H locs 0 0 Q (F0 m 2 ls [])) (Exit := fun v : (Nat → Option Nat) => ∀ (H : Heap) (locs : List Loc) (ls : Array Slot), St A D s (RW_X1_remove cy o d PT count_ v) H locs → lv_has ls 3 [(0, .ref o)] → W p l e rm_X1_remove s m args below meth c H locs 0 0 Q (F0 m 32 ls [])) (fun v o9 hb1 K1 => wb_X1_remove_2 o d PT tq count_ v.1 v.2 o9 hT X hb1 K1) n v x h K
def f_X1_remove (x1 : Int32) (tq : Nat → Option TV) (count_ : Int32) (members_ : Nat → Option Nat) : Option (Int32 × (Nat → Option Nat)) :=
  (loopN (fun v => b_X1_remove_2 tq count_ v.1 v.2) FU (members_, x1)).bind (fun u11 =>
  some ((count_ - (1 : Int32)), u11))
set_option maxHeartbeats 4000000 in
set_option maxRecDepth 100000 in
theorem wt_X1_remove {p : Program} {l : Launch} {e : Env} {s : State} {m : MethodId} {args : Array Value} {below : List Frame} {meth : Method} {c : Code} {A : Nat → Prop} {Q : State → Prop} {D : va_G} {cy : Nat → ClassId} (o : Nat) (d : Nat → Nat) (PT : va_W) (tq : Nat → Option TV)  (count_ : Int32) (members_ : Nat → Option Nat) (x1 : Int32) (out : Int32 × (Nat → Option Nat)) (hT : TP cy PT tq) (X : Cx p m c cX1_remove 3 s args wsX1_remove RX1 A D cy (RO_X1_remove cy o d PT)) (h : f_X1_remove x1 tq count_ members_ = some out) (K : ∀ (H : Heap) (locs : List Loc) (ls : Array Slot) (pc : Nat), decode cX1_remove pc = .ok (.return_, 1) → St A D s (RW_X1_remove cy o d PT out.1 out.2) H locs → W p l e rm_X1_remove s m args below meth c H locs 0 0 Q (F0 m pc ls [])) : ∀ (H : Heap) (locs : List Loc) (ls : Array Slot), St A D s (RW_X1_remove cy o d PT count_ members_) H locs → lv_has ls 3 [(0, .ref o), (1, .int x1)] → W p l e rm_X1_remove s m args below meth c H locs 0 0 Q (F0 m 0 ls []) := by
  intro H locs ls Z hl
  have hx := X.1.1
  have hb := X.1.2.1
  unfold f_X1_remove at h
  refine lv_iload_n hx hb dX1_remove_0 rfl (lv_at hl 1 rfl) ?_
  refine lv_istore_n (lv' := [(2, .int x1), (0, .ref o), (1, .int x1)]) hx hb dX1_remove_1 rfl hl (by decide) rfl (fun ls hl => ?_)
  obtain ⟨u11, hL12, h⟩ := ob_some h
  refine wl_X1_remove_2 o d PT tq count_ FU (members_, x1) u11 hT X hL12 (fun H locs ls Z hl => ?_) H locs ls Z (lv_sub hl [1, 0] rfl)
  refine lv_aload_n hx hb dX1_remove_32 rfl (lv_at hl 0 rfl) ?_
  refine lv_dup hx hb dX1_remove_33 rfl ?_
  refine x_get X Z 0 1 (v := .int count_) rfl rfl lk_X1_remove_X1_count dX1_remove_34 ?_
  refine lv_iconst (v := (1 : Int32)) hx hb dX1_remove_37 (by decide) ?_
  refine lv_isub hx hb dX1_remove_38 ?_
  refine x_put X Z 0 1 (RW_X1_remove cy o d PT (count_ - (1 : Int32)) u11) rfl lp_X1_remove_X1_count (Nat.le_of_ble_eq_true rfl) rfl dX1_remove_39 (fun H locs Z => ?_)
  obtain rfl := Option.some.inj h
  exact K H locs ls _ dX1_remove_42 Z
theorem c_X1_remove (l : Launch) (D : va_G) (cy : Nat → ClassId) (o : Nat) (d : Nat → Nat) (PT : va_W) (tq : Nat → Option TV)  (count_ : Int32) (members_ : Nat → Option Nat) (x1 : Int32) (out : Int32 × (Nat → Option Nat)) (hT : TP cy PT tq) (h : f_X1_remove x1 tq count_ members_ = some out) : CtV l yX1_remove wsX1_remove rm_X1_remove D cy [.ref o, .int x1] (RW_X1_remove cy o d PT count_ members_) (RO_X1_remove cy o d PT) (RW_X1_remove cy o d PT out.1 out.2) :=
  mk_v (by decide) rfl (Nat.le_of_ble_eq_true rfl) (fun p e s m args below meth c A Q X K H locs ls Z hl => wt_X1_remove o d PT tq count_ members_ x1 out hT X h K H locs ls Z hl)
/-! SubwordCounter removeTest (I)I -/
abbrev rm_X11_removeTest : Room := { frames := 1, cells := 0, slots := 0, locals := 22 }
def RW_X11_removeTest (cy : Nat → ClassId) (o : Nat) (d : Nat → Nat) (d_now : Nat → Nat) (d_now_tests : Nat → Nat) (mono : Value) (PT : va_W) (now_tests_count_ : Int32) (now_tests_members_ : Nat → Option Nat) : va_W := [((d_now 2), ob 1 (oX1 d_now_tests now_tests_count_)), ((d_now_tests 0), aR cy 4 8 now_tests_members_)]
def RO_X11_removeTest (cy : Nat → ClassId) (o : Nat) (d : Nat → Nat) (d_now : Nat → Nat) (d_now_tests : Nat → Nat) (mono : Value) (PT : va_W) (snapshotTaken_ : Int32) (inputLength_ : Int32) (now_letters_ : Int32) : va_W := [(o, ob 10 (oX11 d mono snapshotTaken_ inputLength_)), ((d 0), ob 5 (oX5 d_now now_letters_))] ++ PT
theorem in_X11_removeTest_X11 : ∀ w ∈ u_ws RX11 TX11 12, w ∈ wsX11_removeTest := fun w h => (List.mem_cons_of_mem _ (List.mem_append_left _ (List.mem_append_left _ (List.mem_append_right _ h))))
theorem lk_X11_removeTest_X11_now : Lk wsX11_removeTest RX11 10 10 0 := ⟨RX11, TX11, 12, rfl, by decide, in_X11_removeTest_X11, mem_at 1 rfl⟩
theorem in_X11_removeTest_X5 : ∀ w ∈ u_ws RX5 TX5 4, w ∈ wsX11_removeTest := fun w h => (List.mem_cons_of_mem _ (List.mem_append_left _ (List.mem_append_right _ h)))
theorem lk_X11_removeTest_X5_tests : Lk wsX11_removeTest RX11 127 5 2 := ⟨RX5, TX5, 4, rfl, by decide, in_X11_removeTest_X5, mem_at 2 rfl⟩
theorem in_X11_removeTest_X1 : ∀ w ∈ u_ws RX1 TX1 2, w ∈ wsX11_removeTest := fun w h => (List.mem_cons_of_mem _ (List.mem_append_right _ h))
theorem lk_X11_removeTest_X1_count : Lk wsX11_removeTest RX11 131 1 1 := ⟨RX1, TX1, 2, rfl, by decide, in_X11_removeTest_X1, mem_at 3 rfl⟩
def f_X11_removeTest (x1 : Int32) (tq : Nat → Option TV) (now_tests_count_ : Int32) (now_tests_members_ : Nat → Option Nat) : Option (Int32 × Int32 × (Nat → Option Nat)) :=
  (f_X11_isTest x1 now_tests_count_).bind (fun u1 =>
  if u1 = 0 then
  (some ((-1 : Int32), now_tests_count_, now_tests_members_))
  else
  ((f_X1_remove x1 tq now_tests_count_ now_tests_members_).bind (fun u3 =>
  some (u3.1, u3.1, u3.2))))
set_option maxHeartbeats 4000000 in
set_option maxRecDepth 100000 in
theorem wt_X11_removeTest {p : Program} {l : Launch} {e : Env} {s : State} {m : MethodId} {args : Array Value} {below : List Frame} {meth : Method} {c : Code} {A : Nat → Prop} {Q : State → Prop} {D : va_G} {cy : Nat → ClassId} (o : Nat) (d : Nat → Nat) (d_now : Nat → Nat) (d_now_tests : Nat → Nat) (mono : Value) (PT : va_W) (tq : Nat → Option TV) (snapshotTaken_ : Int32) (inputLength_ : Int32) (now_letters_ : Int32) (now_tests_count_ : Int32) (now_tests_members_ : Nat → Option Nat) (x1 : Int32) (out : Int32 × Int32 × (Nat → Option Nat)) (hT : TP cy PT tq) (X : Cx p m c cX11_removeTest 2 s args wsX11_removeTest RX11 A D cy (RO_X11_removeTest cy o d d_now d_now_tests mono PT snapshotTaken_ inputLength_ now_letters_)) (h : f_X11_removeTest x1 tq now_tests_count_ now_tests_members_ = some out) (K : ∀ (H : Heap) (locs : List Loc) (ls : Array Slot) (pc : Nat), decode cX11_removeTest pc = .ok (.ireturn, 1) → St A D s (RW_X11_removeTest cy o d d_now d_now_tests mono PT out.2.1 out.2.2) H locs → W p l e rm_X11_removeTest s m args below meth c H locs 0 0 Q (F0 m pc ls [.int out.1])) : ∀ (H : Heap) (locs : List Loc) (ls : Array Slot), St A D s (RW_X11_removeTest cy o d d_now d_now_tests mono PT now_tests_count_ now_tests_members_) H locs → lv_has ls 2 [(0, .ref o), (1, .int x1)] → W p l e rm_X11_removeTest s m args below meth c H locs 0 0 Q (F0 m 0 ls []) := by
  intro H locs ls Z hl
  have hx := X.1.1
  have hb := X.1.2.1
  unfold f_X11_removeTest at h
  refine lv_aload_n hx hb dX11_removeTest_0 rfl (lv_at hl 0 rfl) ?_
  refine lv_iload_n hx hb dX11_removeTest_1 rfl (lv_at hl 1 rfl) ?_
  obtain ⟨u1, hc2, h⟩ := ob_some h
  refine x_runVi (RW' := (RW_X11_removeTest cy o d d_now d_now_tests mono PT now_tests_count_ now_tests_members_)) (wr := [((d_now 2), ob 1 (oX1 d_now_tests now_tests_count_)), ((d_now_tests 0), aR cy 4 8 now_tests_members_)]) (isC := []) (isR := [0, 1]) (isF := [0, 1]) (rest := []) (As := [.int x1]) (n := 1) X Z (c_X11_isTest l D cy o d d_now d_now_tests mono snapshotTaken_ inputLength_ now_letters_ now_tests_count_ x1 u1 hc2) gX11_removeTest_X11_isTest rfl (by decide +kernel) ⟨Nat.le_of_ble_eq_true rfl, Nat.le_of_ble_eq_true rfl⟩ ⟨rfl, rfl⟩ ⟨Nat.le_of_ble_eq_true rfl, Nat.le_of_ble_eq_true rfl⟩ (x_rvO X Z 0 rfl rfl) ⟨rfl, rfl, (roC (Or.inr (mem_at 0 rfl)) (roC (Or.inr (mem_at 1 rfl)) (roC (Or.inl (mem_at 0 rfl)) roN))), rfl, rfl, by decide⟩ ⟨rfl, rfl⟩ rfl hl.1 rfl (Nat.le_of_ble_eq_true rfl) dX11_removeTest_2 (fun H locs Z => ?_)
  refine lv_if_ne (tgt := 10) hx hb dX11_removeTest_5 (by decide) (fun cnd => ?_) (fun cnd => ?_)
  · replace h := ifn h cnd
    refine lv_aload_n hx hb dX11_removeTest_10 rfl (lv_at hl 0 rfl) ?_
    refine x_getO X Z 0 0 (v := .ref (d 0)) rfl rfl lk_X11_removeTest_X11_now dX11_removeTest_11 ?_
    refine x_getO X Z 1 2 (v := .ref (d_now 2)) rfl rfl lk_X11_removeTest_X5_tests dX11_removeTest_14 ?_
    refine lv_iload_n hx hb dX11_removeTest_17 rfl (lv_at hl 1 rfl) ?_
    obtain ⟨u3, hc4, h⟩ := ob_some h
    refine x_runVv (RW' := (RW_X11_removeTest cy o d d_now d_now_tests mono PT u3.1 u3.2)) (wr := []) (isC := [0, 1]) (isR := []) (isF := [0, 1]) (rest := []) (As := [.int x1]) (n := 1) X Z (c_X1_remove l D cy (d_now 2) d_now_tests PT tq now_tests_count_ now_tests_members_ x1 u3 hT hc4) gX11_removeTest_X1_remove rfl (by decide +kernel) ⟨Nat.le_of_ble_eq_true rfl, Nat.le_of_ble_eq_true rfl⟩ ⟨rfl, rfl⟩ ⟨Nat.le_of_ble_eq_true rfl, Nat.le_of_ble_eq_true rfl⟩ (x_rv X Z 0 rfl rfl) ⟨rfl, rfl, (fun q hq => Or.inr (List.mem_append_right _ hq)), rfl, rfl, by decide⟩ ⟨rfl, rfl⟩ rfl hl.1 rfl (Nat.le_of_ble_eq_true rfl) dX11_removeTest_18 (fun H locs Z => ?_)
    refine lv_aload_n hx hb dX11_removeTest_21 rfl (lv_at hl 0 rfl) ?_
    refine x_getO X Z 0 0 (v := .ref (d 0)) rfl rfl lk_X11_removeTest_X11_now dX11_removeTest_22 ?_
    refine x_getO X Z 1 2 (v := .ref (d_now 2)) rfl rfl lk_X11_removeTest_X5_tests dX11_removeTest_25 ?_
    refine x_get X Z 0 1 (v := .int u3.1) rfl rfl lk_X11_removeTest_X1_count dX11_removeTest_28 ?_
    obtain rfl := Option.some.inj h
    exact K H locs ls _ dX11_removeTest_31 Z
  · replace h := ifp h cnd
    refine lv_iconst (v := (-1 : Int32)) hx hb dX11_removeTest_8 (by decide) ?_
    obtain rfl := Option.some.inj h
    exact K H locs ls _ dX11_removeTest_9 Z
theorem c_X11_removeTest (l : Launch) (D : va_G) (cy : Nat → ClassId) (o : Nat) (d : Nat → Nat) (d_now : Nat → Nat) (d_now_tests : Nat → Nat) (mono : Value) (PT : va_W) (tq : Nat → Option TV) (snapshotTaken_ : Int32) (inputLength_ : Int32) (now_letters_ : Int32) (now_tests_count_ : Int32) (now_tests_members_ : Nat → Option Nat) (x1 : Int32) (out : Int32 × Int32 × (Nat → Option Nat)) (hT : TP cy PT tq) (h : f_X11_removeTest x1 tq now_tests_count_ now_tests_members_ = some out) : CtI l yX11_removeTest wsX11_removeTest rm_X11_removeTest D cy [.ref o, .int x1] (RW_X11_removeTest cy o d d_now d_now_tests mono PT now_tests_count_ now_tests_members_) (RO_X11_removeTest cy o d d_now d_now_tests mono PT snapshotTaken_ inputLength_ now_letters_) (RW_X11_removeTest cy o d d_now d_now_tests mono PT out.2.1 out.2.2) out.1 :=
  mk_i (ty := .int) (by decide) rfl rfl (Nat.le_of_ble_eq_true rfl) (fun p e s m args below meth c A Q X K H locs ls Z hl => wt_X11_removeTest o d d_now d_now_tests mono PT tq snapshotTaken_ inputLength_ now_letters_ now_tests_count_ now_tests_members_ x1 out hT X h K H locs ls Z hl)
/-! SubwordCounter testCount ()I -/
abbrev rm_X11_testCount : Room := { frames := 0, cells := 0, slots := 0, locals := 0 }
def RW_X11_testCount (cy : Nat → ClassId) (o : Nat) (d : Nat → Nat) (d_now : Nat → Nat) (d_now_tests : Nat → Nat) (mono : Value)  : va_W := []
def RO_X11_testCount (cy : Nat → ClassId) (o : Nat) (d : Nat → Nat) (d_now : Nat → Nat) (d_now_tests : Nat → Nat) (mono : Value) (snapshotTaken_ : Int32) (inputLength_ : Int32) (now_letters_ : Int32) (now_tests_count_ : Int32) : va_W := [(o, ob 10 (oX11 d mono snapshotTaken_ inputLength_)), ((d 0), ob 5 (oX5 d_now now_letters_)), ((d_now 2), ob 1 (oX1 d_now_tests now_tests_count_))]
theorem in_X11_testCount_X11 : ∀ w ∈ u_ws RX11 TX11 12, w ∈ wsX11_testCount := fun w h => (List.mem_cons_of_mem _ (List.mem_append_left _ (List.mem_append_left _ (List.mem_append_right _ h))))
theorem lk_X11_testCount_X11_now : Lk wsX11_testCount RX11 10 10 0 := ⟨RX11, TX11, 12, rfl, by decide, in_X11_testCount_X11, mem_at 1 rfl⟩
theorem in_X11_testCount_X5 : ∀ w ∈ u_ws RX5 TX5 4, w ∈ wsX11_testCount := fun w h => (List.mem_cons_of_mem _ (List.mem_append_left _ (List.mem_append_right _ h)))
theorem lk_X11_testCount_X5_tests : Lk wsX11_testCount RX11 127 5 2 := ⟨RX5, TX5, 4, rfl, by decide, in_X11_testCount_X5, mem_at 2 rfl⟩
theorem in_X11_testCount_X1 : ∀ w ∈ u_ws RX1 TX1 2, w ∈ wsX11_testCount := fun w h => (List.mem_cons_of_mem _ (List.mem_append_right _ h))
theorem lk_X11_testCount_X1_count : Lk wsX11_testCount RX11 131 1 1 := ⟨RX1, TX1, 2, rfl, by decide, in_X11_testCount_X1, mem_at 3 rfl⟩
def f_X11_testCount (now_tests_count_ : Int32) : Option (Int32) :=
  some now_tests_count_
set_option maxHeartbeats 4000000 in
set_option maxRecDepth 100000 in
theorem wt_X11_testCount {p : Program} {l : Launch} {e : Env} {s : State} {m : MethodId} {args : Array Value} {below : List Frame} {meth : Method} {c : Code} {A : Nat → Prop} {Q : State → Prop} {D : va_G} {cy : Nat → ClassId} (o : Nat) (d : Nat → Nat) (d_now : Nat → Nat) (d_now_tests : Nat → Nat) (mono : Value) (snapshotTaken_ : Int32) (inputLength_ : Int32) (now_letters_ : Int32) (now_tests_count_ : Int32)  (out : Int32) (X : Cx p m c cX11_testCount 1 s args wsX11_testCount RX11 A D cy (RO_X11_testCount cy o d d_now d_now_tests mono snapshotTaken_ inputLength_ now_letters_ now_tests_count_)) (h : f_X11_testCount now_tests_count_ = some out) (K : ∀ (H : Heap) (locs : List Loc) (ls : Array Slot) (pc : Nat), decode cX11_testCount pc = .ok (.ireturn, 1) → St A D s (RW_X11_testCount cy o d d_now d_now_tests mono) H locs → W p l e rm_X11_testCount s m args below meth c H locs 0 0 Q (F0 m pc ls [.int out])) : ∀ (H : Heap) (locs : List Loc) (ls : Array Slot), St A D s (RW_X11_testCount cy o d d_now d_now_tests mono) H locs → lv_has ls 1 [(0, .ref o)] → W p l e rm_X11_testCount s m args below meth c H locs 0 0 Q (F0 m 0 ls []) := by
  intro H locs ls Z hl
  have hx := X.1.1
  have hb := X.1.2.1
  unfold f_X11_testCount at h
  refine lv_aload_n hx hb dX11_testCount_0 rfl (lv_at hl 0 rfl) ?_
  refine x_getO X Z 0 0 (v := .ref (d 0)) rfl rfl lk_X11_testCount_X11_now dX11_testCount_1 ?_
  refine x_getO X Z 1 2 (v := .ref (d_now 2)) rfl rfl lk_X11_testCount_X5_tests dX11_testCount_4 ?_
  refine x_getO X Z 2 1 (v := .int now_tests_count_) rfl rfl lk_X11_testCount_X1_count dX11_testCount_7 ?_
  obtain rfl := Option.some.inj h
  exact K H locs ls _ dX11_testCount_10 Z
theorem c_X11_testCount (l : Launch) (D : va_G) (cy : Nat → ClassId) (o : Nat) (d : Nat → Nat) (d_now : Nat → Nat) (d_now_tests : Nat → Nat) (mono : Value) (snapshotTaken_ : Int32) (inputLength_ : Int32) (now_letters_ : Int32) (now_tests_count_ : Int32)  (out : Int32) (h : f_X11_testCount now_tests_count_ = some out) : CtI l yX11_testCount wsX11_testCount rm_X11_testCount D cy [.ref o] (RW_X11_testCount cy o d d_now d_now_tests mono) (RO_X11_testCount cy o d d_now d_now_tests mono snapshotTaken_ inputLength_ now_letters_ now_tests_count_) (RW_X11_testCount cy o d d_now d_now_tests mono) out :=
  mk_i (ty := .int) (by decide) rfl rfl (Nat.le_of_ble_eq_true rfl) (fun p e s m args below meth c A Q X K H locs ls Z hl => wt_X11_testCount o d d_now d_now_tests mono snapshotTaken_ inputLength_ now_letters_ now_tests_count_ out X h K H locs ls Z hl)
