set_option linter.unusedVariables false
/-! SubwordCounterModel readsTest ()Z -/
abbrev rm_X12_readsTest : Room := { frames := 2, cells := 0, slots := 0, locals := 44 }
def RW_X12_readsTest (cy : Nat → ClassId) (o : Nat) (d : Nat → Nat) (letters_ : Int32) (tests_ : Int32) (inputLength_ : Int32) (at_ : Int32) (signed_ : Int32) (newParts_ : Int32) (machineParts_ : Int32) (firstParts_ : Int32) (firstTruth_ : Int32) (secondTruth_ : Int32) (isPair_ : Int32) (states_ : Int32) (stateClasses_ : Int32) (elements_ : Int32) (cursor_ : Int32) (hasSnapshot_ : Int32) (isSaving_ : Int32) (kind_ : Nat → Int32) (bound_ : Nat → Int32) (patternLength_ : Nat → Int32) (pattern_ : Nat → Int32) : va_W := [(o, ob 11 (oX12 d letters_ tests_ inputLength_ at_ signed_ newParts_ machineParts_ firstParts_ firstTruth_ secondTruth_ isPair_ states_ stateClasses_ elements_ cursor_ hasSnapshot_ isSaving_)), ((d 5), aI cy 6 kind_), ((d 6), aI cy 6 bound_), ((d 7), aI cy 6 patternLength_), ((d 8), aI cy 24 pattern_)]
def RO_X12_readsTest (cy : Nat → ClassId) (o : Nat) (d : Nat → Nat) (input_ : Nat → Int32) : va_W := [((d 9), aI cy 8 input_)]
theorem in_X12_readsTest_X12 : ∀ w ∈ u_ws RX12 TX12 68, w ∈ wsX12_readsTest := fun w h => (List.mem_cons_of_mem _ (List.mem_append_right _ h))
theorem lk_X12_readsTest_X12_letters : Lk wsX12_readsTest RX12 7 11 0 := ⟨RX12, TX12, 68, rfl, by decide, in_X12_readsTest_X12, mem_at 1 rfl⟩
theorem lk_X12_readsTest_X12_pattern : Lk wsX12_readsTest RX12 35 11 8 := ⟨RX12, TX12, 68, rfl, by decide, in_X12_readsTest_X12, mem_at 2 rfl⟩
theorem lk_X12_readsTest_X12_tests : Lk wsX12_readsTest RX12 173 11 10 := ⟨RX12, TX12, 68, rfl, by decide, in_X12_readsTest_X12, mem_at 3 rfl⟩
theorem lk_X12_readsTest_X12_input : Lk wsX12_readsTest RX12 38 11 9 := ⟨RX12, TX12, 68, rfl, by decide, in_X12_readsTest_X12, mem_at 4 rfl⟩
theorem lk_X12_readsTest_X12_at : Lk wsX12_readsTest RX12 187 11 12 := ⟨RX12, TX12, 68, rfl, by decide, in_X12_readsTest_X12, mem_at 5 rfl⟩
theorem lp_X12_readsTest_X12_at : Lp wsX12_readsTest RX12 187 11 12 .int := ⟨RX12, TX12, 68, tyX12, rfl, by decide, in_X12_readsTest_X12, mem_at 5 rfl, tyX12_ok, nmX12, rfl, by decide +kernel⟩
theorem lk_X12_readsTest_X12_bound : Lk wsX12_readsTest RX12 29 11 6 := ⟨RX12, TX12, 68, rfl, by decide, in_X12_readsTest_X12, mem_at 7 rfl⟩
theorem lk_X12_readsTest_X12_patternLength : Lk wsX12_readsTest RX12 32 11 7 := ⟨RX12, TX12, 68, rfl, by decide, in_X12_readsTest_X12, mem_at 8 rfl⟩
theorem lk_X12_readsTest_X12_inputLength : Lk wsX12_readsTest RX12 184 11 11 := ⟨RX12, TX12, 68, rfl, by decide, in_X12_readsTest_X12, mem_at 9 rfl⟩
theorem lk_X12_readsTest_X12_kind : Lk wsX12_readsTest RX12 26 11 5 := ⟨RX12, TX12, 68, rfl, by decide, in_X12_readsTest_X12, mem_at 6 rfl⟩
def b_X12_readsTest_2 (input_ : Nat → Int32) (letters_ : Int32) (tests_ : Int32) (inputLength_ : Int32) (at_ : Int32) (pattern_ : Nat → Int32) (x1 : Int32) : Option ((Int32 × (Nat → Int32) × Int32) ⊕ (Int32 × (Nat → Int32) × Int32)) :=
  if (4 : Int32) ≤ x1 then
  (some (.inr (at_, pattern_, x1)))
  else
  ((f_X12_isAt (97 : Int32) (((97 : Int32) + letters_) - (1 : Int32)) inputLength_ at_ input_).bind (fun u1 =>
  if u1 = 0 then
  (some (.inr (at_, pattern_, x1)))
  else
  (ldA input_ 8 at_ (fun v4 =>
  stA pattern_ 24 (((4 : Int32) * tests_) + x1) (v4 - (97 : Int32)) (fun pattern_7 =>
  some (.inl ((at_ + (1 : Int32)), pattern_7, (x1 + (1 : Int32)))))))))
set_option maxHeartbeats 4000000 in
set_option maxRecDepth 100000 in
theorem wb_X12_readsTest_2 {p : Program} {l : Launch} {e : Env} {s : State} {m : MethodId} {args : Array Value} {below : List Frame} {meth : Method} {c : Code} {A : Nat → Prop} {Q : State → Prop} {D : va_G} {cy : Nat → ClassId} (o : Nat) (d : Nat → Nat) (input_ : Nat → Int32) (letters_ : Int32) (tests_ : Int32) (inputLength_ : Int32) (signed_ : Int32) (newParts_ : Int32) (machineParts_ : Int32) (firstParts_ : Int32) (firstTruth_ : Int32) (secondTruth_ : Int32) (isPair_ : Int32) (states_ : Int32) (stateClasses_ : Int32) (elements_ : Int32) (cursor_ : Int32) (hasSnapshot_ : Int32) (isSaving_ : Int32) (kind_ : Nat → Int32) (bound_ : Nat → Int32) (patternLength_ : Nat → Int32) (at_ : Int32) (pattern_ : Nat → Int32) (x1 : Int32) (o1 : (Int32 × (Nat → Int32) × Int32) ⊕ (Int32 × (Nat → Int32) × Int32)) (X : Cx p m c cX12_readsTest 3 s args wsX12_readsTest RX12 A D cy (RO_X12_readsTest cy o d input_)) (h : b_X12_readsTest_2 input_ letters_ tests_ inputLength_ at_ pattern_ x1 = some o1) (K : Sum.elim (fun v : Int32 × (Nat → Int32) × Int32 => ∀ (H : Heap) (locs : List Loc) (ls : Array Slot), St A D s (RW_X12_readsTest cy o d letters_ tests_ inputLength_ v.1 signed_ newParts_ machineParts_ firstParts_ firstTruth_ secondTruth_ isPair_ states_ stateClasses_ elements_ cursor_ hasSnapshot_ isSaving_ kind_ bound_ patternLength_ v.2.1) H locs → lv_has ls 3 [(0, .ref o), (1, .int v.2.2)] → W p l e rm_X12_readsTest s m args below meth c H locs 0 0 Q (F0 m 2 ls [])) (fun v : Int32 × (Nat → Int32) × Int32 => ∀ (H : Heap) (locs : List Loc) (ls : Array Slot), St A D s (RW_X12_readsTest cy o d letters_ tests_ inputLength_ v.1 signed_ newParts_ machineParts_ firstParts_ firstTruth_ secondTruth_ isPair_ states_ stateClasses_ elements_ cursor_ hasSnapshot_ isSaving_ kind_ bound_ patternLength_ v.2.1) H locs → lv_has ls 3 [(0, .ref o), (1, .int v.2.2)] → W p l e rm_X12_readsTest s m args below meth c H locs 0 0 Q (F0 m 66 ls [])) o1) : ∀ (H : Heap) (locs : List Loc) (ls : Array Slot), St A D s (RW_X12_readsTest cy o d letters_ tests_ inputLength_ at_ signed_ newParts_ machineParts_ firstParts_ firstTruth_ secondTruth_ isPair_ states_ stateClasses_ elements_ cursor_ hasSnapshot_ isSaving_ kind_ bound_ patternLength_ pattern_) H locs → lv_has ls 3 [(0, .ref o), (1, .int x1)] → W p l e rm_X12_readsTest s m args below meth c H locs 0 0 Q (F0 m 2 ls []) := by
  intro H locs ls Z hl
  have hx := X.1.1
  have hb := X.1.2.1
  unfold b_X12_readsTest_2 at h
  refine lv_iload_n hx hb dX12_readsTest_2 rfl (lv_at hl 1 rfl) ?_
  refine lv_iconst (v := (4 : Int32)) hx hb dX12_readsTest_3 (by decide) ?_
  refine lv_icmp_ge (tgt := 66) hx hb dX12_readsTest_4 (by decide) (fun cnd => ?_) (fun cnd => ?_)
  · replace h := ifp h cnd
    obtain rfl := Option.some.inj h
    exact (sk_r K) H locs ls Z (lv_sub hl [0, 1] rfl)
  · replace h := ifn h cnd
    refine lv_aload_n hx hb dX12_readsTest_7 rfl (lv_at hl 0 rfl) ?_
    refine lv_bipush (v := (97 : Int32)) hx hb dX12_readsTest_8 (by decide) ?_
    refine lv_bipush (v := (97 : Int32)) hx hb dX12_readsTest_10 (by decide) ?_
    refine lv_aload_n hx hb dX12_readsTest_12 rfl (lv_at hl 0 rfl) ?_
    refine x_get X Z 0 0 (v := .int letters_) rfl rfl lk_X12_readsTest_X12_letters dX12_readsTest_13 ?_
    refine lv_iadd hx hb dX12_readsTest_16 ?_
    refine lv_iconst (v := (1 : Int32)) hx hb dX12_readsTest_17 (by decide) ?_
    refine lv_isub hx hb dX12_readsTest_18 ?_
    obtain ⟨u1, hc2, h⟩ := ob_some h
    refine x_runVi (RW' := (RW_X12_readsTest cy o d letters_ tests_ inputLength_ at_ signed_ newParts_ machineParts_ firstParts_ firstTruth_ secondTruth_ isPair_ states_ stateClasses_ elements_ cursor_ hasSnapshot_ isSaving_ kind_ bound_ patternLength_ pattern_)) (wr := [(o, ob 11 (oX12 d letters_ tests_ inputLength_ at_ signed_ newParts_ machineParts_ firstParts_ firstTruth_ secondTruth_ isPair_ states_ stateClasses_ elements_ cursor_ hasSnapshot_ isSaving_)), ((d 5), aI cy 6 kind_), ((d 6), aI cy 6 bound_), ((d 7), aI cy 6 patternLength_), ((d 8), aI cy 24 pattern_)]) (isC := []) (isR := [0, 1, 2, 3, 4]) (isF := [0, 1, 2, 3, 4]) (rest := []) (As := [.int (97 : Int32), .int (((97 : Int32) + letters_) - (1 : Int32))]) (n := 2) X Z (c_X12_isAt l D cy o d letters_ tests_ inputLength_ at_ signed_ newParts_ machineParts_ firstParts_ firstTruth_ secondTruth_ isPair_ states_ stateClasses_ elements_ cursor_ hasSnapshot_ isSaving_ input_ (97 : Int32) (((97 : Int32) + letters_) - (1 : Int32)) u1 hc2) gX12_readsTest_X12_isAt rfl (by decide +kernel) ⟨Nat.le_of_ble_eq_true rfl, Nat.le_of_ble_eq_true rfl⟩ ⟨rfl, rfl⟩ ⟨Nat.le_of_ble_eq_true rfl, Nat.le_of_ble_eq_true rfl⟩ (x_rv X Z 0 rfl rfl) ⟨rfl, rfl, (roC (Or.inl (mem_at 0 rfl)) (roC (Or.inr (mem_at 0 rfl)) roN)), rfl, rfl, by decide⟩ ⟨rfl, rfl⟩ rfl hl.1 rfl (Nat.le_of_ble_eq_true rfl) dX12_readsTest_19 (fun H locs Z => ?_)
    refine lv_if_eq (tgt := 66) hx hb dX12_readsTest_22 (by decide) (fun cnd => ?_) (fun cnd => ?_)
    · replace h := ifp h cnd
      obtain rfl := Option.some.inj h
      exact (sk_r K) H locs ls Z (lv_sub hl [0, 1] rfl)
    · replace h := ifn h cnd
      refine lv_aload_n hx hb dX12_readsTest_25 rfl (lv_at hl 0 rfl) ?_
      refine x_get X Z 0 8 (v := .ref (d 8)) rfl rfl lk_X12_readsTest_X12_pattern dX12_readsTest_26 ?_
      refine lv_iconst (v := (4 : Int32)) hx hb dX12_readsTest_29 (by decide) ?_
      refine lv_aload_n hx hb dX12_readsTest_30 rfl (lv_at hl 0 rfl) ?_
      refine x_get X Z 0 10 (v := .int tests_) rfl rfl lk_X12_readsTest_X12_tests dX12_readsTest_31 ?_
      refine lv_imul hx hb dX12_readsTest_34 ?_
      refine lv_iload_n hx hb dX12_readsTest_35 rfl (lv_at hl 1 rfl) ?_
      refine lv_iadd hx hb dX12_readsTest_36 ?_
      refine lv_aload_n hx hb dX12_readsTest_37 rfl (lv_at hl 0 rfl) ?_
      refine x_get X Z 0 9 (v := .ref (d 9)) rfl rfl lk_X12_readsTest_X12_input dX12_readsTest_38 ?_
      refine lv_aload_n hx hb dX12_readsTest_41 rfl (lv_at hl 0 rfl) ?_
      refine x_get X Z 0 12 (v := .int at_) rfl rfl lk_X12_readsTest_X12_at dX12_readsTest_42 ?_
      obtain ⟨hin3, v4, hv5, h⟩ := ld_b h
      refine x_ialdO X Z 0 rfl hin3 hv5 dX12_readsTest_45 ?_
      refine lv_bipush (v := (97 : Int32)) hx hb dX12_readsTest_46 (by decide) ?_
      refine lv_isub hx hb dX12_readsTest_48 ?_
      obtain ⟨hin6, pattern_7, hv8, h⟩ := st_b h
      refine x_iast X Z 4 (RW_X12_readsTest cy o d letters_ tests_ inputLength_ at_ signed_ newParts_ machineParts_ firstParts_ firstTruth_ secondTruth_ isPair_ states_ stateClasses_ elements_ cursor_ hasSnapshot_ isSaving_ kind_ bound_ patternLength_ pattern_7) rfl hin6 hv8 rfl dX12_readsTest_49 (fun H locs Z => ?_)
      refine lv_iinc (v := (x1 + (1 : Int32))) (lv' := [(1, .int (x1 + (1 : Int32))), (0, .ref o)]) hx hb dX12_readsTest_50 hl (k := 1) rfl rfl (by decide) rfl (fun ls hl => ?_)
      refine lv_aload_n hx hb dX12_readsTest_53 rfl (lv_at hl 1 rfl) ?_
      refine lv_dup hx hb dX12_readsTest_54 rfl ?_
      refine x_get X Z 0 12 (v := .int at_) rfl rfl lk_X12_readsTest_X12_at dX12_readsTest_55 ?_
      refine lv_iconst (v := (1 : Int32)) hx hb dX12_readsTest_58 (by decide) ?_
      refine lv_iadd hx hb dX12_readsTest_59 ?_
      refine x_put X Z 0 12 (RW_X12_readsTest cy o d letters_ tests_ inputLength_ (at_ + (1 : Int32)) signed_ newParts_ machineParts_ firstParts_ firstTruth_ secondTruth_ isPair_ states_ stateClasses_ elements_ cursor_ hasSnapshot_ isSaving_ kind_ bound_ patternLength_ pattern_7) rfl lp_X12_readsTest_X12_at (Nat.le_of_ble_eq_true rfl) rfl dX12_readsTest_60 (fun H locs Z => ?_)
      refine lv_goto (tgt := 2) hx hb dX12_readsTest_63 (by decide) ?_
      obtain rfl := Option.some.inj h
      exact sk_l K H locs ls Z (lv_sub hl [1, 0] rfl)
set_option maxHeartbeats 4000000 in
set_option maxRecDepth 100000 in
theorem wl_X12_readsTest_2 {p : Program} {l : Launch} {e : Env} {s : State} {m : MethodId} {args : Array Value} {below : List Frame} {meth : Method} {c : Code} {A : Nat → Prop} {Q : State → Prop} {D : va_G} {cy : Nat → ClassId} (o : Nat) (d : Nat → Nat) (input_ : Nat → Int32) (letters_ : Int32) (tests_ : Int32) (inputLength_ : Int32) (signed_ : Int32) (newParts_ : Int32) (machineParts_ : Int32) (firstParts_ : Int32) (firstTruth_ : Int32) (secondTruth_ : Int32) (isPair_ : Int32) (states_ : Int32) (stateClasses_ : Int32) (elements_ : Int32) (cursor_ : Int32) (hasSnapshot_ : Int32) (isSaving_ : Int32) (kind_ : Nat → Int32) (bound_ : Nat → Int32) (patternLength_ : Nat → Int32) (n : Nat) (v : Int32 × (Nat → Int32) × Int32) (x : Int32 × (Nat → Int32) × Int32) (X : Cx p m c cX12_readsTest 3 s args wsX12_readsTest RX12 A D cy (RO_X12_readsTest cy o d input_)) (h : loopN (fun v => b_X12_readsTest_2 input_ letters_ tests_ inputLength_ v.1 v.2.1 v.2.2) n v = some x) (K : ∀ (H : Heap) (locs : List Loc) (ls : Array Slot), St A D s (RW_X12_readsTest cy o d letters_ tests_ inputLength_ x.1 signed_ newParts_ machineParts_ firstParts_ firstTruth_ secondTruth_ isPair_ states_ stateClasses_ elements_ cursor_ hasSnapshot_ isSaving_ kind_ bound_ patternLength_ x.2.1) H locs → lv_has ls 3 [(0, .ref o), (1, .int x.2.2)] → W p l e rm_X12_readsTest s m args below meth c H locs 0 0 Q (F0 m 66 ls [])) : ∀ (H : Heap) (locs : List Loc) (ls : Array Slot), St A D s (RW_X12_readsTest cy o d letters_ tests_ inputLength_ v.1 signed_ newParts_ machineParts_ firstParts_ firstTruth_ secondTruth_ isPair_ states_ stateClasses_ elements_ cursor_ hasSnapshot_ isSaving_ kind_ bound_ patternLength_ v.2.1) H locs → lv_has ls 3 [(0, .ref o), (1, .int v.2.2)] → W p l e rm_X12_readsTest s m args below meth c H locs 0 0 Q (F0 m 2 ls []) :=
  loop_gen (B := (fun v => b_X12_readsTest_2 input_ letters_ tests_ inputLength_ v.1 v.2.1 v.2.2)) (Head := fun v : Int32 × (Nat → Int32) × Int32 => ∀ (H : Heap) (locs : List Loc) (ls : Array Slot), St A D s (RW_X12_readsTest cy o d letters_ tests_ inputLength_ v.1 signed_ newParts_ machineParts_ firstParts_ firstTruth_ secondTruth_ isPair_ states_ stateClasses_ elements_ cursor_ hasSnapshot_ isSaving_ kind_ bound_ patternLength_ v.2.1) H locs → lv_has ls 3 [(0, .ref o), (1, .int v.2.2)] → W p l e rm_X12_readsTest s m args below meth c H locs 0 0 Q (F0 m 2 ls [])) (Exit := fun v : Int32 × (Nat → Int32) × Int32 => ∀ (H : Heap) (locs : List Loc) (ls : Array Slot), St A D s (RW_X12_readsTest cy o d letters_ tests_ inputLength_ v.1 signed_ newParts_ machineParts_ firstParts_ firstTruth_ secondTruth_ isPair_ states_ stateClasses_ elements_ cursor_ hasSnapshot_ isSaving_ kind_ bound_ patternLength_ v.2.1) H locs → lv_has ls 3 [(0, .ref o), (1, .int v.2.2)] → W p l e rm_X12_readsTest s m args below meth c H locs 0 0 Q (F0 m 66 ls [])) (fun v o9 hb1 K1 => wb_X12_readsTest_2 o d input_ letters_ tests_ inputLength_ signed_ newParts_ machineParts_ firstParts_ firstTruth_ secondTruth_ isPair_ states_ stateClasses_ elements_ cursor_ hasSnapshot_ isSaving_ kind_ bound_ patternLength_ v.1 v.2.1 v.2.2 o9 X hb1 K1) n v x h K
def j_X12_readsTest_196 (input_ : Nat → Int32) (tests_ : Int32) (inputLength_ : Int32) (at_ : Int32) (kind_ : Nat → Int32) (bound_ : Nat → Int32) (patternLength_ : Nat → Int32) (pattern_ : Nat → Int32) (x1 : Int32) (t0 : Int32) (t1 : Int32) : Option (Int32 × Int32 × (Nat → Int32) × (Nat → Int32) × (Nat → Int32) × (Nat → Int32)) :=
  stA kind_ 6 t1 t0 (fun kind_10 =>
  ldA input_ 8 at_ (fun v13 =>
  stA bound_ 6 tests_ (v13 - (48 : Int32)) (fun bound_16 =>
  stA patternLength_ 6 tests_ x1 (fun patternLength_19 =>
  if (at_ + (1 : Int32)) = inputLength_ then
  (some ((1 : Int32), (at_ + (1 : Int32)), kind_10, bound_16, patternLength_19, pattern_))
  else
  (some ((0 : Int32), (at_ + (1 : Int32)), kind_10, bound_16, patternLength_19, pattern_))))))
set_option maxHeartbeats 4000000 in
set_option maxRecDepth 100000 in
theorem jw_X12_readsTest_196 {p : Program} {l : Launch} {e : Env} {s : State} {m : MethodId} {args : Array Value} {below : List Frame} {meth : Method} {c : Code} {A : Nat → Prop} {Q : State → Prop} {D : va_G} {cy : Nat → ClassId} (o : Nat) (d : Nat → Nat) (input_ : Nat → Int32) (letters_ : Int32) (tests_ : Int32) (inputLength_ : Int32) (at_ : Int32) (signed_ : Int32) (newParts_ : Int32) (machineParts_ : Int32) (firstParts_ : Int32) (firstTruth_ : Int32) (secondTruth_ : Int32) (isPair_ : Int32) (states_ : Int32) (stateClasses_ : Int32) (elements_ : Int32) (cursor_ : Int32) (hasSnapshot_ : Int32) (isSaving_ : Int32) (kind_ : Nat → Int32) (bound_ : Nat → Int32) (patternLength_ : Nat → Int32) (pattern_ : Nat → Int32) (x1 : Int32) (t0 : Int32) (t1 : Int32) (out : Int32 × Int32 × (Nat → Int32) × (Nat → Int32) × (Nat → Int32) × (Nat → Int32)) (X : Cx p m c cX12_readsTest 3 s args wsX12_readsTest RX12 A D cy (RO_X12_readsTest cy o d input_)) (h : j_X12_readsTest_196 input_ tests_ inputLength_ at_ kind_ bound_ patternLength_ pattern_ x1 t0 t1 = some out) (K : ∀ (H : Heap) (locs : List Loc) (ls : Array Slot) (pc : Nat), decode cX12_readsTest pc = .ok (.ireturn, 1) → (out.1 = 0 ∨ out.1 = 1) → St A D s (RW_X12_readsTest cy o d letters_ tests_ inputLength_ out.2.1 signed_ newParts_ machineParts_ firstParts_ firstTruth_ secondTruth_ isPair_ states_ stateClasses_ elements_ cursor_ hasSnapshot_ isSaving_ out.2.2.1 out.2.2.2.1 out.2.2.2.2.1 out.2.2.2.2.2) H locs → W p l e rm_X12_readsTest s m args below meth c H locs 0 0 Q (F0 m pc ls [.int out.1])) : ∀ (H : Heap) (locs : List Loc) (ls : Array Slot), St A D s (RW_X12_readsTest cy o d letters_ tests_ inputLength_ at_ signed_ newParts_ machineParts_ firstParts_ firstTruth_ secondTruth_ isPair_ states_ stateClasses_ elements_ cursor_ hasSnapshot_ isSaving_ kind_ bound_ patternLength_ pattern_) H locs → lv_has ls 3 [(0, .ref o), (1, .int x1)] → W p l e rm_X12_readsTest s m args below meth c H locs 0 0 Q (F0 m 196 ls [.int t0, .int t1, .ref (d 5)]) := by
  intro H locs ls Z hl
  have hx := X.1.1
  have hb := X.1.2.1
  unfold j_X12_readsTest_196 at h
  obtain ⟨hin9, kind_10, hv11, h⟩ := st_b h
  refine x_iast X Z 1 (RW_X12_readsTest cy o d letters_ tests_ inputLength_ at_ signed_ newParts_ machineParts_ firstParts_ firstTruth_ secondTruth_ isPair_ states_ stateClasses_ elements_ cursor_ hasSnapshot_ isSaving_ kind_10 bound_ patternLength_ pattern_) rfl hin9 hv11 rfl dX12_readsTest_196 (fun H locs Z => ?_)
  refine lv_aload_n hx hb dX12_readsTest_197 rfl (lv_at hl 0 rfl) ?_
  refine x_get X Z 0 6 (v := .ref (d 6)) rfl rfl lk_X12_readsTest_X12_bound dX12_readsTest_198 ?_
  refine lv_aload_n hx hb dX12_readsTest_201 rfl (lv_at hl 0 rfl) ?_
  refine x_get X Z 0 10 (v := .int tests_) rfl rfl lk_X12_readsTest_X12_tests dX12_readsTest_202 ?_
  refine lv_aload_n hx hb dX12_readsTest_205 rfl (lv_at hl 0 rfl) ?_
  refine x_get X Z 0 9 (v := .ref (d 9)) rfl rfl lk_X12_readsTest_X12_input dX12_readsTest_206 ?_
  refine lv_aload_n hx hb dX12_readsTest_209 rfl (lv_at hl 0 rfl) ?_
  refine x_get X Z 0 12 (v := .int at_) rfl rfl lk_X12_readsTest_X12_at dX12_readsTest_210 ?_
  obtain ⟨hin12, v13, hv14, h⟩ := ld_b h
  refine x_ialdO X Z 0 rfl hin12 hv14 dX12_readsTest_213 ?_
  refine lv_bipush (v := (48 : Int32)) hx hb dX12_readsTest_214 (by decide) ?_
  refine lv_isub hx hb dX12_readsTest_216 ?_
  obtain ⟨hin15, bound_16, hv17, h⟩ := st_b h
  refine x_iast X Z 2 (RW_X12_readsTest cy o d letters_ tests_ inputLength_ at_ signed_ newParts_ machineParts_ firstParts_ firstTruth_ secondTruth_ isPair_ states_ stateClasses_ elements_ cursor_ hasSnapshot_ isSaving_ kind_10 bound_16 patternLength_ pattern_) rfl hin15 hv17 rfl dX12_readsTest_217 (fun H locs Z => ?_)
  refine lv_aload_n hx hb dX12_readsTest_218 rfl (lv_at hl 0 rfl) ?_
  refine x_get X Z 0 7 (v := .ref (d 7)) rfl rfl lk_X12_readsTest_X12_patternLength dX12_readsTest_219 ?_
  refine lv_aload_n hx hb dX12_readsTest_222 rfl (lv_at hl 0 rfl) ?_
  refine x_get X Z 0 10 (v := .int tests_) rfl rfl lk_X12_readsTest_X12_tests dX12_readsTest_223 ?_
  refine lv_iload_n hx hb dX12_readsTest_226 rfl (lv_at hl 1 rfl) ?_
  obtain ⟨hin18, patternLength_19, hv20, h⟩ := st_b h
  refine x_iast X Z 3 (RW_X12_readsTest cy o d letters_ tests_ inputLength_ at_ signed_ newParts_ machineParts_ firstParts_ firstTruth_ secondTruth_ isPair_ states_ stateClasses_ elements_ cursor_ hasSnapshot_ isSaving_ kind_10 bound_16 patternLength_19 pattern_) rfl hin18 hv20 rfl dX12_readsTest_227 (fun H locs Z => ?_)
  refine lv_aload_n hx hb dX12_readsTest_228 rfl (lv_at hl 0 rfl) ?_
  refine lv_dup hx hb dX12_readsTest_229 rfl ?_
  refine x_get X Z 0 12 (v := .int at_) rfl rfl lk_X12_readsTest_X12_at dX12_readsTest_230 ?_
  refine lv_iconst (v := (1 : Int32)) hx hb dX12_readsTest_233 (by decide) ?_
  refine lv_iadd hx hb dX12_readsTest_234 ?_
  refine x_put X Z 0 12 (RW_X12_readsTest cy o d letters_ tests_ inputLength_ (at_ + (1 : Int32)) signed_ newParts_ machineParts_ firstParts_ firstTruth_ secondTruth_ isPair_ states_ stateClasses_ elements_ cursor_ hasSnapshot_ isSaving_ kind_10 bound_16 patternLength_19 pattern_) rfl lp_X12_readsTest_X12_at (Nat.le_of_ble_eq_true rfl) rfl dX12_readsTest_235 (fun H locs Z => ?_)
  refine lv_aload_n hx hb dX12_readsTest_238 rfl (lv_at hl 0 rfl) ?_
  refine x_get X Z 0 12 (v := .int (at_ + (1 : Int32))) rfl rfl lk_X12_readsTest_X12_at dX12_readsTest_239 ?_
  refine lv_aload_n hx hb dX12_readsTest_242 rfl (lv_at hl 0 rfl) ?_
  refine x_get X Z 0 11 (v := .int inputLength_) rfl rfl lk_X12_readsTest_X12_inputLength dX12_readsTest_243 ?_
  refine lv_icmp_ne (tgt := 253) hx hb dX12_readsTest_246 (by decide) (fun cnd => ?_) (fun cnd => ?_)
  · replace h := ifn h cnd
    refine lv_iconst (v := (0 : Int32)) hx hb dX12_readsTest_253 (by decide) ?_
    obtain rfl := Option.some.inj h
    exact K H locs ls _ dX12_readsTest_254 (Or.inl rfl) Z
  · replace h := ifp h cnd
    refine lv_iconst (v := (1 : Int32)) hx hb dX12_readsTest_249 (by decide) ?_
    refine lv_goto (tgt := 254) hx hb dX12_readsTest_250 (by decide) ?_
    obtain rfl := Option.some.inj h
    exact K H locs ls _ dX12_readsTest_254 (Or.inr rfl) Z
def j_X12_readsTest_161 (input_ : Nat → Int32) (tests_ : Int32) (inputLength_ : Int32) (at_ : Int32) (kind_ : Nat → Int32) (bound_ : Nat → Int32) (patternLength_ : Nat → Int32) (pattern_ : Nat → Int32) (x1 : Int32) (x2 : Int32) (t0 : Int32) : Option (Int32 × Int32 × (Nat → Int32) × (Nat → Int32) × (Nat → Int32) × (Nat → Int32)) :=
  (f_X12_isAt t0 (57 : Int32) inputLength_ at_ input_).bind (fun u21 =>
  if u21 = 0 then
  (some ((0 : Int32), at_, kind_, bound_, patternLength_, pattern_))
  else
  (if x2 = 0 then
  (if x1 = 0 then
  (j_X12_readsTest_196 input_ tests_ inputLength_ at_ kind_ bound_ patternLength_ pattern_ x1 (1 : Int32) tests_)
  else
  (j_X12_readsTest_196 input_ tests_ inputLength_ at_ kind_ bound_ patternLength_ pattern_ x1 (0 : Int32) tests_))
  else
  (j_X12_readsTest_196 input_ tests_ inputLength_ at_ kind_ bound_ patternLength_ pattern_ x1 (2 : Int32) tests_)))
set_option maxHeartbeats 4000000 in
set_option maxRecDepth 100000 in
theorem jw_X12_readsTest_161 {p : Program} {l : Launch} {e : Env} {s : State} {m : MethodId} {args : Array Value} {below : List Frame} {meth : Method} {c : Code} {A : Nat → Prop} {Q : State → Prop} {D : va_G} {cy : Nat → ClassId} (o : Nat) (d : Nat → Nat) (input_ : Nat → Int32) (letters_ : Int32) (tests_ : Int32) (inputLength_ : Int32) (at_ : Int32) (signed_ : Int32) (newParts_ : Int32) (machineParts_ : Int32) (firstParts_ : Int32) (firstTruth_ : Int32) (secondTruth_ : Int32) (isPair_ : Int32) (states_ : Int32) (stateClasses_ : Int32) (elements_ : Int32) (cursor_ : Int32) (hasSnapshot_ : Int32) (isSaving_ : Int32) (kind_ : Nat → Int32) (bound_ : Nat → Int32) (patternLength_ : Nat → Int32) (pattern_ : Nat → Int32) (x1 : Int32) (x2 : Int32) (t0 : Int32) (out : Int32 × Int32 × (Nat → Int32) × (Nat → Int32) × (Nat → Int32) × (Nat → Int32)) (X : Cx p m c cX12_readsTest 3 s args wsX12_readsTest RX12 A D cy (RO_X12_readsTest cy o d input_)) (h : j_X12_readsTest_161 input_ tests_ inputLength_ at_ kind_ bound_ patternLength_ pattern_ x1 x2 t0 = some out) (K : ∀ (H : Heap) (locs : List Loc) (ls : Array Slot) (pc : Nat), decode cX12_readsTest pc = .ok (.ireturn, 1) → (out.1 = 0 ∨ out.1 = 1) → St A D s (RW_X12_readsTest cy o d letters_ tests_ inputLength_ out.2.1 signed_ newParts_ machineParts_ firstParts_ firstTruth_ secondTruth_ isPair_ states_ stateClasses_ elements_ cursor_ hasSnapshot_ isSaving_ out.2.2.1 out.2.2.2.1 out.2.2.2.2.1 out.2.2.2.2.2) H locs → W p l e rm_X12_readsTest s m args below meth c H locs 0 0 Q (F0 m pc ls [.int out.1])) : ∀ (H : Heap) (locs : List Loc) (ls : Array Slot), St A D s (RW_X12_readsTest cy o d letters_ tests_ inputLength_ at_ signed_ newParts_ machineParts_ firstParts_ firstTruth_ secondTruth_ isPair_ states_ stateClasses_ elements_ cursor_ hasSnapshot_ isSaving_ kind_ bound_ patternLength_ pattern_) H locs → lv_has ls 3 [(0, .ref o), (1, .int x1), (2, .int x2)] → W p l e rm_X12_readsTest s m args below meth c H locs 0 0 Q (F0 m 161 ls [.int t0, .ref o]) := by
  intro H locs ls Z hl
  have hx := X.1.1
  have hb := X.1.2.1
  unfold j_X12_readsTest_161 at h
  refine lv_bipush (v := (57 : Int32)) hx hb dX12_readsTest_161 (by decide) ?_
  obtain ⟨u21, hc22, h⟩ := ob_some h
  refine x_runVi (RW' := (RW_X12_readsTest cy o d letters_ tests_ inputLength_ at_ signed_ newParts_ machineParts_ firstParts_ firstTruth_ secondTruth_ isPair_ states_ stateClasses_ elements_ cursor_ hasSnapshot_ isSaving_ kind_ bound_ patternLength_ pattern_)) (wr := [(o, ob 11 (oX12 d letters_ tests_ inputLength_ at_ signed_ newParts_ machineParts_ firstParts_ firstTruth_ secondTruth_ isPair_ states_ stateClasses_ elements_ cursor_ hasSnapshot_ isSaving_)), ((d 5), aI cy 6 kind_), ((d 6), aI cy 6 bound_), ((d 7), aI cy 6 patternLength_), ((d 8), aI cy 24 pattern_)]) (isC := []) (isR := [0, 1, 2, 3, 4]) (isF := [0, 1, 2, 3, 4]) (rest := []) (As := [.int t0, .int (57 : Int32)]) (n := 2) X Z (c_X12_isAt l D cy o d letters_ tests_ inputLength_ at_ signed_ newParts_ machineParts_ firstParts_ firstTruth_ secondTruth_ isPair_ states_ stateClasses_ elements_ cursor_ hasSnapshot_ isSaving_ input_ t0 (57 : Int32) u21 hc22) gX12_readsTest_X12_isAt rfl (by decide +kernel) ⟨Nat.le_of_ble_eq_true rfl, Nat.le_of_ble_eq_true rfl⟩ ⟨rfl, rfl⟩ ⟨Nat.le_of_ble_eq_true rfl, Nat.le_of_ble_eq_true rfl⟩ (x_rv X Z 0 rfl rfl) ⟨rfl, rfl, (roC (Or.inl (mem_at 0 rfl)) (roC (Or.inr (mem_at 0 rfl)) roN)), rfl, rfl, by decide⟩ ⟨rfl, rfl⟩ rfl hl.1 rfl (Nat.le_of_ble_eq_true rfl) dX12_readsTest_163 (fun H locs Z => ?_)
  refine lv_if_ne (tgt := 171) hx hb dX12_readsTest_166 (by decide) (fun cnd => ?_) (fun cnd => ?_)
  · replace h := ifn h cnd
    refine lv_aload_n hx hb dX12_readsTest_171 rfl (lv_at hl 0 rfl) ?_
    refine x_get X Z 0 5 (v := .ref (d 5)) rfl rfl lk_X12_readsTest_X12_kind dX12_readsTest_172 ?_
    refine lv_aload_n hx hb dX12_readsTest_175 rfl (lv_at hl 0 rfl) ?_
    refine x_get X Z 0 10 (v := .int tests_) rfl rfl lk_X12_readsTest_X12_tests dX12_readsTest_176 ?_
    refine lv_iload_n hx hb dX12_readsTest_179 rfl (lv_at hl 2 rfl) ?_
    refine lv_if_eq (tgt := 187) hx hb dX12_readsTest_180 (by decide) (fun cnd => ?_) (fun cnd => ?_)
    · replace h := ifp h cnd
      refine lv_iload_n hx hb dX12_readsTest_187 rfl (lv_at hl 1 rfl) ?_
      refine lv_if_ne (tgt := 195) hx hb dX12_readsTest_188 (by decide) (fun cnd => ?_) (fun cnd => ?_)
      · replace h := ifn h cnd
        refine lv_iconst (v := (0 : Int32)) hx hb dX12_readsTest_195 (by decide) ?_
        exact jw_X12_readsTest_196 o d input_ letters_ tests_ inputLength_ at_ signed_ newParts_ machineParts_ firstParts_ firstTruth_ secondTruth_ isPair_ states_ stateClasses_ elements_ cursor_ hasSnapshot_ isSaving_ kind_ bound_ patternLength_ pattern_ x1 (0 : Int32) tests_ _ X h K H locs ls Z (lv_sub hl [0, 1] rfl)
      · replace h := ifp h cnd
        refine lv_iconst (v := (1 : Int32)) hx hb dX12_readsTest_191 (by decide) ?_
        refine lv_goto (tgt := 196) hx hb dX12_readsTest_192 (by decide) ?_
        exact jw_X12_readsTest_196 o d input_ letters_ tests_ inputLength_ at_ signed_ newParts_ machineParts_ firstParts_ firstTruth_ secondTruth_ isPair_ states_ stateClasses_ elements_ cursor_ hasSnapshot_ isSaving_ kind_ bound_ patternLength_ pattern_ x1 (1 : Int32) tests_ _ X h K H locs ls Z (lv_sub hl [0, 1] rfl)
    · replace h := ifn h cnd
      refine lv_iconst (v := (2 : Int32)) hx hb dX12_readsTest_183 (by decide) ?_
      refine lv_goto (tgt := 196) hx hb dX12_readsTest_184 (by decide) ?_
      exact jw_X12_readsTest_196 o d input_ letters_ tests_ inputLength_ at_ signed_ newParts_ machineParts_ firstParts_ firstTruth_ secondTruth_ isPair_ states_ stateClasses_ elements_ cursor_ hasSnapshot_ isSaving_ kind_ bound_ patternLength_ pattern_ x1 (2 : Int32) tests_ _ X h K H locs ls Z (lv_sub hl [0, 1] rfl)
  · replace h := ifp h cnd
    refine lv_iconst (v := (0 : Int32)) hx hb dX12_readsTest_169 (by decide) ?_
    obtain rfl := Option.some.inj h
    exact K H locs ls _ dX12_readsTest_170 (Or.inl rfl) Z
def j_X12_readsTest_139 (input_ : Nat → Int32) (tests_ : Int32) (inputLength_ : Int32) (at_ : Int32) (kind_ : Nat → Int32) (bound_ : Nat → Int32) (patternLength_ : Nat → Int32) (pattern_ : Nat → Int32) (x1 : Int32) (x2 : Int32) : Option (Int32 × Int32 × (Nat → Int32) × (Nat → Int32) × (Nat → Int32) × (Nat → Int32)) :=
  if x2 = 0 then
  (j_X12_readsTest_161 input_ tests_ inputLength_ (at_ + (1 : Int32)) kind_ bound_ patternLength_ pattern_ x1 x2 (50 : Int32))
  else
  (j_X12_readsTest_161 input_ tests_ inputLength_ (at_ + (1 : Int32)) kind_ bound_ patternLength_ pattern_ x1 x2 (49 : Int32))
set_option maxHeartbeats 4000000 in
set_option maxRecDepth 100000 in
theorem jw_X12_readsTest_139 {p : Program} {l : Launch} {e : Env} {s : State} {m : MethodId} {args : Array Value} {below : List Frame} {meth : Method} {c : Code} {A : Nat → Prop} {Q : State → Prop} {D : va_G} {cy : Nat → ClassId} (o : Nat) (d : Nat → Nat) (input_ : Nat → Int32) (letters_ : Int32) (tests_ : Int32) (inputLength_ : Int32) (at_ : Int32) (signed_ : Int32) (newParts_ : Int32) (machineParts_ : Int32) (firstParts_ : Int32) (firstTruth_ : Int32) (secondTruth_ : Int32) (isPair_ : Int32) (states_ : Int32) (stateClasses_ : Int32) (elements_ : Int32) (cursor_ : Int32) (hasSnapshot_ : Int32) (isSaving_ : Int32) (kind_ : Nat → Int32) (bound_ : Nat → Int32) (patternLength_ : Nat → Int32) (pattern_ : Nat → Int32) (x1 : Int32) (x2 : Int32) (out : Int32 × Int32 × (Nat → Int32) × (Nat → Int32) × (Nat → Int32) × (Nat → Int32)) (X : Cx p m c cX12_readsTest 3 s args wsX12_readsTest RX12 A D cy (RO_X12_readsTest cy o d input_)) (h : j_X12_readsTest_139 input_ tests_ inputLength_ at_ kind_ bound_ patternLength_ pattern_ x1 x2 = some out) (K : ∀ (H : Heap) (locs : List Loc) (ls : Array Slot) (pc : Nat), decode cX12_readsTest pc = .ok (.ireturn, 1) → (out.1 = 0 ∨ out.1 = 1) → St A D s (RW_X12_readsTest cy o d letters_ tests_ inputLength_ out.2.1 signed_ newParts_ machineParts_ firstParts_ firstTruth_ secondTruth_ isPair_ states_ stateClasses_ elements_ cursor_ hasSnapshot_ isSaving_ out.2.2.1 out.2.2.2.1 out.2.2.2.2.1 out.2.2.2.2.2) H locs → W p l e rm_X12_readsTest s m args below meth c H locs 0 0 Q (F0 m pc ls [.int out.1])) : ∀ (H : Heap) (locs : List Loc) (ls : Array Slot), St A D s (RW_X12_readsTest cy o d letters_ tests_ inputLength_ at_ signed_ newParts_ machineParts_ firstParts_ firstTruth_ secondTruth_ isPair_ states_ stateClasses_ elements_ cursor_ hasSnapshot_ isSaving_ kind_ bound_ patternLength_ pattern_) H locs → lv_has ls 3 [(0, .ref o), (1, .int x1), (2, .int x2)] → W p l e rm_X12_readsTest s m args below meth c H locs 0 0 Q (F0 m 139 ls []) := by
  intro H locs ls Z hl
  have hx := X.1.1
  have hb := X.1.2.1
  unfold j_X12_readsTest_139 at h
  refine lv_aload_n hx hb dX12_readsTest_139 rfl (lv_at hl 0 rfl) ?_
  refine lv_dup hx hb dX12_readsTest_140 rfl ?_
  refine x_get X Z 0 12 (v := .int at_) rfl rfl lk_X12_readsTest_X12_at dX12_readsTest_141 ?_
  refine lv_iconst (v := (1 : Int32)) hx hb dX12_readsTest_144 (by decide) ?_
  refine lv_iadd hx hb dX12_readsTest_145 ?_
  refine x_put X Z 0 12 (RW_X12_readsTest cy o d letters_ tests_ inputLength_ (at_ + (1 : Int32)) signed_ newParts_ machineParts_ firstParts_ firstTruth_ secondTruth_ isPair_ states_ stateClasses_ elements_ cursor_ hasSnapshot_ isSaving_ kind_ bound_ patternLength_ pattern_) rfl lp_X12_readsTest_X12_at (Nat.le_of_ble_eq_true rfl) rfl dX12_readsTest_146 (fun H locs Z => ?_)
  refine lv_aload_n hx hb dX12_readsTest_149 rfl (lv_at hl 0 rfl) ?_
  refine lv_iload_n hx hb dX12_readsTest_150 rfl (lv_at hl 2 rfl) ?_
  refine lv_if_eq (tgt := 159) hx hb dX12_readsTest_151 (by decide) (fun cnd => ?_) (fun cnd => ?_)
  · replace h := ifp h cnd
    refine lv_bipush (v := (50 : Int32)) hx hb dX12_readsTest_159 (by decide) ?_
    exact jw_X12_readsTest_161 o d input_ letters_ tests_ inputLength_ (at_ + (1 : Int32)) signed_ newParts_ machineParts_ firstParts_ firstTruth_ secondTruth_ isPair_ states_ stateClasses_ elements_ cursor_ hasSnapshot_ isSaving_ kind_ bound_ patternLength_ pattern_ x1 x2 (50 : Int32) _ X h K H locs ls Z (lv_sub hl [0, 1, 2] rfl)
  · replace h := ifn h cnd
    refine lv_bipush (v := (49 : Int32)) hx hb dX12_readsTest_154 (by decide) ?_
    refine lv_goto (tgt := 161) hx hb dX12_readsTest_156 (by decide) ?_
    exact jw_X12_readsTest_161 o d input_ letters_ tests_ inputLength_ (at_ + (1 : Int32)) signed_ newParts_ machineParts_ firstParts_ firstTruth_ secondTruth_ isPair_ states_ stateClasses_ elements_ cursor_ hasSnapshot_ isSaving_ kind_ bound_ patternLength_ pattern_ x1 x2 (49 : Int32) _ X h K H locs ls Z (lv_sub hl [0, 1, 2] rfl)
def j_X12_readsTest_121 (input_ : Nat → Int32) (tests_ : Int32) (inputLength_ : Int32) (at_ : Int32) (kind_ : Nat → Int32) (bound_ : Nat → Int32) (patternLength_ : Nat → Int32) (pattern_ : Nat → Int32) (x1 : Int32) (t0 : Int32) : Option (Int32 × Int32 × (Nat → Int32) × (Nat → Int32) × (Nat → Int32) × (Nat → Int32)) :=
  if t0 = 0 then
  ((f_X12_isAt (37 : Int32) (37 : Int32) inputLength_ at_ input_).bind (fun u23 =>
  if u23 = 0 then
  (some ((0 : Int32), at_, kind_, bound_, patternLength_, pattern_))
  else
  (j_X12_readsTest_139 input_ tests_ inputLength_ at_ kind_ bound_ patternLength_ pattern_ x1 t0)))
  else
  (j_X12_readsTest_139 input_ tests_ inputLength_ at_ kind_ bound_ patternLength_ pattern_ x1 t0)
set_option maxHeartbeats 4000000 in
set_option maxRecDepth 100000 in
theorem jw_X12_readsTest_121 {p : Program} {l : Launch} {e : Env} {s : State} {m : MethodId} {args : Array Value} {below : List Frame} {meth : Method} {c : Code} {A : Nat → Prop} {Q : State → Prop} {D : va_G} {cy : Nat → ClassId} (o : Nat) (d : Nat → Nat) (input_ : Nat → Int32) (letters_ : Int32) (tests_ : Int32) (inputLength_ : Int32) (at_ : Int32) (signed_ : Int32) (newParts_ : Int32) (machineParts_ : Int32) (firstParts_ : Int32) (firstTruth_ : Int32) (secondTruth_ : Int32) (isPair_ : Int32) (states_ : Int32) (stateClasses_ : Int32) (elements_ : Int32) (cursor_ : Int32) (hasSnapshot_ : Int32) (isSaving_ : Int32) (kind_ : Nat → Int32) (bound_ : Nat → Int32) (patternLength_ : Nat → Int32) (pattern_ : Nat → Int32) (x1 : Int32) (t0 : Int32) (out : Int32 × Int32 × (Nat → Int32) × (Nat → Int32) × (Nat → Int32) × (Nat → Int32)) (X : Cx p m c cX12_readsTest 3 s args wsX12_readsTest RX12 A D cy (RO_X12_readsTest cy o d input_)) (h : j_X12_readsTest_121 input_ tests_ inputLength_ at_ kind_ bound_ patternLength_ pattern_ x1 t0 = some out) (K : ∀ (H : Heap) (locs : List Loc) (ls : Array Slot) (pc : Nat), decode cX12_readsTest pc = .ok (.ireturn, 1) → (out.1 = 0 ∨ out.1 = 1) → St A D s (RW_X12_readsTest cy o d letters_ tests_ inputLength_ out.2.1 signed_ newParts_ machineParts_ firstParts_ firstTruth_ secondTruth_ isPair_ states_ stateClasses_ elements_ cursor_ hasSnapshot_ isSaving_ out.2.2.1 out.2.2.2.1 out.2.2.2.2.1 out.2.2.2.2.2) H locs → W p l e rm_X12_readsTest s m args below meth c H locs 0 0 Q (F0 m pc ls [.int out.1])) : ∀ (H : Heap) (locs : List Loc) (ls : Array Slot), St A D s (RW_X12_readsTest cy o d letters_ tests_ inputLength_ at_ signed_ newParts_ machineParts_ firstParts_ firstTruth_ secondTruth_ isPair_ states_ stateClasses_ elements_ cursor_ hasSnapshot_ isSaving_ kind_ bound_ patternLength_ pattern_) H locs → lv_has ls 3 [(0, .ref o), (1, .int x1)] → W p l e rm_X12_readsTest s m args below meth c H locs 0 0 Q (F0 m 121 ls [.int t0]) := by
  intro H locs ls Z hl
  have hx := X.1.1
  have hb := X.1.2.1
  unfold j_X12_readsTest_121 at h
  refine lv_istore_n (lv' := [(2, .int t0), (0, .ref o), (1, .int x1)]) hx hb dX12_readsTest_121 rfl hl (by decide) rfl (fun ls hl => ?_)
  refine lv_iload_n hx hb dX12_readsTest_122 rfl (lv_at hl 0 rfl) ?_
  refine lv_if_ne (tgt := 139) hx hb dX12_readsTest_123 (by decide) (fun cnd => ?_) (fun cnd => ?_)
  · replace h := ifn h cnd
    exact jw_X12_readsTest_139 o d input_ letters_ tests_ inputLength_ at_ signed_ newParts_ machineParts_ firstParts_ firstTruth_ secondTruth_ isPair_ states_ stateClasses_ elements_ cursor_ hasSnapshot_ isSaving_ kind_ bound_ patternLength_ pattern_ x1 t0 _ X h K H locs ls Z (lv_sub hl [1, 2, 0] rfl)
  · replace h := ifp h cnd
    refine lv_aload_n hx hb dX12_readsTest_126 rfl (lv_at hl 1 rfl) ?_
    refine lv_bipush (v := (37 : Int32)) hx hb dX12_readsTest_127 (by decide) ?_
    refine lv_bipush (v := (37 : Int32)) hx hb dX12_readsTest_129 (by decide) ?_
    obtain ⟨u23, hc24, h⟩ := ob_some h
    refine x_runVi (RW' := (RW_X12_readsTest cy o d letters_ tests_ inputLength_ at_ signed_ newParts_ machineParts_ firstParts_ firstTruth_ secondTruth_ isPair_ states_ stateClasses_ elements_ cursor_ hasSnapshot_ isSaving_ kind_ bound_ patternLength_ pattern_)) (wr := [(o, ob 11 (oX12 d letters_ tests_ inputLength_ at_ signed_ newParts_ machineParts_ firstParts_ firstTruth_ secondTruth_ isPair_ states_ stateClasses_ elements_ cursor_ hasSnapshot_ isSaving_)), ((d 5), aI cy 6 kind_), ((d 6), aI cy 6 bound_), ((d 7), aI cy 6 patternLength_), ((d 8), aI cy 24 pattern_)]) (isC := []) (isR := [0, 1, 2, 3, 4]) (isF := [0, 1, 2, 3, 4]) (rest := []) (As := [.int (37 : Int32), .int (37 : Int32)]) (n := 2) X Z (c_X12_isAt l D cy o d letters_ tests_ inputLength_ at_ signed_ newParts_ machineParts_ firstParts_ firstTruth_ secondTruth_ isPair_ states_ stateClasses_ elements_ cursor_ hasSnapshot_ isSaving_ input_ (37 : Int32) (37 : Int32) u23 hc24) gX12_readsTest_X12_isAt rfl (by decide +kernel) ⟨Nat.le_of_ble_eq_true rfl, Nat.le_of_ble_eq_true rfl⟩ ⟨rfl, rfl⟩ ⟨Nat.le_of_ble_eq_true rfl, Nat.le_of_ble_eq_true rfl⟩ (x_rv X Z 0 rfl rfl) ⟨rfl, rfl, (roC (Or.inl (mem_at 0 rfl)) (roC (Or.inr (mem_at 0 rfl)) roN)), rfl, rfl, by decide⟩ ⟨rfl, rfl⟩ rfl hl.1 rfl (Nat.le_of_ble_eq_true rfl) dX12_readsTest_131 (fun H locs Z => ?_)
    refine lv_if_ne (tgt := 139) hx hb dX12_readsTest_134 (by decide) (fun cnd => ?_) (fun cnd => ?_)
    · replace h := ifn h cnd
      exact jw_X12_readsTest_139 o d input_ letters_ tests_ inputLength_ at_ signed_ newParts_ machineParts_ firstParts_ firstTruth_ secondTruth_ isPair_ states_ stateClasses_ elements_ cursor_ hasSnapshot_ isSaving_ kind_ bound_ patternLength_ pattern_ x1 t0 _ X h K H locs ls Z (lv_sub hl [1, 2, 0] rfl)
    · replace h := ifp h cnd
      refine lv_iconst (v := (0 : Int32)) hx hb dX12_readsTest_137 (by decide) ?_
      obtain rfl := Option.some.inj h
      exact K H locs ls _ dX12_readsTest_138 (Or.inl rfl) Z
def j_X12_readsTest_120 (input_ : Nat → Int32) (tests_ : Int32) (inputLength_ : Int32) (at_ : Int32) (kind_ : Nat → Int32) (bound_ : Nat → Int32) (patternLength_ : Nat → Int32) (pattern_ : Nat → Int32) (x1 : Int32) : Option (Int32 × Int32 × (Nat → Int32) × (Nat → Int32) × (Nat → Int32) × (Nat → Int32)) :=
  j_X12_readsTest_121 input_ tests_ inputLength_ at_ kind_ bound_ patternLength_ pattern_ x1 (0 : Int32)
set_option maxHeartbeats 4000000 in
set_option maxRecDepth 100000 in
theorem jw_X12_readsTest_120 {p : Program} {l : Launch} {e : Env} {s : State} {m : MethodId} {args : Array Value} {below : List Frame} {meth : Method} {c : Code} {A : Nat → Prop} {Q : State → Prop} {D : va_G} {cy : Nat → ClassId} (o : Nat) (d : Nat → Nat) (input_ : Nat → Int32) (letters_ : Int32) (tests_ : Int32) (inputLength_ : Int32) (at_ : Int32) (signed_ : Int32) (newParts_ : Int32) (machineParts_ : Int32) (firstParts_ : Int32) (firstTruth_ : Int32) (secondTruth_ : Int32) (isPair_ : Int32) (states_ : Int32) (stateClasses_ : Int32) (elements_ : Int32) (cursor_ : Int32) (hasSnapshot_ : Int32) (isSaving_ : Int32) (kind_ : Nat → Int32) (bound_ : Nat → Int32) (patternLength_ : Nat → Int32) (pattern_ : Nat → Int32) (x1 : Int32) (out : Int32 × Int32 × (Nat → Int32) × (Nat → Int32) × (Nat → Int32) × (Nat → Int32)) (X : Cx p m c cX12_readsTest 3 s args wsX12_readsTest RX12 A D cy (RO_X12_readsTest cy o d input_)) (h : j_X12_readsTest_120 input_ tests_ inputLength_ at_ kind_ bound_ patternLength_ pattern_ x1 = some out) (K : ∀ (H : Heap) (locs : List Loc) (ls : Array Slot) (pc : Nat), decode cX12_readsTest pc = .ok (.ireturn, 1) → (out.1 = 0 ∨ out.1 = 1) → St A D s (RW_X12_readsTest cy o d letters_ tests_ inputLength_ out.2.1 signed_ newParts_ machineParts_ firstParts_ firstTruth_ secondTruth_ isPair_ states_ stateClasses_ elements_ cursor_ hasSnapshot_ isSaving_ out.2.2.1 out.2.2.2.1 out.2.2.2.2.1 out.2.2.2.2.2) H locs → W p l e rm_X12_readsTest s m args below meth c H locs 0 0 Q (F0 m pc ls [.int out.1])) : ∀ (H : Heap) (locs : List Loc) (ls : Array Slot), St A D s (RW_X12_readsTest cy o d letters_ tests_ inputLength_ at_ signed_ newParts_ machineParts_ firstParts_ firstTruth_ secondTruth_ isPair_ states_ stateClasses_ elements_ cursor_ hasSnapshot_ isSaving_ kind_ bound_ patternLength_ pattern_) H locs → lv_has ls 3 [(0, .ref o), (1, .int x1)] → W p l e rm_X12_readsTest s m args below meth c H locs 0 0 Q (F0 m 120 ls []) := by
  intro H locs ls Z hl
  have hx := X.1.1
  have hb := X.1.2.1
  unfold j_X12_readsTest_120 at h
  refine lv_iconst (v := (0 : Int32)) hx hb dX12_readsTest_120 (by decide) ?_
  exact jw_X12_readsTest_121 o d input_ letters_ tests_ inputLength_ at_ signed_ newParts_ machineParts_ firstParts_ firstTruth_ secondTruth_ isPair_ states_ stateClasses_ elements_ cursor_ hasSnapshot_ isSaving_ kind_ bound_ patternLength_ pattern_ x1 (0 : Int32) _ X h K H locs ls Z (lv_sub hl [0, 1] rfl)
def j_X12_readsTest_97 (input_ : Nat → Int32) (tests_ : Int32) (inputLength_ : Int32) (at_ : Int32) (kind_ : Nat → Int32) (bound_ : Nat → Int32) (patternLength_ : Nat → Int32) (pattern_ : Nat → Int32) (x1 : Int32) (t0 : Int32) (t1 : Int32) : Option (Int32 × Int32 × (Nat → Int32) × (Nat → Int32) × (Nat → Int32) × (Nat → Int32)) :=
  if x1 ≤ 0 then
  (j_X12_readsTest_120 input_ tests_ inputLength_ (t1 + t0) kind_ bound_ patternLength_ pattern_ x1)
  else
  ((f_X12_isAt (94 : Int32) (94 : Int32) inputLength_ (t1 + t0) input_).bind (fun u25 =>
  if u25 = 0 then
  (j_X12_readsTest_120 input_ tests_ inputLength_ (t1 + t0) kind_ bound_ patternLength_ pattern_ x1)
  else
  (j_X12_readsTest_121 input_ tests_ inputLength_ (t1 + t0) kind_ bound_ patternLength_ pattern_ x1 (1 : Int32))))
set_option maxHeartbeats 4000000 in
set_option maxRecDepth 100000 in
theorem jw_X12_readsTest_97 {p : Program} {l : Launch} {e : Env} {s : State} {m : MethodId} {args : Array Value} {below : List Frame} {meth : Method} {c : Code} {A : Nat → Prop} {Q : State → Prop} {D : va_G} {cy : Nat → ClassId} (o : Nat) (d : Nat → Nat) (input_ : Nat → Int32) (letters_ : Int32) (tests_ : Int32) (inputLength_ : Int32) (at_ : Int32) (signed_ : Int32) (newParts_ : Int32) (machineParts_ : Int32) (firstParts_ : Int32) (firstTruth_ : Int32) (secondTruth_ : Int32) (isPair_ : Int32) (states_ : Int32) (stateClasses_ : Int32) (elements_ : Int32) (cursor_ : Int32) (hasSnapshot_ : Int32) (isSaving_ : Int32) (kind_ : Nat → Int32) (bound_ : Nat → Int32) (patternLength_ : Nat → Int32) (pattern_ : Nat → Int32) (x1 : Int32) (t0 : Int32) (t1 : Int32) (out : Int32 × Int32 × (Nat → Int32) × (Nat → Int32) × (Nat → Int32) × (Nat → Int32)) (X : Cx p m c cX12_readsTest 3 s args wsX12_readsTest RX12 A D cy (RO_X12_readsTest cy o d input_)) (h : j_X12_readsTest_97 input_ tests_ inputLength_ at_ kind_ bound_ patternLength_ pattern_ x1 t0 t1 = some out) (K : ∀ (H : Heap) (locs : List Loc) (ls : Array Slot) (pc : Nat), decode cX12_readsTest pc = .ok (.ireturn, 1) → (out.1 = 0 ∨ out.1 = 1) → St A D s (RW_X12_readsTest cy o d letters_ tests_ inputLength_ out.2.1 signed_ newParts_ machineParts_ firstParts_ firstTruth_ secondTruth_ isPair_ states_ stateClasses_ elements_ cursor_ hasSnapshot_ isSaving_ out.2.2.1 out.2.2.2.1 out.2.2.2.2.1 out.2.2.2.2.2) H locs → W p l e rm_X12_readsTest s m args below meth c H locs 0 0 Q (F0 m pc ls [.int out.1])) : ∀ (H : Heap) (locs : List Loc) (ls : Array Slot), St A D s (RW_X12_readsTest cy o d letters_ tests_ inputLength_ at_ signed_ newParts_ machineParts_ firstParts_ firstTruth_ secondTruth_ isPair_ states_ stateClasses_ elements_ cursor_ hasSnapshot_ isSaving_ kind_ bound_ patternLength_ pattern_) H locs → lv_has ls 3 [(0, .ref o), (1, .int x1)] → W p l e rm_X12_readsTest s m args below meth c H locs 0 0 Q (F0 m 97 ls [.int t0, .int t1, .ref o]) := by
  intro H locs ls Z hl
  have hx := X.1.1
  have hb := X.1.2.1
  unfold j_X12_readsTest_97 at h
  refine lv_iadd hx hb dX12_readsTest_97 ?_
  refine x_put X Z 0 12 (RW_X12_readsTest cy o d letters_ tests_ inputLength_ (t1 + t0) signed_ newParts_ machineParts_ firstParts_ firstTruth_ secondTruth_ isPair_ states_ stateClasses_ elements_ cursor_ hasSnapshot_ isSaving_ kind_ bound_ patternLength_ pattern_) rfl lp_X12_readsTest_X12_at (Nat.le_of_ble_eq_true rfl) rfl dX12_readsTest_98 (fun H locs Z => ?_)
  refine lv_iload_n hx hb dX12_readsTest_101 rfl (lv_at hl 1 rfl) ?_
  refine lv_if_le (tgt := 120) hx hb dX12_readsTest_102 (by decide) (fun cnd => ?_) (fun cnd => ?_)
  · replace h := ifp h cnd
    exact jw_X12_readsTest_120 o d input_ letters_ tests_ inputLength_ (t1 + t0) signed_ newParts_ machineParts_ firstParts_ firstTruth_ secondTruth_ isPair_ states_ stateClasses_ elements_ cursor_ hasSnapshot_ isSaving_ kind_ bound_ patternLength_ pattern_ x1 _ X h K H locs ls Z (lv_sub hl [0, 1] rfl)
  · replace h := ifn h cnd
    refine lv_aload_n hx hb dX12_readsTest_105 rfl (lv_at hl 0 rfl) ?_
    refine lv_bipush (v := (94 : Int32)) hx hb dX12_readsTest_106 (by decide) ?_
    refine lv_bipush (v := (94 : Int32)) hx hb dX12_readsTest_108 (by decide) ?_
    obtain ⟨u25, hc26, h⟩ := ob_some h
    refine x_runVi (RW' := (RW_X12_readsTest cy o d letters_ tests_ inputLength_ (t1 + t0) signed_ newParts_ machineParts_ firstParts_ firstTruth_ secondTruth_ isPair_ states_ stateClasses_ elements_ cursor_ hasSnapshot_ isSaving_ kind_ bound_ patternLength_ pattern_)) (wr := [(o, ob 11 (oX12 d letters_ tests_ inputLength_ (t1 + t0) signed_ newParts_ machineParts_ firstParts_ firstTruth_ secondTruth_ isPair_ states_ stateClasses_ elements_ cursor_ hasSnapshot_ isSaving_)), ((d 5), aI cy 6 kind_), ((d 6), aI cy 6 bound_), ((d 7), aI cy 6 patternLength_), ((d 8), aI cy 24 pattern_)]) (isC := []) (isR := [0, 1, 2, 3, 4]) (isF := [0, 1, 2, 3, 4]) (rest := []) (As := [.int (94 : Int32), .int (94 : Int32)]) (n := 2) X Z (c_X12_isAt l D cy o d letters_ tests_ inputLength_ (t1 + t0) signed_ newParts_ machineParts_ firstParts_ firstTruth_ secondTruth_ isPair_ states_ stateClasses_ elements_ cursor_ hasSnapshot_ isSaving_ input_ (94 : Int32) (94 : Int32) u25 hc26) gX12_readsTest_X12_isAt rfl (by decide +kernel) ⟨Nat.le_of_ble_eq_true rfl, Nat.le_of_ble_eq_true rfl⟩ ⟨rfl, rfl⟩ ⟨Nat.le_of_ble_eq_true rfl, Nat.le_of_ble_eq_true rfl⟩ (x_rv X Z 0 rfl rfl) ⟨rfl, rfl, (roC (Or.inl (mem_at 0 rfl)) (roC (Or.inr (mem_at 0 rfl)) roN)), rfl, rfl, by decide⟩ ⟨rfl, rfl⟩ rfl hl.1 rfl (Nat.le_of_ble_eq_true rfl) dX12_readsTest_110 (fun H locs Z => ?_)
    refine lv_if_eq (tgt := 120) hx hb dX12_readsTest_113 (by decide) (fun cnd => ?_) (fun cnd => ?_)
    · replace h := ifp h cnd
      exact jw_X12_readsTest_120 o d input_ letters_ tests_ inputLength_ (t1 + t0) signed_ newParts_ machineParts_ firstParts_ firstTruth_ secondTruth_ isPair_ states_ stateClasses_ elements_ cursor_ hasSnapshot_ isSaving_ kind_ bound_ patternLength_ pattern_ x1 _ X h K H locs ls Z (lv_sub hl [0, 1] rfl)
    · replace h := ifn h cnd
      refine lv_iconst (v := (1 : Int32)) hx hb dX12_readsTest_116 (by decide) ?_
      refine lv_goto (tgt := 121) hx hb dX12_readsTest_117 (by decide) ?_
      exact jw_X12_readsTest_121 o d input_ letters_ tests_ inputLength_ (t1 + t0) signed_ newParts_ machineParts_ firstParts_ firstTruth_ secondTruth_ isPair_ states_ stateClasses_ elements_ cursor_ hasSnapshot_ isSaving_ kind_ bound_ patternLength_ pattern_ x1 (1 : Int32) _ X h K H locs ls Z (lv_sub hl [0, 1] rfl)
def j_X12_readsTest_83 (input_ : Nat → Int32) (tests_ : Int32) (inputLength_ : Int32) (at_ : Int32) (kind_ : Nat → Int32) (bound_ : Nat → Int32) (patternLength_ : Nat → Int32) (pattern_ : Nat → Int32) (x1 : Int32) : Option (Int32 × Int32 × (Nat → Int32) × (Nat → Int32) × (Nat → Int32) × (Nat → Int32)) :=
  if x1 = 0 then
  (j_X12_readsTest_97 input_ tests_ inputLength_ at_ kind_ bound_ patternLength_ pattern_ x1 (1 : Int32) at_)
  else
  (j_X12_readsTest_97 input_ tests_ inputLength_ at_ kind_ bound_ patternLength_ pattern_ x1 (0 : Int32) at_)
set_option maxHeartbeats 4000000 in
set_option maxRecDepth 100000 in
theorem jw_X12_readsTest_83 {p : Program} {l : Launch} {e : Env} {s : State} {m : MethodId} {args : Array Value} {below : List Frame} {meth : Method} {c : Code} {A : Nat → Prop} {Q : State → Prop} {D : va_G} {cy : Nat → ClassId} (o : Nat) (d : Nat → Nat) (input_ : Nat → Int32) (letters_ : Int32) (tests_ : Int32) (inputLength_ : Int32) (at_ : Int32) (signed_ : Int32) (newParts_ : Int32) (machineParts_ : Int32) (firstParts_ : Int32) (firstTruth_ : Int32) (secondTruth_ : Int32) (isPair_ : Int32) (states_ : Int32) (stateClasses_ : Int32) (elements_ : Int32) (cursor_ : Int32) (hasSnapshot_ : Int32) (isSaving_ : Int32) (kind_ : Nat → Int32) (bound_ : Nat → Int32) (patternLength_ : Nat → Int32) (pattern_ : Nat → Int32) (x1 : Int32) (out : Int32 × Int32 × (Nat → Int32) × (Nat → Int32) × (Nat → Int32) × (Nat → Int32)) (X : Cx p m c cX12_readsTest 3 s args wsX12_readsTest RX12 A D cy (RO_X12_readsTest cy o d input_)) (h : j_X12_readsTest_83 input_ tests_ inputLength_ at_ kind_ bound_ patternLength_ pattern_ x1 = some out) (K : ∀ (H : Heap) (locs : List Loc) (ls : Array Slot) (pc : Nat), decode cX12_readsTest pc = .ok (.ireturn, 1) → (out.1 = 0 ∨ out.1 = 1) → St A D s (RW_X12_readsTest cy o d letters_ tests_ inputLength_ out.2.1 signed_ newParts_ machineParts_ firstParts_ firstTruth_ secondTruth_ isPair_ states_ stateClasses_ elements_ cursor_ hasSnapshot_ isSaving_ out.2.2.1 out.2.2.2.1 out.2.2.2.2.1 out.2.2.2.2.2) H locs → W p l e rm_X12_readsTest s m args below meth c H locs 0 0 Q (F0 m pc ls [.int out.1])) : ∀ (H : Heap) (locs : List Loc) (ls : Array Slot), St A D s (RW_X12_readsTest cy o d letters_ tests_ inputLength_ at_ signed_ newParts_ machineParts_ firstParts_ firstTruth_ secondTruth_ isPair_ states_ stateClasses_ elements_ cursor_ hasSnapshot_ isSaving_ kind_ bound_ patternLength_ pattern_) H locs → lv_has ls 3 [(0, .ref o), (1, .int x1)] → W p l e rm_X12_readsTest s m args below meth c H locs 0 0 Q (F0 m 83 ls []) := by
  intro H locs ls Z hl
  have hx := X.1.1
  have hb := X.1.2.1
  unfold j_X12_readsTest_83 at h
  refine lv_aload_n hx hb dX12_readsTest_83 rfl (lv_at hl 0 rfl) ?_
  refine lv_dup hx hb dX12_readsTest_84 rfl ?_
  refine x_get X Z 0 12 (v := .int at_) rfl rfl lk_X12_readsTest_X12_at dX12_readsTest_85 ?_
  refine lv_iload_n hx hb dX12_readsTest_88 rfl (lv_at hl 1 rfl) ?_
  refine lv_if_ne (tgt := 96) hx hb dX12_readsTest_89 (by decide) (fun cnd => ?_) (fun cnd => ?_)
  · replace h := ifn h cnd
    refine lv_iconst (v := (0 : Int32)) hx hb dX12_readsTest_96 (by decide) ?_
    exact jw_X12_readsTest_97 o d input_ letters_ tests_ inputLength_ at_ signed_ newParts_ machineParts_ firstParts_ firstTruth_ secondTruth_ isPair_ states_ stateClasses_ elements_ cursor_ hasSnapshot_ isSaving_ kind_ bound_ patternLength_ pattern_ x1 (0 : Int32) at_ _ X h K H locs ls Z (lv_sub hl [0, 1] rfl)
  · replace h := ifp h cnd
    refine lv_iconst (v := (1 : Int32)) hx hb dX12_readsTest_92 (by decide) ?_
    refine lv_goto (tgt := 97) hx hb dX12_readsTest_93 (by decide) ?_
    exact jw_X12_readsTest_97 o d input_ letters_ tests_ inputLength_ at_ signed_ newParts_ machineParts_ firstParts_ firstTruth_ secondTruth_ isPair_ states_ stateClasses_ elements_ cursor_ hasSnapshot_ isSaving_ kind_ bound_ patternLength_ pattern_ x1 (1 : Int32) at_ _ X h K H locs ls Z (lv_sub hl [0, 1] rfl)
def f_X12_readsTest (input_ : Nat → Int32) (letters_ : Int32) (tests_ : Int32) (inputLength_ : Int32) (at_ : Int32) (kind_ : Nat → Int32) (bound_ : Nat → Int32) (patternLength_ : Nat → Int32) (pattern_ : Nat → Int32) : Option (Int32 × Int32 × (Nat → Int32) × (Nat → Int32) × (Nat → Int32) × (Nat → Int32)) :=
  (loopN (fun v => b_X12_readsTest_2 input_ letters_ tests_ inputLength_ v.1 v.2.1 v.2.2) FU (at_, pattern_, (0 : Int32))).bind (fun u27 =>
  if u27.2.2 = 0 then
  ((f_X12_isAt (35 : Int32) (35 : Int32) inputLength_ u27.1 input_).bind (fun u29 =>
  if u29 = 0 then
  (some ((0 : Int32), u27.1, kind_, bound_, patternLength_, u27.2.1))
  else
  (j_X12_readsTest_83 input_ tests_ inputLength_ u27.1 kind_ bound_ patternLength_ u27.2.1 u27.2.2)))
  else
  (j_X12_readsTest_83 input_ tests_ inputLength_ u27.1 kind_ bound_ patternLength_ u27.2.1 u27.2.2))
set_option maxHeartbeats 4000000 in
set_option maxRecDepth 100000 in
theorem wt_X12_readsTest {p : Program} {l : Launch} {e : Env} {s : State} {m : MethodId} {args : Array Value} {below : List Frame} {meth : Method} {c : Code} {A : Nat → Prop} {Q : State → Prop} {D : va_G} {cy : Nat → ClassId} (o : Nat) (d : Nat → Nat) (input_ : Nat → Int32) (letters_ : Int32) (tests_ : Int32) (inputLength_ : Int32) (at_ : Int32) (signed_ : Int32) (newParts_ : Int32) (machineParts_ : Int32) (firstParts_ : Int32) (firstTruth_ : Int32) (secondTruth_ : Int32) (isPair_ : Int32) (states_ : Int32) (stateClasses_ : Int32) (elements_ : Int32) (cursor_ : Int32) (hasSnapshot_ : Int32) (isSaving_ : Int32) (kind_ : Nat → Int32) (bound_ : Nat → Int32) (patternLength_ : Nat → Int32) (pattern_ : Nat → Int32) (out : Int32 × Int32 × (Nat → Int32) × (Nat → Int32) × (Nat → Int32) × (Nat → Int32)) (X : Cx p m c cX12_readsTest 3 s args wsX12_readsTest RX12 A D cy (RO_X12_readsTest cy o d input_)) (h : f_X12_readsTest input_ letters_ tests_ inputLength_ at_ kind_ bound_ patternLength_ pattern_ = some out) (K : ∀ (H : Heap) (locs : List Loc) (ls : Array Slot) (pc : Nat), decode cX12_readsTest pc = .ok (.ireturn, 1) → (out.1 = 0 ∨ out.1 = 1) → St A D s (RW_X12_readsTest cy o d letters_ tests_ inputLength_ out.2.1 signed_ newParts_ machineParts_ firstParts_ firstTruth_ secondTruth_ isPair_ states_ stateClasses_ elements_ cursor_ hasSnapshot_ isSaving_ out.2.2.1 out.2.2.2.1 out.2.2.2.2.1 out.2.2.2.2.2) H locs → W p l e rm_X12_readsTest s m args below meth c H locs 0 0 Q (F0 m pc ls [.int out.1])) : ∀ (H : Heap) (locs : List Loc) (ls : Array Slot), St A D s (RW_X12_readsTest cy o d letters_ tests_ inputLength_ at_ signed_ newParts_ machineParts_ firstParts_ firstTruth_ secondTruth_ isPair_ states_ stateClasses_ elements_ cursor_ hasSnapshot_ isSaving_ kind_ bound_ patternLength_ pattern_) H locs → lv_has ls 3 [(0, .ref o)] → W p l e rm_X12_readsTest s m args below meth c H locs 0 0 Q (F0 m 0 ls []) := by
  intro H locs ls Z hl
  have hx := X.1.1
  have hb := X.1.2.1
  unfold f_X12_readsTest at h
  refine lv_iconst (v := (0 : Int32)) hx hb dX12_readsTest_0 (by decide) ?_
  refine lv_istore_n (lv' := [(1, .int (0 : Int32)), (0, .ref o)]) hx hb dX12_readsTest_1 rfl hl (by decide) rfl (fun ls hl => ?_)
  obtain ⟨u27, hL28, h⟩ := ob_some h
  refine wl_X12_readsTest_2 o d input_ letters_ tests_ inputLength_ signed_ newParts_ machineParts_ firstParts_ firstTruth_ secondTruth_ isPair_ states_ stateClasses_ elements_ cursor_ hasSnapshot_ isSaving_ kind_ bound_ patternLength_ FU (at_, pattern_, (0 : Int32)) u27 X hL28 (fun H locs ls Z hl => ?_) H locs ls Z (lv_sub hl [1, 0] rfl)
  refine lv_iload_n hx hb dX12_readsTest_66 rfl (lv_at hl 1 rfl) ?_
  refine lv_if_ne (tgt := 83) hx hb dX12_readsTest_67 (by decide) (fun cnd => ?_) (fun cnd => ?_)
  · replace h := ifn h cnd
    exact jw_X12_readsTest_83 o d input_ letters_ tests_ inputLength_ u27.1 signed_ newParts_ machineParts_ firstParts_ firstTruth_ secondTruth_ isPair_ states_ stateClasses_ elements_ cursor_ hasSnapshot_ isSaving_ kind_ bound_ patternLength_ u27.2.1 u27.2.2 _ X h K H locs ls Z (lv_sub hl [0, 1] rfl)
  · replace h := ifp h cnd
    refine lv_aload_n hx hb dX12_readsTest_70 rfl (lv_at hl 0 rfl) ?_
    refine lv_bipush (v := (35 : Int32)) hx hb dX12_readsTest_71 (by decide) ?_
    refine lv_bipush (v := (35 : Int32)) hx hb dX12_readsTest_73 (by decide) ?_
    obtain ⟨u29, hc30, h⟩ := ob_some h
    refine x_runVi (RW' := (RW_X12_readsTest cy o d letters_ tests_ inputLength_ u27.1 signed_ newParts_ machineParts_ firstParts_ firstTruth_ secondTruth_ isPair_ states_ stateClasses_ elements_ cursor_ hasSnapshot_ isSaving_ kind_ bound_ patternLength_ u27.2.1)) (wr := [(o, ob 11 (oX12 d letters_ tests_ inputLength_ u27.1 signed_ newParts_ machineParts_ firstParts_ firstTruth_ secondTruth_ isPair_ states_ stateClasses_ elements_ cursor_ hasSnapshot_ isSaving_)), ((d 5), aI cy 6 kind_), ((d 6), aI cy 6 bound_), ((d 7), aI cy 6 patternLength_), ((d 8), aI cy 24 u27.2.1)]) (isC := []) (isR := [0, 1, 2, 3, 4]) (isF := [0, 1, 2, 3, 4]) (rest := []) (As := [.int (35 : Int32), .int (35 : Int32)]) (n := 2) X Z (c_X12_isAt l D cy o d letters_ tests_ inputLength_ u27.1 signed_ newParts_ machineParts_ firstParts_ firstTruth_ secondTruth_ isPair_ states_ stateClasses_ elements_ cursor_ hasSnapshot_ isSaving_ input_ (35 : Int32) (35 : Int32) u29 hc30) gX12_readsTest_X12_isAt rfl (by decide +kernel) ⟨Nat.le_of_ble_eq_true rfl, Nat.le_of_ble_eq_true rfl⟩ ⟨rfl, rfl⟩ ⟨Nat.le_of_ble_eq_true rfl, Nat.le_of_ble_eq_true rfl⟩ (x_rv X Z 0 rfl rfl) ⟨rfl, rfl, (roC (Or.inl (mem_at 0 rfl)) (roC (Or.inr (mem_at 0 rfl)) roN)), rfl, rfl, by decide⟩ ⟨rfl, rfl⟩ rfl hl.1 rfl (Nat.le_of_ble_eq_true rfl) dX12_readsTest_75 (fun H locs Z => ?_)
    refine lv_if_ne (tgt := 83) hx hb dX12_readsTest_78 (by decide) (fun cnd => ?_) (fun cnd => ?_)
    · replace h := ifn h cnd
      exact jw_X12_readsTest_83 o d input_ letters_ tests_ inputLength_ u27.1 signed_ newParts_ machineParts_ firstParts_ firstTruth_ secondTruth_ isPair_ states_ stateClasses_ elements_ cursor_ hasSnapshot_ isSaving_ kind_ bound_ patternLength_ u27.2.1 u27.2.2 _ X h K H locs ls Z (lv_sub hl [0, 1] rfl)
    · replace h := ifp h cnd
      refine lv_iconst (v := (0 : Int32)) hx hb dX12_readsTest_81 (by decide) ?_
      obtain rfl := Option.some.inj h
      exact K H locs ls _ dX12_readsTest_82 (Or.inl rfl) Z
theorem c_X12_readsTest (l : Launch) (D : va_G) (cy : Nat → ClassId) (o : Nat) (d : Nat → Nat) (input_ : Nat → Int32) (letters_ : Int32) (tests_ : Int32) (inputLength_ : Int32) (at_ : Int32) (signed_ : Int32) (newParts_ : Int32) (machineParts_ : Int32) (firstParts_ : Int32) (firstTruth_ : Int32) (secondTruth_ : Int32) (isPair_ : Int32) (states_ : Int32) (stateClasses_ : Int32) (elements_ : Int32) (cursor_ : Int32) (hasSnapshot_ : Int32) (isSaving_ : Int32) (kind_ : Nat → Int32) (bound_ : Nat → Int32) (patternLength_ : Nat → Int32) (pattern_ : Nat → Int32) (out : Int32 × Int32 × (Nat → Int32) × (Nat → Int32) × (Nat → Int32) × (Nat → Int32)) (h : f_X12_readsTest input_ letters_ tests_ inputLength_ at_ kind_ bound_ patternLength_ pattern_ = some out) : CtI l yX12_readsTest wsX12_readsTest rm_X12_readsTest D cy [.ref o] (RW_X12_readsTest cy o d letters_ tests_ inputLength_ at_ signed_ newParts_ machineParts_ firstParts_ firstTruth_ secondTruth_ isPair_ states_ stateClasses_ elements_ cursor_ hasSnapshot_ isSaving_ kind_ bound_ patternLength_ pattern_) (RO_X12_readsTest cy o d input_) (RW_X12_readsTest cy o d letters_ tests_ inputLength_ out.2.1 signed_ newParts_ machineParts_ firstParts_ firstTruth_ secondTruth_ isPair_ states_ stateClasses_ elements_ cursor_ hasSnapshot_ isSaving_ out.2.2.1 out.2.2.2.1 out.2.2.2.2.1 out.2.2.2.2.2) out.1 :=
  mk_z (by decide) rfl (Nat.le_of_ble_eq_true rfl) (fun p e s m args below meth c A Q X K H locs ls Z hl => wt_X12_readsTest o d input_ letters_ tests_ inputLength_ at_ signed_ newParts_ machineParts_ firstParts_ firstTruth_ secondTruth_ isPair_ states_ stateClasses_ elements_ cursor_ hasSnapshot_ isSaving_ kind_ bound_ patternLength_ pattern_ out X h K H locs ls Z hl)
/-! SubwordCounterModel addTest ()I -/
abbrev rm_X12_addTest : Room := { frames := 3, cells := 0, slots := 0, locals := 66 }
def RW_X12_addTest (cy : Nat → ClassId) (o : Nat) (d : Nat → Nat) (letters_ : Int32) (tests_ : Int32) (inputLength_ : Int32) (at_ : Int32) (signed_ : Int32) (newParts_ : Int32) (machineParts_ : Int32) (firstParts_ : Int32) (firstTruth_ : Int32) (secondTruth_ : Int32) (isPair_ : Int32) (states_ : Int32) (stateClasses_ : Int32) (elements_ : Int32) (cursor_ : Int32) (hasSnapshot_ : Int32) (isSaving_ : Int32) (kind_ : Nat → Int32) (bound_ : Nat → Int32) (patternLength_ : Nat → Int32) (pattern_ : Nat → Int32) : va_W := [(o, ob 11 (oX12 d letters_ tests_ inputLength_ at_ signed_ newParts_ machineParts_ firstParts_ firstTruth_ secondTruth_ isPair_ states_ stateClasses_ elements_ cursor_ hasSnapshot_ isSaving_)), ((d 5), aI cy 6 kind_), ((d 6), aI cy 6 bound_), ((d 7), aI cy 6 patternLength_), ((d 8), aI cy 24 pattern_)]
def RO_X12_addTest (cy : Nat → ClassId) (o : Nat) (d : Nat → Nat) (input_ : Nat → Int32) : va_W := [((d 9), aI cy 8 input_)]
theorem in_X12_addTest_X12 : ∀ w ∈ u_ws RX12 TX12 68, w ∈ wsX12_addTest := fun w h => (List.mem_cons_of_mem _ (List.mem_append_right _ h))
theorem lk_X12_addTest_X12_tests : Lk wsX12_addTest RX12 173 11 10 := ⟨RX12, TX12, 68, rfl, by decide, in_X12_addTest_X12, mem_at 1 rfl⟩
theorem lp_X12_addTest_X12_at : Lp wsX12_addTest RX12 187 11 12 .int := ⟨RX12, TX12, 68, tyX12, rfl, by decide, in_X12_addTest_X12, mem_at 2 rfl, tyX12_ok, nmX12, rfl, by decide +kernel⟩
theorem lp_X12_addTest_X12_inputLength : Lp wsX12_addTest RX12 184 11 11 .int := ⟨RX12, TX12, 68, tyX12, rfl, by decide, in_X12_addTest_X12, mem_at 3 rfl, tyX12_ok, nmX12, rfl, by decide +kernel⟩
theorem lp_X12_addTest_X12_tests : Lp wsX12_addTest RX12 173 11 10 .int := ⟨RX12, TX12, 68, tyX12, rfl, by decide, in_X12_addTest_X12, mem_at 1 rfl, tyX12_ok, nmX12, rfl, by decide +kernel⟩
theorem lk_X12_addTest_X12_at : Lk wsX12_addTest RX12 187 11 12 := ⟨RX12, TX12, 68, rfl, by decide, in_X12_addTest_X12, mem_at 2 rfl⟩
def f_X12_addTest (input_ : Nat → Int32) (letters_ : Int32) (tests_ : Int32) (inputLength_ : Int32) (at_ : Int32) (kind_ : Nat → Int32) (bound_ : Nat → Int32) (patternLength_ : Nat → Int32) (pattern_ : Nat → Int32) : Option (Int32 × Int32 × Int32 × Int32 × (Nat → Int32) × (Nat → Int32) × (Nat → Int32) × (Nat → Int32)) :=
  if tests_ = (6 : Int32) then
  (some ((-3 : Int32), tests_, inputLength_, at_, kind_, bound_, patternLength_, pattern_))
  else
  ((f_X12_readsTest input_ letters_ tests_ inputLength_ (0 : Int32) kind_ bound_ patternLength_ pattern_).bind (fun u1 =>
  if u1.1 = 0 then
  (some (((-100 : Int32) - u1.2.1), tests_, (0 : Int32), u1.2.1, u1.2.2.1, u1.2.2.2.1, u1.2.2.2.2.1, u1.2.2.2.2.2))
  else
  (some (((tests_ + (1 : Int32)) - (1 : Int32)), (tests_ + (1 : Int32)), (0 : Int32), u1.2.1, u1.2.2.1, u1.2.2.2.1, u1.2.2.2.2.1, u1.2.2.2.2.2))))
set_option maxHeartbeats 4000000 in
set_option maxRecDepth 100000 in
theorem wt_X12_addTest {p : Program} {l : Launch} {e : Env} {s : State} {m : MethodId} {args : Array Value} {below : List Frame} {meth : Method} {c : Code} {A : Nat → Prop} {Q : State → Prop} {D : va_G} {cy : Nat → ClassId} (o : Nat) (d : Nat → Nat) (input_ : Nat → Int32) (letters_ : Int32) (tests_ : Int32) (inputLength_ : Int32) (at_ : Int32) (signed_ : Int32) (newParts_ : Int32) (machineParts_ : Int32) (firstParts_ : Int32) (firstTruth_ : Int32) (secondTruth_ : Int32) (isPair_ : Int32) (states_ : Int32) (stateClasses_ : Int32) (elements_ : Int32) (cursor_ : Int32) (hasSnapshot_ : Int32) (isSaving_ : Int32) (kind_ : Nat → Int32) (bound_ : Nat → Int32) (patternLength_ : Nat → Int32) (pattern_ : Nat → Int32) (out : Int32 × Int32 × Int32 × Int32 × (Nat → Int32) × (Nat → Int32) × (Nat → Int32) × (Nat → Int32)) (X : Cx p m c cX12_addTest 2 s args wsX12_addTest RX12 A D cy (RO_X12_addTest cy o d input_)) (h : f_X12_addTest input_ letters_ tests_ inputLength_ at_ kind_ bound_ patternLength_ pattern_ = some out) (K : ∀ (H : Heap) (locs : List Loc) (ls : Array Slot) (pc : Nat), decode cX12_addTest pc = .ok (.ireturn, 1) → St A D s (RW_X12_addTest cy o d letters_ out.2.1 out.2.2.1 out.2.2.2.1 signed_ newParts_ machineParts_ firstParts_ firstTruth_ secondTruth_ isPair_ states_ stateClasses_ elements_ cursor_ hasSnapshot_ isSaving_ out.2.2.2.2.1 out.2.2.2.2.2.1 out.2.2.2.2.2.2.1 out.2.2.2.2.2.2.2) H locs → W p l e rm_X12_addTest s m args below meth c H locs 0 0 Q (F0 m pc ls [.int out.1])) : ∀ (H : Heap) (locs : List Loc) (ls : Array Slot), St A D s (RW_X12_addTest cy o d letters_ tests_ inputLength_ at_ signed_ newParts_ machineParts_ firstParts_ firstTruth_ secondTruth_ isPair_ states_ stateClasses_ elements_ cursor_ hasSnapshot_ isSaving_ kind_ bound_ patternLength_ pattern_) H locs → lv_has ls 2 [(0, .ref o)] → W p l e rm_X12_addTest s m args below meth c H locs 0 0 Q (F0 m 0 ls []) := by
  intro H locs ls Z hl
  have hx := X.1.1
  have hb := X.1.2.1
  unfold f_X12_addTest at h
  refine lv_aload_n hx hb dX12_addTest_0 rfl (lv_at hl 0 rfl) ?_
  refine x_get X Z 0 10 (v := .int tests_) rfl rfl lk_X12_addTest_X12_tests dX12_addTest_1 ?_
  refine lv_bipush (v := (6 : Int32)) hx hb dX12_addTest_4 (by decide) ?_
  refine lv_icmp_ne (tgt := 12) hx hb dX12_addTest_6 (by decide) (fun cnd => ?_) (fun cnd => ?_)
  · replace h := ifn h cnd
    refine lv_aload_n hx hb dX12_addTest_12 rfl (lv_at hl 0 rfl) ?_
    refine lv_iconst (v := (0 : Int32)) hx hb dX12_addTest_13 (by decide) ?_
    refine x_put X Z 0 12 (RW_X12_addTest cy o d letters_ tests_ inputLength_ (0 : Int32) signed_ newParts_ machineParts_ firstParts_ firstTruth_ secondTruth_ isPair_ states_ stateClasses_ elements_ cursor_ hasSnapshot_ isSaving_ kind_ bound_ patternLength_ pattern_) rfl lp_X12_addTest_X12_at (Nat.le_of_ble_eq_true rfl) rfl dX12_addTest_14 (fun H locs Z => ?_)
    refine lv_aload_n hx hb dX12_addTest_17 rfl (lv_at hl 0 rfl) ?_
    obtain ⟨u1, hc2, h⟩ := ob_some h
    refine x_runVi (RW' := (RW_X12_addTest cy o d letters_ tests_ inputLength_ u1.2.1 signed_ newParts_ machineParts_ firstParts_ firstTruth_ secondTruth_ isPair_ states_ stateClasses_ elements_ cursor_ hasSnapshot_ isSaving_ u1.2.2.1 u1.2.2.2.1 u1.2.2.2.2.1 u1.2.2.2.2.2)) (wr := []) (isC := [0, 1, 2, 3, 4]) (isR := []) (isF := [0, 1, 2, 3, 4]) (rest := []) (As := []) (n := 0) X Z (c_X12_readsTest l D cy o d input_ letters_ tests_ inputLength_ (0 : Int32) signed_ newParts_ machineParts_ firstParts_ firstTruth_ secondTruth_ isPair_ states_ stateClasses_ elements_ cursor_ hasSnapshot_ isSaving_ kind_ bound_ patternLength_ pattern_ u1 hc2) gX12_addTest_X12_readsTest rfl (by decide +kernel) ⟨Nat.le_of_ble_eq_true rfl, Nat.le_of_ble_eq_true rfl⟩ ⟨rfl, rfl⟩ ⟨Nat.le_of_ble_eq_true rfl, Nat.le_of_ble_eq_true rfl⟩ (x_rv X Z 0 rfl rfl) ⟨rfl, rfl, (roC (Or.inr (mem_at 0 rfl)) roN), rfl, rfl, by decide⟩ ⟨rfl, rfl⟩ rfl hl.1 rfl (Nat.le_of_ble_eq_true rfl) dX12_addTest_18 (fun H locs Z => ?_)
    refine lv_istore_n (lv' := [(1, .int u1.1), (0, .ref o)]) hx hb dX12_addTest_21 rfl hl (by decide) rfl (fun ls hl => ?_)
    refine lv_aload_n hx hb dX12_addTest_22 rfl (lv_at hl 1 rfl) ?_
    refine lv_iconst (v := (0 : Int32)) hx hb dX12_addTest_23 (by decide) ?_
    refine x_put X Z 0 11 (RW_X12_addTest cy o d letters_ tests_ (0 : Int32) u1.2.1 signed_ newParts_ machineParts_ firstParts_ firstTruth_ secondTruth_ isPair_ states_ stateClasses_ elements_ cursor_ hasSnapshot_ isSaving_ u1.2.2.1 u1.2.2.2.1 u1.2.2.2.2.1 u1.2.2.2.2.2) rfl lp_X12_addTest_X12_inputLength (Nat.le_of_ble_eq_true rfl) rfl dX12_addTest_24 (fun H locs Z => ?_)
    refine lv_iload_n hx hb dX12_addTest_27 rfl (lv_at hl 0 rfl) ?_
    refine lv_if_ne (tgt := 39) hx hb dX12_addTest_28 (by decide) (fun cnd => ?_) (fun cnd => ?_)
    · replace h := ifn h cnd
      refine lv_aload_n hx hb dX12_addTest_39 rfl (lv_at hl 1 rfl) ?_
      refine lv_dup hx hb dX12_addTest_40 rfl ?_
      refine x_get X Z 0 10 (v := .int tests_) rfl rfl lk_X12_addTest_X12_tests dX12_addTest_41 ?_
      refine lv_iconst (v := (1 : Int32)) hx hb dX12_addTest_44 (by decide) ?_
      refine lv_iadd hx hb dX12_addTest_45 ?_
      refine x_put X Z 0 10 (RW_X12_addTest cy o d letters_ (tests_ + (1 : Int32)) (0 : Int32) u1.2.1 signed_ newParts_ machineParts_ firstParts_ firstTruth_ secondTruth_ isPair_ states_ stateClasses_ elements_ cursor_ hasSnapshot_ isSaving_ u1.2.2.1 u1.2.2.2.1 u1.2.2.2.2.1 u1.2.2.2.2.2) rfl lp_X12_addTest_X12_tests (Nat.le_of_ble_eq_true rfl) rfl dX12_addTest_46 (fun H locs Z => ?_)
      refine lv_aload_n hx hb dX12_addTest_49 rfl (lv_at hl 1 rfl) ?_
      refine x_get X Z 0 10 (v := .int (tests_ + (1 : Int32))) rfl rfl lk_X12_addTest_X12_tests dX12_addTest_50 ?_
      refine lv_iconst (v := (1 : Int32)) hx hb dX12_addTest_53 (by decide) ?_
      refine lv_isub hx hb dX12_addTest_54 ?_
      obtain rfl := Option.some.inj h
      exact K H locs ls _ dX12_addTest_55 Z
    · replace h := ifp h cnd
      refine lv_bipush (v := (-100 : Int32)) hx hb dX12_addTest_31 (by decide) ?_
      refine lv_aload_n hx hb dX12_addTest_33 rfl (lv_at hl 1 rfl) ?_
      refine x_get X Z 0 12 (v := .int u1.2.1) rfl rfl lk_X12_addTest_X12_at dX12_addTest_34 ?_
      refine lv_isub hx hb dX12_addTest_37 ?_
      obtain rfl := Option.some.inj h
      exact K H locs ls _ dX12_addTest_38 Z
  · replace h := ifp h cnd
    refine lv_bipush (v := (-3 : Int32)) hx hb dX12_addTest_9 (by decide) ?_
    obtain rfl := Option.some.inj h
    exact K H locs ls _ dX12_addTest_11 Z
theorem c_X12_addTest (l : Launch) (D : va_G) (cy : Nat → ClassId) (o : Nat) (d : Nat → Nat) (input_ : Nat → Int32) (letters_ : Int32) (tests_ : Int32) (inputLength_ : Int32) (at_ : Int32) (signed_ : Int32) (newParts_ : Int32) (machineParts_ : Int32) (firstParts_ : Int32) (firstTruth_ : Int32) (secondTruth_ : Int32) (isPair_ : Int32) (states_ : Int32) (stateClasses_ : Int32) (elements_ : Int32) (cursor_ : Int32) (hasSnapshot_ : Int32) (isSaving_ : Int32) (kind_ : Nat → Int32) (bound_ : Nat → Int32) (patternLength_ : Nat → Int32) (pattern_ : Nat → Int32) (out : Int32 × Int32 × Int32 × Int32 × (Nat → Int32) × (Nat → Int32) × (Nat → Int32) × (Nat → Int32)) (h : f_X12_addTest input_ letters_ tests_ inputLength_ at_ kind_ bound_ patternLength_ pattern_ = some out) : CtI l yX12_addTest wsX12_addTest rm_X12_addTest D cy [.ref o] (RW_X12_addTest cy o d letters_ tests_ inputLength_ at_ signed_ newParts_ machineParts_ firstParts_ firstTruth_ secondTruth_ isPair_ states_ stateClasses_ elements_ cursor_ hasSnapshot_ isSaving_ kind_ bound_ patternLength_ pattern_) (RO_X12_addTest cy o d input_) (RW_X12_addTest cy o d letters_ out.2.1 out.2.2.1 out.2.2.2.1 signed_ newParts_ machineParts_ firstParts_ firstTruth_ secondTruth_ isPair_ states_ stateClasses_ elements_ cursor_ hasSnapshot_ isSaving_ out.2.2.2.2.1 out.2.2.2.2.2.1 out.2.2.2.2.2.2.1 out.2.2.2.2.2.2.2) out.1 :=
  mk_i (ty := .int) (by decide) rfl rfl (Nat.le_of_ble_eq_true rfl) (fun p e s m args below meth c A Q X K H locs ls Z hl => wt_X12_addTest o d input_ letters_ tests_ inputLength_ at_ signed_ newParts_ machineParts_ firstParts_ firstTruth_ secondTruth_ isPair_ states_ stateClasses_ elements_ cursor_ hasSnapshot_ isSaving_ kind_ bound_ patternLength_ pattern_ out X h K H locs ls Z hl)
/-! SubwordCounterModel removeTest (I)I -/
abbrev rm_X12_removeTest : Room := { frames := 2, cells := 0, slots := 0, locals := 43 }
def RW_X12_removeTest (cy : Nat → ClassId) (o : Nat) (d : Nat → Nat) (letters_ : Int32) (tests_ : Int32) (inputLength_ : Int32) (at_ : Int32) (signed_ : Int32) (newParts_ : Int32) (machineParts_ : Int32) (firstParts_ : Int32) (firstTruth_ : Int32) (secondTruth_ : Int32) (isPair_ : Int32) (states_ : Int32) (stateClasses_ : Int32) (elements_ : Int32) (cursor_ : Int32) (hasSnapshot_ : Int32) (isSaving_ : Int32) (kind_ : Nat → Int32) (bound_ : Nat → Int32) (patternLength_ : Nat → Int32) (pattern_ : Nat → Int32) : va_W := [(o, ob 11 (oX12 d letters_ tests_ inputLength_ at_ signed_ newParts_ machineParts_ firstParts_ firstTruth_ secondTruth_ isPair_ states_ stateClasses_ elements_ cursor_ hasSnapshot_ isSaving_)), ((d 5), aI cy 6 kind_), ((d 6), aI cy 6 bound_), ((d 7), aI cy 6 patternLength_), ((d 8), aI cy 24 pattern_)]
def RO_X12_removeTest (cy : Nat → ClassId) (o : Nat) (d : Nat → Nat)  : va_W := []
theorem in_X12_removeTest_X12 : ∀ w ∈ u_ws RX12 TX12 68, w ∈ wsX12_removeTest := fun w h => (List.mem_cons_of_mem _ (List.mem_append_right _ h))
theorem lk_X12_removeTest_X12_pattern : Lk wsX12_removeTest RX12 35 11 8 := ⟨RX12, TX12, 68, rfl, by decide, in_X12_removeTest_X12, mem_at 5 rfl⟩
theorem lk_X12_removeTest_X12_tests : Lk wsX12_removeTest RX12 173 11 10 := ⟨RX12, TX12, 68, rfl, by decide, in_X12_removeTest_X12, mem_at 1 rfl⟩
theorem lk_X12_removeTest_X12_kind : Lk wsX12_removeTest RX12 26 11 5 := ⟨RX12, TX12, 68, rfl, by decide, in_X12_removeTest_X12, mem_at 2 rfl⟩
theorem lk_X12_removeTest_X12_bound : Lk wsX12_removeTest RX12 29 11 6 := ⟨RX12, TX12, 68, rfl, by decide, in_X12_removeTest_X12, mem_at 3 rfl⟩
theorem lk_X12_removeTest_X12_patternLength : Lk wsX12_removeTest RX12 32 11 7 := ⟨RX12, TX12, 68, rfl, by decide, in_X12_removeTest_X12, mem_at 4 rfl⟩
theorem lp_X12_removeTest_X12_tests : Lp wsX12_removeTest RX12 173 11 10 .int := ⟨RX12, TX12, 68, tyX12, rfl, by decide, in_X12_removeTest_X12, mem_at 1 rfl, tyX12_ok, nmX12, rfl, by decide +kernel⟩
def b_X12_removeTest_74  (x2 : Int32) (pattern_ : Nat → Int32) (x3 : Int32) : Option (((Nat → Int32) × Int32) ⊕ ((Nat → Int32))) :=
  if (4 : Int32) ≤ x3 then
  (some (.inr pattern_))
  else
  (ldA pattern_ 24 ((((4 : Int32) * x2) + (4 : Int32)) + x3) (fun v2 =>
  stA pattern_ 24 (((4 : Int32) * x2) + x3) v2 (fun pattern_5 =>
  some (.inl (pattern_5, (x3 + (1 : Int32)))))))
set_option maxHeartbeats 4000000 in
set_option maxRecDepth 100000 in
theorem wb_X12_removeTest_74 {p : Program} {l : Launch} {e : Env} {s : State} {m : MethodId} {args : Array Value} {below : List Frame} {meth : Method} {c : Code} {A : Nat → Prop} {Q : State → Prop} {D : va_G} {cy : Nat → ClassId} (o : Nat) (d : Nat → Nat)  (letters_ : Int32) (tests_ : Int32) (inputLength_ : Int32) (at_ : Int32) (signed_ : Int32) (newParts_ : Int32) (machineParts_ : Int32) (firstParts_ : Int32) (firstTruth_ : Int32) (secondTruth_ : Int32) (isPair_ : Int32) (states_ : Int32) (stateClasses_ : Int32) (elements_ : Int32) (cursor_ : Int32) (hasSnapshot_ : Int32) (isSaving_ : Int32) (kind_ : Nat → Int32) (bound_ : Nat → Int32) (patternLength_ : Nat → Int32) (x2 : Int32) (pattern_ : Nat → Int32) (x3 : Int32) (o1 : ((Nat → Int32) × Int32) ⊕ ((Nat → Int32))) (X : Cx p m c cX12_removeTest 4 s args wsX12_removeTest RX12 A D cy (RO_X12_removeTest cy o d)) (h : b_X12_removeTest_74 x2 pattern_ x3 = some o1) (K : Sum.elim (fun v : (Nat → Int32) × Int32 => ∀ (H : Heap) (locs : List Loc) (ls : Array Slot), St A D s (RW_X12_removeTest cy o d letters_ tests_ inputLength_ at_ signed_ newParts_ machineParts_ firstParts_ firstTruth_ secondTruth_ isPair_ states_ stateClasses_ elements_ cursor_ hasSnapshot_ isSaving_ kind_ bound_ patternLength_ v.1) H locs → lv_has ls 4 [(0, .ref o), (2, .int x2), (3, .int v.2)] → W p l e rm_X12_removeTest s m args below meth c H locs 0 0 Q (F0 m 74 ls [])) (fun v : (Nat → Int32) => ∀ (H : Heap) (locs : List Loc) (ls : Array Slot), St A D s (RW_X12_removeTest cy o d letters_ tests_ inputLength_ at_ signed_ newParts_ machineParts_ firstParts_ firstTruth_ secondTruth_ isPair_ states_ stateClasses_ elements_ cursor_ hasSnapshot_ isSaving_ kind_ bound_ patternLength_ v) H locs → lv_has ls 4 [(0, .ref o), (2, .int x2)] → W p l e rm_X12_removeTest s m args below meth c H locs 0 0 Q (F0 m 107 ls [])) o1) : ∀ (H : Heap) (locs : List Loc) (ls : Array Slot), St A D s (RW_X12_removeTest cy o d letters_ tests_ inputLength_ at_ signed_ newParts_ machineParts_ firstParts_ firstTruth_ secondTruth_ isPair_ states_ stateClasses_ elements_ cursor_ hasSnapshot_ isSaving_ kind_ bound_ patternLength_ pattern_) H locs → lv_has ls 4 [(0, .ref o), (2, .int x2), (3, .int x3)] → W p l e rm_X12_removeTest s m args below meth c H locs 0 0 Q (F0 m 74 ls []) := by
  intro H locs ls Z hl
  have hx := X.1.1
  have hb := X.1.2.1
  unfold b_X12_removeTest_74 at h
  refine lv_iload_n hx hb dX12_removeTest_74 rfl (lv_at hl 2 rfl) ?_
  refine lv_iconst (v := (4 : Int32)) hx hb dX12_removeTest_75 (by decide) ?_
  refine lv_icmp_ge (tgt := 107) hx hb dX12_removeTest_76 (by decide) (fun cnd => ?_) (fun cnd => ?_)
  · replace h := ifp h cnd
    obtain rfl := Option.some.inj h
    exact (sk_r K) H locs ls Z (lv_sub hl [0, 1] rfl)
  · replace h := ifn h cnd
    refine lv_aload_n hx hb dX12_removeTest_79 rfl (lv_at hl 0 rfl) ?_
    refine x_get X Z 0 8 (v := .ref (d 8)) rfl rfl lk_X12_removeTest_X12_pattern dX12_removeTest_80 ?_
    refine lv_iconst (v := (4 : Int32)) hx hb dX12_removeTest_83 (by decide) ?_
    refine lv_iload_n hx hb dX12_removeTest_84 rfl (lv_at hl 1 rfl) ?_
    refine lv_imul hx hb dX12_removeTest_85 ?_
    refine lv_iload_n hx hb dX12_removeTest_86 rfl (lv_at hl 2 rfl) ?_
    refine lv_iadd hx hb dX12_removeTest_87 ?_
    refine lv_aload_n hx hb dX12_removeTest_88 rfl (lv_at hl 0 rfl) ?_
    refine x_get X Z 0 8 (v := .ref (d 8)) rfl rfl lk_X12_removeTest_X12_pattern dX12_removeTest_89 ?_
    refine lv_iconst (v := (4 : Int32)) hx hb dX12_removeTest_92 (by decide) ?_
    refine lv_iload_n hx hb dX12_removeTest_93 rfl (lv_at hl 1 rfl) ?_
    refine lv_imul hx hb dX12_removeTest_94 ?_
    refine lv_iconst (v := (4 : Int32)) hx hb dX12_removeTest_95 (by decide) ?_
    refine lv_iadd hx hb dX12_removeTest_96 ?_
    refine lv_iload_n hx hb dX12_removeTest_97 rfl (lv_at hl 2 rfl) ?_
    refine lv_iadd hx hb dX12_removeTest_98 ?_
    obtain ⟨hin1, v2, hv3, h⟩ := ld_b h
    refine x_iald X Z 4 rfl hin1 hv3 dX12_removeTest_99 ?_
    obtain ⟨hin4, pattern_5, hv6, h⟩ := st_b h
    refine x_iast X Z 4 (RW_X12_removeTest cy o d letters_ tests_ inputLength_ at_ signed_ newParts_ machineParts_ firstParts_ firstTruth_ secondTruth_ isPair_ states_ stateClasses_ elements_ cursor_ hasSnapshot_ isSaving_ kind_ bound_ patternLength_ pattern_5) rfl hin4 hv6 rfl dX12_removeTest_100 (fun H locs Z => ?_)
    refine lv_iinc (v := (x3 + (1 : Int32))) (lv' := [(3, .int (x3 + (1 : Int32))), (0, .ref o), (2, .int x2)]) hx hb dX12_removeTest_101 hl (k := 2) rfl rfl (by decide) rfl (fun ls hl => ?_)
    refine lv_goto (tgt := 74) hx hb dX12_removeTest_104 (by decide) ?_
    obtain rfl := Option.some.inj h
    exact sk_l K H locs ls Z (lv_sub hl [1, 2, 0] rfl)
set_option maxHeartbeats 4000000 in
set_option maxRecDepth 100000 in
theorem wl_X12_removeTest_74 {p : Program} {l : Launch} {e : Env} {s : State} {m : MethodId} {args : Array Value} {below : List Frame} {meth : Method} {c : Code} {A : Nat → Prop} {Q : State → Prop} {D : va_G} {cy : Nat → ClassId} (o : Nat) (d : Nat → Nat)  (letters_ : Int32) (tests_ : Int32) (inputLength_ : Int32) (at_ : Int32) (signed_ : Int32) (newParts_ : Int32) (machineParts_ : Int32) (firstParts_ : Int32) (firstTruth_ : Int32) (secondTruth_ : Int32) (isPair_ : Int32) (states_ : Int32) (stateClasses_ : Int32) (elements_ : Int32) (cursor_ : Int32) (hasSnapshot_ : Int32) (isSaving_ : Int32) (kind_ : Nat → Int32) (bound_ : Nat → Int32) (patternLength_ : Nat → Int32) (x2 : Int32) (n : Nat) (v : (Nat → Int32) × Int32) (x : (Nat → Int32)) (X : Cx p m c cX12_removeTest 4 s args wsX12_removeTest RX12 A D cy (RO_X12_removeTest cy o d)) (h : loopN (fun v => b_X12_removeTest_74 x2 v.1 v.2) n v = some x) (K : ∀ (H : Heap) (locs : List Loc) (ls : Array Slot), St A D s (RW_X12_removeTest cy o d letters_ tests_ inputLength_ at_ signed_ newParts_ machineParts_ firstParts_ firstTruth_ secondTruth_ isPair_ states_ stateClasses_ elements_ cursor_ hasSnapshot_ isSaving_ kind_ bound_ patternLength_ x) H locs → lv_has ls 4 [(0, .ref o), (2, .int x2)] → W p l e rm_X12_removeTest s m args below meth c H locs 0 0 Q (F0 m 107 ls [])) : ∀ (H : Heap) (locs : List Loc) (ls : Array Slot), St A D s (RW_X12_removeTest cy o d letters_ tests_ inputLength_ at_ signed_ newParts_ machineParts_ firstParts_ firstTruth_ secondTruth_ isPair_ states_ stateClasses_ elements_ cursor_ hasSnapshot_ isSaving_ kind_ bound_ patternLength_ v.1) H locs → lv_has ls 4 [(0, .ref o), (2, .int x2), (3, .int v.2)] → W p l e rm_X12_removeTest s m args below meth c H locs 0 0 Q (F0 m 74 ls []) :=
  loop_gen (B := (fun v => b_X12_removeTest_74 x2 v.1 v.2)) (Head := fun v : (Nat → Int32) × Int32 => ∀ (H : Heap) (locs : List Loc) (ls : Array Slot), St A D s (RW_X12_removeTest cy o d letters_ tests_ inputLength_ at_ signed_ newParts_ machineParts_ firstParts_ firstTruth_ secondTruth_ isPair_ states_ stateClasses_ elements_ cursor_ hasSnapshot_ isSaving_ kind_ bound_ patternLength_ v.1) H locs → lv_has ls 4 [(0, .ref o), (2, .int x2), (3, .int v.2)] → W p l e rm_X12_removeTest s m args below meth c H locs 0 0 Q (F0 m 74 ls [])) (Exit := fun v : (Nat → Int32) => ∀ (H : Heap) (locs : List Loc) (ls : Array Slot), St A D s (RW_X12_removeTest cy o d letters_ tests_ inputLength_ at_ signed_ newParts_ machineParts_ firstParts_ firstTruth_ secondTruth_ isPair_ states_ stateClasses_ elements_ cursor_ hasSnapshot_ isSaving_ kind_ bound_ patternLength_ v) H locs → lv_has ls 4 [(0, .ref o), (2, .int x2)] → W p l e rm_X12_removeTest s m args below meth c H locs 0 0 Q (F0 m 107 ls [])) (fun v o9 hb1 K1 => wb_X12_removeTest_74 o d letters_ tests_ inputLength_ at_ signed_ newParts_ machineParts_ firstParts_ firstTruth_ secondTruth_ isPair_ states_ stateClasses_ elements_ cursor_ hasSnapshot_ isSaving_ kind_ bound_ patternLength_ x2 v.1 v.2 o9 X hb1 K1) n v x h K
def b_X12_removeTest_22 (tests_ : Int32) (kind_ : Nat → Int32) (bound_ : Nat → Int32) (patternLength_ : Nat → Int32) (pattern_ : Nat → Int32) (x2 : Int32) : Option (((Nat → Int32) × (Nat → Int32) × (Nat → Int32) × (Nat → Int32) × Int32) ⊕ ((Nat → Int32) × (Nat → Int32) × (Nat → Int32) × (Nat → Int32))) :=
  if tests_ ≤ x2 then
  (some (.inr (kind_, bound_, patternLength_, pattern_)))
  else
  (ldA kind_ 6 (x2 + (1 : Int32)) (fun v8 =>
  stA kind_ 6 x2 v8 (fun kind_11 =>
  ldA bound_ 6 (x2 + (1 : Int32)) (fun v14 =>
  stA bound_ 6 x2 v14 (fun bound_17 =>
  ldA patternLength_ 6 (x2 + (1 : Int32)) (fun v20 =>
  stA patternLength_ 6 x2 v20 (fun patternLength_23 =>
  (loopN (fun v => b_X12_removeTest_74 x2 v.1 v.2) FU (pattern_, (0 : Int32))).bind (fun u25 =>
  some (.inl (kind_11, bound_17, patternLength_23, u25, (x2 + (1 : Int32))))))))))))
set_option maxHeartbeats 4000000 in
set_option maxRecDepth 100000 in
theorem wb_X12_removeTest_22 {p : Program} {l : Launch} {e : Env} {s : State} {m : MethodId} {args : Array Value} {below : List Frame} {meth : Method} {c : Code} {A : Nat → Prop} {Q : State → Prop} {D : va_G} {cy : Nat → ClassId} (o : Nat) (d : Nat → Nat)  (letters_ : Int32) (tests_ : Int32) (inputLength_ : Int32) (at_ : Int32) (signed_ : Int32) (newParts_ : Int32) (machineParts_ : Int32) (firstParts_ : Int32) (firstTruth_ : Int32) (secondTruth_ : Int32) (isPair_ : Int32) (states_ : Int32) (stateClasses_ : Int32) (elements_ : Int32) (cursor_ : Int32) (hasSnapshot_ : Int32) (isSaving_ : Int32) (kind_ : Nat → Int32) (bound_ : Nat → Int32) (patternLength_ : Nat → Int32) (pattern_ : Nat → Int32) (x2 : Int32) (o1 : ((Nat → Int32) × (Nat → Int32) × (Nat → Int32) × (Nat → Int32) × Int32) ⊕ ((Nat → Int32) × (Nat → Int32) × (Nat → Int32) × (Nat → Int32))) (X : Cx p m c cX12_removeTest 4 s args wsX12_removeTest RX12 A D cy (RO_X12_removeTest cy o d)) (h : b_X12_removeTest_22 tests_ kind_ bound_ patternLength_ pattern_ x2 = some o1) (K : Sum.elim (fun v : (Nat → Int32) × (Nat → Int32) × (Nat → Int32) × (Nat → Int32) × Int32 => ∀ (H : Heap) (locs : List Loc) (ls : Array Slot), St A D s (RW_X12_removeTest cy o d letters_ tests_ inputLength_ at_ signed_ newParts_ machineParts_ firstParts_ firstTruth_ secondTruth_ isPair_ states_ stateClasses_ elements_ cursor_ hasSnapshot_ isSaving_ v.1 v.2.1 v.2.2.1 v.2.2.2.1) H locs → lv_has ls 4 [(0, .ref o), (2, .int v.2.2.2.2)] → W p l e rm_X12_removeTest s m args below meth c H locs 0 0 Q (F0 m 22 ls [])) (fun v : (Nat → Int32) × (Nat → Int32) × (Nat → Int32) × (Nat → Int32) => ∀ (H : Heap) (locs : List Loc) (ls : Array Slot), St A D s (RW_X12_removeTest cy o d letters_ tests_ inputLength_ at_ signed_ newParts_ machineParts_ firstParts_ firstTruth_ secondTruth_ isPair_ states_ stateClasses_ elements_ cursor_ hasSnapshot_ isSaving_ v.1 v.2.1 v.2.2.1 v.2.2.2) H locs → lv_has ls 4 [(0, .ref o)] → W p l e rm_X12_removeTest s m args below meth c H locs 0 0 Q (F0 m 113 ls [])) o1) : ∀ (H : Heap) (locs : List Loc) (ls : Array Slot), St A D s (RW_X12_removeTest cy o d letters_ tests_ inputLength_ at_ signed_ newParts_ machineParts_ firstParts_ firstTruth_ secondTruth_ isPair_ states_ stateClasses_ elements_ cursor_ hasSnapshot_ isSaving_ kind_ bound_ patternLength_ pattern_) H locs → lv_has ls 4 [(0, .ref o), (2, .int x2)] → W p l e rm_X12_removeTest s m args below meth c H locs 0 0 Q (F0 m 22 ls []) := by
  intro H locs ls Z hl
  have hx := X.1.1
  have hb := X.1.2.1
  unfold b_X12_removeTest_22 at h
  refine lv_iload_n hx hb dX12_removeTest_22 rfl (lv_at hl 1 rfl) ?_
  refine lv_aload_n hx hb dX12_removeTest_23 rfl (lv_at hl 0 rfl) ?_
  refine x_get X Z 0 10 (v := .int tests_) rfl rfl lk_X12_removeTest_X12_tests dX12_removeTest_24 ?_
  refine lv_icmp_ge (tgt := 113) hx hb dX12_removeTest_27 (by decide) (fun cnd => ?_) (fun cnd => ?_)
  · replace h := ifp h cnd
    obtain rfl := Option.some.inj h
    exact (sk_r K) H locs ls Z (lv_sub hl [0] rfl)
  · replace h := ifn h cnd
    refine lv_aload_n hx hb dX12_removeTest_30 rfl (lv_at hl 0 rfl) ?_
    refine x_get X Z 0 5 (v := .ref (d 5)) rfl rfl lk_X12_removeTest_X12_kind dX12_removeTest_31 ?_
    refine lv_iload_n hx hb dX12_removeTest_34 rfl (lv_at hl 1 rfl) ?_
    refine lv_aload_n hx hb dX12_removeTest_35 rfl (lv_at hl 0 rfl) ?_
    refine x_get X Z 0 5 (v := .ref (d 5)) rfl rfl lk_X12_removeTest_X12_kind dX12_removeTest_36 ?_
    refine lv_iload_n hx hb dX12_removeTest_39 rfl (lv_at hl 1 rfl) ?_
    refine lv_iconst (v := (1 : Int32)) hx hb dX12_removeTest_40 (by decide) ?_
    refine lv_iadd hx hb dX12_removeTest_41 ?_
    obtain ⟨hin7, v8, hv9, h⟩ := ld_b h
    refine x_iald X Z 1 rfl hin7 hv9 dX12_removeTest_42 ?_
    obtain ⟨hin10, kind_11, hv12, h⟩ := st_b h
    refine x_iast X Z 1 (RW_X12_removeTest cy o d letters_ tests_ inputLength_ at_ signed_ newParts_ machineParts_ firstParts_ firstTruth_ secondTruth_ isPair_ states_ stateClasses_ elements_ cursor_ hasSnapshot_ isSaving_ kind_11 bound_ patternLength_ pattern_) rfl hin10 hv12 rfl dX12_removeTest_43 (fun H locs Z => ?_)
    refine lv_aload_n hx hb dX12_removeTest_44 rfl (lv_at hl 0 rfl) ?_
    refine x_get X Z 0 6 (v := .ref (d 6)) rfl rfl lk_X12_removeTest_X12_bound dX12_removeTest_45 ?_
    refine lv_iload_n hx hb dX12_removeTest_48 rfl (lv_at hl 1 rfl) ?_
    refine lv_aload_n hx hb dX12_removeTest_49 rfl (lv_at hl 0 rfl) ?_
    refine x_get X Z 0 6 (v := .ref (d 6)) rfl rfl lk_X12_removeTest_X12_bound dX12_removeTest_50 ?_
    refine lv_iload_n hx hb dX12_removeTest_53 rfl (lv_at hl 1 rfl) ?_
    refine lv_iconst (v := (1 : Int32)) hx hb dX12_removeTest_54 (by decide) ?_
    refine lv_iadd hx hb dX12_removeTest_55 ?_
    obtain ⟨hin13, v14, hv15, h⟩ := ld_b h
    refine x_iald X Z 2 rfl hin13 hv15 dX12_removeTest_56 ?_
    obtain ⟨hin16, bound_17, hv18, h⟩ := st_b h
    refine x_iast X Z 2 (RW_X12_removeTest cy o d letters_ tests_ inputLength_ at_ signed_ newParts_ machineParts_ firstParts_ firstTruth_ secondTruth_ isPair_ states_ stateClasses_ elements_ cursor_ hasSnapshot_ isSaving_ kind_11 bound_17 patternLength_ pattern_) rfl hin16 hv18 rfl dX12_removeTest_57 (fun H locs Z => ?_)
    refine lv_aload_n hx hb dX12_removeTest_58 rfl (lv_at hl 0 rfl) ?_
    refine x_get X Z 0 7 (v := .ref (d 7)) rfl rfl lk_X12_removeTest_X12_patternLength dX12_removeTest_59 ?_
    refine lv_iload_n hx hb dX12_removeTest_62 rfl (lv_at hl 1 rfl) ?_
    refine lv_aload_n hx hb dX12_removeTest_63 rfl (lv_at hl 0 rfl) ?_
    refine x_get X Z 0 7 (v := .ref (d 7)) rfl rfl lk_X12_removeTest_X12_patternLength dX12_removeTest_64 ?_
    refine lv_iload_n hx hb dX12_removeTest_67 rfl (lv_at hl 1 rfl) ?_
    refine lv_iconst (v := (1 : Int32)) hx hb dX12_removeTest_68 (by decide) ?_
    refine lv_iadd hx hb dX12_removeTest_69 ?_
    obtain ⟨hin19, v20, hv21, h⟩ := ld_b h
    refine x_iald X Z 3 rfl hin19 hv21 dX12_removeTest_70 ?_
    obtain ⟨hin22, patternLength_23, hv24, h⟩ := st_b h
    refine x_iast X Z 3 (RW_X12_removeTest cy o d letters_ tests_ inputLength_ at_ signed_ newParts_ machineParts_ firstParts_ firstTruth_ secondTruth_ isPair_ states_ stateClasses_ elements_ cursor_ hasSnapshot_ isSaving_ kind_11 bound_17 patternLength_23 pattern_) rfl hin22 hv24 rfl dX12_removeTest_71 (fun H locs Z => ?_)
    refine lv_iconst (v := (0 : Int32)) hx hb dX12_removeTest_72 (by decide) ?_
    refine lv_istore_n (lv' := [(3, .int (0 : Int32)), (0, .ref o), (2, .int x2)]) hx hb dX12_removeTest_73 rfl hl (by decide) rfl (fun ls hl => ?_)
    obtain ⟨u25, hL26, h⟩ := ob_some h
    refine wl_X12_removeTest_74 o d letters_ tests_ inputLength_ at_ signed_ newParts_ machineParts_ firstParts_ firstTruth_ secondTruth_ isPair_ states_ stateClasses_ elements_ cursor_ hasSnapshot_ isSaving_ kind_11 bound_17 patternLength_23 x2 FU (pattern_, (0 : Int32)) u25 X hL26 (fun H locs ls Z hl => ?_) H locs ls Z (lv_sub hl [1, 2, 0] rfl)
    refine lv_iinc (v := (x2 + (1 : Int32))) (lv' := [(2, .int (x2 + (1 : Int32))), (0, .ref o)]) hx hb dX12_removeTest_107 hl (k := 1) rfl rfl (by decide) rfl (fun ls hl => ?_)
    refine lv_goto (tgt := 22) hx hb dX12_removeTest_110 (by decide) ?_
    obtain rfl := Option.some.inj h
    exact sk_l K H locs ls Z (lv_sub hl [1, 0] rfl)
set_option maxHeartbeats 4000000 in
set_option maxRecDepth 100000 in
theorem wl_X12_removeTest_22 {p : Program} {l : Launch} {e : Env} {s : State} {m : MethodId} {args : Array Value} {below : List Frame} {meth : Method} {c : Code} {A : Nat → Prop} {Q : State → Prop} {D : va_G} {cy : Nat → ClassId} (o : Nat) (d : Nat → Nat)  (letters_ : Int32) (tests_ : Int32) (inputLength_ : Int32) (at_ : Int32) (signed_ : Int32) (newParts_ : Int32) (machineParts_ : Int32) (firstParts_ : Int32) (firstTruth_ : Int32) (secondTruth_ : Int32) (isPair_ : Int32) (states_ : Int32) (stateClasses_ : Int32) (elements_ : Int32) (cursor_ : Int32) (hasSnapshot_ : Int32) (isSaving_ : Int32) (n : Nat) (v : (Nat → Int32) × (Nat → Int32) × (Nat → Int32) × (Nat → Int32) × Int32) (x : (Nat → Int32) × (Nat → Int32) × (Nat → Int32) × (Nat → Int32)) (X : Cx p m c cX12_removeTest 4 s args wsX12_removeTest RX12 A D cy (RO_X12_removeTest cy o d)) (h : loopN (fun v => b_X12_removeTest_22 tests_ v.1 v.2.1 v.2.2.1 v.2.2.2.1 v.2.2.2.2) n v = some x) (K : ∀ (H : Heap) (locs : List Loc) (ls : Array Slot), St A D s (RW_X12_removeTest cy o d letters_ tests_ inputLength_ at_ signed_ newParts_ machineParts_ firstParts_ firstTruth_ secondTruth_ isPair_ states_ stateClasses_ elements_ cursor_ hasSnapshot_ isSaving_ x.1 x.2.1 x.2.2.1 x.2.2.2) H locs → lv_has ls 4 [(0, .ref o)] → W p l e rm_X12_removeTest s m args below meth c H locs 0 0 Q (F0 m 113 ls [])) : ∀ (H : Heap) (locs : List Loc) (ls : Array Slot), St A D s (RW_X12_removeTest cy o d letters_ tests_ inputLength_ at_ signed_ newParts_ machineParts_ firstParts_ firstTruth_ secondTruth_ isPair_ states_ stateClasses_ elements_ cursor_ hasSnapshot_ isSaving_ v.1 v.2.1 v.2.2.1 v.2.2.2.1) H locs → lv_has ls 4 [(0, .ref o), (2, .int v.2.2.2.2)] → W p l e rm_X12_removeTest s m args below meth c H locs 0 0 Q (F0 m 22 ls []) :=
  loop_gen (B := (fun v => b_X12_removeTest_22 tests_ v.1 v.2.1 v.2.2.1 v.2.2.2.1 v.2.2.2.2)) (Head := fun v : (Nat → Int32) × (Nat → Int32) × (Nat → Int32) × (Nat → Int32) × Int32 => ∀ (H : Heap) (locs : List Loc) (ls : Array Slot), St A D s (RW_X12_removeTest cy o d letters_ tests_ inputLength_ at_ signed_ newParts_ machineParts_ firstParts_ firstTruth_ secondTruth_ isPair_ states_ stateClasses_ elements_ cursor_ hasSnapshot_ isSaving_ v.1 v.2.1 v.2.2.1 v.2.2.2.1) H locs → lv_has ls 4 [(0, .ref o), (2, .int v.2.2.2.2)] → W p l e rm_X12_removeTest s m args below meth c H locs 0 0 Q (F0 m 22 ls [])) (Exit := fun v : (Nat → Int32) × (Nat → Int32) × (Nat → Int32) × (Nat → Int32) => ∀ (H : Heap) (locs : List Loc) (ls : Array Slot), St A D s (RW_X12_removeTest cy o d letters_ tests_ inputLength_ at_ signed_ newParts_ machineParts_ firstParts_ firstTruth_ secondTruth_ isPair_ states_ stateClasses_ elements_ cursor_ hasSnapshot_ isSaving_ v.1 v.2.1 v.2.2.1 v.2.2.2) H locs → lv_has ls 4 [(0, .ref o)] → W p l e rm_X12_removeTest s m args below meth c H locs 0 0 Q (F0 m 113 ls [])) (fun v o9 hb1 K1 => wb_X12_removeTest_22 o d letters_ tests_ inputLength_ at_ signed_ newParts_ machineParts_ firstParts_ firstTruth_ secondTruth_ isPair_ states_ stateClasses_ elements_ cursor_ hasSnapshot_ isSaving_ v.1 v.2.1 v.2.2.1 v.2.2.2.1 v.2.2.2.2 o9 X hb1 K1) n v x h K
def f_X12_removeTest (x1 : Int32) (tests_ : Int32) (kind_ : Nat → Int32) (bound_ : Nat → Int32) (patternLength_ : Nat → Int32) (pattern_ : Nat → Int32) : Option (Int32 × Int32 × (Nat → Int32) × (Nat → Int32) × (Nat → Int32) × (Nat → Int32)) :=
  (f_X12_isTest x1 tests_).bind (fun u27 =>
  if u27 = 0 then
  (some ((-1 : Int32), tests_, kind_, bound_, patternLength_, pattern_))
  else
  ((loopN (fun v => b_X12_removeTest_22 (tests_ - (1 : Int32)) v.1 v.2.1 v.2.2.1 v.2.2.2.1 v.2.2.2.2) FU (kind_, bound_, patternLength_, pattern_, x1)).bind (fun u29 =>
  some ((tests_ - (1 : Int32)), (tests_ - (1 : Int32)), u29.1, u29.2.1, u29.2.2.1, u29.2.2.2))))
set_option maxHeartbeats 4000000 in
set_option maxRecDepth 100000 in
theorem wt_X12_removeTest {p : Program} {l : Launch} {e : Env} {s : State} {m : MethodId} {args : Array Value} {below : List Frame} {meth : Method} {c : Code} {A : Nat → Prop} {Q : State → Prop} {D : va_G} {cy : Nat → ClassId} (o : Nat) (d : Nat → Nat)  (letters_ : Int32) (tests_ : Int32) (inputLength_ : Int32) (at_ : Int32) (signed_ : Int32) (newParts_ : Int32) (machineParts_ : Int32) (firstParts_ : Int32) (firstTruth_ : Int32) (secondTruth_ : Int32) (isPair_ : Int32) (states_ : Int32) (stateClasses_ : Int32) (elements_ : Int32) (cursor_ : Int32) (hasSnapshot_ : Int32) (isSaving_ : Int32) (kind_ : Nat → Int32) (bound_ : Nat → Int32) (patternLength_ : Nat → Int32) (pattern_ : Nat → Int32) (x1 : Int32) (out : Int32 × Int32 × (Nat → Int32) × (Nat → Int32) × (Nat → Int32) × (Nat → Int32)) (X : Cx p m c cX12_removeTest 4 s args wsX12_removeTest RX12 A D cy (RO_X12_removeTest cy o d)) (h : f_X12_removeTest x1 tests_ kind_ bound_ patternLength_ pattern_ = some out) (K : ∀ (H : Heap) (locs : List Loc) (ls : Array Slot) (pc : Nat), decode cX12_removeTest pc = .ok (.ireturn, 1) → St A D s (RW_X12_removeTest cy o d letters_ out.2.1 inputLength_ at_ signed_ newParts_ machineParts_ firstParts_ firstTruth_ secondTruth_ isPair_ states_ stateClasses_ elements_ cursor_ hasSnapshot_ isSaving_ out.2.2.1 out.2.2.2.1 out.2.2.2.2.1 out.2.2.2.2.2) H locs → W p l e rm_X12_removeTest s m args below meth c H locs 0 0 Q (F0 m pc ls [.int out.1])) : ∀ (H : Heap) (locs : List Loc) (ls : Array Slot), St A D s (RW_X12_removeTest cy o d letters_ tests_ inputLength_ at_ signed_ newParts_ machineParts_ firstParts_ firstTruth_ secondTruth_ isPair_ states_ stateClasses_ elements_ cursor_ hasSnapshot_ isSaving_ kind_ bound_ patternLength_ pattern_) H locs → lv_has ls 4 [(0, .ref o), (1, .int x1)] → W p l e rm_X12_removeTest s m args below meth c H locs 0 0 Q (F0 m 0 ls []) := by
  intro H locs ls Z hl
  have hx := X.1.1
  have hb := X.1.2.1
  unfold f_X12_removeTest at h
  refine lv_aload_n hx hb dX12_removeTest_0 rfl (lv_at hl 0 rfl) ?_
  refine lv_iload_n hx hb dX12_removeTest_1 rfl (lv_at hl 1 rfl) ?_
  obtain ⟨u27, hc28, h⟩ := ob_some h
  refine x_runVi (RW' := (RW_X12_removeTest cy o d letters_ tests_ inputLength_ at_ signed_ newParts_ machineParts_ firstParts_ firstTruth_ secondTruth_ isPair_ states_ stateClasses_ elements_ cursor_ hasSnapshot_ isSaving_ kind_ bound_ patternLength_ pattern_)) (wr := [(o, ob 11 (oX12 d letters_ tests_ inputLength_ at_ signed_ newParts_ machineParts_ firstParts_ firstTruth_ secondTruth_ isPair_ states_ stateClasses_ elements_ cursor_ hasSnapshot_ isSaving_)), ((d 5), aI cy 6 kind_), ((d 6), aI cy 6 bound_), ((d 7), aI cy 6 patternLength_), ((d 8), aI cy 24 pattern_)]) (isC := []) (isR := [0, 1, 2, 3, 4]) (isF := [0, 1, 2, 3, 4]) (rest := []) (As := [.int x1]) (n := 1) X Z (c_X12_isTest l D cy o d letters_ tests_ inputLength_ at_ signed_ newParts_ machineParts_ firstParts_ firstTruth_ secondTruth_ isPair_ states_ stateClasses_ elements_ cursor_ hasSnapshot_ isSaving_ x1 u27 hc28) gX12_removeTest_X12_isTest rfl (by decide +kernel) ⟨Nat.le_of_ble_eq_true rfl, Nat.le_of_ble_eq_true rfl⟩ ⟨rfl, rfl⟩ ⟨Nat.le_of_ble_eq_true rfl, Nat.le_of_ble_eq_true rfl⟩ (x_rv X Z 0 rfl rfl) ⟨rfl, rfl, (roC (Or.inl (mem_at 0 rfl)) roN), rfl, rfl, by decide⟩ ⟨rfl, rfl⟩ rfl hl.1 rfl (Nat.le_of_ble_eq_true rfl) dX12_removeTest_2 (fun H locs Z => ?_)
  refine lv_if_ne (tgt := 10) hx hb dX12_removeTest_5 (by decide) (fun cnd => ?_) (fun cnd => ?_)
  · replace h := ifn h cnd
    refine lv_aload_n hx hb dX12_removeTest_10 rfl (lv_at hl 0 rfl) ?_
    refine lv_dup hx hb dX12_removeTest_11 rfl ?_
    refine x_get X Z 0 10 (v := .int tests_) rfl rfl lk_X12_removeTest_X12_tests dX12_removeTest_12 ?_
    refine lv_iconst (v := (1 : Int32)) hx hb dX12_removeTest_15 (by decide) ?_
    refine lv_isub hx hb dX12_removeTest_16 ?_
    refine x_put X Z 0 10 (RW_X12_removeTest cy o d letters_ (tests_ - (1 : Int32)) inputLength_ at_ signed_ newParts_ machineParts_ firstParts_ firstTruth_ secondTruth_ isPair_ states_ stateClasses_ elements_ cursor_ hasSnapshot_ isSaving_ kind_ bound_ patternLength_ pattern_) rfl lp_X12_removeTest_X12_tests (Nat.le_of_ble_eq_true rfl) rfl dX12_removeTest_17 (fun H locs Z => ?_)
    refine lv_iload_n hx hb dX12_removeTest_20 rfl (lv_at hl 1 rfl) ?_
    refine lv_istore_n (lv' := [(2, .int x1), (0, .ref o), (1, .int x1)]) hx hb dX12_removeTest_21 rfl hl (by decide) rfl (fun ls hl => ?_)
    obtain ⟨u29, hL30, h⟩ := ob_some h
    refine wl_X12_removeTest_22 o d letters_ (tests_ - (1 : Int32)) inputLength_ at_ signed_ newParts_ machineParts_ firstParts_ firstTruth_ secondTruth_ isPair_ states_ stateClasses_ elements_ cursor_ hasSnapshot_ isSaving_ FU (kind_, bound_, patternLength_, pattern_, x1) u29 X hL30 (fun H locs ls Z hl => ?_) H locs ls Z (lv_sub hl [1, 0] rfl)
    refine lv_aload_n hx hb dX12_removeTest_113 rfl (lv_at hl 0 rfl) ?_
    refine x_get X Z 0 10 (v := .int (tests_ - (1 : Int32))) rfl rfl lk_X12_removeTest_X12_tests dX12_removeTest_114 ?_
    obtain rfl := Option.some.inj h
    exact K H locs ls _ dX12_removeTest_117 Z
  · replace h := ifp h cnd
    refine lv_iconst (v := (-1 : Int32)) hx hb dX12_removeTest_8 (by decide) ?_
    obtain rfl := Option.some.inj h
    exact K H locs ls _ dX12_removeTest_9 Z
theorem c_X12_removeTest (l : Launch) (D : va_G) (cy : Nat → ClassId) (o : Nat) (d : Nat → Nat)  (letters_ : Int32) (tests_ : Int32) (inputLength_ : Int32) (at_ : Int32) (signed_ : Int32) (newParts_ : Int32) (machineParts_ : Int32) (firstParts_ : Int32) (firstTruth_ : Int32) (secondTruth_ : Int32) (isPair_ : Int32) (states_ : Int32) (stateClasses_ : Int32) (elements_ : Int32) (cursor_ : Int32) (hasSnapshot_ : Int32) (isSaving_ : Int32) (kind_ : Nat → Int32) (bound_ : Nat → Int32) (patternLength_ : Nat → Int32) (pattern_ : Nat → Int32) (x1 : Int32) (out : Int32 × Int32 × (Nat → Int32) × (Nat → Int32) × (Nat → Int32) × (Nat → Int32)) (h : f_X12_removeTest x1 tests_ kind_ bound_ patternLength_ pattern_ = some out) : CtI l yX12_removeTest wsX12_removeTest rm_X12_removeTest D cy [.ref o, .int x1] (RW_X12_removeTest cy o d letters_ tests_ inputLength_ at_ signed_ newParts_ machineParts_ firstParts_ firstTruth_ secondTruth_ isPair_ states_ stateClasses_ elements_ cursor_ hasSnapshot_ isSaving_ kind_ bound_ patternLength_ pattern_) (RO_X12_removeTest cy o d) (RW_X12_removeTest cy o d letters_ out.2.1 inputLength_ at_ signed_ newParts_ machineParts_ firstParts_ firstTruth_ secondTruth_ isPair_ states_ stateClasses_ elements_ cursor_ hasSnapshot_ isSaving_ out.2.2.1 out.2.2.2.1 out.2.2.2.2.1 out.2.2.2.2.2) out.1 :=
  mk_i (ty := .int) (by decide) rfl rfl (Nat.le_of_ble_eq_true rfl) (fun p e s m args below meth c A Q X K H locs ls Z hl => wt_X12_removeTest o d letters_ tests_ inputLength_ at_ signed_ newParts_ machineParts_ firstParts_ firstTruth_ secondTruth_ isPair_ states_ stateClasses_ elements_ cursor_ hasSnapshot_ isSaving_ kind_ bound_ patternLength_ pattern_ x1 out X h K H locs ls Z hl)
/-! SubwordCounterModel testCount ()I -/
abbrev rm_X12_testCount : Room := { frames := 0, cells := 0, slots := 0, locals := 0 }
def RW_X12_testCount (cy : Nat → ClassId) (o : Nat) (d : Nat → Nat)  : va_W := []
def RO_X12_testCount (cy : Nat → ClassId) (o : Nat) (d : Nat → Nat) (letters_ : Int32) (tests_ : Int32) (inputLength_ : Int32) (at_ : Int32) (signed_ : Int32) (newParts_ : Int32) (machineParts_ : Int32) (firstParts_ : Int32) (firstTruth_ : Int32) (secondTruth_ : Int32) (isPair_ : Int32) (states_ : Int32) (stateClasses_ : Int32) (elements_ : Int32) (cursor_ : Int32) (hasSnapshot_ : Int32) (isSaving_ : Int32) : va_W := [(o, ob 11 (oX12 d letters_ tests_ inputLength_ at_ signed_ newParts_ machineParts_ firstParts_ firstTruth_ secondTruth_ isPair_ states_ stateClasses_ elements_ cursor_ hasSnapshot_ isSaving_))]
theorem in_X12_testCount_X12 : ∀ w ∈ u_ws RX12 TX12 68, w ∈ wsX12_testCount := fun w h => (List.mem_cons_of_mem _ (List.mem_append_right _ h))
theorem lk_X12_testCount_X12_tests : Lk wsX12_testCount RX12 173 11 10 := ⟨RX12, TX12, 68, rfl, by decide, in_X12_testCount_X12, mem_at 1 rfl⟩
def f_X12_testCount (tests_ : Int32) : Option (Int32) :=
  some tests_
set_option maxHeartbeats 4000000 in
set_option maxRecDepth 100000 in
theorem wt_X12_testCount {p : Program} {l : Launch} {e : Env} {s : State} {m : MethodId} {args : Array Value} {below : List Frame} {meth : Method} {c : Code} {A : Nat → Prop} {Q : State → Prop} {D : va_G} {cy : Nat → ClassId} (o : Nat) (d : Nat → Nat) (letters_ : Int32) (tests_ : Int32) (inputLength_ : Int32) (at_ : Int32) (signed_ : Int32) (newParts_ : Int32) (machineParts_ : Int32) (firstParts_ : Int32) (firstTruth_ : Int32) (secondTruth_ : Int32) (isPair_ : Int32) (states_ : Int32) (stateClasses_ : Int32) (elements_ : Int32) (cursor_ : Int32) (hasSnapshot_ : Int32) (isSaving_ : Int32)  (out : Int32) (X : Cx p m c cX12_testCount 1 s args wsX12_testCount RX12 A D cy (RO_X12_testCount cy o d letters_ tests_ inputLength_ at_ signed_ newParts_ machineParts_ firstParts_ firstTruth_ secondTruth_ isPair_ states_ stateClasses_ elements_ cursor_ hasSnapshot_ isSaving_)) (h : f_X12_testCount tests_ = some out) (K : ∀ (H : Heap) (locs : List Loc) (ls : Array Slot) (pc : Nat), decode cX12_testCount pc = .ok (.ireturn, 1) → St A D s (RW_X12_testCount cy o d) H locs → W p l e rm_X12_testCount s m args below meth c H locs 0 0 Q (F0 m pc ls [.int out])) : ∀ (H : Heap) (locs : List Loc) (ls : Array Slot), St A D s (RW_X12_testCount cy o d) H locs → lv_has ls 1 [(0, .ref o)] → W p l e rm_X12_testCount s m args below meth c H locs 0 0 Q (F0 m 0 ls []) := by
  intro H locs ls Z hl
  have hx := X.1.1
  have hb := X.1.2.1
  unfold f_X12_testCount at h
  refine lv_aload_n hx hb dX12_testCount_0 rfl (lv_at hl 0 rfl) ?_
  refine x_getO X Z 0 10 (v := .int tests_) rfl rfl lk_X12_testCount_X12_tests dX12_testCount_1 ?_
  obtain rfl := Option.some.inj h
  exact K H locs ls _ dX12_testCount_4 Z
theorem c_X12_testCount (l : Launch) (D : va_G) (cy : Nat → ClassId) (o : Nat) (d : Nat → Nat) (letters_ : Int32) (tests_ : Int32) (inputLength_ : Int32) (at_ : Int32) (signed_ : Int32) (newParts_ : Int32) (machineParts_ : Int32) (firstParts_ : Int32) (firstTruth_ : Int32) (secondTruth_ : Int32) (isPair_ : Int32) (states_ : Int32) (stateClasses_ : Int32) (elements_ : Int32) (cursor_ : Int32) (hasSnapshot_ : Int32) (isSaving_ : Int32)  (out : Int32) (h : f_X12_testCount tests_ = some out) : CtI l yX12_testCount wsX12_testCount rm_X12_testCount D cy [.ref o] (RW_X12_testCount cy o d) (RO_X12_testCount cy o d letters_ tests_ inputLength_ at_ signed_ newParts_ machineParts_ firstParts_ firstTruth_ secondTruth_ isPair_ states_ stateClasses_ elements_ cursor_ hasSnapshot_ isSaving_) (RW_X12_testCount cy o d) out :=
  mk_i (ty := .int) (by decide) rfl rfl (Nat.le_of_ble_eq_true rfl) (fun p e s m args below meth c A Q X K H locs ls Z hl => wt_X12_testCount o d letters_ tests_ inputLength_ at_ signed_ newParts_ machineParts_ firstParts_ firstTruth_ secondTruth_ isPair_ states_ stateClasses_ elements_ cursor_ hasSnapshot_ isSaving_ out X h K H locs ls Z hl)
/-! SubwordCounterModel rangeOf (I)I -/
abbrev rm_X12_rangeOf : Room := { frames := 0, cells := 0, slots := 0, locals := 0 }
def RW_X12_rangeOf (cy : Nat → ClassId) (o : Nat) (d : Nat → Nat)  : va_W := []
def RO_X12_rangeOf (cy : Nat → ClassId) (o : Nat) (d : Nat → Nat) (letters_ : Int32) (tests_ : Int32) (inputLength_ : Int32) (at_ : Int32) (signed_ : Int32) (newParts_ : Int32) (machineParts_ : Int32) (firstParts_ : Int32) (firstTruth_ : Int32) (secondTruth_ : Int32) (isPair_ : Int32) (states_ : Int32) (stateClasses_ : Int32) (elements_ : Int32) (cursor_ : Int32) (hasSnapshot_ : Int32) (isSaving_ : Int32) (kind_ : Nat → Int32) (bound_ : Nat → Int32) : va_W := [(o, ob 11 (oX12 d letters_ tests_ inputLength_ at_ signed_ newParts_ machineParts_ firstParts_ firstTruth_ secondTruth_ isPair_ states_ stateClasses_ elements_ cursor_ hasSnapshot_ isSaving_)), ((d 5), aI cy 6 kind_), ((d 6), aI cy 6 bound_)]
theorem in_X12_rangeOf_X12 : ∀ w ∈ u_ws RX12 TX12 68, w ∈ wsX12_rangeOf := fun w h => (List.mem_cons_of_mem _ (List.mem_append_right _ h))
theorem lk_X12_rangeOf_X12_kind : Lk wsX12_rangeOf RX12 26 11 5 := ⟨RX12, TX12, 68, rfl, by decide, in_X12_rangeOf_X12, mem_at 1 rfl⟩
theorem lk_X12_rangeOf_X12_bound : Lk wsX12_rangeOf RX12 29 11 6 := ⟨RX12, TX12, 68, rfl, by decide, in_X12_rangeOf_X12, mem_at 2 rfl⟩
def f_X12_rangeOf (x1 : Int32) (kind_ : Nat → Int32) (bound_ : Nat → Int32) : Option (Int32) :=
  ldA kind_ 6 x1 (fun v2 =>
  if v2 = (2 : Int32) then
  (ldA bound_ 6 x1 (fun v8 =>
  some (v8 + (1 : Int32))))
  else
  (ldA bound_ 6 x1 (fun v5 =>
  some v5)))
set_option maxHeartbeats 4000000 in
set_option maxRecDepth 100000 in
theorem wt_X12_rangeOf {p : Program} {l : Launch} {e : Env} {s : State} {m : MethodId} {args : Array Value} {below : List Frame} {meth : Method} {c : Code} {A : Nat → Prop} {Q : State → Prop} {D : va_G} {cy : Nat → ClassId} (o : Nat) (d : Nat → Nat) (letters_ : Int32) (tests_ : Int32) (inputLength_ : Int32) (at_ : Int32) (signed_ : Int32) (newParts_ : Int32) (machineParts_ : Int32) (firstParts_ : Int32) (firstTruth_ : Int32) (secondTruth_ : Int32) (isPair_ : Int32) (states_ : Int32) (stateClasses_ : Int32) (elements_ : Int32) (cursor_ : Int32) (hasSnapshot_ : Int32) (isSaving_ : Int32) (kind_ : Nat → Int32) (bound_ : Nat → Int32)  (x1 : Int32) (out : Int32) (X : Cx p m c cX12_rangeOf 2 s args wsX12_rangeOf RX12 A D cy (RO_X12_rangeOf cy o d letters_ tests_ inputLength_ at_ signed_ newParts_ machineParts_ firstParts_ firstTruth_ secondTruth_ isPair_ states_ stateClasses_ elements_ cursor_ hasSnapshot_ isSaving_ kind_ bound_)) (h : f_X12_rangeOf x1 kind_ bound_ = some out) (K : ∀ (H : Heap) (locs : List Loc) (ls : Array Slot) (pc : Nat), decode cX12_rangeOf pc = .ok (.ireturn, 1) → St A D s (RW_X12_rangeOf cy o d) H locs → W p l e rm_X12_rangeOf s m args below meth c H locs 0 0 Q (F0 m pc ls [.int out])) : ∀ (H : Heap) (locs : List Loc) (ls : Array Slot), St A D s (RW_X12_rangeOf cy o d) H locs → lv_has ls 2 [(0, .ref o), (1, .int x1)] → W p l e rm_X12_rangeOf s m args below meth c H locs 0 0 Q (F0 m 0 ls []) := by
  intro H locs ls Z hl
  have hx := X.1.1
  have hb := X.1.2.1
  unfold f_X12_rangeOf at h
  refine lv_aload_n hx hb dX12_rangeOf_0 rfl (lv_at hl 0 rfl) ?_
  refine x_getO X Z 0 5 (v := .ref (d 5)) rfl rfl lk_X12_rangeOf_X12_kind dX12_rangeOf_1 ?_
  refine lv_iload_n hx hb dX12_rangeOf_4 rfl (lv_at hl 1 rfl) ?_
  obtain ⟨hin1, v2, hv3, h⟩ := ld_b h
  refine x_ialdO X Z 1 rfl hin1 hv3 dX12_rangeOf_5 ?_
  refine lv_iconst (v := (2 : Int32)) hx hb dX12_rangeOf_6 (by decide) ?_
  refine lv_icmp_ne (tgt := 21) hx hb dX12_rangeOf_7 (by decide) (fun cnd => ?_) (fun cnd => ?_)
  · replace h := ifn h cnd
    refine lv_aload_n hx hb dX12_rangeOf_21 rfl (lv_at hl 0 rfl) ?_
    refine x_getO X Z 0 6 (v := .ref (d 6)) rfl rfl lk_X12_rangeOf_X12_bound dX12_rangeOf_22 ?_
    refine lv_iload_n hx hb dX12_rangeOf_25 rfl (lv_at hl 1 rfl) ?_
    obtain ⟨hin4, v5, hv6, h⟩ := ld_b h
    refine x_ialdO X Z 2 rfl hin4 hv6 dX12_rangeOf_26 ?_
    obtain rfl := Option.some.inj h
    exact K H locs ls _ dX12_rangeOf_27 Z
  · replace h := ifp h cnd
    refine lv_aload_n hx hb dX12_rangeOf_10 rfl (lv_at hl 0 rfl) ?_
    refine x_getO X Z 0 6 (v := .ref (d 6)) rfl rfl lk_X12_rangeOf_X12_bound dX12_rangeOf_11 ?_
    refine lv_iload_n hx hb dX12_rangeOf_14 rfl (lv_at hl 1 rfl) ?_
    obtain ⟨hin7, v8, hv9, h⟩ := ld_b h
    refine x_ialdO X Z 2 rfl hin7 hv9 dX12_rangeOf_15 ?_
    refine lv_iconst (v := (1 : Int32)) hx hb dX12_rangeOf_16 (by decide) ?_
    refine lv_iadd hx hb dX12_rangeOf_17 ?_
    refine lv_goto (tgt := 27) hx hb dX12_rangeOf_18 (by decide) ?_
    obtain rfl := Option.some.inj h
    exact K H locs ls _ dX12_rangeOf_27 Z
theorem c_X12_rangeOf (l : Launch) (D : va_G) (cy : Nat → ClassId) (o : Nat) (d : Nat → Nat) (letters_ : Int32) (tests_ : Int32) (inputLength_ : Int32) (at_ : Int32) (signed_ : Int32) (newParts_ : Int32) (machineParts_ : Int32) (firstParts_ : Int32) (firstTruth_ : Int32) (secondTruth_ : Int32) (isPair_ : Int32) (states_ : Int32) (stateClasses_ : Int32) (elements_ : Int32) (cursor_ : Int32) (hasSnapshot_ : Int32) (isSaving_ : Int32) (kind_ : Nat → Int32) (bound_ : Nat → Int32)  (x1 : Int32) (out : Int32) (h : f_X12_rangeOf x1 kind_ bound_ = some out) : CtI l yX12_rangeOf wsX12_rangeOf rm_X12_rangeOf D cy [.ref o, .int x1] (RW_X12_rangeOf cy o d) (RO_X12_rangeOf cy o d letters_ tests_ inputLength_ at_ signed_ newParts_ machineParts_ firstParts_ firstTruth_ secondTruth_ isPair_ states_ stateClasses_ elements_ cursor_ hasSnapshot_ isSaving_ kind_ bound_) (RW_X12_rangeOf cy o d) out :=
  mk_i (ty := .int) (by decide) rfl rfl (Nat.le_of_ble_eq_true rfl) (fun p e s m args below meth c A Q X K H locs ls Z hl => wt_X12_rangeOf o d letters_ tests_ inputLength_ at_ signed_ newParts_ machineParts_ firstParts_ firstTruth_ secondTruth_ isPair_ states_ stateClasses_ elements_ cursor_ hasSnapshot_ isSaving_ kind_ bound_ x1 out X h K H locs ls Z hl)
/-! SubwordCounterModel test (II)I -/
abbrev rm_X12_test : Room := { frames := 2, cells := 0, slots := 0, locals := 43 }
def RW_X12_test (cy : Nat → ClassId) (o : Nat) (d : Nat → Nat)  : va_W := []
def RO_X12_test (cy : Nat → ClassId) (o : Nat) (d : Nat → Nat) (letters_ : Int32) (tests_ : Int32) (inputLength_ : Int32) (at_ : Int32) (signed_ : Int32) (newParts_ : Int32) (machineParts_ : Int32) (firstParts_ : Int32) (firstTruth_ : Int32) (secondTruth_ : Int32) (isPair_ : Int32) (states_ : Int32) (stateClasses_ : Int32) (elements_ : Int32) (cursor_ : Int32) (hasSnapshot_ : Int32) (isSaving_ : Int32) (kind_ : Nat → Int32) (bound_ : Nat → Int32) (patternLength_ : Nat → Int32) : va_W := [(o, ob 11 (oX12 d letters_ tests_ inputLength_ at_ signed_ newParts_ machineParts_ firstParts_ firstTruth_ secondTruth_ isPair_ states_ stateClasses_ elements_ cursor_ hasSnapshot_ isSaving_)), ((d 5), aI cy 6 kind_), ((d 6), aI cy 6 bound_), ((d 7), aI cy 6 patternLength_)]
theorem in_X12_test_X12 : ∀ w ∈ u_ws RX12 TX12 68, w ∈ wsX12_test := fun w h => (List.mem_cons_of_mem _ (List.mem_append_right _ h))
theorem lk_X12_test_X12_patternLength : Lk wsX12_test RX12 32 11 7 := ⟨RX12, TX12, 68, rfl, by decide, in_X12_test_X12, mem_at 2 rfl⟩
theorem lk_X12_test_X12_kind : Lk wsX12_test RX12 26 11 5 := ⟨RX12, TX12, 68, rfl, by decide, in_X12_test_X12, mem_at 1 rfl⟩
def f_X12_test (x1 : Int32) (x2 : Int32) (tests_ : Int32) (kind_ : Nat → Int32) (bound_ : Nat → Int32) (patternLength_ : Nat → Int32) : Option (Int32) :=
  (f_X12_isTest x1 tests_).bind (fun u1 =>
  if u1 = 0 then
  (some (-1 : Int32))
  else
  ((f_X12_isBetween x2 (0 : Int32) (2 : Int32)).bind (fun u3 =>
  if u3 = 0 then
  (some (-1 : Int32))
  else
  (if x2 = 0 then
  (ldA kind_ 6 x1 (fun v11 =>
  some v11))
  else
  (if x2 = (1 : Int32) then
  ((f_X12_rangeOf x1 kind_ bound_).bind (fun u8 =>
  some u8))
  else
  (ldA patternLength_ 6 x1 (fun v6 =>
  some v6)))))))
set_option maxHeartbeats 4000000 in
set_option maxRecDepth 100000 in
theorem wt_X12_test {p : Program} {l : Launch} {e : Env} {s : State} {m : MethodId} {args : Array Value} {below : List Frame} {meth : Method} {c : Code} {A : Nat → Prop} {Q : State → Prop} {D : va_G} {cy : Nat → ClassId} (o : Nat) (d : Nat → Nat) (letters_ : Int32) (tests_ : Int32) (inputLength_ : Int32) (at_ : Int32) (signed_ : Int32) (newParts_ : Int32) (machineParts_ : Int32) (firstParts_ : Int32) (firstTruth_ : Int32) (secondTruth_ : Int32) (isPair_ : Int32) (states_ : Int32) (stateClasses_ : Int32) (elements_ : Int32) (cursor_ : Int32) (hasSnapshot_ : Int32) (isSaving_ : Int32) (kind_ : Nat → Int32) (bound_ : Nat → Int32) (patternLength_ : Nat → Int32)  (x1 : Int32) (x2 : Int32) (out : Int32) (X : Cx p m c cX12_test 3 s args wsX12_test RX12 A D cy (RO_X12_test cy o d letters_ tests_ inputLength_ at_ signed_ newParts_ machineParts_ firstParts_ firstTruth_ secondTruth_ isPair_ states_ stateClasses_ elements_ cursor_ hasSnapshot_ isSaving_ kind_ bound_ patternLength_)) (h : f_X12_test x1 x2 tests_ kind_ bound_ patternLength_ = some out) (K : ∀ (H : Heap) (locs : List Loc) (ls : Array Slot) (pc : Nat), decode cX12_test pc = .ok (.ireturn, 1) → St A D s (RW_X12_test cy o d) H locs → W p l e rm_X12_test s m args below meth c H locs 0 0 Q (F0 m pc ls [.int out])) : ∀ (H : Heap) (locs : List Loc) (ls : Array Slot), St A D s (RW_X12_test cy o d) H locs → lv_has ls 3 [(0, .ref o), (1, .int x1), (2, .int x2)] → W p l e rm_X12_test s m args below meth c H locs 0 0 Q (F0 m 0 ls []) := by
  intro H locs ls Z hl
  have hx := X.1.1
  have hb := X.1.2.1
  unfold f_X12_test at h
  refine lv_aload_n hx hb dX12_test_0 rfl (lv_at hl 0 rfl) ?_
  refine lv_iload_n hx hb dX12_test_1 rfl (lv_at hl 1 rfl) ?_
  obtain ⟨u1, hc2, h⟩ := ob_some h
  refine x_runVi (RW' := (RW_X12_test cy o d)) (wr := []) (isC := []) (isR := []) (isF := []) (rest := []) (As := [.int x1]) (n := 1) X Z (c_X12_isTest l D cy o d letters_ tests_ inputLength_ at_ signed_ newParts_ machineParts_ firstParts_ firstTruth_ secondTruth_ isPair_ states_ stateClasses_ elements_ cursor_ hasSnapshot_ isSaving_ x1 u1 hc2) gX12_test_X12_isTest rfl (by decide +kernel) ⟨Nat.le_of_ble_eq_true rfl, Nat.le_of_ble_eq_true rfl⟩ ⟨rfl, rfl⟩ ⟨Nat.le_of_ble_eq_true rfl, Nat.le_of_ble_eq_true rfl⟩ (x_rvO X Z 0 rfl rfl) ⟨rfl, rfl, (roC (Or.inr (mem_at 0 rfl)) roN), rfl, rfl, by decide⟩ ⟨rfl, rfl⟩ rfl hl.1 rfl (Nat.le_of_ble_eq_true rfl) dX12_test_2 (fun H locs Z => ?_)
  refine lv_if_eq (tgt := 17) hx hb dX12_test_5 (by decide) (fun cnd => ?_) (fun cnd => ?_)
  · replace h := ifp h cnd
    refine lv_iconst (v := (-1 : Int32)) hx hb dX12_test_17 (by decide) ?_
    obtain rfl := Option.some.inj h
    exact K H locs ls _ dX12_test_18 Z
  · replace h := ifn h cnd
    refine lv_iload_n hx hb dX12_test_8 rfl (lv_at hl 2 rfl) ?_
    refine lv_iconst (v := (0 : Int32)) hx hb dX12_test_9 (by decide) ?_
    refine lv_iconst (v := (2 : Int32)) hx hb dX12_test_10 (by decide) ?_
    obtain ⟨u3, hc4, h⟩ := ob_some h
    refine x_runSi (RW' := (RW_X12_test cy o d)) (wr := []) (isC := []) (isR := []) (isF := []) (rest := []) (As := [.int x2, .int (0 : Int32), .int (2 : Int32)]) (n := 3) X Z (c_X12_isBetween l D cy x2 (0 : Int32) (2 : Int32) u3 hc4) gX12_test_X12_isBetween rfl (by decide +kernel) ⟨Nat.le_of_ble_eq_true rfl, Nat.le_of_ble_eq_true rfl⟩ ⟨rfl, rfl⟩ ⟨Nat.le_of_ble_eq_true rfl, Nat.le_of_ble_eq_true rfl⟩ ⟨rfl, rfl, roN, rfl, rfl, by decide⟩ ⟨rfl, rfl⟩ rfl hl.1 rfl (Nat.le_of_ble_eq_true rfl) dX12_test_11 (fun H locs Z => ?_)
    refine lv_if_ne (tgt := 19) hx hb dX12_test_14 (by decide) (fun cnd => ?_) (fun cnd => ?_)
    · replace h := ifn h cnd
      refine lv_iload_n hx hb dX12_test_19 rfl (lv_at hl 2 rfl) ?_
      refine lv_if_ne (tgt := 32) hx hb dX12_test_20 (by decide) (fun cnd => ?_) (fun cnd => ?_)
      · replace h := ifn h cnd
        refine lv_iload_n hx hb dX12_test_32 rfl (lv_at hl 2 rfl) ?_
        refine lv_iconst (v := (1 : Int32)) hx hb dX12_test_33 (by decide) ?_
        refine lv_icmp_ne (tgt := 45) hx hb dX12_test_34 (by decide) (fun cnd => ?_) (fun cnd => ?_)
        · replace h := ifn h cnd
          refine lv_aload_n hx hb dX12_test_45 rfl (lv_at hl 0 rfl) ?_
          refine x_getO X Z 0 7 (v := .ref (d 7)) rfl rfl lk_X12_test_X12_patternLength dX12_test_46 ?_
          refine lv_iload_n hx hb dX12_test_49 rfl (lv_at hl 1 rfl) ?_
          obtain ⟨hin5, v6, hv7, h⟩ := ld_b h
          refine x_ialdO X Z 3 rfl hin5 hv7 dX12_test_50 ?_
          obtain rfl := Option.some.inj h
          exact K H locs ls _ dX12_test_51 Z
        · replace h := ifp h cnd
          refine lv_aload_n hx hb dX12_test_37 rfl (lv_at hl 0 rfl) ?_
          refine lv_iload_n hx hb dX12_test_38 rfl (lv_at hl 1 rfl) ?_
          obtain ⟨u8, hc9, h⟩ := ob_some h
          refine x_runVi (RW' := (RW_X12_test cy o d)) (wr := []) (isC := []) (isR := []) (isF := []) (rest := []) (As := [.int x1]) (n := 1) X Z (c_X12_rangeOf l D cy o d letters_ tests_ inputLength_ at_ signed_ newParts_ machineParts_ firstParts_ firstTruth_ secondTruth_ isPair_ states_ stateClasses_ elements_ cursor_ hasSnapshot_ isSaving_ kind_ bound_ x1 u8 hc9) gX12_test_X12_rangeOf rfl (by decide +kernel) ⟨Nat.le_of_ble_eq_true rfl, Nat.le_of_ble_eq_true rfl⟩ ⟨rfl, rfl⟩ ⟨Nat.le_of_ble_eq_true rfl, Nat.le_of_ble_eq_true rfl⟩ (x_rvO X Z 0 rfl rfl) ⟨rfl, rfl, (roC (Or.inr (mem_at 0 rfl)) (roC (Or.inr (mem_at 1 rfl)) (roC (Or.inr (mem_at 2 rfl)) roN))), rfl, rfl, by decide⟩ ⟨rfl, rfl⟩ rfl hl.1 rfl (Nat.le_of_ble_eq_true rfl) dX12_test_39 (fun H locs Z => ?_)
          refine lv_goto (tgt := 51) hx hb dX12_test_42 (by decide) ?_
          obtain rfl := Option.some.inj h
          exact K H locs ls _ dX12_test_51 Z
      · replace h := ifp h cnd
        refine lv_aload_n hx hb dX12_test_23 rfl (lv_at hl 0 rfl) ?_
        refine x_getO X Z 0 5 (v := .ref (d 5)) rfl rfl lk_X12_test_X12_kind dX12_test_24 ?_
        refine lv_iload_n hx hb dX12_test_27 rfl (lv_at hl 1 rfl) ?_
        obtain ⟨hin10, v11, hv12, h⟩ := ld_b h
        refine x_ialdO X Z 1 rfl hin10 hv12 dX12_test_28 ?_
        refine lv_goto (tgt := 51) hx hb dX12_test_29 (by decide) ?_
        obtain rfl := Option.some.inj h
        exact K H locs ls _ dX12_test_51 Z
    · replace h := ifp h cnd
      refine lv_iconst (v := (-1 : Int32)) hx hb dX12_test_17 (by decide) ?_
      obtain rfl := Option.some.inj h
      exact K H locs ls _ dX12_test_18 Z
theorem c_X12_test (l : Launch) (D : va_G) (cy : Nat → ClassId) (o : Nat) (d : Nat → Nat) (letters_ : Int32) (tests_ : Int32) (inputLength_ : Int32) (at_ : Int32) (signed_ : Int32) (newParts_ : Int32) (machineParts_ : Int32) (firstParts_ : Int32) (firstTruth_ : Int32) (secondTruth_ : Int32) (isPair_ : Int32) (states_ : Int32) (stateClasses_ : Int32) (elements_ : Int32) (cursor_ : Int32) (hasSnapshot_ : Int32) (isSaving_ : Int32) (kind_ : Nat → Int32) (bound_ : Nat → Int32) (patternLength_ : Nat → Int32)  (x1 : Int32) (x2 : Int32) (out : Int32) (h : f_X12_test x1 x2 tests_ kind_ bound_ patternLength_ = some out) : CtI l yX12_test wsX12_test rm_X12_test D cy [.ref o, .int x1, .int x2] (RW_X12_test cy o d) (RO_X12_test cy o d letters_ tests_ inputLength_ at_ signed_ newParts_ machineParts_ firstParts_ firstTruth_ secondTruth_ isPair_ states_ stateClasses_ elements_ cursor_ hasSnapshot_ isSaving_ kind_ bound_ patternLength_) (RW_X12_test cy o d) out :=
  mk_i (ty := .int) (by decide) rfl rfl (Nat.le_of_ble_eq_true rfl) (fun p e s m args below meth c A Q X K H locs ls Z hl => wt_X12_test o d letters_ tests_ inputLength_ at_ signed_ newParts_ machineParts_ firstParts_ firstTruth_ secondTruth_ isPair_ states_ stateClasses_ elements_ cursor_ hasSnapshot_ isSaving_ kind_ bound_ patternLength_ x1 x2 out X h K H locs ls Z hl)
/-! SubwordCounterModel valueOf (II[IIII)I -/
abbrev rm_X12_valueOf : Room := { frames := 1, cells := 0, slots := 0, locals := 26 }
def RW_X12_valueOf (cy : Nat → ClassId) (o : Nat) (q_p3 : Nat) (n_p3 : Nat) (d : Nat → Nat) (prefixes_ : Nat → Int32) : va_W := [((d 3), aI cy 13 prefixes_)]
def RO_X12_valueOf (cy : Nat → ClassId) (o : Nat) (q_p3 : Nat) (n_p3 : Nat) (d : Nat → Nat) (letters_ : Int32) (tests_ : Int32) (inputLength_ : Int32) (at_ : Int32) (signed_ : Int32) (newParts_ : Int32) (machineParts_ : Int32) (firstParts_ : Int32) (firstTruth_ : Int32) (secondTruth_ : Int32) (isPair_ : Int32) (states_ : Int32) (stateClasses_ : Int32) (elements_ : Int32) (cursor_ : Int32) (hasSnapshot_ : Int32) (isSaving_ : Int32) (p3_ : Nat → Int32) (wordLength_ : Nat → Int32) (word_ : Nat → Int32) : va_W := [(o, ob 11 (oX12 d letters_ tests_ inputLength_ at_ signed_ newParts_ machineParts_ firstParts_ firstTruth_ secondTruth_ isPair_ states_ stateClasses_ elements_ cursor_ hasSnapshot_ isSaving_)), (q_p3, aI cy n_p3 p3_), ((d 1), aI cy 3 wordLength_), ((d 2), aI cy 36 word_)]
theorem in_X12_valueOf_X12 : ∀ w ∈ u_ws RX12 TX12 68, w ∈ wsX12_valueOf := fun w h => (List.mem_cons_of_mem _ (List.mem_append_right _ h))
theorem lk_X12_valueOf_X12_wordLength : Lk wsX12_valueOf RX12 13 11 1 := ⟨RX12, TX12, 68, rfl, by decide, in_X12_valueOf_X12, mem_at 1 rfl⟩
def f_X12_valueOf (x1 : Int32) (x2 : Int32) (x4 : Int32) (x5 : Int32) (x6 : Int32) (n_p3 : Nat) (p3_ : Nat → Int32) (wordLength_ : Nat → Int32) (word_ : Nat → Int32) (prefixes_ : Nat → Int32) : Option (Int32 × (Nat → Int32)) :=
  if x1 = (1 : Int32) then
  (ldA wordLength_ 3 x6 (fun v7 =>
  rmI v7 x2 (fun v10 =>
  some (v10, prefixes_))))
  else
  ((f_X12_occurrencesIn x4 x5 x6 n_p3 p3_ wordLength_ word_ prefixes_).bind (fun u1 =>
  if x1 = 0 then
  (rmI u1.1 x2 (fun v4 =>
  some (v4, u1.2)))
  else
  (if x2 ≤ u1.1 then
  (some (x2, u1.2))
  else
  (some (u1.1, u1.2)))))
set_option maxHeartbeats 4000000 in
set_option maxRecDepth 100000 in
theorem wt_X12_valueOf {p : Program} {l : Launch} {e : Env} {s : State} {m : MethodId} {args : Array Value} {below : List Frame} {meth : Method} {c : Code} {A : Nat → Prop} {Q : State → Prop} {D : va_G} {cy : Nat → ClassId} (o : Nat) (q_p3 : Nat) (n_p3 : Nat) (d : Nat → Nat) (letters_ : Int32) (tests_ : Int32) (inputLength_ : Int32) (at_ : Int32) (signed_ : Int32) (newParts_ : Int32) (machineParts_ : Int32) (firstParts_ : Int32) (firstTruth_ : Int32) (secondTruth_ : Int32) (isPair_ : Int32) (states_ : Int32) (stateClasses_ : Int32) (elements_ : Int32) (cursor_ : Int32) (hasSnapshot_ : Int32) (isSaving_ : Int32) (p3_ : Nat → Int32) (wordLength_ : Nat → Int32) (word_ : Nat → Int32) (prefixes_ : Nat → Int32) (x1 : Int32) (x2 : Int32) (x4 : Int32) (x5 : Int32) (x6 : Int32) (out : Int32 × (Nat → Int32)) (X : Cx p m c cX12_valueOf 8 s args wsX12_valueOf RX12 A D cy (RO_X12_valueOf cy o q_p3 n_p3 d letters_ tests_ inputLength_ at_ signed_ newParts_ machineParts_ firstParts_ firstTruth_ secondTruth_ isPair_ states_ stateClasses_ elements_ cursor_ hasSnapshot_ isSaving_ p3_ wordLength_ word_)) (h : f_X12_valueOf x1 x2 x4 x5 x6 n_p3 p3_ wordLength_ word_ prefixes_ = some out) (K : ∀ (H : Heap) (locs : List Loc) (ls : Array Slot) (pc : Nat), decode cX12_valueOf pc = .ok (.ireturn, 1) → St A D s (RW_X12_valueOf cy o q_p3 n_p3 d out.2) H locs → W p l e rm_X12_valueOf s m args below meth c H locs 0 0 Q (F0 m pc ls [.int out.1])) : ∀ (H : Heap) (locs : List Loc) (ls : Array Slot), St A D s (RW_X12_valueOf cy o q_p3 n_p3 d prefixes_) H locs → lv_has ls 8 [(0, .ref o), (1, .int x1), (2, .int x2), (3, .ref q_p3), (4, .int x4), (5, .int x5), (6, .int x6)] → W p l e rm_X12_valueOf s m args below meth c H locs 0 0 Q (F0 m 0 ls []) := by
  intro H locs ls Z hl
  have hx := X.1.1
  have hb := X.1.2.1
  unfold f_X12_valueOf at h
  refine lv_iload_n hx hb dX12_valueOf_0 rfl (lv_at hl 1 rfl) ?_
  refine lv_iconst (v := (1 : Int32)) hx hb dX12_valueOf_1 (by decide) ?_
  refine lv_icmp_ne (tgt := 15) hx hb dX12_valueOf_2 (by decide) (fun cnd => ?_) (fun cnd => ?_)
  · replace h := ifn h cnd
    refine lv_aload_n hx hb dX12_valueOf_15 rfl (lv_at hl 0 rfl) ?_
    refine lv_aload_n hx hb dX12_valueOf_16 rfl (lv_at hl 3 rfl) ?_
    refine lv_iload hx hb dX12_valueOf_17 (lv_at hl 4 rfl) ?_
    refine lv_iload hx hb dX12_valueOf_19 (lv_at hl 5 rfl) ?_
    refine lv_iload hx hb dX12_valueOf_21 (lv_at hl 6 rfl) ?_
    obtain ⟨u1, hc2, h⟩ := ob_some h
    refine x_runVi (RW' := (RW_X12_valueOf cy o q_p3 n_p3 d u1.2)) (wr := []) (isC := [0]) (isR := []) (isF := [0]) (rest := []) (As := [.ref q_p3, .int x4, .int x5, .int x6]) (n := 4) X Z (c_X12_occurrencesIn l D cy o q_p3 n_p3 d letters_ tests_ inputLength_ at_ signed_ newParts_ machineParts_ firstParts_ firstTruth_ secondTruth_ isPair_ states_ stateClasses_ elements_ cursor_ hasSnapshot_ isSaving_ p3_ wordLength_ word_ prefixes_ x4 x5 x6 u1 hc2) gX12_valueOf_X12_occurrencesIn rfl (by decide +kernel) ⟨Nat.le_of_ble_eq_true rfl, Nat.le_of_ble_eq_true rfl⟩ ⟨rfl, rfl⟩ ⟨Nat.le_of_ble_eq_true rfl, Nat.le_of_ble_eq_true rfl⟩ (x_rvO X Z 0 rfl rfl) ⟨rfl, rfl, (roC (Or.inr (mem_at 0 rfl)) (roC (Or.inr (mem_at 1 rfl)) (roC (Or.inr (mem_at 2 rfl)) (roC (Or.inr (mem_at 3 rfl)) roN)))), rfl, rfl, by decide⟩ ⟨rfl, rfl⟩ rfl hl.1 rfl (Nat.le_of_ble_eq_true rfl) dX12_valueOf_23 (fun H locs Z => ?_)
    refine lv_istore (lv' := [(7, .int u1.1), (0, .ref o), (1, .int x1), (2, .int x2), (3, .ref q_p3), (4, .int x4), (5, .int x5), (6, .int x6)]) hx hb dX12_valueOf_26 hl (by decide) rfl (fun ls hl => ?_)
    refine lv_iload_n hx hb dX12_valueOf_28 rfl (lv_at hl 2 rfl) ?_
    refine lv_if_ne (tgt := 39) hx hb dX12_valueOf_29 (by decide) (fun cnd => ?_) (fun cnd => ?_)
    · replace h := ifn h cnd
      refine lv_iload hx hb dX12_valueOf_39 (lv_at hl 0 rfl) ?_
      refine lv_iload_n hx hb dX12_valueOf_41 rfl (lv_at hl 3 rfl) ?_
      refine lv_icmp_ge (tgt := 50) hx hb dX12_valueOf_42 (by decide) (fun cnd => ?_) (fun cnd => ?_)
      · replace h := ifp h cnd
        refine lv_iload_n hx hb dX12_valueOf_50 rfl (lv_at hl 3 rfl) ?_
        obtain rfl := Option.some.inj h
        exact K H locs ls _ dX12_valueOf_51 Z
      · replace h := ifn h cnd
        refine lv_iload hx hb dX12_valueOf_45 (lv_at hl 0 rfl) ?_
        refine lv_goto (tgt := 51) hx hb dX12_valueOf_47 (by decide) ?_
        obtain rfl := Option.some.inj h
        exact K H locs ls _ dX12_valueOf_51 Z
    · replace h := ifp h cnd
      refine lv_iload hx hb dX12_valueOf_32 (lv_at hl 0 rfl) ?_
      refine lv_iload_n hx hb dX12_valueOf_34 rfl (lv_at hl 3 rfl) ?_
      obtain ⟨hz3, v4, hv5, h⟩ := rm_b h
      refine lv_irem hx hb dX12_valueOf_35 hz3 ?_
      rw [hv5]
      refine lv_goto (tgt := 51) hx hb dX12_valueOf_36 (by decide) ?_
      obtain rfl := Option.some.inj h
      exact K H locs ls _ dX12_valueOf_51 Z
  · replace h := ifp h cnd
    refine lv_aload_n hx hb dX12_valueOf_5 rfl (lv_at hl 0 rfl) ?_
    refine x_getO X Z 0 1 (v := .ref (d 1)) rfl rfl lk_X12_valueOf_X12_wordLength dX12_valueOf_6 ?_
    refine lv_iload hx hb dX12_valueOf_9 (lv_at hl 6 rfl) ?_
    obtain ⟨hin6, v7, hv8, h⟩ := ld_b h
    refine x_ialdO X Z 2 rfl hin6 hv8 dX12_valueOf_11 ?_
    refine lv_iload_n hx hb dX12_valueOf_12 rfl (lv_at hl 2 rfl) ?_
    obtain ⟨hz9, v10, hv11, h⟩ := rm_b h
    refine lv_irem hx hb dX12_valueOf_13 hz9 ?_
    rw [hv11]
    obtain rfl := Option.some.inj h
    exact K H locs ls _ dX12_valueOf_14 Z
theorem c_X12_valueOf (l : Launch) (D : va_G) (cy : Nat → ClassId) (o : Nat) (q_p3 : Nat) (n_p3 : Nat) (d : Nat → Nat) (letters_ : Int32) (tests_ : Int32) (inputLength_ : Int32) (at_ : Int32) (signed_ : Int32) (newParts_ : Int32) (machineParts_ : Int32) (firstParts_ : Int32) (firstTruth_ : Int32) (secondTruth_ : Int32) (isPair_ : Int32) (states_ : Int32) (stateClasses_ : Int32) (elements_ : Int32) (cursor_ : Int32) (hasSnapshot_ : Int32) (isSaving_ : Int32) (p3_ : Nat → Int32) (wordLength_ : Nat → Int32) (word_ : Nat → Int32) (prefixes_ : Nat → Int32) (x1 : Int32) (x2 : Int32) (x4 : Int32) (x5 : Int32) (x6 : Int32) (out : Int32 × (Nat → Int32)) (h : f_X12_valueOf x1 x2 x4 x5 x6 n_p3 p3_ wordLength_ word_ prefixes_ = some out) : CtI l yX12_valueOf wsX12_valueOf rm_X12_valueOf D cy [.ref o, .int x1, .int x2, .ref q_p3, .int x4, .int x5, .int x6] (RW_X12_valueOf cy o q_p3 n_p3 d prefixes_) (RO_X12_valueOf cy o q_p3 n_p3 d letters_ tests_ inputLength_ at_ signed_ newParts_ machineParts_ firstParts_ firstTruth_ secondTruth_ isPair_ states_ stateClasses_ elements_ cursor_ hasSnapshot_ isSaving_ p3_ wordLength_ word_) (RW_X12_valueOf cy o q_p3 n_p3 d out.2) out.1 :=
  mk_i (ty := .int) (by decide) rfl rfl (Nat.le_of_ble_eq_true rfl) (fun p e s m args below meth c A Q X K H locs ls Z hl => wt_X12_valueOf o q_p3 n_p3 d letters_ tests_ inputLength_ at_ signed_ newParts_ machineParts_ firstParts_ firstTruth_ secondTruth_ isPair_ states_ stateClasses_ elements_ cursor_ hasSnapshot_ isSaving_ p3_ wordLength_ word_ prefixes_ x1 x2 x4 x5 x6 out X h K H locs ls Z hl)
/-! SubwordCounterModel valueOfTest (II)I -/
abbrev rm_X12_valueOfTest : Room := { frames := 2, cells := 0, slots := 0, locals := 53 }
def RW_X12_valueOfTest (cy : Nat → ClassId) (o : Nat) (d : Nat → Nat) (prefixes_ : Nat → Int32) : va_W := [((d 3), aI cy 13 prefixes_)]
def RO_X12_valueOfTest (cy : Nat → ClassId) (o : Nat) (d : Nat → Nat) (letters_ : Int32) (tests_ : Int32) (inputLength_ : Int32) (at_ : Int32) (signed_ : Int32) (newParts_ : Int32) (machineParts_ : Int32) (firstParts_ : Int32) (firstTruth_ : Int32) (secondTruth_ : Int32) (isPair_ : Int32) (states_ : Int32) (stateClasses_ : Int32) (elements_ : Int32) (cursor_ : Int32) (hasSnapshot_ : Int32) (isSaving_ : Int32) (wordLength_ : Nat → Int32) (word_ : Nat → Int32) (kind_ : Nat → Int32) (bound_ : Nat → Int32) (patternLength_ : Nat → Int32) (pattern_ : Nat → Int32) : va_W := [(o, ob 11 (oX12 d letters_ tests_ inputLength_ at_ signed_ newParts_ machineParts_ firstParts_ firstTruth_ secondTruth_ isPair_ states_ stateClasses_ elements_ cursor_ hasSnapshot_ isSaving_)), ((d 1), aI cy 3 wordLength_), ((d 2), aI cy 36 word_), ((d 5), aI cy 6 kind_), ((d 6), aI cy 6 bound_), ((d 7), aI cy 6 patternLength_), ((d 8), aI cy 24 pattern_)]
theorem in_X12_valueOfTest_X12 : ∀ w ∈ u_ws RX12 TX12 68, w ∈ wsX12_valueOfTest := fun w h => (List.mem_cons_of_mem _ (List.mem_append_right _ h))
theorem lk_X12_valueOfTest_X12_kind : Lk wsX12_valueOfTest RX12 26 11 5 := ⟨RX12, TX12, 68, rfl, by decide, in_X12_valueOfTest_X12, mem_at 1 rfl⟩
theorem lk_X12_valueOfTest_X12_bound : Lk wsX12_valueOfTest RX12 29 11 6 := ⟨RX12, TX12, 68, rfl, by decide, in_X12_valueOfTest_X12, mem_at 2 rfl⟩
theorem lk_X12_valueOfTest_X12_pattern : Lk wsX12_valueOfTest RX12 35 11 8 := ⟨RX12, TX12, 68, rfl, by decide, in_X12_valueOfTest_X12, mem_at 3 rfl⟩
theorem lk_X12_valueOfTest_X12_patternLength : Lk wsX12_valueOfTest RX12 32 11 7 := ⟨RX12, TX12, 68, rfl, by decide, in_X12_valueOfTest_X12, mem_at 4 rfl⟩
def f_X12_valueOfTest (x1 : Int32) (x2 : Int32) (wordLength_ : Nat → Int32) (word_ : Nat → Int32) (kind_ : Nat → Int32) (bound_ : Nat → Int32) (patternLength_ : Nat → Int32) (pattern_ : Nat → Int32) (prefixes_ : Nat → Int32) : Option (Int32 × (Nat → Int32)) :=
  ldA kind_ 6 x1 (fun v2 =>
  ldA bound_ 6 x1 (fun v5 =>
  ldA patternLength_ 6 x1 (fun v8 =>
  (f_X12_valueOf v2 v5 ((4 : Int32) * x1) v8 x2 24 pattern_ wordLength_ word_ prefixes_).bind (fun u10 =>
  some (u10.1, u10.2)))))
set_option maxHeartbeats 4000000 in
set_option maxRecDepth 100000 in
theorem wt_X12_valueOfTest {p : Program} {l : Launch} {e : Env} {s : State} {m : MethodId} {args : Array Value} {below : List Frame} {meth : Method} {c : Code} {A : Nat → Prop} {Q : State → Prop} {D : va_G} {cy : Nat → ClassId} (o : Nat) (d : Nat → Nat) (letters_ : Int32) (tests_ : Int32) (inputLength_ : Int32) (at_ : Int32) (signed_ : Int32) (newParts_ : Int32) (machineParts_ : Int32) (firstParts_ : Int32) (firstTruth_ : Int32) (secondTruth_ : Int32) (isPair_ : Int32) (states_ : Int32) (stateClasses_ : Int32) (elements_ : Int32) (cursor_ : Int32) (hasSnapshot_ : Int32) (isSaving_ : Int32) (wordLength_ : Nat → Int32) (word_ : Nat → Int32) (kind_ : Nat → Int32) (bound_ : Nat → Int32) (patternLength_ : Nat → Int32) (pattern_ : Nat → Int32) (prefixes_ : Nat → Int32) (x1 : Int32) (x2 : Int32) (out : Int32 × (Nat → Int32)) (X : Cx p m c cX12_valueOfTest 3 s args wsX12_valueOfTest RX12 A D cy (RO_X12_valueOfTest cy o d letters_ tests_ inputLength_ at_ signed_ newParts_ machineParts_ firstParts_ firstTruth_ secondTruth_ isPair_ states_ stateClasses_ elements_ cursor_ hasSnapshot_ isSaving_ wordLength_ word_ kind_ bound_ patternLength_ pattern_)) (h : f_X12_valueOfTest x1 x2 wordLength_ word_ kind_ bound_ patternLength_ pattern_ prefixes_ = some out) (K : ∀ (H : Heap) (locs : List Loc) (ls : Array Slot) (pc : Nat), decode cX12_valueOfTest pc = .ok (.ireturn, 1) → St A D s (RW_X12_valueOfTest cy o d out.2) H locs → W p l e rm_X12_valueOfTest s m args below meth c H locs 0 0 Q (F0 m pc ls [.int out.1])) : ∀ (H : Heap) (locs : List Loc) (ls : Array Slot), St A D s (RW_X12_valueOfTest cy o d prefixes_) H locs → lv_has ls 3 [(0, .ref o), (1, .int x1), (2, .int x2)] → W p l e rm_X12_valueOfTest s m args below meth c H locs 0 0 Q (F0 m 0 ls []) := by
  intro H locs ls Z hl
  have hx := X.1.1
  have hb := X.1.2.1
  unfold f_X12_valueOfTest at h
  refine lv_aload_n hx hb dX12_valueOfTest_0 rfl (lv_at hl 0 rfl) ?_
  refine lv_aload_n hx hb dX12_valueOfTest_1 rfl (lv_at hl 0 rfl) ?_
  refine x_getO X Z 0 5 (v := .ref (d 5)) rfl rfl lk_X12_valueOfTest_X12_kind dX12_valueOfTest_2 ?_
  refine lv_iload_n hx hb dX12_valueOfTest_5 rfl (lv_at hl 1 rfl) ?_
  obtain ⟨hin1, v2, hv3, h⟩ := ld_b h
  refine x_ialdO X Z 3 rfl hin1 hv3 dX12_valueOfTest_6 ?_
  refine lv_aload_n hx hb dX12_valueOfTest_7 rfl (lv_at hl 0 rfl) ?_
  refine x_getO X Z 0 6 (v := .ref (d 6)) rfl rfl lk_X12_valueOfTest_X12_bound dX12_valueOfTest_8 ?_
  refine lv_iload_n hx hb dX12_valueOfTest_11 rfl (lv_at hl 1 rfl) ?_
  obtain ⟨hin4, v5, hv6, h⟩ := ld_b h
  refine x_ialdO X Z 4 rfl hin4 hv6 dX12_valueOfTest_12 ?_
  refine lv_aload_n hx hb dX12_valueOfTest_13 rfl (lv_at hl 0 rfl) ?_
  refine x_getO X Z 0 8 (v := .ref (d 8)) rfl rfl lk_X12_valueOfTest_X12_pattern dX12_valueOfTest_14 ?_
  refine lv_iconst (v := (4 : Int32)) hx hb dX12_valueOfTest_17 (by decide) ?_
  refine lv_iload_n hx hb dX12_valueOfTest_18 rfl (lv_at hl 1 rfl) ?_
  refine lv_imul hx hb dX12_valueOfTest_19 ?_
  refine lv_aload_n hx hb dX12_valueOfTest_20 rfl (lv_at hl 0 rfl) ?_
  refine x_getO X Z 0 7 (v := .ref (d 7)) rfl rfl lk_X12_valueOfTest_X12_patternLength dX12_valueOfTest_21 ?_
  refine lv_iload_n hx hb dX12_valueOfTest_24 rfl (lv_at hl 1 rfl) ?_
  obtain ⟨hin7, v8, hv9, h⟩ := ld_b h
  refine x_ialdO X Z 5 rfl hin7 hv9 dX12_valueOfTest_25 ?_
  refine lv_iload_n hx hb dX12_valueOfTest_26 rfl (lv_at hl 2 rfl) ?_
  obtain ⟨u10, hc11, h⟩ := ob_some h
  refine x_runVi (RW' := (RW_X12_valueOfTest cy o d u10.2)) (wr := []) (isC := [0]) (isR := []) (isF := [0]) (rest := []) (As := [.int v2, .int v5, .ref (d 8), .int ((4 : Int32) * x1), .int v8, .int x2]) (n := 6) X Z (c_X12_valueOf l D cy o (d 8) 24 d letters_ tests_ inputLength_ at_ signed_ newParts_ machineParts_ firstParts_ firstTruth_ secondTruth_ isPair_ states_ stateClasses_ elements_ cursor_ hasSnapshot_ isSaving_ pattern_ wordLength_ word_ prefixes_ v2 v5 ((4 : Int32) * x1) v8 x2 u10 hc11) gX12_valueOfTest_X12_valueOf rfl (by decide +kernel) ⟨Nat.le_of_ble_eq_true rfl, Nat.le_of_ble_eq_true rfl⟩ ⟨rfl, rfl⟩ ⟨Nat.le_of_ble_eq_true rfl, Nat.le_of_ble_eq_true rfl⟩ (x_rvO X Z 0 rfl rfl) ⟨rfl, rfl, (roC (Or.inr (mem_at 0 rfl)) (roC (Or.inr (mem_at 6 rfl)) (roC (Or.inr (mem_at 1 rfl)) (roC (Or.inr (mem_at 2 rfl)) roN)))), rfl, rfl, by decide⟩ ⟨rfl, rfl⟩ rfl hl.1 rfl (Nat.le_of_ble_eq_true rfl) dX12_valueOfTest_27 (fun H locs Z => ?_)
  obtain rfl := Option.some.inj h
  exact K H locs ls _ dX12_valueOfTest_30 Z
theorem c_X12_valueOfTest (l : Launch) (D : va_G) (cy : Nat → ClassId) (o : Nat) (d : Nat → Nat) (letters_ : Int32) (tests_ : Int32) (inputLength_ : Int32) (at_ : Int32) (signed_ : Int32) (newParts_ : Int32) (machineParts_ : Int32) (firstParts_ : Int32) (firstTruth_ : Int32) (secondTruth_ : Int32) (isPair_ : Int32) (states_ : Int32) (stateClasses_ : Int32) (elements_ : Int32) (cursor_ : Int32) (hasSnapshot_ : Int32) (isSaving_ : Int32) (wordLength_ : Nat → Int32) (word_ : Nat → Int32) (kind_ : Nat → Int32) (bound_ : Nat → Int32) (patternLength_ : Nat → Int32) (pattern_ : Nat → Int32) (prefixes_ : Nat → Int32) (x1 : Int32) (x2 : Int32) (out : Int32 × (Nat → Int32)) (h : f_X12_valueOfTest x1 x2 wordLength_ word_ kind_ bound_ patternLength_ pattern_ prefixes_ = some out) : CtI l yX12_valueOfTest wsX12_valueOfTest rm_X12_valueOfTest D cy [.ref o, .int x1, .int x2] (RW_X12_valueOfTest cy o d prefixes_) (RO_X12_valueOfTest cy o d letters_ tests_ inputLength_ at_ signed_ newParts_ machineParts_ firstParts_ firstTruth_ secondTruth_ isPair_ states_ stateClasses_ elements_ cursor_ hasSnapshot_ isSaving_ wordLength_ word_ kind_ bound_ patternLength_ pattern_) (RW_X12_valueOfTest cy o d out.2) out.1 :=
  mk_i (ty := .int) (by decide) rfl rfl (Nat.le_of_ble_eq_true rfl) (fun p e s m args below meth c A Q X K H locs ls Z hl => wt_X12_valueOfTest o d letters_ tests_ inputLength_ at_ signed_ newParts_ machineParts_ firstParts_ firstTruth_ secondTruth_ isPair_ states_ stateClasses_ elements_ cursor_ hasSnapshot_ isSaving_ wordLength_ word_ kind_ bound_ patternLength_ pattern_ prefixes_ x1 x2 out X h K H locs ls Z hl)
/-! SubwordCounterModel value (II)I -/
abbrev rm_X12_value : Room := { frames := 3, cells := 0, slots := 0, locals := 75 }
def RW_X12_value (cy : Nat → ClassId) (o : Nat) (d : Nat → Nat) (prefixes_ : Nat → Int32) : va_W := [((d 3), aI cy 13 prefixes_)]
def RO_X12_value (cy : Nat → ClassId) (o : Nat) (d : Nat → Nat) (letters_ : Int32) (tests_ : Int32) (inputLength_ : Int32) (at_ : Int32) (signed_ : Int32) (newParts_ : Int32) (machineParts_ : Int32) (firstParts_ : Int32) (firstTruth_ : Int32) (secondTruth_ : Int32) (isPair_ : Int32) (states_ : Int32) (stateClasses_ : Int32) (elements_ : Int32) (cursor_ : Int32) (hasSnapshot_ : Int32) (isSaving_ : Int32) (wordLength_ : Nat → Int32) (word_ : Nat → Int32) (kind_ : Nat → Int32) (bound_ : Nat → Int32) (patternLength_ : Nat → Int32) (pattern_ : Nat → Int32) : va_W := [(o, ob 11 (oX12 d letters_ tests_ inputLength_ at_ signed_ newParts_ machineParts_ firstParts_ firstTruth_ secondTruth_ isPair_ states_ stateClasses_ elements_ cursor_ hasSnapshot_ isSaving_)), ((d 1), aI cy 3 wordLength_), ((d 2), aI cy 36 word_), ((d 5), aI cy 6 kind_), ((d 6), aI cy 6 bound_), ((d 7), aI cy 6 patternLength_), ((d 8), aI cy 24 pattern_)]
def f_X12_value (x1 : Int32) (x2 : Int32) (tests_ : Int32) (wordLength_ : Nat → Int32) (word_ : Nat → Int32) (kind_ : Nat → Int32) (bound_ : Nat → Int32) (patternLength_ : Nat → Int32) (pattern_ : Nat → Int32) (prefixes_ : Nat → Int32) : Option (Int32 × (Nat → Int32)) :=
  (f_X12_isTest x1 tests_).bind (fun u1 =>
  if u1 = 0 then
  (some ((-1 : Int32), prefixes_))
  else
  ((f_X12_isWord x2).bind (fun u3 =>
  if u3 = 0 then
  (some ((-1 : Int32), prefixes_))
  else
  ((f_X12_valueOfTest x1 x2 wordLength_ word_ kind_ bound_ patternLength_ pattern_ prefixes_).bind (fun u5 =>
  some (u5.1, u5.2))))))
set_option maxHeartbeats 4000000 in
set_option maxRecDepth 100000 in
theorem wt_X12_value {p : Program} {l : Launch} {e : Env} {s : State} {m : MethodId} {args : Array Value} {below : List Frame} {meth : Method} {c : Code} {A : Nat → Prop} {Q : State → Prop} {D : va_G} {cy : Nat → ClassId} (o : Nat) (d : Nat → Nat) (letters_ : Int32) (tests_ : Int32) (inputLength_ : Int32) (at_ : Int32) (signed_ : Int32) (newParts_ : Int32) (machineParts_ : Int32) (firstParts_ : Int32) (firstTruth_ : Int32) (secondTruth_ : Int32) (isPair_ : Int32) (states_ : Int32) (stateClasses_ : Int32) (elements_ : Int32) (cursor_ : Int32) (hasSnapshot_ : Int32) (isSaving_ : Int32) (wordLength_ : Nat → Int32) (word_ : Nat → Int32) (kind_ : Nat → Int32) (bound_ : Nat → Int32) (patternLength_ : Nat → Int32) (pattern_ : Nat → Int32) (prefixes_ : Nat → Int32) (x1 : Int32) (x2 : Int32) (out : Int32 × (Nat → Int32)) (X : Cx p m c cX12_value 3 s args wsX12_value RX12 A D cy (RO_X12_value cy o d letters_ tests_ inputLength_ at_ signed_ newParts_ machineParts_ firstParts_ firstTruth_ secondTruth_ isPair_ states_ stateClasses_ elements_ cursor_ hasSnapshot_ isSaving_ wordLength_ word_ kind_ bound_ patternLength_ pattern_)) (h : f_X12_value x1 x2 tests_ wordLength_ word_ kind_ bound_ patternLength_ pattern_ prefixes_ = some out) (K : ∀ (H : Heap) (locs : List Loc) (ls : Array Slot) (pc : Nat), decode cX12_value pc = .ok (.ireturn, 1) → St A D s (RW_X12_value cy o d out.2) H locs → W p l e rm_X12_value s m args below meth c H locs 0 0 Q (F0 m pc ls [.int out.1])) : ∀ (H : Heap) (locs : List Loc) (ls : Array Slot), St A D s (RW_X12_value cy o d prefixes_) H locs → lv_has ls 3 [(0, .ref o), (1, .int x1), (2, .int x2)] → W p l e rm_X12_value s m args below meth c H locs 0 0 Q (F0 m 0 ls []) := by
  intro H locs ls Z hl
  have hx := X.1.1
  have hb := X.1.2.1
  unfold f_X12_value at h
  refine lv_aload_n hx hb dX12_value_0 rfl (lv_at hl 0 rfl) ?_
  refine lv_iload_n hx hb dX12_value_1 rfl (lv_at hl 1 rfl) ?_
  obtain ⟨u1, hc2, h⟩ := ob_some h
  refine x_runVi (RW' := (RW_X12_value cy o d prefixes_)) (wr := [((d 3), aI cy 13 prefixes_)]) (isC := []) (isR := [0]) (isF := [0]) (rest := []) (As := [.int x1]) (n := 1) X Z (c_X12_isTest l D cy o d letters_ tests_ inputLength_ at_ signed_ newParts_ machineParts_ firstParts_ firstTruth_ secondTruth_ isPair_ states_ stateClasses_ elements_ cursor_ hasSnapshot_ isSaving_ x1 u1 hc2) gX12_value_X12_isTest rfl (by decide +kernel) ⟨Nat.le_of_ble_eq_true rfl, Nat.le_of_ble_eq_true rfl⟩ ⟨rfl, rfl⟩ ⟨Nat.le_of_ble_eq_true rfl, Nat.le_of_ble_eq_true rfl⟩ (x_rvO X Z 0 rfl rfl) ⟨rfl, rfl, (roC (Or.inr (mem_at 0 rfl)) roN), rfl, rfl, by decide⟩ ⟨rfl, rfl⟩ rfl hl.1 rfl (Nat.le_of_ble_eq_true rfl) dX12_value_2 (fun H locs Z => ?_)
  refine lv_if_eq (tgt := 24) hx hb dX12_value_5 (by decide) (fun cnd => ?_) (fun cnd => ?_)
  · replace h := ifp h cnd
    refine lv_iconst (v := (-1 : Int32)) hx hb dX12_value_24 (by decide) ?_
    obtain rfl := Option.some.inj h
    exact K H locs ls _ dX12_value_25 Z
  · replace h := ifn h cnd
    refine lv_iload_n hx hb dX12_value_8 rfl (lv_at hl 2 rfl) ?_
    obtain ⟨u3, hc4, h⟩ := ob_some h
    refine x_runSi (RW' := (RW_X12_value cy o d prefixes_)) (wr := [((d 3), aI cy 13 prefixes_)]) (isC := []) (isR := [0]) (isF := [0]) (rest := []) (As := [.int x2]) (n := 1) X Z (c_X12_isWord l D cy x2 u3 hc4) gX12_value_X12_isWord rfl (by decide +kernel) ⟨Nat.le_of_ble_eq_true rfl, Nat.le_of_ble_eq_true rfl⟩ ⟨rfl, rfl⟩ ⟨Nat.le_of_ble_eq_true rfl, Nat.le_of_ble_eq_true rfl⟩ ⟨rfl, rfl, roN, rfl, rfl, by decide⟩ ⟨rfl, rfl⟩ rfl hl.1 rfl (Nat.le_of_ble_eq_true rfl) dX12_value_9 (fun H locs Z => ?_)
    refine lv_if_eq (tgt := 24) hx hb dX12_value_12 (by decide) (fun cnd => ?_) (fun cnd => ?_)
    · replace h := ifp h cnd
      refine lv_iconst (v := (-1 : Int32)) hx hb dX12_value_24 (by decide) ?_
      obtain rfl := Option.some.inj h
      exact K H locs ls _ dX12_value_25 Z
    · replace h := ifn h cnd
      refine lv_aload_n hx hb dX12_value_15 rfl (lv_at hl 0 rfl) ?_
      refine lv_iload_n hx hb dX12_value_16 rfl (lv_at hl 1 rfl) ?_
      refine lv_iload_n hx hb dX12_value_17 rfl (lv_at hl 2 rfl) ?_
      obtain ⟨u5, hc6, h⟩ := ob_some h
      refine x_runVi (RW' := (RW_X12_value cy o d u5.2)) (wr := []) (isC := [0]) (isR := []) (isF := [0]) (rest := []) (As := [.int x1, .int x2]) (n := 2) X Z (c_X12_valueOfTest l D cy o d letters_ tests_ inputLength_ at_ signed_ newParts_ machineParts_ firstParts_ firstTruth_ secondTruth_ isPair_ states_ stateClasses_ elements_ cursor_ hasSnapshot_ isSaving_ wordLength_ word_ kind_ bound_ patternLength_ pattern_ prefixes_ x1 x2 u5 hc6) gX12_value_X12_valueOfTest rfl (by decide +kernel) ⟨Nat.le_of_ble_eq_true rfl, Nat.le_of_ble_eq_true rfl⟩ ⟨rfl, rfl⟩ ⟨Nat.le_of_ble_eq_true rfl, Nat.le_of_ble_eq_true rfl⟩ (x_rvO X Z 0 rfl rfl) ⟨rfl, rfl, (roC (Or.inr (mem_at 0 rfl)) (roC (Or.inr (mem_at 1 rfl)) (roC (Or.inr (mem_at 2 rfl)) (roC (Or.inr (mem_at 3 rfl)) (roC (Or.inr (mem_at 4 rfl)) (roC (Or.inr (mem_at 5 rfl)) (roC (Or.inr (mem_at 6 rfl)) roN))))))), rfl, rfl, by decide⟩ ⟨rfl, rfl⟩ rfl hl.1 rfl (Nat.le_of_ble_eq_true rfl) dX12_value_18 (fun H locs Z => ?_)
      refine lv_goto (tgt := 25) hx hb dX12_value_21 (by decide) ?_
      obtain rfl := Option.some.inj h
      exact K H locs ls _ dX12_value_25 Z
theorem c_X12_value (l : Launch) (D : va_G) (cy : Nat → ClassId) (o : Nat) (d : Nat → Nat) (letters_ : Int32) (tests_ : Int32) (inputLength_ : Int32) (at_ : Int32) (signed_ : Int32) (newParts_ : Int32) (machineParts_ : Int32) (firstParts_ : Int32) (firstTruth_ : Int32) (secondTruth_ : Int32) (isPair_ : Int32) (states_ : Int32) (stateClasses_ : Int32) (elements_ : Int32) (cursor_ : Int32) (hasSnapshot_ : Int32) (isSaving_ : Int32) (wordLength_ : Nat → Int32) (word_ : Nat → Int32) (kind_ : Nat → Int32) (bound_ : Nat → Int32) (patternLength_ : Nat → Int32) (pattern_ : Nat → Int32) (prefixes_ : Nat → Int32) (x1 : Int32) (x2 : Int32) (out : Int32 × (Nat → Int32)) (h : f_X12_value x1 x2 tests_ wordLength_ word_ kind_ bound_ patternLength_ pattern_ prefixes_ = some out) : CtI l yX12_value wsX12_value rm_X12_value D cy [.ref o, .int x1, .int x2] (RW_X12_value cy o d prefixes_) (RO_X12_value cy o d letters_ tests_ inputLength_ at_ signed_ newParts_ machineParts_ firstParts_ firstTruth_ secondTruth_ isPair_ states_ stateClasses_ elements_ cursor_ hasSnapshot_ isSaving_ wordLength_ word_ kind_ bound_ patternLength_ pattern_) (RW_X12_value cy o d out.2) out.1 :=
  mk_i (ty := .int) (by decide) rfl rfl (Nat.le_of_ble_eq_true rfl) (fun p e s m args below meth c A Q X K H locs ls Z hl => wt_X12_value o d letters_ tests_ inputLength_ at_ signed_ newParts_ machineParts_ firstParts_ firstTruth_ secondTruth_ isPair_ states_ stateClasses_ elements_ cursor_ hasSnapshot_ isSaving_ wordLength_ word_ kind_ bound_ patternLength_ pattern_ prefixes_ x1 x2 out X h K H locs ls Z hl)
/-! SubwordCounterModel signatureOf (I)I -/
abbrev rm_X12_signatureOf : Room := { frames := 3, cells := 0, slots := 0, locals := 75 }
def RW_X12_signatureOf (cy : Nat → ClassId) (o : Nat) (d : Nat → Nat) (prefixes_ : Nat → Int32) : va_W := [((d 3), aI cy 13 prefixes_)]
def RO_X12_signatureOf (cy : Nat → ClassId) (o : Nat) (d : Nat → Nat) (letters_ : Int32) (tests_ : Int32) (inputLength_ : Int32) (at_ : Int32) (signed_ : Int32) (newParts_ : Int32) (machineParts_ : Int32) (firstParts_ : Int32) (firstTruth_ : Int32) (secondTruth_ : Int32) (isPair_ : Int32) (states_ : Int32) (stateClasses_ : Int32) (elements_ : Int32) (cursor_ : Int32) (hasSnapshot_ : Int32) (isSaving_ : Int32) (wordLength_ : Nat → Int32) (word_ : Nat → Int32) (kind_ : Nat → Int32) (bound_ : Nat → Int32) (patternLength_ : Nat → Int32) (pattern_ : Nat → Int32) : va_W := [(o, ob 11 (oX12 d letters_ tests_ inputLength_ at_ signed_ newParts_ machineParts_ firstParts_ firstTruth_ secondTruth_ isPair_ states_ stateClasses_ elements_ cursor_ hasSnapshot_ isSaving_)), ((d 1), aI cy 3 wordLength_), ((d 2), aI cy 36 word_), ((d 5), aI cy 6 kind_), ((d 6), aI cy 6 bound_), ((d 7), aI cy 6 patternLength_), ((d 8), aI cy 24 pattern_)]
theorem in_X12_signatureOf_X12 : ∀ w ∈ u_ws RX12 TX12 68, w ∈ wsX12_signatureOf := fun w h => (List.mem_cons_of_mem _ (List.mem_append_right _ h))
theorem lk_X12_signatureOf_X12_tests : Lk wsX12_signatureOf RX12 173 11 10 := ⟨RX12, TX12, 68, rfl, by decide, in_X12_signatureOf_X12, mem_at 1 rfl⟩
def b_X12_signatureOf_9 (wordLength_ : Nat → Int32) (word_ : Nat → Int32) (kind_ : Nat → Int32) (bound_ : Nat → Int32) (patternLength_ : Nat → Int32) (pattern_ : Nat → Int32) (x1 : Int32) (prefixes_ : Nat → Int32) (x2 : Int32) (x3 : Int32) : Option (((Nat → Int32) × Int32 × Int32) ⊕ ((Nat → Int32) × Int32)) :=
  if x3 < 0 then
  (some (.inr (prefixes_, x2)))
  else
  ((f_X12_rangeOf x3 kind_ bound_).bind (fun u1 =>
  (f_X12_valueOfTest x3 x1 wordLength_ word_ kind_ bound_ patternLength_ pattern_ prefixes_).bind (fun u3 =>
  some (.inl (u3.2, ((u1 * x2) + u3.1), (x3 + (-1 : Int32)))))))
set_option maxHeartbeats 4000000 in
set_option maxRecDepth 100000 in
theorem wb_X12_signatureOf_9 {p : Program} {l : Launch} {e : Env} {s : State} {m : MethodId} {args : Array Value} {below : List Frame} {meth : Method} {c : Code} {A : Nat → Prop} {Q : State → Prop} {D : va_G} {cy : Nat → ClassId} (o : Nat) (d : Nat → Nat) (letters_ : Int32) (tests_ : Int32) (inputLength_ : Int32) (at_ : Int32) (signed_ : Int32) (newParts_ : Int32) (machineParts_ : Int32) (firstParts_ : Int32) (firstTruth_ : Int32) (secondTruth_ : Int32) (isPair_ : Int32) (states_ : Int32) (stateClasses_ : Int32) (elements_ : Int32) (cursor_ : Int32) (hasSnapshot_ : Int32) (isSaving_ : Int32) (wordLength_ : Nat → Int32) (word_ : Nat → Int32) (kind_ : Nat → Int32) (bound_ : Nat → Int32) (patternLength_ : Nat → Int32) (pattern_ : Nat → Int32)  (x1 : Int32) (prefixes_ : Nat → Int32) (x2 : Int32) (x3 : Int32) (o1 : ((Nat → Int32) × Int32 × Int32) ⊕ ((Nat → Int32) × Int32)) (X : Cx p m c cX12_signatureOf 4 s args wsX12_signatureOf RX12 A D cy (RO_X12_signatureOf cy o d letters_ tests_ inputLength_ at_ signed_ newParts_ machineParts_ firstParts_ firstTruth_ secondTruth_ isPair_ states_ stateClasses_ elements_ cursor_ hasSnapshot_ isSaving_ wordLength_ word_ kind_ bound_ patternLength_ pattern_)) (h : b_X12_signatureOf_9 wordLength_ word_ kind_ bound_ patternLength_ pattern_ x1 prefixes_ x2 x3 = some o1) (K : Sum.elim (fun v : (Nat → Int32) × Int32 × Int32 => ∀ (H : Heap) (locs : List Loc) (ls : Array Slot), St A D s (RW_X12_signatureOf cy o d v.1) H locs → lv_has ls 4 [(0, .ref o), (1, .int x1), (2, .int v.2.1), (3, .int v.2.2)] → W p l e rm_X12_signatureOf s m args below meth c H locs 0 0 Q (F0 m 9 ls [])) (fun v : (Nat → Int32) × Int32 => ∀ (H : Heap) (locs : List Loc) (ls : Array Slot), St A D s (RW_X12_signatureOf cy o d v.1) H locs → lv_has ls 4 [(2, .int v.2)] → W p l e rm_X12_signatureOf s m args below meth c H locs 0 0 Q (F0 m 34 ls [])) o1) : ∀ (H : Heap) (locs : List Loc) (ls : Array Slot), St A D s (RW_X12_signatureOf cy o d prefixes_) H locs → lv_has ls 4 [(0, .ref o), (1, .int x1), (2, .int x2), (3, .int x3)] → W p l e rm_X12_signatureOf s m args below meth c H locs 0 0 Q (F0 m 9 ls []) := by
  intro H locs ls Z hl
  have hx := X.1.1
  have hb := X.1.2.1
  unfold b_X12_signatureOf_9 at h
  refine lv_iload_n hx hb dX12_signatureOf_9 rfl (lv_at hl 3 rfl) ?_
  refine lv_if_lt (tgt := 34) hx hb dX12_signatureOf_10 (by decide) (fun cnd => ?_) (fun cnd => ?_)
  · replace h := ifp h cnd
    obtain rfl := Option.some.inj h
    exact (sk_r K) H locs ls Z (lv_sub hl [2] rfl)
  · replace h := ifn h cnd
    refine lv_aload_n hx hb dX12_signatureOf_13 rfl (lv_at hl 0 rfl) ?_
    refine lv_iload_n hx hb dX12_signatureOf_14 rfl (lv_at hl 3 rfl) ?_
    obtain ⟨u1, hc2, h⟩ := ob_some h
    refine x_runVi (RW' := (RW_X12_signatureOf cy o d prefixes_)) (wr := [((d 3), aI cy 13 prefixes_)]) (isC := []) (isR := [0]) (isF := [0]) (rest := []) (As := [.int x3]) (n := 1) X Z (c_X12_rangeOf l D cy o d letters_ tests_ inputLength_ at_ signed_ newParts_ machineParts_ firstParts_ firstTruth_ secondTruth_ isPair_ states_ stateClasses_ elements_ cursor_ hasSnapshot_ isSaving_ kind_ bound_ x3 u1 hc2) gX12_signatureOf_X12_rangeOf rfl (by decide +kernel) ⟨Nat.le_of_ble_eq_true rfl, Nat.le_of_ble_eq_true rfl⟩ ⟨rfl, rfl⟩ ⟨Nat.le_of_ble_eq_true rfl, Nat.le_of_ble_eq_true rfl⟩ (x_rvO X Z 0 rfl rfl) ⟨rfl, rfl, (roC (Or.inr (mem_at 0 rfl)) (roC (Or.inr (mem_at 3 rfl)) (roC (Or.inr (mem_at 4 rfl)) roN))), rfl, rfl, by decide⟩ ⟨rfl, rfl⟩ rfl hl.1 rfl (Nat.le_of_ble_eq_true rfl) dX12_signatureOf_15 (fun H locs Z => ?_)
    refine lv_iload_n hx hb dX12_signatureOf_18 rfl (lv_at hl 2 rfl) ?_
    refine lv_imul hx hb dX12_signatureOf_19 ?_
    refine lv_aload_n hx hb dX12_signatureOf_20 rfl (lv_at hl 0 rfl) ?_
    refine lv_iload_n hx hb dX12_signatureOf_21 rfl (lv_at hl 3 rfl) ?_
    refine lv_iload_n hx hb dX12_signatureOf_22 rfl (lv_at hl 1 rfl) ?_
    obtain ⟨u3, hc4, h⟩ := ob_some h
    refine x_runVi (RW' := (RW_X12_signatureOf cy o d u3.2)) (wr := []) (isC := [0]) (isR := []) (isF := [0]) (rest := [.int (u1 * x2)]) (As := [.int x3, .int x1]) (n := 2) X Z (c_X12_valueOfTest l D cy o d letters_ tests_ inputLength_ at_ signed_ newParts_ machineParts_ firstParts_ firstTruth_ secondTruth_ isPair_ states_ stateClasses_ elements_ cursor_ hasSnapshot_ isSaving_ wordLength_ word_ kind_ bound_ patternLength_ pattern_ prefixes_ x3 x1 u3 hc4) gX12_signatureOf_X12_valueOfTest rfl (by decide +kernel) ⟨Nat.le_of_ble_eq_true rfl, Nat.le_of_ble_eq_true rfl⟩ ⟨rfl, rfl⟩ ⟨Nat.le_of_ble_eq_true rfl, Nat.le_of_ble_eq_true rfl⟩ (x_rvO X Z 0 rfl rfl) ⟨rfl, rfl, (roC (Or.inr (mem_at 0 rfl)) (roC (Or.inr (mem_at 1 rfl)) (roC (Or.inr (mem_at 2 rfl)) (roC (Or.inr (mem_at 3 rfl)) (roC (Or.inr (mem_at 4 rfl)) (roC (Or.inr (mem_at 5 rfl)) (roC (Or.inr (mem_at 6 rfl)) roN))))))), rfl, rfl, by decide⟩ ⟨rfl, rfl⟩ rfl hl.1 rfl (Nat.le_of_ble_eq_true rfl) dX12_signatureOf_23 (fun H locs Z => ?_)
    refine lv_iadd hx hb dX12_signatureOf_26 ?_
    refine lv_istore_n (lv' := [(2, .int ((u1 * x2) + u3.1)), (0, .ref o), (1, .int x1), (3, .int x3)]) hx hb dX12_signatureOf_27 rfl hl (by decide) rfl (fun ls hl => ?_)
    refine lv_iinc (v := (x3 + (-1 : Int32))) (lv' := [(3, .int (x3 + (-1 : Int32))), (2, .int ((u1 * x2) + u3.1)), (0, .ref o), (1, .int x1)]) hx hb dX12_signatureOf_28 hl (k := 3) rfl rfl (by decide) rfl (fun ls hl => ?_)
    refine lv_goto (tgt := 9) hx hb dX12_signatureOf_31 (by decide) ?_
    obtain rfl := Option.some.inj h
    exact sk_l K H locs ls Z (lv_sub hl [2, 3, 1, 0] rfl)
set_option maxHeartbeats 4000000 in
set_option maxRecDepth 100000 in
theorem wl_X12_signatureOf_9 {p : Program} {l : Launch} {e : Env} {s : State} {m : MethodId} {args : Array Value} {below : List Frame} {meth : Method} {c : Code} {A : Nat → Prop} {Q : State → Prop} {D : va_G} {cy : Nat → ClassId} (o : Nat) (d : Nat → Nat) (letters_ : Int32) (tests_ : Int32) (inputLength_ : Int32) (at_ : Int32) (signed_ : Int32) (newParts_ : Int32) (machineParts_ : Int32) (firstParts_ : Int32) (firstTruth_ : Int32) (secondTruth_ : Int32) (isPair_ : Int32) (states_ : Int32) (stateClasses_ : Int32) (elements_ : Int32) (cursor_ : Int32) (hasSnapshot_ : Int32) (isSaving_ : Int32) (wordLength_ : Nat → Int32) (word_ : Nat → Int32) (kind_ : Nat → Int32) (bound_ : Nat → Int32) (patternLength_ : Nat → Int32) (pattern_ : Nat → Int32)  (x1 : Int32) (n : Nat) (v : (Nat → Int32) × Int32 × Int32) (x : (Nat → Int32) × Int32) (X : Cx p m c cX12_signatureOf 4 s args wsX12_signatureOf RX12 A D cy (RO_X12_signatureOf cy o d letters_ tests_ inputLength_ at_ signed_ newParts_ machineParts_ firstParts_ firstTruth_ secondTruth_ isPair_ states_ stateClasses_ elements_ cursor_ hasSnapshot_ isSaving_ wordLength_ word_ kind_ bound_ patternLength_ pattern_)) (h : loopN (fun v => b_X12_signatureOf_9 wordLength_ word_ kind_ bound_ patternLength_ pattern_ x1 v.1 v.2.1 v.2.2) n v = some x) (K : ∀ (H : Heap) (locs : List Loc) (ls : Array Slot), St A D s (RW_X12_signatureOf cy o d x.1) H locs → lv_has ls 4 [(2, .int x.2)] → W p l e rm_X12_signatureOf s m args below meth c H locs 0 0 Q (F0 m 34 ls [])) : ∀ (H : Heap) (locs : List Loc) (ls : Array Slot), St A D s (RW_X12_signatureOf cy o d v.1) H locs → lv_has ls 4 [(0, .ref o), (1, .int x1), (2, .int v.2.1), (3, .int v.2.2)] → W p l e rm_X12_signatureOf s m args below meth c H locs 0 0 Q (F0 m 9 ls []) :=
  loop_gen (B := (fun v => b_X12_signatureOf_9 wordLength_ word_ kind_ bound_ patternLength_ pattern_ x1 v.1 v.2.1 v.2.2)) (Head := fun v : (Nat → Int32) × Int32 × Int32 => ∀ (H : Heap) (locs : List Loc) (ls : Array Slot), St A D s (RW_X12_signatureOf cy o d v.1) H locs → lv_has ls 4 [(0, .ref o), (1, .int x1), (2, .int v.2.1), (3, .int v.2.2)] → W p l e rm_X12_signatureOf s m args below meth c H locs 0 0 Q (F0 m 9 ls [])) (Exit := fun v : (Nat → Int32) × Int32 => ∀ (H : Heap) (locs : List Loc) (ls : Array Slot), St A D s (RW_X12_signatureOf cy o d v.1) H locs → lv_has ls 4 [(2, .int v.2)] → W p l e rm_X12_signatureOf s m args below meth c H locs 0 0 Q (F0 m 34 ls [])) (fun v o9 hb1 K1 => wb_X12_signatureOf_9 o d letters_ tests_ inputLength_ at_ signed_ newParts_ machineParts_ firstParts_ firstTruth_ secondTruth_ isPair_ states_ stateClasses_ elements_ cursor_ hasSnapshot_ isSaving_ wordLength_ word_ kind_ bound_ patternLength_ pattern_ x1 v.1 v.2.1 v.2.2 o9 X hb1 K1) n v x h K
def f_X12_signatureOf (x1 : Int32) (tests_ : Int32) (wordLength_ : Nat → Int32) (word_ : Nat → Int32) (kind_ : Nat → Int32) (bound_ : Nat → Int32) (patternLength_ : Nat → Int32) (pattern_ : Nat → Int32) (prefixes_ : Nat → Int32) : Option (Int32 × (Nat → Int32)) :=
  (loopN (fun v => b_X12_signatureOf_9 wordLength_ word_ kind_ bound_ patternLength_ pattern_ x1 v.1 v.2.1 v.2.2) FU (prefixes_, (0 : Int32), (tests_ - (1 : Int32)))).bind (fun u5 =>
  some (u5.2, u5.1))
set_option maxHeartbeats 4000000 in
set_option maxRecDepth 100000 in
theorem wt_X12_signatureOf {p : Program} {l : Launch} {e : Env} {s : State} {m : MethodId} {args : Array Value} {below : List Frame} {meth : Method} {c : Code} {A : Nat → Prop} {Q : State → Prop} {D : va_G} {cy : Nat → ClassId} (o : Nat) (d : Nat → Nat) (letters_ : Int32) (tests_ : Int32) (inputLength_ : Int32) (at_ : Int32) (signed_ : Int32) (newParts_ : Int32) (machineParts_ : Int32) (firstParts_ : Int32) (firstTruth_ : Int32) (secondTruth_ : Int32) (isPair_ : Int32) (states_ : Int32) (stateClasses_ : Int32) (elements_ : Int32) (cursor_ : Int32) (hasSnapshot_ : Int32) (isSaving_ : Int32) (wordLength_ : Nat → Int32) (word_ : Nat → Int32) (kind_ : Nat → Int32) (bound_ : Nat → Int32) (patternLength_ : Nat → Int32) (pattern_ : Nat → Int32) (prefixes_ : Nat → Int32) (x1 : Int32) (out : Int32 × (Nat → Int32)) (X : Cx p m c cX12_signatureOf 4 s args wsX12_signatureOf RX12 A D cy (RO_X12_signatureOf cy o d letters_ tests_ inputLength_ at_ signed_ newParts_ machineParts_ firstParts_ firstTruth_ secondTruth_ isPair_ states_ stateClasses_ elements_ cursor_ hasSnapshot_ isSaving_ wordLength_ word_ kind_ bound_ patternLength_ pattern_)) (h : f_X12_signatureOf x1 tests_ wordLength_ word_ kind_ bound_ patternLength_ pattern_ prefixes_ = some out) (K : ∀ (H : Heap) (locs : List Loc) (ls : Array Slot) (pc : Nat), decode cX12_signatureOf pc = .ok (.ireturn, 1) → St A D s (RW_X12_signatureOf cy o d out.2) H locs → W p l e rm_X12_signatureOf s m args below meth c H locs 0 0 Q (F0 m pc ls [.int out.1])) : ∀ (H : Heap) (locs : List Loc) (ls : Array Slot), St A D s (RW_X12_signatureOf cy o d prefixes_) H locs → lv_has ls 4 [(0, .ref o), (1, .int x1)] → W p l e rm_X12_signatureOf s m args below meth c H locs 0 0 Q (F0 m 0 ls []) := by
  intro H locs ls Z hl
  have hx := X.1.1
  have hb := X.1.2.1
  unfold f_X12_signatureOf at h
  refine lv_iconst (v := (0 : Int32)) hx hb dX12_signatureOf_0 (by decide) ?_
  refine lv_istore_n (lv' := [(2, .int (0 : Int32)), (0, .ref o), (1, .int x1)]) hx hb dX12_signatureOf_1 rfl hl (by decide) rfl (fun ls hl => ?_)
  refine lv_aload_n hx hb dX12_signatureOf_2 rfl (lv_at hl 1 rfl) ?_
  refine x_getO X Z 0 10 (v := .int tests_) rfl rfl lk_X12_signatureOf_X12_tests dX12_signatureOf_3 ?_
  refine lv_iconst (v := (1 : Int32)) hx hb dX12_signatureOf_6 (by decide) ?_
  refine lv_isub hx hb dX12_signatureOf_7 ?_
  refine lv_istore_n (lv' := [(3, .int (tests_ - (1 : Int32))), (2, .int (0 : Int32)), (0, .ref o), (1, .int x1)]) hx hb dX12_signatureOf_8 rfl hl (by decide) rfl (fun ls hl => ?_)
  obtain ⟨u5, hL6, h⟩ := ob_some h
  refine wl_X12_signatureOf_9 o d letters_ tests_ inputLength_ at_ signed_ newParts_ machineParts_ firstParts_ firstTruth_ secondTruth_ isPair_ states_ stateClasses_ elements_ cursor_ hasSnapshot_ isSaving_ wordLength_ word_ kind_ bound_ patternLength_ pattern_ x1 FU (prefixes_, (0 : Int32), (tests_ - (1 : Int32))) u5 X hL6 (fun H locs ls Z hl => ?_) H locs ls Z (lv_sub hl [2, 3, 1, 0] rfl)
  refine lv_iload_n hx hb dX12_signatureOf_34 rfl (lv_at hl 0 rfl) ?_
  obtain rfl := Option.some.inj h
  exact K H locs ls _ dX12_signatureOf_35 Z
theorem c_X12_signatureOf (l : Launch) (D : va_G) (cy : Nat → ClassId) (o : Nat) (d : Nat → Nat) (letters_ : Int32) (tests_ : Int32) (inputLength_ : Int32) (at_ : Int32) (signed_ : Int32) (newParts_ : Int32) (machineParts_ : Int32) (firstParts_ : Int32) (firstTruth_ : Int32) (secondTruth_ : Int32) (isPair_ : Int32) (states_ : Int32) (stateClasses_ : Int32) (elements_ : Int32) (cursor_ : Int32) (hasSnapshot_ : Int32) (isSaving_ : Int32) (wordLength_ : Nat → Int32) (word_ : Nat → Int32) (kind_ : Nat → Int32) (bound_ : Nat → Int32) (patternLength_ : Nat → Int32) (pattern_ : Nat → Int32) (prefixes_ : Nat → Int32) (x1 : Int32) (out : Int32 × (Nat → Int32)) (h : f_X12_signatureOf x1 tests_ wordLength_ word_ kind_ bound_ patternLength_ pattern_ prefixes_ = some out) : CtI l yX12_signatureOf wsX12_signatureOf rm_X12_signatureOf D cy [.ref o, .int x1] (RW_X12_signatureOf cy o d prefixes_) (RO_X12_signatureOf cy o d letters_ tests_ inputLength_ at_ signed_ newParts_ machineParts_ firstParts_ firstTruth_ secondTruth_ isPair_ states_ stateClasses_ elements_ cursor_ hasSnapshot_ isSaving_ wordLength_ word_ kind_ bound_ patternLength_ pattern_) (RW_X12_signatureOf cy o d out.2) out.1 :=
  mk_i (ty := .int) (by decide) rfl rfl (Nat.le_of_ble_eq_true rfl) (fun p e s m args below meth c A Q X K H locs ls Z hl => wt_X12_signatureOf o d letters_ tests_ inputLength_ at_ signed_ newParts_ machineParts_ firstParts_ firstTruth_ secondTruth_ isPair_ states_ stateClasses_ elements_ cursor_ hasSnapshot_ isSaving_ wordLength_ word_ kind_ bound_ patternLength_ pattern_ prefixes_ x1 out X h K H locs ls Z hl)
/-! SubwordCounterModel signature (I)I -/
abbrev rm_X12_signature : Room := { frames := 4, cells := 0, slots := 0, locals := 98 }
def RW_X12_signature (cy : Nat → ClassId) (o : Nat) (d : Nat → Nat) (prefixes_ : Nat → Int32) : va_W := [((d 3), aI cy 13 prefixes_)]
def RO_X12_signature (cy : Nat → ClassId) (o : Nat) (d : Nat → Nat) (letters_ : Int32) (tests_ : Int32) (inputLength_ : Int32) (at_ : Int32) (signed_ : Int32) (newParts_ : Int32) (machineParts_ : Int32) (firstParts_ : Int32) (firstTruth_ : Int32) (secondTruth_ : Int32) (isPair_ : Int32) (states_ : Int32) (stateClasses_ : Int32) (elements_ : Int32) (cursor_ : Int32) (hasSnapshot_ : Int32) (isSaving_ : Int32) (wordLength_ : Nat → Int32) (word_ : Nat → Int32) (kind_ : Nat → Int32) (bound_ : Nat → Int32) (patternLength_ : Nat → Int32) (pattern_ : Nat → Int32) : va_W := [(o, ob 11 (oX12 d letters_ tests_ inputLength_ at_ signed_ newParts_ machineParts_ firstParts_ firstTruth_ secondTruth_ isPair_ states_ stateClasses_ elements_ cursor_ hasSnapshot_ isSaving_)), ((d 1), aI cy 3 wordLength_), ((d 2), aI cy 36 word_), ((d 5), aI cy 6 kind_), ((d 6), aI cy 6 bound_), ((d 7), aI cy 6 patternLength_), ((d 8), aI cy 24 pattern_)]
def f_X12_signature (x1 : Int32) (tests_ : Int32) (wordLength_ : Nat → Int32) (word_ : Nat → Int32) (kind_ : Nat → Int32) (bound_ : Nat → Int32) (patternLength_ : Nat → Int32) (pattern_ : Nat → Int32) (prefixes_ : Nat → Int32) : Option (Int32 × (Nat → Int32)) :=
  (f_X12_isWord x1).bind (fun u1 =>
  if u1 = 0 then
  (some ((-1 : Int32), prefixes_))
  else
  ((f_X12_signatureOf x1 tests_ wordLength_ word_ kind_ bound_ patternLength_ pattern_ prefixes_).bind (fun u3 =>
  some (u3.1, u3.2))))
set_option maxHeartbeats 4000000 in
set_option maxRecDepth 100000 in
theorem wt_X12_signature {p : Program} {l : Launch} {e : Env} {s : State} {m : MethodId} {args : Array Value} {below : List Frame} {meth : Method} {c : Code} {A : Nat → Prop} {Q : State → Prop} {D : va_G} {cy : Nat → ClassId} (o : Nat) (d : Nat → Nat) (letters_ : Int32) (tests_ : Int32) (inputLength_ : Int32) (at_ : Int32) (signed_ : Int32) (newParts_ : Int32) (machineParts_ : Int32) (firstParts_ : Int32) (firstTruth_ : Int32) (secondTruth_ : Int32) (isPair_ : Int32) (states_ : Int32) (stateClasses_ : Int32) (elements_ : Int32) (cursor_ : Int32) (hasSnapshot_ : Int32) (isSaving_ : Int32) (wordLength_ : Nat → Int32) (word_ : Nat → Int32) (kind_ : Nat → Int32) (bound_ : Nat → Int32) (patternLength_ : Nat → Int32) (pattern_ : Nat → Int32) (prefixes_ : Nat → Int32) (x1 : Int32) (out : Int32 × (Nat → Int32)) (X : Cx p m c cX12_signature 2 s args wsX12_signature RX12 A D cy (RO_X12_signature cy o d letters_ tests_ inputLength_ at_ signed_ newParts_ machineParts_ firstParts_ firstTruth_ secondTruth_ isPair_ states_ stateClasses_ elements_ cursor_ hasSnapshot_ isSaving_ wordLength_ word_ kind_ bound_ patternLength_ pattern_)) (h : f_X12_signature x1 tests_ wordLength_ word_ kind_ bound_ patternLength_ pattern_ prefixes_ = some out) (K : ∀ (H : Heap) (locs : List Loc) (ls : Array Slot) (pc : Nat), decode cX12_signature pc = .ok (.ireturn, 1) → St A D s (RW_X12_signature cy o d out.2) H locs → W p l e rm_X12_signature s m args below meth c H locs 0 0 Q (F0 m pc ls [.int out.1])) : ∀ (H : Heap) (locs : List Loc) (ls : Array Slot), St A D s (RW_X12_signature cy o d prefixes_) H locs → lv_has ls 2 [(0, .ref o), (1, .int x1)] → W p l e rm_X12_signature s m args below meth c H locs 0 0 Q (F0 m 0 ls []) := by
  intro H locs ls Z hl
  have hx := X.1.1
  have hb := X.1.2.1
  unfold f_X12_signature at h
  refine lv_iload_n hx hb dX12_signature_0 rfl (lv_at hl 1 rfl) ?_
  obtain ⟨u1, hc2, h⟩ := ob_some h
  refine x_runSi (RW' := (RW_X12_signature cy o d prefixes_)) (wr := [((d 3), aI cy 13 prefixes_)]) (isC := []) (isR := [0]) (isF := [0]) (rest := []) (As := [.int x1]) (n := 1) X Z (c_X12_isWord l D cy x1 u1 hc2) gX12_signature_X12_isWord rfl (by decide +kernel) ⟨Nat.le_of_ble_eq_true rfl, Nat.le_of_ble_eq_true rfl⟩ ⟨rfl, rfl⟩ ⟨Nat.le_of_ble_eq_true rfl, Nat.le_of_ble_eq_true rfl⟩ ⟨rfl, rfl, roN, rfl, rfl, by decide⟩ ⟨rfl, rfl⟩ rfl hl.1 rfl (Nat.le_of_ble_eq_true rfl) dX12_signature_1 (fun H locs Z => ?_)
  refine lv_if_eq (tgt := 15) hx hb dX12_signature_4 (by decide) (fun cnd => ?_) (fun cnd => ?_)
  · replace h := ifp h cnd
    refine lv_iconst (v := (-1 : Int32)) hx hb dX12_signature_15 (by decide) ?_
    obtain rfl := Option.some.inj h
    exact K H locs ls _ dX12_signature_16 Z
  · replace h := ifn h cnd
    refine lv_aload_n hx hb dX12_signature_7 rfl (lv_at hl 0 rfl) ?_
    refine lv_iload_n hx hb dX12_signature_8 rfl (lv_at hl 1 rfl) ?_
    obtain ⟨u3, hc4, h⟩ := ob_some h
    refine x_runVi (RW' := (RW_X12_signature cy o d u3.2)) (wr := []) (isC := [0]) (isR := []) (isF := [0]) (rest := []) (As := [.int x1]) (n := 1) X Z (c_X12_signatureOf l D cy o d letters_ tests_ inputLength_ at_ signed_ newParts_ machineParts_ firstParts_ firstTruth_ secondTruth_ isPair_ states_ stateClasses_ elements_ cursor_ hasSnapshot_ isSaving_ wordLength_ word_ kind_ bound_ patternLength_ pattern_ prefixes_ x1 u3 hc4) gX12_signature_X12_signatureOf rfl (by decide +kernel) ⟨Nat.le_of_ble_eq_true rfl, Nat.le_of_ble_eq_true rfl⟩ ⟨rfl, rfl⟩ ⟨Nat.le_of_ble_eq_true rfl, Nat.le_of_ble_eq_true rfl⟩ (x_rvO X Z 0 rfl rfl) ⟨rfl, rfl, (roC (Or.inr (mem_at 0 rfl)) (roC (Or.inr (mem_at 1 rfl)) (roC (Or.inr (mem_at 2 rfl)) (roC (Or.inr (mem_at 3 rfl)) (roC (Or.inr (mem_at 4 rfl)) (roC (Or.inr (mem_at 5 rfl)) (roC (Or.inr (mem_at 6 rfl)) roN))))))), rfl, rfl, by decide⟩ ⟨rfl, rfl⟩ rfl hl.1 rfl (Nat.le_of_ble_eq_true rfl) dX12_signature_9 (fun H locs Z => ?_)
    refine lv_goto (tgt := 16) hx hb dX12_signature_12 (by decide) ?_
    obtain rfl := Option.some.inj h
    exact K H locs ls _ dX12_signature_16 Z
theorem c_X12_signature (l : Launch) (D : va_G) (cy : Nat → ClassId) (o : Nat) (d : Nat → Nat) (letters_ : Int32) (tests_ : Int32) (inputLength_ : Int32) (at_ : Int32) (signed_ : Int32) (newParts_ : Int32) (machineParts_ : Int32) (firstParts_ : Int32) (firstTruth_ : Int32) (secondTruth_ : Int32) (isPair_ : Int32) (states_ : Int32) (stateClasses_ : Int32) (elements_ : Int32) (cursor_ : Int32) (hasSnapshot_ : Int32) (isSaving_ : Int32) (wordLength_ : Nat → Int32) (word_ : Nat → Int32) (kind_ : Nat → Int32) (bound_ : Nat → Int32) (patternLength_ : Nat → Int32) (pattern_ : Nat → Int32) (prefixes_ : Nat → Int32) (x1 : Int32) (out : Int32 × (Nat → Int32)) (h : f_X12_signature x1 tests_ wordLength_ word_ kind_ bound_ patternLength_ pattern_ prefixes_ = some out) : CtI l yX12_signature wsX12_signature rm_X12_signature D cy [.ref o, .int x1] (RW_X12_signature cy o d prefixes_) (RO_X12_signature cy o d letters_ tests_ inputLength_ at_ signed_ newParts_ machineParts_ firstParts_ firstTruth_ secondTruth_ isPair_ states_ stateClasses_ elements_ cursor_ hasSnapshot_ isSaving_ wordLength_ word_ kind_ bound_ patternLength_ pattern_) (RW_X12_signature cy o d out.2) out.1 :=
  mk_i (ty := .int) (by decide) rfl rfl (Nat.le_of_ble_eq_true rfl) (fun p e s m args below meth c A Q X K H locs ls Z hl => wt_X12_signature o d letters_ tests_ inputLength_ at_ signed_ newParts_ machineParts_ firstParts_ firstTruth_ secondTruth_ isPair_ states_ stateClasses_ elements_ cursor_ hasSnapshot_ isSaving_ wordLength_ word_ kind_ bound_ patternLength_ pattern_ prefixes_ x1 out X h K H locs ls Z hl)
/-! SubwordCounterModel spell (III)V -/
abbrev rm_X12_spell : Room := { frames := 0, cells := 0, slots := 0, locals := 0 }
def RW_X12_spell (cy : Nat → ClassId) (o : Nat) (d : Nat → Nat) (wordLength_ : Nat → Int32) (word_ : Nat → Int32) : va_W := [((d 1), aI cy 3 wordLength_), ((d 2), aI cy 36 word_)]
def RO_X12_spell (cy : Nat → ClassId) (o : Nat) (d : Nat → Nat) (letters_ : Int32) (tests_ : Int32) (inputLength_ : Int32) (at_ : Int32) (signed_ : Int32) (newParts_ : Int32) (machineParts_ : Int32) (firstParts_ : Int32) (firstTruth_ : Int32) (secondTruth_ : Int32) (isPair_ : Int32) (states_ : Int32) (stateClasses_ : Int32) (elements_ : Int32) (cursor_ : Int32) (hasSnapshot_ : Int32) (isSaving_ : Int32) : va_W := [(o, ob 11 (oX12 d letters_ tests_ inputLength_ at_ signed_ newParts_ machineParts_ firstParts_ firstTruth_ secondTruth_ isPair_ states_ stateClasses_ elements_ cursor_ hasSnapshot_ isSaving_))]
theorem in_X12_spell_X12 : ∀ w ∈ u_ws RX12 TX12 68, w ∈ wsX12_spell := fun w h => (List.mem_cons_of_mem _ (List.mem_append_right _ h))
theorem lk_X12_spell_X12_word : Lk wsX12_spell RX12 17 11 2 := ⟨RX12, TX12, 68, rfl, by decide, in_X12_spell_X12, mem_at 2 rfl⟩
theorem lk_X12_spell_X12_letters : Lk wsX12_spell RX12 7 11 0 := ⟨RX12, TX12, 68, rfl, by decide, in_X12_spell_X12, mem_at 3 rfl⟩
theorem lk_X12_spell_X12_wordLength : Lk wsX12_spell RX12 13 11 1 := ⟨RX12, TX12, 68, rfl, by decide, in_X12_spell_X12, mem_at 1 rfl⟩
def b_X12_spell_15 (letters_ : Int32) (x1 : Int32) (word_ : Nat → Int32) (x4 : Int32) (x5 : Int32) : Option (((Nat → Int32) × Int32 × Int32) ⊕ ((Nat → Int32))) :=
  if x5 < 0 then
  (some (.inr word_))
  else
  (rmI x4 letters_ (fun v2 =>
  stA word_ 36 (((12 : Int32) * x1) + x5) v2 (fun word_5 =>
  dvI x4 letters_ (fun v8 =>
  some (.inl (word_5, v8, (x5 + (-1 : Int32))))))))
set_option maxHeartbeats 4000000 in
set_option maxRecDepth 100000 in
theorem wb_X12_spell_15 {p : Program} {l : Launch} {e : Env} {s : State} {m : MethodId} {args : Array Value} {below : List Frame} {meth : Method} {c : Code} {A : Nat → Prop} {Q : State → Prop} {D : va_G} {cy : Nat → ClassId} (o : Nat) (d : Nat → Nat) (letters_ : Int32) (tests_ : Int32) (inputLength_ : Int32) (at_ : Int32) (signed_ : Int32) (newParts_ : Int32) (machineParts_ : Int32) (firstParts_ : Int32) (firstTruth_ : Int32) (secondTruth_ : Int32) (isPair_ : Int32) (states_ : Int32) (stateClasses_ : Int32) (elements_ : Int32) (cursor_ : Int32) (hasSnapshot_ : Int32) (isSaving_ : Int32) (wordLength_ : Nat → Int32) (x1 : Int32) (word_ : Nat → Int32) (x4 : Int32) (x5 : Int32) (o1 : ((Nat → Int32) × Int32 × Int32) ⊕ ((Nat → Int32))) (X : Cx p m c cX12_spell 6 s args wsX12_spell RX12 A D cy (RO_X12_spell cy o d letters_ tests_ inputLength_ at_ signed_ newParts_ machineParts_ firstParts_ firstTruth_ secondTruth_ isPair_ states_ stateClasses_ elements_ cursor_ hasSnapshot_ isSaving_)) (h : b_X12_spell_15 letters_ x1 word_ x4 x5 = some o1) (K : Sum.elim (fun v : (Nat → Int32) × Int32 × Int32 => ∀ (H : Heap) (locs : List Loc) (ls : Array Slot), St A D s (RW_X12_spell cy o d wordLength_ v.1) H locs → lv_has ls 6 [(0, .ref o), (1, .int x1), (4, .int v.2.1), (5, .int v.2.2)] → W p l e rm_X12_spell s m args below meth c H locs 0 0 Q (F0 m 15 ls [])) (fun v : (Nat → Int32) => ∀ (H : Heap) (locs : List Loc) (ls : Array Slot), St A D s (RW_X12_spell cy o d wordLength_ v) H locs → lv_has ls 6 [] → W p l e rm_X12_spell s m args below meth c H locs 0 0 Q (F0 m 54 ls [])) o1) : ∀ (H : Heap) (locs : List Loc) (ls : Array Slot), St A D s (RW_X12_spell cy o d wordLength_ word_) H locs → lv_has ls 6 [(0, .ref o), (1, .int x1), (4, .int x4), (5, .int x5)] → W p l e rm_X12_spell s m args below meth c H locs 0 0 Q (F0 m 15 ls []) := by
  intro H locs ls Z hl
  have hx := X.1.1
  have hb := X.1.2.1
  unfold b_X12_spell_15 at h
  refine lv_iload hx hb dX12_spell_15 (lv_at hl 3 rfl) ?_
  refine lv_if_lt (tgt := 54) hx hb dX12_spell_17 (by decide) (fun cnd => ?_) (fun cnd => ?_)
  · replace h := ifp h cnd
    obtain rfl := Option.some.inj h
    exact (sk_r K) H locs ls Z (lv_sub hl [] rfl)
  · replace h := ifn h cnd
    refine lv_aload_n hx hb dX12_spell_20 rfl (lv_at hl 0 rfl) ?_
    refine x_getO X Z 0 2 (v := .ref (d 2)) rfl rfl lk_X12_spell_X12_word dX12_spell_21 ?_
    refine lv_bipush (v := (12 : Int32)) hx hb dX12_spell_24 (by decide) ?_
    refine lv_iload_n hx hb dX12_spell_26 rfl (lv_at hl 1 rfl) ?_
    refine lv_imul hx hb dX12_spell_27 ?_
    refine lv_iload hx hb dX12_spell_28 (lv_at hl 3 rfl) ?_
    refine lv_iadd hx hb dX12_spell_30 ?_
    refine lv_iload hx hb dX12_spell_31 (lv_at hl 2 rfl) ?_
    refine lv_aload_n hx hb dX12_spell_33 rfl (lv_at hl 0 rfl) ?_
    refine x_getO X Z 0 0 (v := .int letters_) rfl rfl lk_X12_spell_X12_letters dX12_spell_34 ?_
    obtain ⟨hz1, v2, hv3, h⟩ := rm_b h
    refine lv_irem hx hb dX12_spell_37 hz1 ?_
    rw [hv3]
    obtain ⟨hin4, word_5, hv6, h⟩ := st_b h
    refine x_iast X Z 1 (RW_X12_spell cy o d wordLength_ word_5) rfl hin4 hv6 rfl dX12_spell_38 (fun H locs Z => ?_)
    refine lv_iload hx hb dX12_spell_39 (lv_at hl 2 rfl) ?_
    refine lv_aload_n hx hb dX12_spell_41 rfl (lv_at hl 0 rfl) ?_
    refine x_getO X Z 0 0 (v := .int letters_) rfl rfl lk_X12_spell_X12_letters dX12_spell_42 ?_
    obtain ⟨hz7, v8, hv9, h⟩ := dv_b h
    refine lv_idiv hx hb dX12_spell_45 hz7 ?_
    rw [hv9]
    refine lv_istore (lv' := [(4, .int v8), (0, .ref o), (1, .int x1), (5, .int x5)]) hx hb dX12_spell_46 hl (by decide) rfl (fun ls hl => ?_)
    refine lv_iinc (v := (x5 + (-1 : Int32))) (lv' := [(5, .int (x5 + (-1 : Int32))), (4, .int v8), (0, .ref o), (1, .int x1)]) hx hb dX12_spell_48 hl (k := 3) rfl rfl (by decide) rfl (fun ls hl => ?_)
    refine lv_goto (tgt := 15) hx hb dX12_spell_51 (by decide) ?_
    obtain rfl := Option.some.inj h
    exact sk_l K H locs ls Z (lv_sub hl [2, 3, 1, 0] rfl)
set_option maxHeartbeats 4000000 in
set_option maxRecDepth 100000 in
theorem wl_X12_spell_15 {p : Program} {l : Launch} {e : Env} {s : State} {m : MethodId} {args : Array Value} {below : List Frame} {meth : Method} {c : Code} {A : Nat → Prop} {Q : State → Prop} {D : va_G} {cy : Nat → ClassId} (o : Nat) (d : Nat → Nat) (letters_ : Int32) (tests_ : Int32) (inputLength_ : Int32) (at_ : Int32) (signed_ : Int32) (newParts_ : Int32) (machineParts_ : Int32) (firstParts_ : Int32) (firstTruth_ : Int32) (secondTruth_ : Int32) (isPair_ : Int32) (states_ : Int32) (stateClasses_ : Int32) (elements_ : Int32) (cursor_ : Int32) (hasSnapshot_ : Int32) (isSaving_ : Int32) (wordLength_ : Nat → Int32) (x1 : Int32) (n : Nat) (v : (Nat → Int32) × Int32 × Int32) (x : (Nat → Int32)) (X : Cx p m c cX12_spell 6 s args wsX12_spell RX12 A D cy (RO_X12_spell cy o d letters_ tests_ inputLength_ at_ signed_ newParts_ machineParts_ firstParts_ firstTruth_ secondTruth_ isPair_ states_ stateClasses_ elements_ cursor_ hasSnapshot_ isSaving_)) (h : loopN (fun v => b_X12_spell_15 letters_ x1 v.1 v.2.1 v.2.2) n v = some x) (K : ∀ (H : Heap) (locs : List Loc) (ls : Array Slot), St A D s (RW_X12_spell cy o d wordLength_ x) H locs → lv_has ls 6 [] → W p l e rm_X12_spell s m args below meth c H locs 0 0 Q (F0 m 54 ls [])) : ∀ (H : Heap) (locs : List Loc) (ls : Array Slot), St A D s (RW_X12_spell cy o d wordLength_ v.1) H locs → lv_has ls 6 [(0, .ref o), (1, .int x1), (4, .int v.2.1), (5, .int v.2.2)] → W p l e rm_X12_spell s m args below meth c H locs 0 0 Q (F0 m 15 ls []) :=
  loop_gen (B := (fun v => b_X12_spell_15 letters_ x1 v.1 v.2.1 v.2.2)) (Head := fun v : (Nat → Int32) × Int32 × Int32 => ∀ (H : Heap) (locs : List Loc) (ls : Array Slot), St A D s (RW_X12_spell cy o d wordLength_ v.1) H locs → lv_has ls 6 [(0, .ref o), (1, .int x1), (4, .int v.2.1), (5, .int v.2.2)] → W p l e rm_X12_spell s m args below meth c H locs 0 0 Q (F0 m 15 ls [])) (Exit := fun v : (Nat → Int32) => ∀ (H : Heap) (locs : List Loc) (ls : Array Slot), St A D s (RW_X12_spell cy o d wordLength_ v) H locs → lv_has ls 6 [] → W p l e rm_X12_spell s m args below meth c H locs 0 0 Q (F0 m 54 ls [])) (fun v o9 hb1 K1 => wb_X12_spell_15 o d letters_ tests_ inputLength_ at_ signed_ newParts_ machineParts_ firstParts_ firstTruth_ secondTruth_ isPair_ states_ stateClasses_ elements_ cursor_ hasSnapshot_ isSaving_ wordLength_ x1 v.1 v.2.1 v.2.2 o9 X hb1 K1) n v x h K
def f_X12_spell (x1 : Int32) (x2 : Int32) (x3 : Int32) (letters_ : Int32) (wordLength_ : Nat → Int32) (word_ : Nat → Int32) : Option ((Nat → Int32) × (Nat → Int32)) :=
  stA wordLength_ 3 x1 x2 (fun wordLength_11 =>
  (loopN (fun v => b_X12_spell_15 letters_ x1 v.1 v.2.1 v.2.2) FU (word_, x3, (x2 - (1 : Int32)))).bind (fun u13 =>
  some (wordLength_11, u13)))
set_option maxHeartbeats 4000000 in
set_option maxRecDepth 100000 in
theorem wt_X12_spell {p : Program} {l : Launch} {e : Env} {s : State} {m : MethodId} {args : Array Value} {below : List Frame} {meth : Method} {c : Code} {A : Nat → Prop} {Q : State → Prop} {D : va_G} {cy : Nat → ClassId} (o : Nat) (d : Nat → Nat) (letters_ : Int32) (tests_ : Int32) (inputLength_ : Int32) (at_ : Int32) (signed_ : Int32) (newParts_ : Int32) (machineParts_ : Int32) (firstParts_ : Int32) (firstTruth_ : Int32) (secondTruth_ : Int32) (isPair_ : Int32) (states_ : Int32) (stateClasses_ : Int32) (elements_ : Int32) (cursor_ : Int32) (hasSnapshot_ : Int32) (isSaving_ : Int32) (wordLength_ : Nat → Int32) (word_ : Nat → Int32) (x1 : Int32) (x2 : Int32) (x3 : Int32) (out : (Nat → Int32) × (Nat → Int32)) (X : Cx p m c cX12_spell 6 s args wsX12_spell RX12 A D cy (RO_X12_spell cy o d letters_ tests_ inputLength_ at_ signed_ newParts_ machineParts_ firstParts_ firstTruth_ secondTruth_ isPair_ states_ stateClasses_ elements_ cursor_ hasSnapshot_ isSaving_)) (h : f_X12_spell x1 x2 x3 letters_ wordLength_ word_ = some out) (K : ∀ (H : Heap) (locs : List Loc) (ls : Array Slot) (pc : Nat), decode cX12_spell pc = .ok (.return_, 1) → St A D s (RW_X12_spell cy o d out.1 out.2) H locs → W p l e rm_X12_spell s m args below meth c H locs 0 0 Q (F0 m pc ls [])) : ∀ (H : Heap) (locs : List Loc) (ls : Array Slot), St A D s (RW_X12_spell cy o d wordLength_ word_) H locs → lv_has ls 6 [(0, .ref o), (1, .int x1), (2, .int x2), (3, .int x3)] → W p l e rm_X12_spell s m args below meth c H locs 0 0 Q (F0 m 0 ls []) := by
  intro H locs ls Z hl
  have hx := X.1.1
  have hb := X.1.2.1
  unfold f_X12_spell at h
  refine lv_iload_n hx hb dX12_spell_0 rfl (lv_at hl 3 rfl) ?_
  refine lv_istore (lv' := [(4, .int x3), (0, .ref o), (1, .int x1), (2, .int x2), (3, .int x3)]) hx hb dX12_spell_1 hl (by decide) rfl (fun ls hl => ?_)
  refine lv_aload_n hx hb dX12_spell_3 rfl (lv_at hl 1 rfl) ?_
  refine x_getO X Z 0 1 (v := .ref (d 1)) rfl rfl lk_X12_spell_X12_wordLength dX12_spell_4 ?_
  refine lv_iload_n hx hb dX12_spell_7 rfl (lv_at hl 2 rfl) ?_
  refine lv_iload_n hx hb dX12_spell_8 rfl (lv_at hl 3 rfl) ?_
  obtain ⟨hin10, wordLength_11, hv12, h⟩ := st_b h
  refine x_iast X Z 0 (RW_X12_spell cy o d wordLength_11 word_) rfl hin10 hv12 rfl dX12_spell_9 (fun H locs Z => ?_)
  refine lv_iload_n hx hb dX12_spell_10 rfl (lv_at hl 3 rfl) ?_
  refine lv_iconst (v := (1 : Int32)) hx hb dX12_spell_11 (by decide) ?_
  refine lv_isub hx hb dX12_spell_12 ?_
  refine lv_istore (lv' := [(5, .int (x2 - (1 : Int32))), (4, .int x3), (0, .ref o), (1, .int x1), (2, .int x2), (3, .int x3)]) hx hb dX12_spell_13 hl (by decide) rfl (fun ls hl => ?_)
  obtain ⟨u13, hL14, h⟩ := ob_some h
  refine wl_X12_spell_15 o d letters_ tests_ inputLength_ at_ signed_ newParts_ machineParts_ firstParts_ firstTruth_ secondTruth_ isPair_ states_ stateClasses_ elements_ cursor_ hasSnapshot_ isSaving_ wordLength_11 x1 FU (word_, x3, (x2 - (1 : Int32))) u13 X hL14 (fun H locs ls Z hl => ?_) H locs ls Z (lv_sub hl [2, 3, 1, 0] rfl)
  obtain rfl := Option.some.inj h
  exact K H locs ls _ dX12_spell_54 Z
theorem c_X12_spell (l : Launch) (D : va_G) (cy : Nat → ClassId) (o : Nat) (d : Nat → Nat) (letters_ : Int32) (tests_ : Int32) (inputLength_ : Int32) (at_ : Int32) (signed_ : Int32) (newParts_ : Int32) (machineParts_ : Int32) (firstParts_ : Int32) (firstTruth_ : Int32) (secondTruth_ : Int32) (isPair_ : Int32) (states_ : Int32) (stateClasses_ : Int32) (elements_ : Int32) (cursor_ : Int32) (hasSnapshot_ : Int32) (isSaving_ : Int32) (wordLength_ : Nat → Int32) (word_ : Nat → Int32) (x1 : Int32) (x2 : Int32) (x3 : Int32) (out : (Nat → Int32) × (Nat → Int32)) (h : f_X12_spell x1 x2 x3 letters_ wordLength_ word_ = some out) : CtV l yX12_spell wsX12_spell rm_X12_spell D cy [.ref o, .int x1, .int x2, .int x3] (RW_X12_spell cy o d wordLength_ word_) (RO_X12_spell cy o d letters_ tests_ inputLength_ at_ signed_ newParts_ machineParts_ firstParts_ firstTruth_ secondTruth_ isPair_ states_ stateClasses_ elements_ cursor_ hasSnapshot_ isSaving_) (RW_X12_spell cy o d out.1 out.2) :=
  mk_v (by decide) rfl (Nat.le_of_ble_eq_true rfl) (fun p e s m args below meth c A Q X K H locs ls Z hl => wt_X12_spell o d letters_ tests_ inputLength_ at_ signed_ newParts_ machineParts_ firstParts_ firstTruth_ secondTruth_ isPair_ states_ stateClasses_ elements_ cursor_ hasSnapshot_ isSaving_ wordLength_ word_ x1 x2 x3 out X h K H locs ls Z hl)
/-! SubwordCounterModel findSignatures (I)V -/
abbrev rm_X12_findSignatures : Room := { frames := 4, cells := 0, slots := 0, locals := 98 }
def RW_X12_findSignatures (cy : Nat → ClassId) (o : Nat) (d : Nat → Nat) (letters_ : Int32) (tests_ : Int32) (inputLength_ : Int32) (at_ : Int32) (signed_ : Int32) (newParts_ : Int32) (machineParts_ : Int32) (firstParts_ : Int32) (firstTruth_ : Int32) (secondTruth_ : Int32) (isPair_ : Int32) (states_ : Int32) (stateClasses_ : Int32) (elements_ : Int32) (cursor_ : Int32) (hasSnapshot_ : Int32) (isSaving_ : Int32) (wordLength_ : Nat → Int32) (word_ : Nat → Int32) (prefixes_ : Nat → Int32) (signatures_ : Nat → Int32) (held_ : Nat → Int32) : va_W := [(o, ob 11 (oX12 d letters_ tests_ inputLength_ at_ signed_ newParts_ machineParts_ firstParts_ firstTruth_ secondTruth_ isPair_ states_ stateClasses_ elements_ cursor_ hasSnapshot_ isSaving_)), ((d 1), aI cy 3 wordLength_), ((d 2), aI cy 36 word_), ((d 3), aI cy 13 prefixes_), ((d 13), aI cy 2187 signatures_), ((d 14), aI cy 12 held_)]
def RO_X12_findSignatures (cy : Nat → ClassId) (o : Nat) (d : Nat → Nat) (kind_ : Nat → Int32) (bound_ : Nat → Int32) (patternLength_ : Nat → Int32) (pattern_ : Nat → Int32) : va_W := [((d 5), aI cy 6 kind_), ((d 6), aI cy 6 bound_), ((d 7), aI cy 6 patternLength_), ((d 8), aI cy 24 pattern_)]
theorem in_X12_findSignatures_X12 : ∀ w ∈ u_ws RX12 TX12 68, w ∈ wsX12_findSignatures := fun w h => (List.mem_cons_of_mem _ (List.mem_append_right _ h))
theorem lk_X12_findSignatures_X12_word : Lk wsX12_findSignatures RX12 17 11 2 := ⟨RX12, TX12, 68, rfl, by decide, in_X12_findSignatures_X12, mem_at 3 rfl⟩
theorem lk_X12_findSignatures_X12_held : Lk wsX12_findSignatures RX12 44 11 14 := ⟨RX12, TX12, 68, rfl, by decide, in_X12_findSignatures_X12, mem_at 2 rfl⟩
theorem lk_X12_findSignatures_X12_signed : Lk wsX12_findSignatures RX12 216 11 15 := ⟨RX12, TX12, 68, rfl, by decide, in_X12_findSignatures_X12, mem_at 4 rfl⟩
theorem lk_X12_findSignatures_X12_signatures : Lk wsX12_findSignatures RX12 41 11 13 := ⟨RX12, TX12, 68, rfl, by decide, in_X12_findSignatures_X12, mem_at 6 rfl⟩
theorem lk_X12_findSignatures_X12_letters : Lk wsX12_findSignatures RX12 7 11 0 := ⟨RX12, TX12, 68, rfl, by decide, in_X12_findSignatures_X12, mem_at 5 rfl⟩
theorem lp_X12_findSignatures_X12_signed : Lp wsX12_findSignatures RX12 216 11 15 .int := ⟨RX12, TX12, 68, tyX12, rfl, by decide, in_X12_findSignatures_X12, mem_at 4 rfl, tyX12_ok, nmX12, rfl, by decide +kernel⟩
theorem lk_X12_findSignatures_X12_wordLength : Lk wsX12_findSignatures RX12 13 11 1 := ⟨RX12, TX12, 68, rfl, by decide, in_X12_findSignatures_X12, mem_at 1 rfl⟩
def b_X12_findSignatures_114 (held_ : Nat → Int32) (word_ : Nat → Int32) (x3 : Int32) : Option (((Nat → Int32) × Int32) ⊕ ((Nat → Int32))) :=
  if (12 : Int32) ≤ x3 then
  (some (.inr word_))
  else
  (ldA held_ 12 x3 (fun v2 =>
  stA word_ 36 x3 v2 (fun word_5 =>
  some (.inl (word_5, (x3 + (1 : Int32)))))))
set_option maxHeartbeats 4000000 in
set_option maxRecDepth 100000 in
theorem wb_X12_findSignatures_114 {p : Program} {l : Launch} {e : Env} {s : State} {m : MethodId} {args : Array Value} {below : List Frame} {meth : Method} {c : Code} {A : Nat → Prop} {Q : State → Prop} {D : va_G} {cy : Nat → ClassId} (o : Nat) (d : Nat → Nat) (kind_ : Nat → Int32) (bound_ : Nat → Int32) (patternLength_ : Nat → Int32) (pattern_ : Nat → Int32) (letters_ : Int32) (tests_ : Int32) (inputLength_ : Int32) (at_ : Int32) (signed_ : Int32) (newParts_ : Int32) (machineParts_ : Int32) (firstParts_ : Int32) (firstTruth_ : Int32) (secondTruth_ : Int32) (isPair_ : Int32) (states_ : Int32) (stateClasses_ : Int32) (elements_ : Int32) (cursor_ : Int32) (hasSnapshot_ : Int32) (isSaving_ : Int32) (wordLength_ : Nat → Int32) (prefixes_ : Nat → Int32) (signatures_ : Nat → Int32) (held_ : Nat → Int32) (word_ : Nat → Int32) (x3 : Int32) (o1 : ((Nat → Int32) × Int32) ⊕ ((Nat → Int32))) (X : Cx p m c cX12_findSignatures 4 s args wsX12_findSignatures RX12 A D cy (RO_X12_findSignatures cy o d kind_ bound_ patternLength_ pattern_)) (h : b_X12_findSignatures_114 held_ word_ x3 = some o1) (K : Sum.elim (fun v : (Nat → Int32) × Int32 => ∀ (H : Heap) (locs : List Loc) (ls : Array Slot), St A D s (RW_X12_findSignatures cy o d letters_ tests_ inputLength_ at_ signed_ newParts_ machineParts_ firstParts_ firstTruth_ secondTruth_ isPair_ states_ stateClasses_ elements_ cursor_ hasSnapshot_ isSaving_ wordLength_ v.1 prefixes_ signatures_ held_) H locs → lv_has ls 4 [(0, .ref o), (3, .int v.2)] → W p l e rm_X12_findSignatures s m args below meth c H locs 0 0 Q (F0 m 114 ls [])) (fun v : (Nat → Int32) => ∀ (H : Heap) (locs : List Loc) (ls : Array Slot), St A D s (RW_X12_findSignatures cy o d letters_ tests_ inputLength_ at_ signed_ newParts_ machineParts_ firstParts_ firstTruth_ secondTruth_ isPair_ states_ stateClasses_ elements_ cursor_ hasSnapshot_ isSaving_ wordLength_ v prefixes_ signatures_ held_) H locs → lv_has ls 4 [] → W p l e rm_X12_findSignatures s m args below meth c H locs 0 0 Q (F0 m 138 ls [])) o1) : ∀ (H : Heap) (locs : List Loc) (ls : Array Slot), St A D s (RW_X12_findSignatures cy o d letters_ tests_ inputLength_ at_ signed_ newParts_ machineParts_ firstParts_ firstTruth_ secondTruth_ isPair_ states_ stateClasses_ elements_ cursor_ hasSnapshot_ isSaving_ wordLength_ word_ prefixes_ signatures_ held_) H locs → lv_has ls 4 [(0, .ref o), (3, .int x3)] → W p l e rm_X12_findSignatures s m args below meth c H locs 0 0 Q (F0 m 114 ls []) := by
  intro H locs ls Z hl
  have hx := X.1.1
  have hb := X.1.2.1
  unfold b_X12_findSignatures_114 at h
  refine lv_iload_n hx hb dX12_findSignatures_114 rfl (lv_at hl 1 rfl) ?_
  refine lv_bipush (v := (12 : Int32)) hx hb dX12_findSignatures_115 (by decide) ?_
  refine lv_icmp_ge (tgt := 138) hx hb dX12_findSignatures_117 (by decide) (fun cnd => ?_) (fun cnd => ?_)
  · replace h := ifp h cnd
    obtain rfl := Option.some.inj h
    exact (sk_r K) H locs ls Z (lv_sub hl [] rfl)
  · replace h := ifn h cnd
    refine lv_aload_n hx hb dX12_findSignatures_120 rfl (lv_at hl 0 rfl) ?_
    refine x_get X Z 0 2 (v := .ref (d 2)) rfl rfl lk_X12_findSignatures_X12_word dX12_findSignatures_121 ?_
    refine lv_iload_n hx hb dX12_findSignatures_124 rfl (lv_at hl 1 rfl) ?_
    refine lv_aload_n hx hb dX12_findSignatures_125 rfl (lv_at hl 0 rfl) ?_
    refine x_get X Z 0 14 (v := .ref (d 14)) rfl rfl lk_X12_findSignatures_X12_held dX12_findSignatures_126 ?_
    refine lv_iload_n hx hb dX12_findSignatures_129 rfl (lv_at hl 1 rfl) ?_
    obtain ⟨hin1, v2, hv3, h⟩ := ld_b h
    refine x_iald X Z 5 rfl hin1 hv3 dX12_findSignatures_130 ?_
    obtain ⟨hin4, word_5, hv6, h⟩ := st_b h
    refine x_iast X Z 2 (RW_X12_findSignatures cy o d letters_ tests_ inputLength_ at_ signed_ newParts_ machineParts_ firstParts_ firstTruth_ secondTruth_ isPair_ states_ stateClasses_ elements_ cursor_ hasSnapshot_ isSaving_ wordLength_ word_5 prefixes_ signatures_ held_) rfl hin4 hv6 rfl dX12_findSignatures_131 (fun H locs Z => ?_)
    refine lv_iinc (v := (x3 + (1 : Int32))) (lv' := [(3, .int (x3 + (1 : Int32))), (0, .ref o)]) hx hb dX12_findSignatures_132 hl (k := 1) rfl rfl (by decide) rfl (fun ls hl => ?_)
    refine lv_goto (tgt := 114) hx hb dX12_findSignatures_135 (by decide) ?_
    obtain rfl := Option.some.inj h
    exact sk_l K H locs ls Z (lv_sub hl [1, 0] rfl)
set_option maxHeartbeats 4000000 in
set_option maxRecDepth 100000 in
theorem wl_X12_findSignatures_114 {p : Program} {l : Launch} {e : Env} {s : State} {m : MethodId} {args : Array Value} {below : List Frame} {meth : Method} {c : Code} {A : Nat → Prop} {Q : State → Prop} {D : va_G} {cy : Nat → ClassId} (o : Nat) (d : Nat → Nat) (kind_ : Nat → Int32) (bound_ : Nat → Int32) (patternLength_ : Nat → Int32) (pattern_ : Nat → Int32) (letters_ : Int32) (tests_ : Int32) (inputLength_ : Int32) (at_ : Int32) (signed_ : Int32) (newParts_ : Int32) (machineParts_ : Int32) (firstParts_ : Int32) (firstTruth_ : Int32) (secondTruth_ : Int32) (isPair_ : Int32) (states_ : Int32) (stateClasses_ : Int32) (elements_ : Int32) (cursor_ : Int32) (hasSnapshot_ : Int32) (isSaving_ : Int32) (wordLength_ : Nat → Int32) (prefixes_ : Nat → Int32) (signatures_ : Nat → Int32) (held_ : Nat → Int32) (n : Nat) (v : (Nat → Int32) × Int32) (x : (Nat → Int32)) (X : Cx p m c cX12_findSignatures 4 s args wsX12_findSignatures RX12 A D cy (RO_X12_findSignatures cy o d kind_ bound_ patternLength_ pattern_)) (h : loopN (fun v => b_X12_findSignatures_114 held_ v.1 v.2) n v = some x) (K : ∀ (H : Heap) (locs : List Loc) (ls : Array Slot), St A D s (RW_X12_findSignatures cy o d letters_ tests_ inputLength_ at_ signed_ newParts_ machineParts_ firstParts_ firstTruth_ secondTruth_ isPair_ states_ stateClasses_ elements_ cursor_ hasSnapshot_ isSaving_ wordLength_ x prefixes_ signatures_ held_) H locs → lv_has ls 4 [] → W p l e rm_X12_findSignatures s m args below meth c H locs 0 0 Q (F0 m 138 ls [])) : ∀ (H : Heap) (locs : List Loc) (ls : Array Slot), St A D s (RW_X12_findSignatures cy o d letters_ tests_ inputLength_ at_ signed_ newParts_ machineParts_ firstParts_ firstTruth_ secondTruth_ isPair_ states_ stateClasses_ elements_ cursor_ hasSnapshot_ isSaving_ wordLength_ v.1 prefixes_ signatures_ held_) H locs → lv_has ls 4 [(0, .ref o), (3, .int v.2)] → W p l e rm_X12_findSignatures s m args below meth c H locs 0 0 Q (F0 m 114 ls []) :=
  loop_gen (B := (fun v => b_X12_findSignatures_114 held_ v.1 v.2)) (Head := fun v : (Nat → Int32) × Int32 => ∀ (H : Heap) (locs : List Loc) (ls : Array Slot), St A D s (RW_X12_findSignatures cy o d letters_ tests_ inputLength_ at_ signed_ newParts_ machineParts_ firstParts_ firstTruth_ secondTruth_ isPair_ states_ stateClasses_ elements_ cursor_ hasSnapshot_ isSaving_ wordLength_ v.1 prefixes_ signatures_ held_) H locs → lv_has ls 4 [(0, .ref o), (3, .int v.2)] → W p l e rm_X12_findSignatures s m args below meth c H locs 0 0 Q (F0 m 114 ls [])) (Exit := fun v : (Nat → Int32) => ∀ (H : Heap) (locs : List Loc) (ls : Array Slot), St A D s (RW_X12_findSignatures cy o d letters_ tests_ inputLength_ at_ signed_ newParts_ machineParts_ firstParts_ firstTruth_ secondTruth_ isPair_ states_ stateClasses_ elements_ cursor_ hasSnapshot_ isSaving_ wordLength_ v prefixes_ signatures_ held_) H locs → lv_has ls 4 [] → W p l e rm_X12_findSignatures s m args below meth c H locs 0 0 Q (F0 m 138 ls [])) (fun v o9 hb1 K1 => wb_X12_findSignatures_114 o d kind_ bound_ patternLength_ pattern_ letters_ tests_ inputLength_ at_ signed_ newParts_ machineParts_ firstParts_ firstTruth_ secondTruth_ isPair_ states_ stateClasses_ elements_ cursor_ hasSnapshot_ isSaving_ wordLength_ prefixes_ signatures_ held_ v.1 v.2 o9 X hb1 K1) n v x h K
def b_X12_findSignatures_73 (kind_ : Nat → Int32) (bound_ : Nat → Int32) (patternLength_ : Nat → Int32) (pattern_ : Nat → Int32) (letters_ : Int32) (tests_ : Int32) (signed_ : Int32) (x1 : Int32) (wordLength_ : Nat → Int32) (word_ : Nat → Int32) (prefixes_ : Nat → Int32) (signatures_ : Nat → Int32) (x3 : Int32) : Option (((Nat → Int32) × (Nat → Int32) × (Nat → Int32) × (Nat → Int32) × Int32) ⊕ ((Nat → Int32) × (Nat → Int32) × (Nat → Int32) × (Nat → Int32))) :=
  if signed_ ≤ x3 then
  (some (.inr (wordLength_, word_, prefixes_, signatures_)))
  else
  ((f_X12_spell (0 : Int32) x1 x3 letters_ wordLength_ word_).bind (fun u7 =>
  (f_X12_signatureOf (0 : Int32) tests_ u7.1 u7.2 kind_ bound_ patternLength_ pattern_ prefixes_).bind (fun u9 =>
  stA signatures_ 2187 x3 u9.1 (fun signatures_12 =>
  some (.inl (u7.1, u7.2, u9.2, signatures_12, (x3 + (1 : Int32))))))))
set_option maxHeartbeats 4000000 in
set_option maxRecDepth 100000 in
theorem wb_X12_findSignatures_73 {p : Program} {l : Launch} {e : Env} {s : State} {m : MethodId} {args : Array Value} {below : List Frame} {meth : Method} {c : Code} {A : Nat → Prop} {Q : State → Prop} {D : va_G} {cy : Nat → ClassId} (o : Nat) (d : Nat → Nat) (kind_ : Nat → Int32) (bound_ : Nat → Int32) (patternLength_ : Nat → Int32) (pattern_ : Nat → Int32) (letters_ : Int32) (tests_ : Int32) (inputLength_ : Int32) (at_ : Int32) (signed_ : Int32) (newParts_ : Int32) (machineParts_ : Int32) (firstParts_ : Int32) (firstTruth_ : Int32) (secondTruth_ : Int32) (isPair_ : Int32) (states_ : Int32) (stateClasses_ : Int32) (elements_ : Int32) (cursor_ : Int32) (hasSnapshot_ : Int32) (isSaving_ : Int32) (held_ : Nat → Int32) (x1 : Int32) (x2 : Int32) (wordLength_ : Nat → Int32) (word_ : Nat → Int32) (prefixes_ : Nat → Int32) (signatures_ : Nat → Int32) (x3 : Int32) (o1 : ((Nat → Int32) × (Nat → Int32) × (Nat → Int32) × (Nat → Int32) × Int32) ⊕ ((Nat → Int32) × (Nat → Int32) × (Nat → Int32) × (Nat → Int32))) (X : Cx p m c cX12_findSignatures 4 s args wsX12_findSignatures RX12 A D cy (RO_X12_findSignatures cy o d kind_ bound_ patternLength_ pattern_)) (h : b_X12_findSignatures_73 kind_ bound_ patternLength_ pattern_ letters_ tests_ signed_ x1 wordLength_ word_ prefixes_ signatures_ x3 = some o1) (K : Sum.elim (fun v : (Nat → Int32) × (Nat → Int32) × (Nat → Int32) × (Nat → Int32) × Int32 => ∀ (H : Heap) (locs : List Loc) (ls : Array Slot), St A D s (RW_X12_findSignatures cy o d letters_ tests_ inputLength_ at_ signed_ newParts_ machineParts_ firstParts_ firstTruth_ secondTruth_ isPair_ states_ stateClasses_ elements_ cursor_ hasSnapshot_ isSaving_ v.1 v.2.1 v.2.2.1 v.2.2.2.1 held_) H locs → lv_has ls 4 [(0, .ref o), (1, .int x1), (2, .int x2), (3, .int v.2.2.2.2)] → W p l e rm_X12_findSignatures s m args below meth c H locs 0 0 Q (F0 m 73 ls [])) (fun v : (Nat → Int32) × (Nat → Int32) × (Nat → Int32) × (Nat → Int32) => ∀ (H : Heap) (locs : List Loc) (ls : Array Slot), St A D s (RW_X12_findSignatures cy o d letters_ tests_ inputLength_ at_ signed_ newParts_ machineParts_ firstParts_ firstTruth_ secondTruth_ isPair_ states_ stateClasses_ elements_ cursor_ hasSnapshot_ isSaving_ v.1 v.2.1 v.2.2.1 v.2.2.2 held_) H locs → lv_has ls 4 [(0, .ref o), (2, .int x2)] → W p l e rm_X12_findSignatures s m args below meth c H locs 0 0 Q (F0 m 105 ls [])) o1) : ∀ (H : Heap) (locs : List Loc) (ls : Array Slot), St A D s (RW_X12_findSignatures cy o d letters_ tests_ inputLength_ at_ signed_ newParts_ machineParts_ firstParts_ firstTruth_ secondTruth_ isPair_ states_ stateClasses_ elements_ cursor_ hasSnapshot_ isSaving_ wordLength_ word_ prefixes_ signatures_ held_) H locs → lv_has ls 4 [(0, .ref o), (1, .int x1), (2, .int x2), (3, .int x3)] → W p l e rm_X12_findSignatures s m args below meth c H locs 0 0 Q (F0 m 73 ls []) := by
  intro H locs ls Z hl
  have hx := X.1.1
  have hb := X.1.2.1
  unfold b_X12_findSignatures_73 at h
  refine lv_iload_n hx hb dX12_findSignatures_73 rfl (lv_at hl 3 rfl) ?_
  refine lv_aload_n hx hb dX12_findSignatures_74 rfl (lv_at hl 0 rfl) ?_
  refine x_get X Z 0 15 (v := .int signed_) rfl rfl lk_X12_findSignatures_X12_signed dX12_findSignatures_75 ?_
  refine lv_icmp_ge (tgt := 105) hx hb dX12_findSignatures_78 (by decide) (fun cnd => ?_) (fun cnd => ?_)
  · replace h := ifp h cnd
    obtain rfl := Option.some.inj h
    exact (sk_r K) H locs ls Z (lv_sub hl [0, 2] rfl)
  · replace h := ifn h cnd
    refine lv_aload_n hx hb dX12_findSignatures_81 rfl (lv_at hl 0 rfl) ?_
    refine lv_iconst (v := (0 : Int32)) hx hb dX12_findSignatures_82 (by decide) ?_
    refine lv_iload_n hx hb dX12_findSignatures_83 rfl (lv_at hl 1 rfl) ?_
    refine lv_iload_n hx hb dX12_findSignatures_84 rfl (lv_at hl 3 rfl) ?_
    obtain ⟨u7, hc8, h⟩ := ob_some h
    refine x_runVv (RW' := (RW_X12_findSignatures cy o d letters_ tests_ inputLength_ at_ signed_ newParts_ machineParts_ firstParts_ firstTruth_ secondTruth_ isPair_ states_ stateClasses_ elements_ cursor_ hasSnapshot_ isSaving_ u7.1 u7.2 prefixes_ signatures_ held_)) (wr := [(o, ob 11 (oX12 d letters_ tests_ inputLength_ at_ signed_ newParts_ machineParts_ firstParts_ firstTruth_ secondTruth_ isPair_ states_ stateClasses_ elements_ cursor_ hasSnapshot_ isSaving_)), ((d 3), aI cy 13 prefixes_), ((d 13), aI cy 2187 signatures_), ((d 14), aI cy 12 held_)]) (isC := [1, 2]) (isR := [0, 3, 4, 5]) (isF := [0, 4, 5, 1, 2, 3]) (rest := []) (As := [.int (0 : Int32), .int x1, .int x3]) (n := 3) X Z (c_X12_spell l D cy o d letters_ tests_ inputLength_ at_ signed_ newParts_ machineParts_ firstParts_ firstTruth_ secondTruth_ isPair_ states_ stateClasses_ elements_ cursor_ hasSnapshot_ isSaving_ wordLength_ word_ (0 : Int32) x1 x3 u7 hc8) gX12_findSignatures_X12_spell rfl (by decide +kernel) ⟨Nat.le_of_ble_eq_true rfl, Nat.le_of_ble_eq_true rfl⟩ ⟨rfl, rfl⟩ ⟨Nat.le_of_ble_eq_true rfl, Nat.le_of_ble_eq_true rfl⟩ (x_rv X Z 0 rfl rfl) ⟨rfl, rfl, (roC (Or.inl (mem_at 0 rfl)) roN), rfl, rfl, by decide⟩ ⟨rfl, rfl⟩ rfl hl.1 rfl (Nat.le_of_ble_eq_true rfl) dX12_findSignatures_85 (fun H locs Z => ?_)
    refine lv_aload_n hx hb dX12_findSignatures_88 rfl (lv_at hl 0 rfl) ?_
    refine x_get X Z 0 13 (v := .ref (d 13)) rfl rfl lk_X12_findSignatures_X12_signatures dX12_findSignatures_89 ?_
    refine lv_iload_n hx hb dX12_findSignatures_92 rfl (lv_at hl 3 rfl) ?_
    refine lv_aload_n hx hb dX12_findSignatures_93 rfl (lv_at hl 0 rfl) ?_
    refine lv_iconst (v := (0 : Int32)) hx hb dX12_findSignatures_94 (by decide) ?_
    obtain ⟨u9, hc10, h⟩ := ob_some h
    refine x_runVi (RW' := (RW_X12_findSignatures cy o d letters_ tests_ inputLength_ at_ signed_ newParts_ machineParts_ firstParts_ firstTruth_ secondTruth_ isPair_ states_ stateClasses_ elements_ cursor_ hasSnapshot_ isSaving_ u7.1 u7.2 u9.2 signatures_ held_)) (wr := [(o, ob 11 (oX12 d letters_ tests_ inputLength_ at_ signed_ newParts_ machineParts_ firstParts_ firstTruth_ secondTruth_ isPair_ states_ stateClasses_ elements_ cursor_ hasSnapshot_ isSaving_)), ((d 1), aI cy 3 u7.1), ((d 2), aI cy 36 u7.2), ((d 13), aI cy 2187 signatures_), ((d 14), aI cy 12 held_)]) (isC := [3]) (isR := [0, 1, 2, 4, 5]) (isF := [0, 1, 2, 5, 3, 4]) (rest := [.int x3, .ref (d 13)]) (As := [.int (0 : Int32)]) (n := 1) X Z (c_X12_signatureOf l D cy o d letters_ tests_ inputLength_ at_ signed_ newParts_ machineParts_ firstParts_ firstTruth_ secondTruth_ isPair_ states_ stateClasses_ elements_ cursor_ hasSnapshot_ isSaving_ u7.1 u7.2 kind_ bound_ patternLength_ pattern_ prefixes_ (0 : Int32) u9 hc10) gX12_findSignatures_X12_signatureOf rfl (by decide +kernel) ⟨Nat.le_of_ble_eq_true rfl, Nat.le_of_ble_eq_true rfl⟩ ⟨rfl, rfl⟩ ⟨Nat.le_of_ble_eq_true rfl, Nat.le_of_ble_eq_true rfl⟩ (x_rv X Z 0 rfl rfl) ⟨rfl, rfl, (roC (Or.inl (mem_at 0 rfl)) (roC (Or.inl (mem_at 1 rfl)) (roC (Or.inl (mem_at 2 rfl)) (roC (Or.inr (mem_at 0 rfl)) (roC (Or.inr (mem_at 1 rfl)) (roC (Or.inr (mem_at 2 rfl)) (roC (Or.inr (mem_at 3 rfl)) roN))))))), rfl, rfl, by decide⟩ ⟨rfl, rfl⟩ rfl hl.1 rfl (Nat.le_of_ble_eq_true rfl) dX12_findSignatures_95 (fun H locs Z => ?_)
    obtain ⟨hin11, signatures_12, hv13, h⟩ := st_b h
    refine x_iast X Z 4 (RW_X12_findSignatures cy o d letters_ tests_ inputLength_ at_ signed_ newParts_ machineParts_ firstParts_ firstTruth_ secondTruth_ isPair_ states_ stateClasses_ elements_ cursor_ hasSnapshot_ isSaving_ u7.1 u7.2 u9.2 signatures_12 held_) rfl hin11 hv13 rfl dX12_findSignatures_98 (fun H locs Z => ?_)
    refine lv_iinc (v := (x3 + (1 : Int32))) (lv' := [(3, .int (x3 + (1 : Int32))), (0, .ref o), (1, .int x1), (2, .int x2)]) hx hb dX12_findSignatures_99 hl (k := 3) rfl rfl (by decide) rfl (fun ls hl => ?_)
    refine lv_goto (tgt := 73) hx hb dX12_findSignatures_102 (by decide) ?_
    obtain rfl := Option.some.inj h
    exact sk_l K H locs ls Z (lv_sub hl [1, 2, 3, 0] rfl)
set_option maxHeartbeats 4000000 in
set_option maxRecDepth 100000 in
theorem wl_X12_findSignatures_73 {p : Program} {l : Launch} {e : Env} {s : State} {m : MethodId} {args : Array Value} {below : List Frame} {meth : Method} {c : Code} {A : Nat → Prop} {Q : State → Prop} {D : va_G} {cy : Nat → ClassId} (o : Nat) (d : Nat → Nat) (kind_ : Nat → Int32) (bound_ : Nat → Int32) (patternLength_ : Nat → Int32) (pattern_ : Nat → Int32) (letters_ : Int32) (tests_ : Int32) (inputLength_ : Int32) (at_ : Int32) (signed_ : Int32) (newParts_ : Int32) (machineParts_ : Int32) (firstParts_ : Int32) (firstTruth_ : Int32) (secondTruth_ : Int32) (isPair_ : Int32) (states_ : Int32) (stateClasses_ : Int32) (elements_ : Int32) (cursor_ : Int32) (hasSnapshot_ : Int32) (isSaving_ : Int32) (held_ : Nat → Int32) (x1 : Int32) (x2 : Int32) (n : Nat) (v : (Nat → Int32) × (Nat → Int32) × (Nat → Int32) × (Nat → Int32) × Int32) (x : (Nat → Int32) × (Nat → Int32) × (Nat → Int32) × (Nat → Int32)) (X : Cx p m c cX12_findSignatures 4 s args wsX12_findSignatures RX12 A D cy (RO_X12_findSignatures cy o d kind_ bound_ patternLength_ pattern_)) (h : loopN (fun v => b_X12_findSignatures_73 kind_ bound_ patternLength_ pattern_ letters_ tests_ signed_ x1 v.1 v.2.1 v.2.2.1 v.2.2.2.1 v.2.2.2.2) n v = some x) (K : ∀ (H : Heap) (locs : List Loc) (ls : Array Slot), St A D s (RW_X12_findSignatures cy o d letters_ tests_ inputLength_ at_ signed_ newParts_ machineParts_ firstParts_ firstTruth_ secondTruth_ isPair_ states_ stateClasses_ elements_ cursor_ hasSnapshot_ isSaving_ x.1 x.2.1 x.2.2.1 x.2.2.2 held_) H locs → lv_has ls 4 [(0, .ref o), (2, .int x2)] → W p l e rm_X12_findSignatures s m args below meth c H locs 0 0 Q (F0 m 105 ls [])) : ∀ (H : Heap) (locs : List Loc) (ls : Array Slot), St A D s (RW_X12_findSignatures cy o d letters_ tests_ inputLength_ at_ signed_ newParts_ machineParts_ firstParts_ firstTruth_ secondTruth_ isPair_ states_ stateClasses_ elements_ cursor_ hasSnapshot_ isSaving_ v.1 v.2.1 v.2.2.1 v.2.2.2.1 held_) H locs → lv_has ls 4 [(0, .ref o), (1, .int x1), (2, .int x2), (3, .int v.2.2.2.2)] → W p l e rm_X12_findSignatures s m args below meth c H locs 0 0 Q (F0 m 73 ls []) :=
  loop_gen (B := (fun v => b_X12_findSignatures_73 kind_ bound_ patternLength_ pattern_ letters_ tests_ signed_ x1 v.1 v.2.1 v.2.2.1 v.2.2.2.1 v.2.2.2.2)) (Head := fun v : (Nat → Int32) × (Nat → Int32) × (Nat → Int32) × (Nat → Int32) × Int32 => ∀ (H : Heap) (locs : List Loc) (ls : Array Slot), St A D s (RW_X12_findSignatures cy o d letters_ tests_ inputLength_ at_ signed_ newParts_ machineParts_ firstParts_ firstTruth_ secondTruth_ isPair_ states_ stateClasses_ elements_ cursor_ hasSnapshot_ isSaving_ v.1 v.2.1 v.2.2.1 v.2.2.2.1 held_) H locs → lv_has ls 4 [(0, .ref o), (1, .int x1), (2, .int x2), (3, .int v.2.2.2.2)] → W p l e rm_X12_findSignatures s m args below meth c H locs 0 0 Q (F0 m 73 ls [])) (Exit := fun v : (Nat → Int32) × (Nat → Int32) × (Nat → Int32) × (Nat → Int32) => ∀ (H : Heap) (locs : List Loc) (ls : Array Slot), St A D s (RW_X12_findSignatures cy o d letters_ tests_ inputLength_ at_ signed_ newParts_ machineParts_ firstParts_ firstTruth_ secondTruth_ isPair_ states_ stateClasses_ elements_ cursor_ hasSnapshot_ isSaving_ v.1 v.2.1 v.2.2.1 v.2.2.2 held_) H locs → lv_has ls 4 [(0, .ref o), (2, .int x2)] → W p l e rm_X12_findSignatures s m args below meth c H locs 0 0 Q (F0 m 105 ls [])) (fun v o9 hb1 K1 => wb_X12_findSignatures_73 o d kind_ bound_ patternLength_ pattern_ letters_ tests_ inputLength_ at_ signed_ newParts_ machineParts_ firstParts_ firstTruth_ secondTruth_ isPair_ states_ stateClasses_ elements_ cursor_ hasSnapshot_ isSaving_ held_ x1 x2 v.1 v.2.1 v.2.2.1 v.2.2.2.1 v.2.2.2.2 o9 X hb1 K1) n v x h K
def b_X12_findSignatures_40 (letters_ : Int32) (x1 : Int32) (signed_ : Int32) (x3 : Int32) : Option ((Int32 × Int32) ⊕ (Int32)) :=
  if x1 ≤ x3 then
  (some (.inr signed_))
  else
  (some (.inl ((signed_ * letters_), (x3 + (1 : Int32)))))
set_option maxHeartbeats 4000000 in
set_option maxRecDepth 100000 in
theorem wb_X12_findSignatures_40 {p : Program} {l : Launch} {e : Env} {s : State} {m : MethodId} {args : Array Value} {below : List Frame} {meth : Method} {c : Code} {A : Nat → Prop} {Q : State → Prop} {D : va_G} {cy : Nat → ClassId} (o : Nat) (d : Nat → Nat) (kind_ : Nat → Int32) (bound_ : Nat → Int32) (patternLength_ : Nat → Int32) (pattern_ : Nat → Int32) (letters_ : Int32) (tests_ : Int32) (inputLength_ : Int32) (at_ : Int32) (newParts_ : Int32) (machineParts_ : Int32) (firstParts_ : Int32) (firstTruth_ : Int32) (secondTruth_ : Int32) (isPair_ : Int32) (states_ : Int32) (stateClasses_ : Int32) (elements_ : Int32) (cursor_ : Int32) (hasSnapshot_ : Int32) (isSaving_ : Int32) (wordLength_ : Nat → Int32) (word_ : Nat → Int32) (prefixes_ : Nat → Int32) (signatures_ : Nat → Int32) (held_ : Nat → Int32) (x1 : Int32) (x2 : Int32) (signed_ : Int32) (x3 : Int32) (o1 : (Int32 × Int32) ⊕ (Int32)) (X : Cx p m c cX12_findSignatures 4 s args wsX12_findSignatures RX12 A D cy (RO_X12_findSignatures cy o d kind_ bound_ patternLength_ pattern_)) (h : b_X12_findSignatures_40 letters_ x1 signed_ x3 = some o1) (K : Sum.elim (fun v : Int32 × Int32 => ∀ (H : Heap) (locs : List Loc) (ls : Array Slot), St A D s (RW_X12_findSignatures cy o d letters_ tests_ inputLength_ at_ v.1 newParts_ machineParts_ firstParts_ firstTruth_ secondTruth_ isPair_ states_ stateClasses_ elements_ cursor_ hasSnapshot_ isSaving_ wordLength_ word_ prefixes_ signatures_ held_) H locs → lv_has ls 4 [(0, .ref o), (1, .int x1), (2, .int x2), (3, .int v.2)] → W p l e rm_X12_findSignatures s m args below meth c H locs 0 0 Q (F0 m 40 ls [])) (fun v : Int32 => ∀ (H : Heap) (locs : List Loc) (ls : Array Slot), St A D s (RW_X12_findSignatures cy o d letters_ tests_ inputLength_ at_ v newParts_ machineParts_ firstParts_ firstTruth_ secondTruth_ isPair_ states_ stateClasses_ elements_ cursor_ hasSnapshot_ isSaving_ wordLength_ word_ prefixes_ signatures_ held_) H locs → lv_has ls 4 [(0, .ref o), (1, .int x1), (2, .int x2)] → W p l e rm_X12_findSignatures s m args below meth c H locs 0 0 Q (F0 m 64 ls [])) o1) : ∀ (H : Heap) (locs : List Loc) (ls : Array Slot), St A D s (RW_X12_findSignatures cy o d letters_ tests_ inputLength_ at_ signed_ newParts_ machineParts_ firstParts_ firstTruth_ secondTruth_ isPair_ states_ stateClasses_ elements_ cursor_ hasSnapshot_ isSaving_ wordLength_ word_ prefixes_ signatures_ held_) H locs → lv_has ls 4 [(0, .ref o), (1, .int x1), (2, .int x2), (3, .int x3)] → W p l e rm_X12_findSignatures s m args below meth c H locs 0 0 Q (F0 m 40 ls []) := by
  intro H locs ls Z hl
  have hx := X.1.1
  have hb := X.1.2.1
  unfold b_X12_findSignatures_40 at h
  refine lv_iload_n hx hb dX12_findSignatures_40 rfl (lv_at hl 3 rfl) ?_
  refine lv_iload_n hx hb dX12_findSignatures_41 rfl (lv_at hl 1 rfl) ?_
  refine lv_icmp_ge (tgt := 64) hx hb dX12_findSignatures_42 (by decide) (fun cnd => ?_) (fun cnd => ?_)
  · replace h := ifp h cnd
    obtain rfl := Option.some.inj h
    exact (sk_r K) H locs ls Z (lv_sub hl [0, 1, 2] rfl)
  · replace h := ifn h cnd
    refine lv_aload_n hx hb dX12_findSignatures_45 rfl (lv_at hl 0 rfl) ?_
    refine lv_dup hx hb dX12_findSignatures_46 rfl ?_
    refine x_get X Z 0 15 (v := .int signed_) rfl rfl lk_X12_findSignatures_X12_signed dX12_findSignatures_47 ?_
    refine lv_aload_n hx hb dX12_findSignatures_50 rfl (lv_at hl 0 rfl) ?_
    refine x_get X Z 0 0 (v := .int letters_) rfl rfl lk_X12_findSignatures_X12_letters dX12_findSignatures_51 ?_
    refine lv_imul hx hb dX12_findSignatures_54 ?_
    refine x_put X Z 0 15 (RW_X12_findSignatures cy o d letters_ tests_ inputLength_ at_ (signed_ * letters_) newParts_ machineParts_ firstParts_ firstTruth_ secondTruth_ isPair_ states_ stateClasses_ elements_ cursor_ hasSnapshot_ isSaving_ wordLength_ word_ prefixes_ signatures_ held_) rfl lp_X12_findSignatures_X12_signed (Nat.le_of_ble_eq_true rfl) rfl dX12_findSignatures_55 (fun H locs Z => ?_)
    refine lv_iinc (v := (x3 + (1 : Int32))) (lv' := [(3, .int (x3 + (1 : Int32))), (0, .ref o), (1, .int x1), (2, .int x2)]) hx hb dX12_findSignatures_58 hl (k := 3) rfl rfl (by decide) rfl (fun ls hl => ?_)
    refine lv_goto (tgt := 40) hx hb dX12_findSignatures_61 (by decide) ?_
    obtain rfl := Option.some.inj h
    exact sk_l K H locs ls Z (lv_sub hl [1, 2, 3, 0] rfl)
set_option maxHeartbeats 4000000 in
set_option maxRecDepth 100000 in
theorem wl_X12_findSignatures_40 {p : Program} {l : Launch} {e : Env} {s : State} {m : MethodId} {args : Array Value} {below : List Frame} {meth : Method} {c : Code} {A : Nat → Prop} {Q : State → Prop} {D : va_G} {cy : Nat → ClassId} (o : Nat) (d : Nat → Nat) (kind_ : Nat → Int32) (bound_ : Nat → Int32) (patternLength_ : Nat → Int32) (pattern_ : Nat → Int32) (letters_ : Int32) (tests_ : Int32) (inputLength_ : Int32) (at_ : Int32) (newParts_ : Int32) (machineParts_ : Int32) (firstParts_ : Int32) (firstTruth_ : Int32) (secondTruth_ : Int32) (isPair_ : Int32) (states_ : Int32) (stateClasses_ : Int32) (elements_ : Int32) (cursor_ : Int32) (hasSnapshot_ : Int32) (isSaving_ : Int32) (wordLength_ : Nat → Int32) (word_ : Nat → Int32) (prefixes_ : Nat → Int32) (signatures_ : Nat → Int32) (held_ : Nat → Int32) (x1 : Int32) (x2 : Int32) (n : Nat) (v : Int32 × Int32) (x : Int32) (X : Cx p m c cX12_findSignatures 4 s args wsX12_findSignatures RX12 A D cy (RO_X12_findSignatures cy o d kind_ bound_ patternLength_ pattern_)) (h : loopN (fun v => b_X12_findSignatures_40 letters_ x1 v.1 v.2) n v = some x) (K : ∀ (H : Heap) (locs : List Loc) (ls : Array Slot), St A D s (RW_X12_findSignatures cy o d letters_ tests_ inputLength_ at_ x newParts_ machineParts_ firstParts_ firstTruth_ secondTruth_ isPair_ states_ stateClasses_ elements_ cursor_ hasSnapshot_ isSaving_ wordLength_ word_ prefixes_ signatures_ held_) H locs → lv_has ls 4 [(0, .ref o), (1, .int x1), (2, .int x2)] → W p l e rm_X12_findSignatures s m args below meth c H locs 0 0 Q (F0 m 64 ls [])) : ∀ (H : Heap) (locs : List Loc) (ls : Array Slot), St A D s (RW_X12_findSignatures cy o d letters_ tests_ inputLength_ at_ v.1 newParts_ machineParts_ firstParts_ firstTruth_ secondTruth_ isPair_ states_ stateClasses_ elements_ cursor_ hasSnapshot_ isSaving_ wordLength_ word_ prefixes_ signatures_ held_) H locs → lv_has ls 4 [(0, .ref o), (1, .int x1), (2, .int x2), (3, .int v.2)] → W p l e rm_X12_findSignatures s m args below meth c H locs 0 0 Q (F0 m 40 ls []) :=
  loop_gen (B := (fun v => b_X12_findSignatures_40 letters_ x1 v.1 v.2)) (Head := fun v : Int32 × Int32 => ∀ (H : Heap) (locs : List Loc) (ls : Array Slot), St A D s (RW_X12_findSignatures cy o d letters_ tests_ inputLength_ at_ v.1 newParts_ machineParts_ firstParts_ firstTruth_ secondTruth_ isPair_ states_ stateClasses_ elements_ cursor_ hasSnapshot_ isSaving_ wordLength_ word_ prefixes_ signatures_ held_) H locs → lv_has ls 4 [(0, .ref o), (1, .int x1), (2, .int x2), (3, .int v.2)] → W p l e rm_X12_findSignatures s m args below meth c H locs 0 0 Q (F0 m 40 ls [])) (Exit := fun v : Int32 => ∀ (H : Heap) (locs : List Loc) (ls : Array Slot), St A D s (RW_X12_findSignatures cy o d letters_ tests_ inputLength_ at_ v newParts_ machineParts_ firstParts_ firstTruth_ secondTruth_ isPair_ states_ stateClasses_ elements_ cursor_ hasSnapshot_ isSaving_ wordLength_ word_ prefixes_ signatures_ held_) H locs → lv_has ls 4 [(0, .ref o), (1, .int x1), (2, .int x2)] → W p l e rm_X12_findSignatures s m args below meth c H locs 0 0 Q (F0 m 64 ls [])) (fun v o9 hb1 K1 => wb_X12_findSignatures_40 o d kind_ bound_ patternLength_ pattern_ letters_ tests_ inputLength_ at_ newParts_ machineParts_ firstParts_ firstTruth_ secondTruth_ isPair_ states_ stateClasses_ elements_ cursor_ hasSnapshot_ isSaving_ wordLength_ word_ prefixes_ signatures_ held_ x1 x2 v.1 v.2 o9 X hb1 K1) n v x h K
def b_X12_findSignatures_9 (word_ : Nat → Int32) (held_ : Nat → Int32) (x3 : Int32) : Option (((Nat → Int32) × Int32) ⊕ ((Nat → Int32))) :=
  if (12 : Int32) ≤ x3 then
  (some (.inr held_))
  else
  (ldA word_ 36 x3 (fun v15 =>
  stA held_ 12 x3 v15 (fun held_18 =>
  some (.inl (held_18, (x3 + (1 : Int32)))))))
set_option maxHeartbeats 4000000 in
set_option maxRecDepth 100000 in
theorem wb_X12_findSignatures_9 {p : Program} {l : Launch} {e : Env} {s : State} {m : MethodId} {args : Array Value} {below : List Frame} {meth : Method} {c : Code} {A : Nat → Prop} {Q : State → Prop} {D : va_G} {cy : Nat → ClassId} (o : Nat) (d : Nat → Nat) (kind_ : Nat → Int32) (bound_ : Nat → Int32) (patternLength_ : Nat → Int32) (pattern_ : Nat → Int32) (letters_ : Int32) (tests_ : Int32) (inputLength_ : Int32) (at_ : Int32) (signed_ : Int32) (newParts_ : Int32) (machineParts_ : Int32) (firstParts_ : Int32) (firstTruth_ : Int32) (secondTruth_ : Int32) (isPair_ : Int32) (states_ : Int32) (stateClasses_ : Int32) (elements_ : Int32) (cursor_ : Int32) (hasSnapshot_ : Int32) (isSaving_ : Int32) (wordLength_ : Nat → Int32) (word_ : Nat → Int32) (prefixes_ : Nat → Int32) (signatures_ : Nat → Int32) (x1 : Int32) (x2 : Int32) (held_ : Nat → Int32) (x3 : Int32) (o1 : ((Nat → Int32) × Int32) ⊕ ((Nat → Int32))) (X : Cx p m c cX12_findSignatures 4 s args wsX12_findSignatures RX12 A D cy (RO_X12_findSignatures cy o d kind_ bound_ patternLength_ pattern_)) (h : b_X12_findSignatures_9 word_ held_ x3 = some o1) (K : Sum.elim (fun v : (Nat → Int32) × Int32 => ∀ (H : Heap) (locs : List Loc) (ls : Array Slot), St A D s (RW_X12_findSignatures cy o d letters_ tests_ inputLength_ at_ signed_ newParts_ machineParts_ firstParts_ firstTruth_ secondTruth_ isPair_ states_ stateClasses_ elements_ cursor_ hasSnapshot_ isSaving_ wordLength_ word_ prefixes_ signatures_ v.1) H locs → lv_has ls 4 [(0, .ref o), (1, .int x1), (2, .int x2), (3, .int v.2)] → W p l e rm_X12_findSignatures s m args below meth c H locs 0 0 Q (F0 m 9 ls [])) (fun v : (Nat → Int32) => ∀ (H : Heap) (locs : List Loc) (ls : Array Slot), St A D s (RW_X12_findSignatures cy o d letters_ tests_ inputLength_ at_ signed_ newParts_ machineParts_ firstParts_ firstTruth_ secondTruth_ isPair_ states_ stateClasses_ elements_ cursor_ hasSnapshot_ isSaving_ wordLength_ word_ prefixes_ signatures_ v) H locs → lv_has ls 4 [(0, .ref o), (1, .int x1), (2, .int x2)] → W p l e rm_X12_findSignatures s m args below meth c H locs 0 0 Q (F0 m 33 ls [])) o1) : ∀ (H : Heap) (locs : List Loc) (ls : Array Slot), St A D s (RW_X12_findSignatures cy o d letters_ tests_ inputLength_ at_ signed_ newParts_ machineParts_ firstParts_ firstTruth_ secondTruth_ isPair_ states_ stateClasses_ elements_ cursor_ hasSnapshot_ isSaving_ wordLength_ word_ prefixes_ signatures_ held_) H locs → lv_has ls 4 [(0, .ref o), (1, .int x1), (2, .int x2), (3, .int x3)] → W p l e rm_X12_findSignatures s m args below meth c H locs 0 0 Q (F0 m 9 ls []) := by
  intro H locs ls Z hl
  have hx := X.1.1
  have hb := X.1.2.1
  unfold b_X12_findSignatures_9 at h
  refine lv_iload_n hx hb dX12_findSignatures_9 rfl (lv_at hl 3 rfl) ?_
  refine lv_bipush (v := (12 : Int32)) hx hb dX12_findSignatures_10 (by decide) ?_
  refine lv_icmp_ge (tgt := 33) hx hb dX12_findSignatures_12 (by decide) (fun cnd => ?_) (fun cnd => ?_)
  · replace h := ifp h cnd
    obtain rfl := Option.some.inj h
    exact (sk_r K) H locs ls Z (lv_sub hl [0, 1, 2] rfl)
  · replace h := ifn h cnd
    refine lv_aload_n hx hb dX12_findSignatures_15 rfl (lv_at hl 0 rfl) ?_
    refine x_get X Z 0 14 (v := .ref (d 14)) rfl rfl lk_X12_findSignatures_X12_held dX12_findSignatures_16 ?_
    refine lv_iload_n hx hb dX12_findSignatures_19 rfl (lv_at hl 3 rfl) ?_
    refine lv_aload_n hx hb dX12_findSignatures_20 rfl (lv_at hl 0 rfl) ?_
    refine x_get X Z 0 2 (v := .ref (d 2)) rfl rfl lk_X12_findSignatures_X12_word dX12_findSignatures_21 ?_
    refine lv_iload_n hx hb dX12_findSignatures_24 rfl (lv_at hl 3 rfl) ?_
    obtain ⟨hin14, v15, hv16, h⟩ := ld_b h
    refine x_iald X Z 2 rfl hin14 hv16 dX12_findSignatures_25 ?_
    obtain ⟨hin17, held_18, hv19, h⟩ := st_b h
    refine x_iast X Z 5 (RW_X12_findSignatures cy o d letters_ tests_ inputLength_ at_ signed_ newParts_ machineParts_ firstParts_ firstTruth_ secondTruth_ isPair_ states_ stateClasses_ elements_ cursor_ hasSnapshot_ isSaving_ wordLength_ word_ prefixes_ signatures_ held_18) rfl hin17 hv19 rfl dX12_findSignatures_26 (fun H locs Z => ?_)
    refine lv_iinc (v := (x3 + (1 : Int32))) (lv' := [(3, .int (x3 + (1 : Int32))), (0, .ref o), (1, .int x1), (2, .int x2)]) hx hb dX12_findSignatures_27 hl (k := 3) rfl rfl (by decide) rfl (fun ls hl => ?_)
    refine lv_goto (tgt := 9) hx hb dX12_findSignatures_30 (by decide) ?_
    obtain rfl := Option.some.inj h
    exact sk_l K H locs ls Z (lv_sub hl [1, 2, 3, 0] rfl)
set_option maxHeartbeats 4000000 in
set_option maxRecDepth 100000 in
theorem wl_X12_findSignatures_9 {p : Program} {l : Launch} {e : Env} {s : State} {m : MethodId} {args : Array Value} {below : List Frame} {meth : Method} {c : Code} {A : Nat → Prop} {Q : State → Prop} {D : va_G} {cy : Nat → ClassId} (o : Nat) (d : Nat → Nat) (kind_ : Nat → Int32) (bound_ : Nat → Int32) (patternLength_ : Nat → Int32) (pattern_ : Nat → Int32) (letters_ : Int32) (tests_ : Int32) (inputLength_ : Int32) (at_ : Int32) (signed_ : Int32) (newParts_ : Int32) (machineParts_ : Int32) (firstParts_ : Int32) (firstTruth_ : Int32) (secondTruth_ : Int32) (isPair_ : Int32) (states_ : Int32) (stateClasses_ : Int32) (elements_ : Int32) (cursor_ : Int32) (hasSnapshot_ : Int32) (isSaving_ : Int32) (wordLength_ : Nat → Int32) (word_ : Nat → Int32) (prefixes_ : Nat → Int32) (signatures_ : Nat → Int32) (x1 : Int32) (x2 : Int32) (n : Nat) (v : (Nat → Int32) × Int32) (x : (Nat → Int32)) (X : Cx p m c cX12_findSignatures 4 s args wsX12_findSignatures RX12 A D cy (RO_X12_findSignatures cy o d kind_ bound_ patternLength_ pattern_)) (h : loopN (fun v => b_X12_findSignatures_9 word_ v.1 v.2) n v = some x) (K : ∀ (H : Heap) (locs : List Loc) (ls : Array Slot), St A D s (RW_X12_findSignatures cy o d letters_ tests_ inputLength_ at_ signed_ newParts_ machineParts_ firstParts_ firstTruth_ secondTruth_ isPair_ states_ stateClasses_ elements_ cursor_ hasSnapshot_ isSaving_ wordLength_ word_ prefixes_ signatures_ x) H locs → lv_has ls 4 [(0, .ref o), (1, .int x1), (2, .int x2)] → W p l e rm_X12_findSignatures s m args below meth c H locs 0 0 Q (F0 m 33 ls [])) : ∀ (H : Heap) (locs : List Loc) (ls : Array Slot), St A D s (RW_X12_findSignatures cy o d letters_ tests_ inputLength_ at_ signed_ newParts_ machineParts_ firstParts_ firstTruth_ secondTruth_ isPair_ states_ stateClasses_ elements_ cursor_ hasSnapshot_ isSaving_ wordLength_ word_ prefixes_ signatures_ v.1) H locs → lv_has ls 4 [(0, .ref o), (1, .int x1), (2, .int x2), (3, .int v.2)] → W p l e rm_X12_findSignatures s m args below meth c H locs 0 0 Q (F0 m 9 ls []) :=
  loop_gen (B := (fun v => b_X12_findSignatures_9 word_ v.1 v.2)) (Head := fun v : (Nat → Int32) × Int32 => ∀ (H : Heap) (locs : List Loc) (ls : Array Slot), St A D s (RW_X12_findSignatures cy o d letters_ tests_ inputLength_ at_ signed_ newParts_ machineParts_ firstParts_ firstTruth_ secondTruth_ isPair_ states_ stateClasses_ elements_ cursor_ hasSnapshot_ isSaving_ wordLength_ word_ prefixes_ signatures_ v.1) H locs → lv_has ls 4 [(0, .ref o), (1, .int x1), (2, .int x2), (3, .int v.2)] → W p l e rm_X12_findSignatures s m args below meth c H locs 0 0 Q (F0 m 9 ls [])) (Exit := fun v : (Nat → Int32) => ∀ (H : Heap) (locs : List Loc) (ls : Array Slot), St A D s (RW_X12_findSignatures cy o d letters_ tests_ inputLength_ at_ signed_ newParts_ machineParts_ firstParts_ firstTruth_ secondTruth_ isPair_ states_ stateClasses_ elements_ cursor_ hasSnapshot_ isSaving_ wordLength_ word_ prefixes_ signatures_ v) H locs → lv_has ls 4 [(0, .ref o), (1, .int x1), (2, .int x2)] → W p l e rm_X12_findSignatures s m args below meth c H locs 0 0 Q (F0 m 33 ls [])) (fun v o9 hb1 K1 => wb_X12_findSignatures_9 o d kind_ bound_ patternLength_ pattern_ letters_ tests_ inputLength_ at_ signed_ newParts_ machineParts_ firstParts_ firstTruth_ secondTruth_ isPair_ states_ stateClasses_ elements_ cursor_ hasSnapshot_ isSaving_ wordLength_ word_ prefixes_ signatures_ x1 x2 v.1 v.2 o9 X hb1 K1) n v x h K
def f_X12_findSignatures (x1 : Int32) (kind_ : Nat → Int32) (bound_ : Nat → Int32) (patternLength_ : Nat → Int32) (pattern_ : Nat → Int32) (letters_ : Int32) (tests_ : Int32) (signed_ : Int32) (wordLength_ : Nat → Int32) (word_ : Nat → Int32) (prefixes_ : Nat → Int32) (signatures_ : Nat → Int32) (held_ : Nat → Int32) : Option (Int32 × (Nat → Int32) × (Nat → Int32) × (Nat → Int32) × (Nat → Int32) × (Nat → Int32)) :=
  ldA wordLength_ 3 (0 : Int32) (fun v21 =>
  (loopN (fun v => b_X12_findSignatures_9 word_ v.1 v.2) FU (held_, (0 : Int32))).bind (fun u23 =>
  (loopN (fun v => b_X12_findSignatures_40 letters_ x1 v.1 v.2) FU ((1 : Int32), (0 : Int32))).bind (fun u25 =>
  stA wordLength_ 3 (0 : Int32) x1 (fun wordLength_28 =>
  (loopN (fun v => b_X12_findSignatures_73 kind_ bound_ patternLength_ pattern_ letters_ tests_ u25 x1 v.1 v.2.1 v.2.2.1 v.2.2.2.1 v.2.2.2.2) FU (wordLength_28, word_, prefixes_, signatures_, (0 : Int32))).bind (fun u30 =>
  stA u30.1 3 (0 : Int32) v21 (fun wordLength_33 =>
  (loopN (fun v => b_X12_findSignatures_114 u23 v.1 v.2) FU (u30.2.1, (0 : Int32))).bind (fun u35 =>
  some (u25, wordLength_33, u35, u30.2.2.1, u30.2.2.2, u23))))))))
set_option maxHeartbeats 4000000 in
set_option maxRecDepth 100000 in
theorem wt_X12_findSignatures {p : Program} {l : Launch} {e : Env} {s : State} {m : MethodId} {args : Array Value} {below : List Frame} {meth : Method} {c : Code} {A : Nat → Prop} {Q : State → Prop} {D : va_G} {cy : Nat → ClassId} (o : Nat) (d : Nat → Nat) (kind_ : Nat → Int32) (bound_ : Nat → Int32) (patternLength_ : Nat → Int32) (pattern_ : Nat → Int32) (letters_ : Int32) (tests_ : Int32) (inputLength_ : Int32) (at_ : Int32) (signed_ : Int32) (newParts_ : Int32) (machineParts_ : Int32) (firstParts_ : Int32) (firstTruth_ : Int32) (secondTruth_ : Int32) (isPair_ : Int32) (states_ : Int32) (stateClasses_ : Int32) (elements_ : Int32) (cursor_ : Int32) (hasSnapshot_ : Int32) (isSaving_ : Int32) (wordLength_ : Nat → Int32) (word_ : Nat → Int32) (prefixes_ : Nat → Int32) (signatures_ : Nat → Int32) (held_ : Nat → Int32) (x1 : Int32) (out : Int32 × (Nat → Int32) × (Nat → Int32) × (Nat → Int32) × (Nat → Int32) × (Nat → Int32)) (X : Cx p m c cX12_findSignatures 4 s args wsX12_findSignatures RX12 A D cy (RO_X12_findSignatures cy o d kind_ bound_ patternLength_ pattern_)) (h : f_X12_findSignatures x1 kind_ bound_ patternLength_ pattern_ letters_ tests_ signed_ wordLength_ word_ prefixes_ signatures_ held_ = some out) (K : ∀ (H : Heap) (locs : List Loc) (ls : Array Slot) (pc : Nat), decode cX12_findSignatures pc = .ok (.return_, 1) → St A D s (RW_X12_findSignatures cy o d letters_ tests_ inputLength_ at_ out.1 newParts_ machineParts_ firstParts_ firstTruth_ secondTruth_ isPair_ states_ stateClasses_ elements_ cursor_ hasSnapshot_ isSaving_ out.2.1 out.2.2.1 out.2.2.2.1 out.2.2.2.2.1 out.2.2.2.2.2) H locs → W p l e rm_X12_findSignatures s m args below meth c H locs 0 0 Q (F0 m pc ls [])) : ∀ (H : Heap) (locs : List Loc) (ls : Array Slot), St A D s (RW_X12_findSignatures cy o d letters_ tests_ inputLength_ at_ signed_ newParts_ machineParts_ firstParts_ firstTruth_ secondTruth_ isPair_ states_ stateClasses_ elements_ cursor_ hasSnapshot_ isSaving_ wordLength_ word_ prefixes_ signatures_ held_) H locs → lv_has ls 4 [(0, .ref o), (1, .int x1)] → W p l e rm_X12_findSignatures s m args below meth c H locs 0 0 Q (F0 m 0 ls []) := by
  intro H locs ls Z hl
  have hx := X.1.1
  have hb := X.1.2.1
  unfold f_X12_findSignatures at h
  refine lv_aload_n hx hb dX12_findSignatures_0 rfl (lv_at hl 0 rfl) ?_
  refine x_get X Z 0 1 (v := .ref (d 1)) rfl rfl lk_X12_findSignatures_X12_wordLength dX12_findSignatures_1 ?_
  refine lv_iconst (v := (0 : Int32)) hx hb dX12_findSignatures_4 (by decide) ?_
  obtain ⟨hin20, v21, hv22, h⟩ := ld_b h
  refine x_iald X Z 1 rfl hin20 hv22 dX12_findSignatures_5 ?_
  refine lv_istore_n (lv' := [(2, .int v21), (0, .ref o), (1, .int x1)]) hx hb dX12_findSignatures_6 rfl hl (by decide) rfl (fun ls hl => ?_)
  refine lv_iconst (v := (0 : Int32)) hx hb dX12_findSignatures_7 (by decide) ?_
  refine lv_istore_n (lv' := [(3, .int (0 : Int32)), (2, .int v21), (0, .ref o), (1, .int x1)]) hx hb dX12_findSignatures_8 rfl hl (by decide) rfl (fun ls hl => ?_)
  obtain ⟨u23, hL24, h⟩ := ob_some h
  refine wl_X12_findSignatures_9 o d kind_ bound_ patternLength_ pattern_ letters_ tests_ inputLength_ at_ signed_ newParts_ machineParts_ firstParts_ firstTruth_ secondTruth_ isPair_ states_ stateClasses_ elements_ cursor_ hasSnapshot_ isSaving_ wordLength_ word_ prefixes_ signatures_ x1 v21 FU (held_, (0 : Int32)) u23 X hL24 (fun H locs ls Z hl => ?_) H locs ls Z (lv_sub hl [2, 3, 1, 0] rfl)
  refine lv_aload_n hx hb dX12_findSignatures_33 rfl (lv_at hl 0 rfl) ?_
  refine lv_iconst (v := (1 : Int32)) hx hb dX12_findSignatures_34 (by decide) ?_
  refine x_put X Z 0 15 (RW_X12_findSignatures cy o d letters_ tests_ inputLength_ at_ (1 : Int32) newParts_ machineParts_ firstParts_ firstTruth_ secondTruth_ isPair_ states_ stateClasses_ elements_ cursor_ hasSnapshot_ isSaving_ wordLength_ word_ prefixes_ signatures_ u23) rfl lp_X12_findSignatures_X12_signed (Nat.le_of_ble_eq_true rfl) rfl dX12_findSignatures_35 (fun H locs Z => ?_)
  refine lv_iconst (v := (0 : Int32)) hx hb dX12_findSignatures_38 (by decide) ?_
  refine lv_istore_n (lv' := [(3, .int (0 : Int32)), (0, .ref o), (1, .int x1), (2, .int v21)]) hx hb dX12_findSignatures_39 rfl hl (by decide) rfl (fun ls hl => ?_)
  obtain ⟨u25, hL26, h⟩ := ob_some h
  refine wl_X12_findSignatures_40 o d kind_ bound_ patternLength_ pattern_ letters_ tests_ inputLength_ at_ newParts_ machineParts_ firstParts_ firstTruth_ secondTruth_ isPair_ states_ stateClasses_ elements_ cursor_ hasSnapshot_ isSaving_ wordLength_ word_ prefixes_ signatures_ u23 x1 v21 FU ((1 : Int32), (0 : Int32)) u25 X hL26 (fun H locs ls Z hl => ?_) H locs ls Z (lv_sub hl [1, 2, 3, 0] rfl)
  refine lv_aload_n hx hb dX12_findSignatures_64 rfl (lv_at hl 0 rfl) ?_
  refine x_get X Z 0 1 (v := .ref (d 1)) rfl rfl lk_X12_findSignatures_X12_wordLength dX12_findSignatures_65 ?_
  refine lv_iconst (v := (0 : Int32)) hx hb dX12_findSignatures_68 (by decide) ?_
  refine lv_iload_n hx hb dX12_findSignatures_69 rfl (lv_at hl 1 rfl) ?_
  obtain ⟨hin27, wordLength_28, hv29, h⟩ := st_b h
  refine x_iast X Z 1 (RW_X12_findSignatures cy o d letters_ tests_ inputLength_ at_ u25 newParts_ machineParts_ firstParts_ firstTruth_ secondTruth_ isPair_ states_ stateClasses_ elements_ cursor_ hasSnapshot_ isSaving_ wordLength_28 word_ prefixes_ signatures_ u23) rfl hin27 hv29 rfl dX12_findSignatures_70 (fun H locs Z => ?_)
  refine lv_iconst (v := (0 : Int32)) hx hb dX12_findSignatures_71 (by decide) ?_
  refine lv_istore_n (lv' := [(3, .int (0 : Int32)), (0, .ref o), (1, .int x1), (2, .int v21)]) hx hb dX12_findSignatures_72 rfl hl (by decide) rfl (fun ls hl => ?_)
  obtain ⟨u30, hL31, h⟩ := ob_some h
  refine wl_X12_findSignatures_73 o d kind_ bound_ patternLength_ pattern_ letters_ tests_ inputLength_ at_ u25 newParts_ machineParts_ firstParts_ firstTruth_ secondTruth_ isPair_ states_ stateClasses_ elements_ cursor_ hasSnapshot_ isSaving_ u23 x1 v21 FU (wordLength_28, word_, prefixes_, signatures_, (0 : Int32)) u30 X hL31 (fun H locs ls Z hl => ?_) H locs ls Z (lv_sub hl [1, 2, 3, 0] rfl)
  refine lv_aload_n hx hb dX12_findSignatures_105 rfl (lv_at hl 0 rfl) ?_
  refine x_get X Z 0 1 (v := .ref (d 1)) rfl rfl lk_X12_findSignatures_X12_wordLength dX12_findSignatures_106 ?_
  refine lv_iconst (v := (0 : Int32)) hx hb dX12_findSignatures_109 (by decide) ?_
  refine lv_iload_n hx hb dX12_findSignatures_110 rfl (lv_at hl 1 rfl) ?_
  obtain ⟨hin32, wordLength_33, hv34, h⟩ := st_b h
  refine x_iast X Z 1 (RW_X12_findSignatures cy o d letters_ tests_ inputLength_ at_ u25 newParts_ machineParts_ firstParts_ firstTruth_ secondTruth_ isPair_ states_ stateClasses_ elements_ cursor_ hasSnapshot_ isSaving_ wordLength_33 u30.2.1 u30.2.2.1 u30.2.2.2 u23) rfl hin32 hv34 rfl dX12_findSignatures_111 (fun H locs Z => ?_)
  refine lv_iconst (v := (0 : Int32)) hx hb dX12_findSignatures_112 (by decide) ?_
  refine lv_istore_n (lv' := [(3, .int (0 : Int32)), (0, .ref o), (2, .int v21)]) hx hb dX12_findSignatures_113 rfl hl (by decide) rfl (fun ls hl => ?_)
  obtain ⟨u35, hL36, h⟩ := ob_some h
  refine wl_X12_findSignatures_114 o d kind_ bound_ patternLength_ pattern_ letters_ tests_ inputLength_ at_ u25 newParts_ machineParts_ firstParts_ firstTruth_ secondTruth_ isPair_ states_ stateClasses_ elements_ cursor_ hasSnapshot_ isSaving_ wordLength_33 u30.2.2.1 u30.2.2.2 u23 FU (u30.2.1, (0 : Int32)) u35 X hL36 (fun H locs ls Z hl => ?_) H locs ls Z (lv_sub hl [1, 0] rfl)
  obtain rfl := Option.some.inj h
  exact K H locs ls _ dX12_findSignatures_138 Z
theorem c_X12_findSignatures (l : Launch) (D : va_G) (cy : Nat → ClassId) (o : Nat) (d : Nat → Nat) (kind_ : Nat → Int32) (bound_ : Nat → Int32) (patternLength_ : Nat → Int32) (pattern_ : Nat → Int32) (letters_ : Int32) (tests_ : Int32) (inputLength_ : Int32) (at_ : Int32) (signed_ : Int32) (newParts_ : Int32) (machineParts_ : Int32) (firstParts_ : Int32) (firstTruth_ : Int32) (secondTruth_ : Int32) (isPair_ : Int32) (states_ : Int32) (stateClasses_ : Int32) (elements_ : Int32) (cursor_ : Int32) (hasSnapshot_ : Int32) (isSaving_ : Int32) (wordLength_ : Nat → Int32) (word_ : Nat → Int32) (prefixes_ : Nat → Int32) (signatures_ : Nat → Int32) (held_ : Nat → Int32) (x1 : Int32) (out : Int32 × (Nat → Int32) × (Nat → Int32) × (Nat → Int32) × (Nat → Int32) × (Nat → Int32)) (h : f_X12_findSignatures x1 kind_ bound_ patternLength_ pattern_ letters_ tests_ signed_ wordLength_ word_ prefixes_ signatures_ held_ = some out) : CtV l yX12_findSignatures wsX12_findSignatures rm_X12_findSignatures D cy [.ref o, .int x1] (RW_X12_findSignatures cy o d letters_ tests_ inputLength_ at_ signed_ newParts_ machineParts_ firstParts_ firstTruth_ secondTruth_ isPair_ states_ stateClasses_ elements_ cursor_ hasSnapshot_ isSaving_ wordLength_ word_ prefixes_ signatures_ held_) (RO_X12_findSignatures cy o d kind_ bound_ patternLength_ pattern_) (RW_X12_findSignatures cy o d letters_ tests_ inputLength_ at_ out.1 newParts_ machineParts_ firstParts_ firstTruth_ secondTruth_ isPair_ states_ stateClasses_ elements_ cursor_ hasSnapshot_ isSaving_ out.2.1 out.2.2.1 out.2.2.2.1 out.2.2.2.2.1 out.2.2.2.2.2) :=
  mk_v (by decide) rfl (Nat.le_of_ble_eq_true rfl) (fun p e s m args below meth c A Q X K H locs ls Z hl => wt_X12_findSignatures o d kind_ bound_ patternLength_ pattern_ letters_ tests_ inputLength_ at_ signed_ newParts_ machineParts_ firstParts_ firstTruth_ secondTruth_ isPair_ states_ stateClasses_ elements_ cursor_ hasSnapshot_ isSaving_ wordLength_ word_ prefixes_ signatures_ held_ x1 out X h K H locs ls Z hl)
/-! SubwordCounterModel classes (I)I -/
abbrev rm_X12_classes : Room := { frames := 5, cells := 0, slots := 0, locals := 121 }
def RW_X12_classes (cy : Nat → ClassId) (o : Nat) (d : Nat → Nat) (letters_ : Int32) (tests_ : Int32) (inputLength_ : Int32) (at_ : Int32) (signed_ : Int32) (newParts_ : Int32) (machineParts_ : Int32) (firstParts_ : Int32) (firstTruth_ : Int32) (secondTruth_ : Int32) (isPair_ : Int32) (states_ : Int32) (stateClasses_ : Int32) (elements_ : Int32) (cursor_ : Int32) (hasSnapshot_ : Int32) (isSaving_ : Int32) (wordLength_ : Nat → Int32) (word_ : Nat → Int32) (prefixes_ : Nat → Int32) (signatures_ : Nat → Int32) (held_ : Nat → Int32) : va_W := [(o, ob 11 (oX12 d letters_ tests_ inputLength_ at_ signed_ newParts_ machineParts_ firstParts_ firstTruth_ secondTruth_ isPair_ states_ stateClasses_ elements_ cursor_ hasSnapshot_ isSaving_)), ((d 1), aI cy 3 wordLength_), ((d 2), aI cy 36 word_), ((d 3), aI cy 13 prefixes_), ((d 13), aI cy 2187 signatures_), ((d 14), aI cy 12 held_)]
def RO_X12_classes (cy : Nat → ClassId) (o : Nat) (d : Nat → Nat) (kind_ : Nat → Int32) (bound_ : Nat → Int32) (patternLength_ : Nat → Int32) (pattern_ : Nat → Int32) : va_W := [((d 5), aI cy 6 kind_), ((d 6), aI cy 6 bound_), ((d 7), aI cy 6 patternLength_), ((d 8), aI cy 24 pattern_)]
theorem in_X12_classes_X12 : ∀ w ∈ u_ws RX12 TX12 68, w ∈ wsX12_classes := fun w h => (List.mem_cons_of_mem _ (List.mem_append_right _ h))
theorem lk_X12_classes_X12_signatures : Lk wsX12_classes RX12 41 11 13 := ⟨RX12, TX12, 68, rfl, by decide, in_X12_classes_X12, mem_at 2 rfl⟩
theorem lk_X12_classes_X12_signed : Lk wsX12_classes RX12 216 11 15 := ⟨RX12, TX12, 68, rfl, by decide, in_X12_classes_X12, mem_at 1 rfl⟩
def b_X12_classes_35 (signatures_ : Nat → Int32) (x3 : Int32)  (x4 : Int32) (x5 : Int32) : Option ((Int32 × Int32) ⊕ (Int32)) :=
  if x3 ≤ x5 then
  (some (.inr x4))
  else
  (if x4 = 0 then
  (some (.inr x4))
  else
  (ldA signatures_ 2187 x5 (fun v2 =>
  ldA signatures_ 2187 x3 (fun v5 =>
  if v2 = v5 then
  (some (.inl ((0 : Int32), (x5 + (1 : Int32)))))
  else
  (some (.inl ((1 : Int32), (x5 + (1 : Int32)))))))))
set_option maxHeartbeats 4000000 in
set_option maxRecDepth 100000 in
theorem wb_X12_classes_35 {p : Program} {l : Launch} {e : Env} {s : State} {m : MethodId} {args : Array Value} {below : List Frame} {meth : Method} {c : Code} {A : Nat → Prop} {Q : State → Prop} {D : va_G} {cy : Nat → ClassId} (o : Nat) (d : Nat → Nat) (kind_ : Nat → Int32) (bound_ : Nat → Int32) (patternLength_ : Nat → Int32) (pattern_ : Nat → Int32) (letters_ : Int32) (tests_ : Int32) (inputLength_ : Int32) (at_ : Int32) (signed_ : Int32) (newParts_ : Int32) (machineParts_ : Int32) (firstParts_ : Int32) (firstTruth_ : Int32) (secondTruth_ : Int32) (isPair_ : Int32) (states_ : Int32) (stateClasses_ : Int32) (elements_ : Int32) (cursor_ : Int32) (hasSnapshot_ : Int32) (isSaving_ : Int32) (wordLength_ : Nat → Int32) (word_ : Nat → Int32) (prefixes_ : Nat → Int32) (signatures_ : Nat → Int32) (held_ : Nat → Int32) (x2 : Int32) (x3 : Int32)  (x4 : Int32) (x5 : Int32) (o1 : (Int32 × Int32) ⊕ (Int32)) (X : Cx p m c cX12_classes 6 s args wsX12_classes RX12 A D cy (RO_X12_classes cy o d kind_ bound_ patternLength_ pattern_)) (h : b_X12_classes_35 signatures_ x3 x4 x5 = some o1) (K : Sum.elim (fun v : Int32 × Int32 => ∀ (H : Heap) (locs : List Loc) (ls : Array Slot), St A D s (RW_X12_classes cy o d letters_ tests_ inputLength_ at_ signed_ newParts_ machineParts_ firstParts_ firstTruth_ secondTruth_ isPair_ states_ stateClasses_ elements_ cursor_ hasSnapshot_ isSaving_ wordLength_ word_ prefixes_ signatures_ held_) H locs → lv_has ls 6 [(0, .ref o), (2, .int x2), (3, .int x3), (4, .int v.1), (5, .int v.2)] → W p l e rm_X12_classes s m args below meth c H locs 0 0 Q (F0 m 35 ls [])) (fun v : Int32 => ∀ (H : Heap) (locs : List Loc) (ls : Array Slot), St A D s (RW_X12_classes cy o d letters_ tests_ inputLength_ at_ signed_ newParts_ machineParts_ firstParts_ firstTruth_ secondTruth_ isPair_ states_ stateClasses_ elements_ cursor_ hasSnapshot_ isSaving_ wordLength_ word_ prefixes_ signatures_ held_) H locs → lv_has ls 6 [(0, .ref o), (2, .int x2), (3, .int x3), (4, .int v)] → W p l e rm_X12_classes s m args below meth c H locs 0 0 Q (F0 m 75 ls [])) o1) : ∀ (H : Heap) (locs : List Loc) (ls : Array Slot), St A D s (RW_X12_classes cy o d letters_ tests_ inputLength_ at_ signed_ newParts_ machineParts_ firstParts_ firstTruth_ secondTruth_ isPair_ states_ stateClasses_ elements_ cursor_ hasSnapshot_ isSaving_ wordLength_ word_ prefixes_ signatures_ held_) H locs → lv_has ls 6 [(0, .ref o), (2, .int x2), (3, .int x3), (4, .int x4), (5, .int x5)] → W p l e rm_X12_classes s m args below meth c H locs 0 0 Q (F0 m 35 ls []) := by
  intro H locs ls Z hl
  have hx := X.1.1
  have hb := X.1.2.1
  unfold b_X12_classes_35 at h
  refine lv_iload hx hb dX12_classes_35 (lv_at hl 4 rfl) ?_
  refine lv_iload_n hx hb dX12_classes_37 rfl (lv_at hl 2 rfl) ?_
  refine lv_icmp_ge (tgt := 75) hx hb dX12_classes_38 (by decide) (fun cnd => ?_) (fun cnd => ?_)
  · replace h := ifp h cnd
    obtain rfl := Option.some.inj h
    exact (sk_r K) H locs ls Z (lv_sub hl [0, 1, 2, 3] rfl)
  · replace h := ifn h cnd
    refine lv_iload hx hb dX12_classes_41 (lv_at hl 3 rfl) ?_
    refine lv_if_eq (tgt := 75) hx hb dX12_classes_43 (by decide) (fun cnd => ?_) (fun cnd => ?_)
    · replace h := ifp h cnd
      obtain rfl := Option.some.inj h
      exact (sk_r K) H locs ls Z (lv_sub hl [0, 1, 2, 3] rfl)
    · replace h := ifn h cnd
      refine lv_aload_n hx hb dX12_classes_46 rfl (lv_at hl 0 rfl) ?_
      refine x_get X Z 0 13 (v := .ref (d 13)) rfl rfl lk_X12_classes_X12_signatures dX12_classes_47 ?_
      refine lv_iload hx hb dX12_classes_50 (lv_at hl 4 rfl) ?_
      obtain ⟨hin1, v2, hv3, h⟩ := ld_b h
      refine x_iald X Z 4 rfl hin1 hv3 dX12_classes_52 ?_
      refine lv_aload_n hx hb dX12_classes_53 rfl (lv_at hl 0 rfl) ?_
      refine x_get X Z 0 13 (v := .ref (d 13)) rfl rfl lk_X12_classes_X12_signatures dX12_classes_54 ?_
      refine lv_iload_n hx hb dX12_classes_57 rfl (lv_at hl 2 rfl) ?_
      obtain ⟨hin4, v5, hv6, h⟩ := ld_b h
      refine x_iald X Z 4 rfl hin4 hv6 dX12_classes_58 ?_
      refine lv_icmp_eq (tgt := 66) hx hb dX12_classes_59 (by decide) (fun cnd => ?_) (fun cnd => ?_)
      · replace h := ifp h cnd
        refine lv_iconst (v := (0 : Int32)) hx hb dX12_classes_66 (by decide) ?_
        refine lv_istore (lv' := [(4, .int (0 : Int32)), (0, .ref o), (2, .int x2), (3, .int x3), (5, .int x5)]) hx hb dX12_classes_67 hl (by decide) rfl (fun ls hl => ?_)
        refine lv_iinc (v := (x5 + (1 : Int32))) (lv' := [(5, .int (x5 + (1 : Int32))), (4, .int (0 : Int32)), (0, .ref o), (2, .int x2), (3, .int x3)]) hx hb dX12_classes_69 hl (k := 4) rfl rfl (by decide) rfl (fun ls hl => ?_)
        refine lv_goto (tgt := 35) hx hb dX12_classes_72 (by decide) ?_
        obtain rfl := Option.some.inj h
        exact sk_l K H locs ls Z (lv_sub hl [2, 3, 4, 1, 0] rfl)
      · replace h := ifn h cnd
        refine lv_iconst (v := (1 : Int32)) hx hb dX12_classes_62 (by decide) ?_
        refine lv_goto (tgt := 67) hx hb dX12_classes_63 (by decide) ?_
        refine lv_istore (lv' := [(4, .int (1 : Int32)), (0, .ref o), (2, .int x2), (3, .int x3), (5, .int x5)]) hx hb dX12_classes_67 hl (by decide) rfl (fun ls hl => ?_)
        refine lv_iinc (v := (x5 + (1 : Int32))) (lv' := [(5, .int (x5 + (1 : Int32))), (4, .int (1 : Int32)), (0, .ref o), (2, .int x2), (3, .int x3)]) hx hb dX12_classes_69 hl (k := 4) rfl rfl (by decide) rfl (fun ls hl => ?_)
        refine lv_goto (tgt := 35) hx hb dX12_classes_72 (by decide) ?_
        obtain rfl := Option.some.inj h
        exact sk_l K H locs ls Z (lv_sub hl [2, 3, 4, 1, 0] rfl)
set_option maxHeartbeats 4000000 in
set_option maxRecDepth 100000 in
theorem wl_X12_classes_35 {p : Program} {l : Launch} {e : Env} {s : State} {m : MethodId} {args : Array Value} {below : List Frame} {meth : Method} {c : Code} {A : Nat → Prop} {Q : State → Prop} {D : va_G} {cy : Nat → ClassId} (o : Nat) (d : Nat → Nat) (kind_ : Nat → Int32) (bound_ : Nat → Int32) (patternLength_ : Nat → Int32) (pattern_ : Nat → Int32) (letters_ : Int32) (tests_ : Int32) (inputLength_ : Int32) (at_ : Int32) (signed_ : Int32) (newParts_ : Int32) (machineParts_ : Int32) (firstParts_ : Int32) (firstTruth_ : Int32) (secondTruth_ : Int32) (isPair_ : Int32) (states_ : Int32) (stateClasses_ : Int32) (elements_ : Int32) (cursor_ : Int32) (hasSnapshot_ : Int32) (isSaving_ : Int32) (wordLength_ : Nat → Int32) (word_ : Nat → Int32) (prefixes_ : Nat → Int32) (signatures_ : Nat → Int32) (held_ : Nat → Int32) (x2 : Int32) (x3 : Int32) (n : Nat) (v : Int32 × Int32) (x : Int32) (X : Cx p m c cX12_classes 6 s args wsX12_classes RX12 A D cy (RO_X12_classes cy o d kind_ bound_ patternLength_ pattern_)) (h : loopN (fun v => b_X12_classes_35 signatures_ x3 v.1 v.2) n v = some x) (K : ∀ (H : Heap) (locs : List Loc) (ls : Array Slot), St A D s (RW_X12_classes cy o d letters_ tests_ inputLength_ at_ signed_ newParts_ machineParts_ firstParts_ firstTruth_ secondTruth_ isPair_ states_ stateClasses_ elements_ cursor_ hasSnapshot_ isSaving_ wordLength_ word_ prefixes_ signatures_ held_) H locs → lv_has ls 6 [(0, .ref o), (2, .int x2), (3, .int x3), (4, .int x)] → W p l e rm_X12_classes s m args below meth c H locs 0 0 Q (F0 m 75 ls [])) : ∀ (H : Heap) (locs : List Loc) (ls : Array Slot), St A D s (RW_X12_classes cy o d letters_ tests_ inputLength_ at_ signed_ newParts_ machineParts_ firstParts_ firstTruth_ secondTruth_ isPair_ states_ stateClasses_ elements_ cursor_ hasSnapshot_ isSaving_ wordLength_ word_ prefixes_ signatures_ held_) H locs → lv_has ls 6 [(0, .ref o), (2, .int x2), (3, .int x3), (4, .int v.1), (5, .int v.2)] → W p l e rm_X12_classes s m args below meth c H locs 0 0 Q (F0 m 35 ls []) :=
  loop_gen (B := (fun v => b_X12_classes_35 signatures_ x3 v.1 v.2)) (Head := fun v : Int32 × Int32 => ∀ (H : Heap) (locs : List Loc) (ls : Array Slot), St A D s (RW_X12_classes cy o d letters_ tests_ inputLength_ at_ signed_ newParts_ machineParts_ firstParts_ firstTruth_ secondTruth_ isPair_ states_ stateClasses_ elements_ cursor_ hasSnapshot_ isSaving_ wordLength_ word_ prefixes_ signatures_ held_) H locs → lv_has ls 6 [(0, .ref o), (2, .int x2), (3, .int x3), (4, .int v.1), (5, .int v.2)] → W p l e rm_X12_classes s m args below meth c H locs 0 0 Q (F0 m 35 ls [])) (Exit := fun v : Int32 => ∀ (H : Heap) (locs : List Loc) (ls : Array Slot), St A D s (RW_X12_classes cy o d letters_ tests_ inputLength_ at_ signed_ newParts_ machineParts_ firstParts_ firstTruth_ secondTruth_ isPair_ states_ stateClasses_ elements_ cursor_ hasSnapshot_ isSaving_ wordLength_ word_ prefixes_ signatures_ held_) H locs → lv_has ls 6 [(0, .ref o), (2, .int x2), (3, .int x3), (4, .int v)] → W p l e rm_X12_classes s m args below meth c H locs 0 0 Q (F0 m 75 ls [])) (fun v o9 hb1 K1 => wb_X12_classes_35 o d kind_ bound_ patternLength_ pattern_ letters_ tests_ inputLength_ at_ signed_ newParts_ machineParts_ firstParts_ firstTruth_ secondTruth_ isPair_ states_ stateClasses_ elements_ cursor_ hasSnapshot_ isSaving_ wordLength_ word_ prefixes_ signatures_ held_ x2 x3 v.1 v.2 o9 X hb1 K1) n v x h K
def b_X12_classes_21 (signed_ : Int32) (signatures_ : Nat → Int32)  (x2 : Int32) (x3 : Int32) : Option ((Int32 × Int32) ⊕ (Int32)) :=
  if signed_ ≤ x3 then
  (some (.inr x2))
  else
  ((loopN (fun v => b_X12_classes_35 signatures_ x3 v.1 v.2) FU ((1 : Int32), (0 : Int32))).bind (fun u7 =>
  if u7 = 0 then
  (some (.inl ((x2 + (0 : Int32)), (x3 + (1 : Int32)))))
  else
  (some (.inl ((x2 + (1 : Int32)), (x3 + (1 : Int32)))))))
set_option maxHeartbeats 4000000 in
set_option maxRecDepth 100000 in
theorem wb_X12_classes_21 {p : Program} {l : Launch} {e : Env} {s : State} {m : MethodId} {args : Array Value} {below : List Frame} {meth : Method} {c : Code} {A : Nat → Prop} {Q : State → Prop} {D : va_G} {cy : Nat → ClassId} (o : Nat) (d : Nat → Nat) (kind_ : Nat → Int32) (bound_ : Nat → Int32) (patternLength_ : Nat → Int32) (pattern_ : Nat → Int32) (letters_ : Int32) (tests_ : Int32) (inputLength_ : Int32) (at_ : Int32) (signed_ : Int32) (newParts_ : Int32) (machineParts_ : Int32) (firstParts_ : Int32) (firstTruth_ : Int32) (secondTruth_ : Int32) (isPair_ : Int32) (states_ : Int32) (stateClasses_ : Int32) (elements_ : Int32) (cursor_ : Int32) (hasSnapshot_ : Int32) (isSaving_ : Int32) (wordLength_ : Nat → Int32) (word_ : Nat → Int32) (prefixes_ : Nat → Int32) (signatures_ : Nat → Int32) (held_ : Nat → Int32)  (x2 : Int32) (x3 : Int32) (o1 : (Int32 × Int32) ⊕ (Int32)) (X : Cx p m c cX12_classes 6 s args wsX12_classes RX12 A D cy (RO_X12_classes cy o d kind_ bound_ patternLength_ pattern_)) (h : b_X12_classes_21 signed_ signatures_ x2 x3 = some o1) (K : Sum.elim (fun v : Int32 × Int32 => ∀ (H : Heap) (locs : List Loc) (ls : Array Slot), St A D s (RW_X12_classes cy o d letters_ tests_ inputLength_ at_ signed_ newParts_ machineParts_ firstParts_ firstTruth_ secondTruth_ isPair_ states_ stateClasses_ elements_ cursor_ hasSnapshot_ isSaving_ wordLength_ word_ prefixes_ signatures_ held_) H locs → lv_has ls 6 [(0, .ref o), (2, .int v.1), (3, .int v.2)] → W p l e rm_X12_classes s m args below meth c H locs 0 0 Q (F0 m 21 ls [])) (fun v : Int32 => ∀ (H : Heap) (locs : List Loc) (ls : Array Slot), St A D s (RW_X12_classes cy o d letters_ tests_ inputLength_ at_ signed_ newParts_ machineParts_ firstParts_ firstTruth_ secondTruth_ isPair_ states_ stateClasses_ elements_ cursor_ hasSnapshot_ isSaving_ wordLength_ word_ prefixes_ signatures_ held_) H locs → lv_has ls 6 [(2, .int v)] → W p l e rm_X12_classes s m args below meth c H locs 0 0 Q (F0 m 94 ls [])) o1) : ∀ (H : Heap) (locs : List Loc) (ls : Array Slot), St A D s (RW_X12_classes cy o d letters_ tests_ inputLength_ at_ signed_ newParts_ machineParts_ firstParts_ firstTruth_ secondTruth_ isPair_ states_ stateClasses_ elements_ cursor_ hasSnapshot_ isSaving_ wordLength_ word_ prefixes_ signatures_ held_) H locs → lv_has ls 6 [(0, .ref o), (2, .int x2), (3, .int x3)] → W p l e rm_X12_classes s m args below meth c H locs 0 0 Q (F0 m 21 ls []) := by
  intro H locs ls Z hl
  have hx := X.1.1
  have hb := X.1.2.1
  unfold b_X12_classes_21 at h
  refine lv_iload_n hx hb dX12_classes_21 rfl (lv_at hl 2 rfl) ?_
  refine lv_aload_n hx hb dX12_classes_22 rfl (lv_at hl 0 rfl) ?_
  refine x_get X Z 0 15 (v := .int signed_) rfl rfl lk_X12_classes_X12_signed dX12_classes_23 ?_
  refine lv_icmp_ge (tgt := 94) hx hb dX12_classes_26 (by decide) (fun cnd => ?_) (fun cnd => ?_)
  · replace h := ifp h cnd
    obtain rfl := Option.some.inj h
    exact (sk_r K) H locs ls Z (lv_sub hl [1] rfl)
  · replace h := ifn h cnd
    refine lv_iconst (v := (1 : Int32)) hx hb dX12_classes_29 (by decide) ?_
    refine lv_istore (lv' := [(4, .int (1 : Int32)), (0, .ref o), (2, .int x2), (3, .int x3)]) hx hb dX12_classes_30 hl (by decide) rfl (fun ls hl => ?_)
    refine lv_iconst (v := (0 : Int32)) hx hb dX12_classes_32 (by decide) ?_
    refine lv_istore (lv' := [(5, .int (0 : Int32)), (4, .int (1 : Int32)), (0, .ref o), (2, .int x2), (3, .int x3)]) hx hb dX12_classes_33 hl (by decide) rfl (fun ls hl => ?_)
    obtain ⟨u7, hL8, h⟩ := ob_some h
    refine wl_X12_classes_35 o d kind_ bound_ patternLength_ pattern_ letters_ tests_ inputLength_ at_ signed_ newParts_ machineParts_ firstParts_ firstTruth_ secondTruth_ isPair_ states_ stateClasses_ elements_ cursor_ hasSnapshot_ isSaving_ wordLength_ word_ prefixes_ signatures_ held_ x2 x3 FU ((1 : Int32), (0 : Int32)) u7 X hL8 (fun H locs ls Z hl => ?_) H locs ls Z (lv_sub hl [2, 3, 4, 1, 0] rfl)
    refine lv_iload_n hx hb dX12_classes_75 rfl (lv_at hl 1 rfl) ?_
    refine lv_iload hx hb dX12_classes_76 (lv_at hl 3 rfl) ?_
    refine lv_if_eq (tgt := 85) hx hb dX12_classes_78 (by decide) (fun cnd => ?_) (fun cnd => ?_)
    · replace h := ifp h cnd
      refine lv_iconst (v := (0 : Int32)) hx hb dX12_classes_85 (by decide) ?_
      refine lv_iadd hx hb dX12_classes_86 ?_
      refine lv_istore_n (lv' := [(2, .int (x2 + (0 : Int32))), (0, .ref o), (3, .int x3), (4, .int u7)]) hx hb dX12_classes_87 rfl hl (by decide) rfl (fun ls hl => ?_)
      refine lv_iinc (v := (x3 + (1 : Int32))) (lv' := [(3, .int (x3 + (1 : Int32))), (2, .int (x2 + (0 : Int32))), (0, .ref o), (4, .int u7)]) hx hb dX12_classes_88 hl (k := 2) rfl rfl (by decide) rfl (fun ls hl => ?_)
      refine lv_goto (tgt := 21) hx hb dX12_classes_91 (by decide) ?_
      obtain rfl := Option.some.inj h
      exact sk_l K H locs ls Z (lv_sub hl [2, 1, 0] rfl)
    · replace h := ifn h cnd
      refine lv_iconst (v := (1 : Int32)) hx hb dX12_classes_81 (by decide) ?_
      refine lv_goto (tgt := 86) hx hb dX12_classes_82 (by decide) ?_
      refine lv_iadd hx hb dX12_classes_86 ?_
      refine lv_istore_n (lv' := [(2, .int (x2 + (1 : Int32))), (0, .ref o), (3, .int x3), (4, .int u7)]) hx hb dX12_classes_87 rfl hl (by decide) rfl (fun ls hl => ?_)
      refine lv_iinc (v := (x3 + (1 : Int32))) (lv' := [(3, .int (x3 + (1 : Int32))), (2, .int (x2 + (1 : Int32))), (0, .ref o), (4, .int u7)]) hx hb dX12_classes_88 hl (k := 2) rfl rfl (by decide) rfl (fun ls hl => ?_)
      refine lv_goto (tgt := 21) hx hb dX12_classes_91 (by decide) ?_
      obtain rfl := Option.some.inj h
      exact sk_l K H locs ls Z (lv_sub hl [2, 1, 0] rfl)
set_option maxHeartbeats 4000000 in
set_option maxRecDepth 100000 in
theorem wl_X12_classes_21 {p : Program} {l : Launch} {e : Env} {s : State} {m : MethodId} {args : Array Value} {below : List Frame} {meth : Method} {c : Code} {A : Nat → Prop} {Q : State → Prop} {D : va_G} {cy : Nat → ClassId} (o : Nat) (d : Nat → Nat) (kind_ : Nat → Int32) (bound_ : Nat → Int32) (patternLength_ : Nat → Int32) (pattern_ : Nat → Int32) (letters_ : Int32) (tests_ : Int32) (inputLength_ : Int32) (at_ : Int32) (signed_ : Int32) (newParts_ : Int32) (machineParts_ : Int32) (firstParts_ : Int32) (firstTruth_ : Int32) (secondTruth_ : Int32) (isPair_ : Int32) (states_ : Int32) (stateClasses_ : Int32) (elements_ : Int32) (cursor_ : Int32) (hasSnapshot_ : Int32) (isSaving_ : Int32) (wordLength_ : Nat → Int32) (word_ : Nat → Int32) (prefixes_ : Nat → Int32) (signatures_ : Nat → Int32) (held_ : Nat → Int32) (n : Nat) (v : Int32 × Int32) (x : Int32) (X : Cx p m c cX12_classes 6 s args wsX12_classes RX12 A D cy (RO_X12_classes cy o d kind_ bound_ patternLength_ pattern_)) (h : loopN (fun v => b_X12_classes_21 signed_ signatures_ v.1 v.2) n v = some x) (K : ∀ (H : Heap) (locs : List Loc) (ls : Array Slot), St A D s (RW_X12_classes cy o d letters_ tests_ inputLength_ at_ signed_ newParts_ machineParts_ firstParts_ firstTruth_ secondTruth_ isPair_ states_ stateClasses_ elements_ cursor_ hasSnapshot_ isSaving_ wordLength_ word_ prefixes_ signatures_ held_) H locs → lv_has ls 6 [(2, .int x)] → W p l e rm_X12_classes s m args below meth c H locs 0 0 Q (F0 m 94 ls [])) : ∀ (H : Heap) (locs : List Loc) (ls : Array Slot), St A D s (RW_X12_classes cy o d letters_ tests_ inputLength_ at_ signed_ newParts_ machineParts_ firstParts_ firstTruth_ secondTruth_ isPair_ states_ stateClasses_ elements_ cursor_ hasSnapshot_ isSaving_ wordLength_ word_ prefixes_ signatures_ held_) H locs → lv_has ls 6 [(0, .ref o), (2, .int v.1), (3, .int v.2)] → W p l e rm_X12_classes s m args below meth c H locs 0 0 Q (F0 m 21 ls []) :=
  loop_gen (B := (fun v => b_X12_classes_21 signed_ signatures_ v.1 v.2)) (Head := fun v : Int32 × Int32 => ∀ (H : Heap) (locs : List Loc) (ls : Array Slot), St A D s (RW_X12_classes cy o d letters_ tests_ inputLength_ at_ signed_ newParts_ machineParts_ firstParts_ firstTruth_ secondTruth_ isPair_ states_ stateClasses_ elements_ cursor_ hasSnapshot_ isSaving_ wordLength_ word_ prefixes_ signatures_ held_) H locs → lv_has ls 6 [(0, .ref o), (2, .int v.1), (3, .int v.2)] → W p l e rm_X12_classes s m args below meth c H locs 0 0 Q (F0 m 21 ls [])) (Exit := fun v : Int32 => ∀ (H : Heap) (locs : List Loc) (ls : Array Slot), St A D s (RW_X12_classes cy o d letters_ tests_ inputLength_ at_ signed_ newParts_ machineParts_ firstParts_ firstTruth_ secondTruth_ isPair_ states_ stateClasses_ elements_ cursor_ hasSnapshot_ isSaving_ wordLength_ word_ prefixes_ signatures_ held_) H locs → lv_has ls 6 [(2, .int v)] → W p l e rm_X12_classes s m args below meth c H locs 0 0 Q (F0 m 94 ls [])) (fun v o9 hb1 K1 => wb_X12_classes_21 o d kind_ bound_ patternLength_ pattern_ letters_ tests_ inputLength_ at_ signed_ newParts_ machineParts_ firstParts_ firstTruth_ secondTruth_ isPair_ states_ stateClasses_ elements_ cursor_ hasSnapshot_ isSaving_ wordLength_ word_ prefixes_ signatures_ held_ v.1 v.2 o9 X hb1 K1) n v x h K
def f_X12_classes (x1 : Int32) (kind_ : Nat → Int32) (bound_ : Nat → Int32) (patternLength_ : Nat → Int32) (pattern_ : Nat → Int32) (letters_ : Int32) (tests_ : Int32) (signed_ : Int32) (wordLength_ : Nat → Int32) (word_ : Nat → Int32) (prefixes_ : Nat → Int32) (signatures_ : Nat → Int32) (held_ : Nat → Int32) : Option (Int32 × Int32 × (Nat → Int32) × (Nat → Int32) × (Nat → Int32) × (Nat → Int32) × (Nat → Int32)) :=
  (f_X12_isBetween x1 (0 : Int32) (7 : Int32)).bind (fun u9 =>
  if u9 = 0 then
  (some ((-1 : Int32), signed_, wordLength_, word_, prefixes_, signatures_, held_))
  else
  ((f_X12_findSignatures x1 kind_ bound_ patternLength_ pattern_ letters_ tests_ signed_ wordLength_ word_ prefixes_ signatures_ held_).bind (fun u11 =>
  (loopN (fun v => b_X12_classes_21 u11.1 u11.2.2.2.2.1 v.1 v.2) FU ((0 : Int32), (0 : Int32))).bind (fun u13 =>
  some (u13, u11.1, u11.2.1, u11.2.2.1, u11.2.2.2.1, u11.2.2.2.2.1, u11.2.2.2.2.2)))))
set_option maxHeartbeats 4000000 in
set_option maxRecDepth 100000 in
theorem wt_X12_classes {p : Program} {l : Launch} {e : Env} {s : State} {m : MethodId} {args : Array Value} {below : List Frame} {meth : Method} {c : Code} {A : Nat → Prop} {Q : State → Prop} {D : va_G} {cy : Nat → ClassId} (o : Nat) (d : Nat → Nat) (kind_ : Nat → Int32) (bound_ : Nat → Int32) (patternLength_ : Nat → Int32) (pattern_ : Nat → Int32) (letters_ : Int32) (tests_ : Int32) (inputLength_ : Int32) (at_ : Int32) (signed_ : Int32) (newParts_ : Int32) (machineParts_ : Int32) (firstParts_ : Int32) (firstTruth_ : Int32) (secondTruth_ : Int32) (isPair_ : Int32) (states_ : Int32) (stateClasses_ : Int32) (elements_ : Int32) (cursor_ : Int32) (hasSnapshot_ : Int32) (isSaving_ : Int32) (wordLength_ : Nat → Int32) (word_ : Nat → Int32) (prefixes_ : Nat → Int32) (signatures_ : Nat → Int32) (held_ : Nat → Int32) (x1 : Int32) (out : Int32 × Int32 × (Nat → Int32) × (Nat → Int32) × (Nat → Int32) × (Nat → Int32) × (Nat → Int32)) (X : Cx p m c cX12_classes 6 s args wsX12_classes RX12 A D cy (RO_X12_classes cy o d kind_ bound_ patternLength_ pattern_)) (h : f_X12_classes x1 kind_ bound_ patternLength_ pattern_ letters_ tests_ signed_ wordLength_ word_ prefixes_ signatures_ held_ = some out) (K : ∀ (H : Heap) (locs : List Loc) (ls : Array Slot) (pc : Nat), decode cX12_classes pc = .ok (.ireturn, 1) → St A D s (RW_X12_classes cy o d letters_ tests_ inputLength_ at_ out.2.1 newParts_ machineParts_ firstParts_ firstTruth_ secondTruth_ isPair_ states_ stateClasses_ elements_ cursor_ hasSnapshot_ isSaving_ out.2.2.1 out.2.2.2.1 out.2.2.2.2.1 out.2.2.2.2.2.1 out.2.2.2.2.2.2) H locs → W p l e rm_X12_classes s m args below meth c H locs 0 0 Q (F0 m pc ls [.int out.1])) : ∀ (H : Heap) (locs : List Loc) (ls : Array Slot), St A D s (RW_X12_classes cy o d letters_ tests_ inputLength_ at_ signed_ newParts_ machineParts_ firstParts_ firstTruth_ secondTruth_ isPair_ states_ stateClasses_ elements_ cursor_ hasSnapshot_ isSaving_ wordLength_ word_ prefixes_ signatures_ held_) H locs → lv_has ls 6 [(0, .ref o), (1, .int x1)] → W p l e rm_X12_classes s m args below meth c H locs 0 0 Q (F0 m 0 ls []) := by
  intro H locs ls Z hl
  have hx := X.1.1
  have hb := X.1.2.1
  unfold f_X12_classes at h
  refine lv_iload_n hx hb dX12_classes_0 rfl (lv_at hl 1 rfl) ?_
  refine lv_iconst (v := (0 : Int32)) hx hb dX12_classes_1 (by decide) ?_
  refine lv_bipush (v := (7 : Int32)) hx hb dX12_classes_2 (by decide) ?_
  obtain ⟨u9, hc10, h⟩ := ob_some h
  refine x_runSi (RW' := (RW_X12_classes cy o d letters_ tests_ inputLength_ at_ signed_ newParts_ machineParts_ firstParts_ firstTruth_ secondTruth_ isPair_ states_ stateClasses_ elements_ cursor_ hasSnapshot_ isSaving_ wordLength_ word_ prefixes_ signatures_ held_)) (wr := [(o, ob 11 (oX12 d letters_ tests_ inputLength_ at_ signed_ newParts_ machineParts_ firstParts_ firstTruth_ secondTruth_ isPair_ states_ stateClasses_ elements_ cursor_ hasSnapshot_ isSaving_)), ((d 1), aI cy 3 wordLength_), ((d 2), aI cy 36 word_), ((d 3), aI cy 13 prefixes_), ((d 13), aI cy 2187 signatures_), ((d 14), aI cy 12 held_)]) (isC := []) (isR := [0, 1, 2, 3, 4, 5]) (isF := [0, 1, 2, 3, 4, 5]) (rest := []) (As := [.int x1, .int (0 : Int32), .int (7 : Int32)]) (n := 3) X Z (c_X12_isBetween l D cy x1 (0 : Int32) (7 : Int32) u9 hc10) gX12_classes_X12_isBetween rfl (by decide +kernel) ⟨Nat.le_of_ble_eq_true rfl, Nat.le_of_ble_eq_true rfl⟩ ⟨rfl, rfl⟩ ⟨Nat.le_of_ble_eq_true rfl, Nat.le_of_ble_eq_true rfl⟩ ⟨rfl, rfl, roN, rfl, rfl, by decide⟩ ⟨rfl, rfl⟩ rfl hl.1 rfl (Nat.le_of_ble_eq_true rfl) dX12_classes_4 (fun H locs Z => ?_)
  refine lv_if_ne (tgt := 12) hx hb dX12_classes_7 (by decide) (fun cnd => ?_) (fun cnd => ?_)
  · replace h := ifn h cnd
    refine lv_aload_n hx hb dX12_classes_12 rfl (lv_at hl 0 rfl) ?_
    refine lv_iload_n hx hb dX12_classes_13 rfl (lv_at hl 1 rfl) ?_
    obtain ⟨u11, hc12, h⟩ := ob_some h
    refine x_runVv (RW' := (RW_X12_classes cy o d letters_ tests_ inputLength_ at_ u11.1 newParts_ machineParts_ firstParts_ firstTruth_ secondTruth_ isPair_ states_ stateClasses_ elements_ cursor_ hasSnapshot_ isSaving_ u11.2.1 u11.2.2.1 u11.2.2.2.1 u11.2.2.2.2.1 u11.2.2.2.2.2)) (wr := []) (isC := [0, 1, 2, 3, 4, 5]) (isR := []) (isF := [0, 1, 2, 3, 4, 5]) (rest := []) (As := [.int x1]) (n := 1) X Z (c_X12_findSignatures l D cy o d kind_ bound_ patternLength_ pattern_ letters_ tests_ inputLength_ at_ signed_ newParts_ machineParts_ firstParts_ firstTruth_ secondTruth_ isPair_ states_ stateClasses_ elements_ cursor_ hasSnapshot_ isSaving_ wordLength_ word_ prefixes_ signatures_ held_ x1 u11 hc12) gX12_classes_X12_findSignatures rfl (by decide +kernel) ⟨Nat.le_of_ble_eq_true rfl, Nat.le_of_ble_eq_true rfl⟩ ⟨rfl, rfl⟩ ⟨Nat.le_of_ble_eq_true rfl, Nat.le_of_ble_eq_true rfl⟩ (x_rv X Z 0 rfl rfl) ⟨rfl, rfl, (roC (Or.inr (mem_at 0 rfl)) (roC (Or.inr (mem_at 1 rfl)) (roC (Or.inr (mem_at 2 rfl)) (roC (Or.inr (mem_at 3 rfl)) roN)))), rfl, rfl, by decide⟩ ⟨rfl, rfl⟩ rfl hl.1 rfl (Nat.le_of_ble_eq_true rfl) dX12_classes_14 (fun H locs Z => ?_)
    refine lv_iconst (v := (0 : Int32)) hx hb dX12_classes_17 (by decide) ?_
    refine lv_istore_n (lv' := [(2, .int (0 : Int32)), (0, .ref o), (1, .int x1)]) hx hb dX12_classes_18 rfl hl (by decide) rfl (fun ls hl => ?_)
    refine lv_iconst (v := (0 : Int32)) hx hb dX12_classes_19 (by decide) ?_
    refine lv_istore_n (lv' := [(3, .int (0 : Int32)), (2, .int (0 : Int32)), (0, .ref o), (1, .int x1)]) hx hb dX12_classes_20 rfl hl (by decide) rfl (fun ls hl => ?_)
    obtain ⟨u13, hL14, h⟩ := ob_some h
    refine wl_X12_classes_21 o d kind_ bound_ patternLength_ pattern_ letters_ tests_ inputLength_ at_ u11.1 newParts_ machineParts_ firstParts_ firstTruth_ secondTruth_ isPair_ states_ stateClasses_ elements_ cursor_ hasSnapshot_ isSaving_ u11.2.1 u11.2.2.1 u11.2.2.2.1 u11.2.2.2.2.1 u11.2.2.2.2.2 FU ((0 : Int32), (0 : Int32)) u13 X hL14 (fun H locs ls Z hl => ?_) H locs ls Z (lv_sub hl [2, 1, 0] rfl)
    refine lv_iload_n hx hb dX12_classes_94 rfl (lv_at hl 0 rfl) ?_
    obtain rfl := Option.some.inj h
    exact K H locs ls _ dX12_classes_95 Z
  · replace h := ifp h cnd
    refine lv_iconst (v := (-1 : Int32)) hx hb dX12_classes_10 (by decide) ?_
    obtain rfl := Option.some.inj h
    exact K H locs ls _ dX12_classes_11 Z
theorem c_X12_classes (l : Launch) (D : va_G) (cy : Nat → ClassId) (o : Nat) (d : Nat → Nat) (kind_ : Nat → Int32) (bound_ : Nat → Int32) (patternLength_ : Nat → Int32) (pattern_ : Nat → Int32) (letters_ : Int32) (tests_ : Int32) (inputLength_ : Int32) (at_ : Int32) (signed_ : Int32) (newParts_ : Int32) (machineParts_ : Int32) (firstParts_ : Int32) (firstTruth_ : Int32) (secondTruth_ : Int32) (isPair_ : Int32) (states_ : Int32) (stateClasses_ : Int32) (elements_ : Int32) (cursor_ : Int32) (hasSnapshot_ : Int32) (isSaving_ : Int32) (wordLength_ : Nat → Int32) (word_ : Nat → Int32) (prefixes_ : Nat → Int32) (signatures_ : Nat → Int32) (held_ : Nat → Int32) (x1 : Int32) (out : Int32 × Int32 × (Nat → Int32) × (Nat → Int32) × (Nat → Int32) × (Nat → Int32) × (Nat → Int32)) (h : f_X12_classes x1 kind_ bound_ patternLength_ pattern_ letters_ tests_ signed_ wordLength_ word_ prefixes_ signatures_ held_ = some out) : CtI l yX12_classes wsX12_classes rm_X12_classes D cy [.ref o, .int x1] (RW_X12_classes cy o d letters_ tests_ inputLength_ at_ signed_ newParts_ machineParts_ firstParts_ firstTruth_ secondTruth_ isPair_ states_ stateClasses_ elements_ cursor_ hasSnapshot_ isSaving_ wordLength_ word_ prefixes_ signatures_ held_) (RO_X12_classes cy o d kind_ bound_ patternLength_ pattern_) (RW_X12_classes cy o d letters_ tests_ inputLength_ at_ out.2.1 newParts_ machineParts_ firstParts_ firstTruth_ secondTruth_ isPair_ states_ stateClasses_ elements_ cursor_ hasSnapshot_ isSaving_ out.2.2.1 out.2.2.2.1 out.2.2.2.2.1 out.2.2.2.2.2.1 out.2.2.2.2.2.2) out.1 :=
  mk_i (ty := .int) (by decide) rfl rfl (Nat.le_of_ble_eq_true rfl) (fun p e s m args below meth c A Q X K H locs ls Z hl => wt_X12_classes o d kind_ bound_ patternLength_ pattern_ letters_ tests_ inputLength_ at_ signed_ newParts_ machineParts_ firstParts_ firstTruth_ secondTruth_ isPair_ states_ stateClasses_ elements_ cursor_ hasSnapshot_ isSaving_ wordLength_ word_ prefixes_ signatures_ held_ x1 out X h K H locs ls Z hl)
/-! SubwordCounterModel classSize (II)I -/
abbrev rm_X12_classSize : Room := { frames := 5, cells := 0, slots := 0, locals := 121 }
def RW_X12_classSize (cy : Nat → ClassId) (o : Nat) (d : Nat → Nat) (letters_ : Int32) (tests_ : Int32) (inputLength_ : Int32) (at_ : Int32) (signed_ : Int32) (newParts_ : Int32) (machineParts_ : Int32) (firstParts_ : Int32) (firstTruth_ : Int32) (secondTruth_ : Int32) (isPair_ : Int32) (states_ : Int32) (stateClasses_ : Int32) (elements_ : Int32) (cursor_ : Int32) (hasSnapshot_ : Int32) (isSaving_ : Int32) (wordLength_ : Nat → Int32) (word_ : Nat → Int32) (prefixes_ : Nat → Int32) (signatures_ : Nat → Int32) (held_ : Nat → Int32) : va_W := [(o, ob 11 (oX12 d letters_ tests_ inputLength_ at_ signed_ newParts_ machineParts_ firstParts_ firstTruth_ secondTruth_ isPair_ states_ stateClasses_ elements_ cursor_ hasSnapshot_ isSaving_)), ((d 1), aI cy 3 wordLength_), ((d 2), aI cy 36 word_), ((d 3), aI cy 13 prefixes_), ((d 13), aI cy 2187 signatures_), ((d 14), aI cy 12 held_)]
def RO_X12_classSize (cy : Nat → ClassId) (o : Nat) (d : Nat → Nat) (kind_ : Nat → Int32) (bound_ : Nat → Int32) (patternLength_ : Nat → Int32) (pattern_ : Nat → Int32) : va_W := [((d 5), aI cy 6 kind_), ((d 6), aI cy 6 bound_), ((d 7), aI cy 6 patternLength_), ((d 8), aI cy 24 pattern_)]
theorem in_X12_classSize_X12 : ∀ w ∈ u_ws RX12 TX12 68, w ∈ wsX12_classSize := fun w h => (List.mem_cons_of_mem _ (List.mem_append_right _ h))
theorem lk_X12_classSize_X12_signed : Lk wsX12_classSize RX12 216 11 15 := ⟨RX12, TX12, 68, rfl, by decide, in_X12_classSize_X12, mem_at 1 rfl⟩
theorem lk_X12_classSize_X12_signatures : Lk wsX12_classSize RX12 41 11 13 := ⟨RX12, TX12, 68, rfl, by decide, in_X12_classSize_X12, mem_at 2 rfl⟩
def b_X12_classSize_22 (signed_ : Int32) (signatures_ : Nat → Int32) (x2 : Int32)  (x3 : Int32) (x4 : Int32) : Option ((Int32 × Int32) ⊕ (Int32)) :=
  if signed_ ≤ x4 then
  (some (.inr x3))
  else
  (ldA signatures_ 2187 x4 (fun v2 =>
  if v2 = x2 then
  (some (.inl ((x3 + (1 : Int32)), (x4 + (1 : Int32)))))
  else
  (some (.inl ((x3 + (0 : Int32)), (x4 + (1 : Int32)))))))
set_option maxHeartbeats 4000000 in
set_option maxRecDepth 100000 in
theorem wb_X12_classSize_22 {p : Program} {l : Launch} {e : Env} {s : State} {m : MethodId} {args : Array Value} {below : List Frame} {meth : Method} {c : Code} {A : Nat → Prop} {Q : State → Prop} {D : va_G} {cy : Nat → ClassId} (o : Nat) (d : Nat → Nat) (kind_ : Nat → Int32) (bound_ : Nat → Int32) (patternLength_ : Nat → Int32) (pattern_ : Nat → Int32) (letters_ : Int32) (tests_ : Int32) (inputLength_ : Int32) (at_ : Int32) (signed_ : Int32) (newParts_ : Int32) (machineParts_ : Int32) (firstParts_ : Int32) (firstTruth_ : Int32) (secondTruth_ : Int32) (isPair_ : Int32) (states_ : Int32) (stateClasses_ : Int32) (elements_ : Int32) (cursor_ : Int32) (hasSnapshot_ : Int32) (isSaving_ : Int32) (wordLength_ : Nat → Int32) (word_ : Nat → Int32) (prefixes_ : Nat → Int32) (signatures_ : Nat → Int32) (held_ : Nat → Int32) (x2 : Int32)  (x3 : Int32) (x4 : Int32) (o1 : (Int32 × Int32) ⊕ (Int32)) (X : Cx p m c cX12_classSize 5 s args wsX12_classSize RX12 A D cy (RO_X12_classSize cy o d kind_ bound_ patternLength_ pattern_)) (h : b_X12_classSize_22 signed_ signatures_ x2 x3 x4 = some o1) (K : Sum.elim (fun v : Int32 × Int32 => ∀ (H : Heap) (locs : List Loc) (ls : Array Slot), St A D s (RW_X12_classSize cy o d letters_ tests_ inputLength_ at_ signed_ newParts_ machineParts_ firstParts_ firstTruth_ secondTruth_ isPair_ states_ stateClasses_ elements_ cursor_ hasSnapshot_ isSaving_ wordLength_ word_ prefixes_ signatures_ held_) H locs → lv_has ls 5 [(0, .ref o), (2, .int x2), (3, .int v.1), (4, .int v.2)] → W p l e rm_X12_classSize s m args below meth c H locs 0 0 Q (F0 m 22 ls [])) (fun v : Int32 => ∀ (H : Heap) (locs : List Loc) (ls : Array Slot), St A D s (RW_X12_classSize cy o d letters_ tests_ inputLength_ at_ signed_ newParts_ machineParts_ firstParts_ firstTruth_ secondTruth_ isPair_ states_ stateClasses_ elements_ cursor_ hasSnapshot_ isSaving_ wordLength_ word_ prefixes_ signatures_ held_) H locs → lv_has ls 5 [(3, .int v)] → W p l e rm_X12_classSize s m args below meth c H locs 0 0 Q (F0 m 56 ls [])) o1) : ∀ (H : Heap) (locs : List Loc) (ls : Array Slot), St A D s (RW_X12_classSize cy o d letters_ tests_ inputLength_ at_ signed_ newParts_ machineParts_ firstParts_ firstTruth_ secondTruth_ isPair_ states_ stateClasses_ elements_ cursor_ hasSnapshot_ isSaving_ wordLength_ word_ prefixes_ signatures_ held_) H locs → lv_has ls 5 [(0, .ref o), (2, .int x2), (3, .int x3), (4, .int x4)] → W p l e rm_X12_classSize s m args below meth c H locs 0 0 Q (F0 m 22 ls []) := by
  intro H locs ls Z hl
  have hx := X.1.1
  have hb := X.1.2.1
  unfold b_X12_classSize_22 at h
  refine lv_iload hx hb dX12_classSize_22 (lv_at hl 3 rfl) ?_
  refine lv_aload_n hx hb dX12_classSize_24 rfl (lv_at hl 0 rfl) ?_
  refine x_get X Z 0 15 (v := .int signed_) rfl rfl lk_X12_classSize_X12_signed dX12_classSize_25 ?_
  refine lv_icmp_ge (tgt := 56) hx hb dX12_classSize_28 (by decide) (fun cnd => ?_) (fun cnd => ?_)
  · replace h := ifp h cnd
    obtain rfl := Option.some.inj h
    exact (sk_r K) H locs ls Z (lv_sub hl [2] rfl)
  · replace h := ifn h cnd
    refine lv_iload_n hx hb dX12_classSize_31 rfl (lv_at hl 2 rfl) ?_
    refine lv_aload_n hx hb dX12_classSize_32 rfl (lv_at hl 0 rfl) ?_
    refine x_get X Z 0 13 (v := .ref (d 13)) rfl rfl lk_X12_classSize_X12_signatures dX12_classSize_33 ?_
    refine lv_iload hx hb dX12_classSize_36 (lv_at hl 3 rfl) ?_
    obtain ⟨hin1, v2, hv3, h⟩ := ld_b h
    refine x_iald X Z 4 rfl hin1 hv3 dX12_classSize_38 ?_
    refine lv_iload_n hx hb dX12_classSize_39 rfl (lv_at hl 1 rfl) ?_
    refine lv_icmp_ne (tgt := 47) hx hb dX12_classSize_40 (by decide) (fun cnd => ?_) (fun cnd => ?_)
    · replace h := ifn h cnd
      refine lv_iconst (v := (0 : Int32)) hx hb dX12_classSize_47 (by decide) ?_
      refine lv_iadd hx hb dX12_classSize_48 ?_
      refine lv_istore_n (lv' := [(3, .int (x3 + (0 : Int32))), (0, .ref o), (2, .int x2), (4, .int x4)]) hx hb dX12_classSize_49 rfl hl (by decide) rfl (fun ls hl => ?_)
      refine lv_iinc (v := (x4 + (1 : Int32))) (lv' := [(4, .int (x4 + (1 : Int32))), (3, .int (x3 + (0 : Int32))), (0, .ref o), (2, .int x2)]) hx hb dX12_classSize_50 hl (k := 3) rfl rfl (by decide) rfl (fun ls hl => ?_)
      refine lv_goto (tgt := 22) hx hb dX12_classSize_53 (by decide) ?_
      obtain rfl := Option.some.inj h
      exact sk_l K H locs ls Z (lv_sub hl [2, 3, 1, 0] rfl)
    · replace h := ifp h cnd
      refine lv_iconst (v := (1 : Int32)) hx hb dX12_classSize_43 (by decide) ?_
      refine lv_goto (tgt := 48) hx hb dX12_classSize_44 (by decide) ?_
      refine lv_iadd hx hb dX12_classSize_48 ?_
      refine lv_istore_n (lv' := [(3, .int (x3 + (1 : Int32))), (0, .ref o), (2, .int x2), (4, .int x4)]) hx hb dX12_classSize_49 rfl hl (by decide) rfl (fun ls hl => ?_)
      refine lv_iinc (v := (x4 + (1 : Int32))) (lv' := [(4, .int (x4 + (1 : Int32))), (3, .int (x3 + (1 : Int32))), (0, .ref o), (2, .int x2)]) hx hb dX12_classSize_50 hl (k := 3) rfl rfl (by decide) rfl (fun ls hl => ?_)
      refine lv_goto (tgt := 22) hx hb dX12_classSize_53 (by decide) ?_
      obtain rfl := Option.some.inj h
      exact sk_l K H locs ls Z (lv_sub hl [2, 3, 1, 0] rfl)
set_option maxHeartbeats 4000000 in
set_option maxRecDepth 100000 in
theorem wl_X12_classSize_22 {p : Program} {l : Launch} {e : Env} {s : State} {m : MethodId} {args : Array Value} {below : List Frame} {meth : Method} {c : Code} {A : Nat → Prop} {Q : State → Prop} {D : va_G} {cy : Nat → ClassId} (o : Nat) (d : Nat → Nat) (kind_ : Nat → Int32) (bound_ : Nat → Int32) (patternLength_ : Nat → Int32) (pattern_ : Nat → Int32) (letters_ : Int32) (tests_ : Int32) (inputLength_ : Int32) (at_ : Int32) (signed_ : Int32) (newParts_ : Int32) (machineParts_ : Int32) (firstParts_ : Int32) (firstTruth_ : Int32) (secondTruth_ : Int32) (isPair_ : Int32) (states_ : Int32) (stateClasses_ : Int32) (elements_ : Int32) (cursor_ : Int32) (hasSnapshot_ : Int32) (isSaving_ : Int32) (wordLength_ : Nat → Int32) (word_ : Nat → Int32) (prefixes_ : Nat → Int32) (signatures_ : Nat → Int32) (held_ : Nat → Int32) (x2 : Int32) (n : Nat) (v : Int32 × Int32) (x : Int32) (X : Cx p m c cX12_classSize 5 s args wsX12_classSize RX12 A D cy (RO_X12_classSize cy o d kind_ bound_ patternLength_ pattern_)) (h : loopN (fun v => b_X12_classSize_22 signed_ signatures_ x2 v.1 v.2) n v = some x) (K : ∀ (H : Heap) (locs : List Loc) (ls : Array Slot), St A D s (RW_X12_classSize cy o d letters_ tests_ inputLength_ at_ signed_ newParts_ machineParts_ firstParts_ firstTruth_ secondTruth_ isPair_ states_ stateClasses_ elements_ cursor_ hasSnapshot_ isSaving_ wordLength_ word_ prefixes_ signatures_ held_) H locs → lv_has ls 5 [(3, .int x)] → W p l e rm_X12_classSize s m args below meth c H locs 0 0 Q (F0 m 56 ls [])) : ∀ (H : Heap) (locs : List Loc) (ls : Array Slot), St A D s (RW_X12_classSize cy o d letters_ tests_ inputLength_ at_ signed_ newParts_ machineParts_ firstParts_ firstTruth_ secondTruth_ isPair_ states_ stateClasses_ elements_ cursor_ hasSnapshot_ isSaving_ wordLength_ word_ prefixes_ signatures_ held_) H locs → lv_has ls 5 [(0, .ref o), (2, .int x2), (3, .int v.1), (4, .int v.2)] → W p l e rm_X12_classSize s m args below meth c H locs 0 0 Q (F0 m 22 ls []) :=
  loop_gen (B := (fun v => b_X12_classSize_22 signed_ signatures_ x2 v.1 v.2)) (Head := fun v : Int32 × Int32 => ∀ (H : Heap) (locs : List Loc) (ls : Array Slot), St A D s (RW_X12_classSize cy o d letters_ tests_ inputLength_ at_ signed_ newParts_ machineParts_ firstParts_ firstTruth_ secondTruth_ isPair_ states_ stateClasses_ elements_ cursor_ hasSnapshot_ isSaving_ wordLength_ word_ prefixes_ signatures_ held_) H locs → lv_has ls 5 [(0, .ref o), (2, .int x2), (3, .int v.1), (4, .int v.2)] → W p l e rm_X12_classSize s m args below meth c H locs 0 0 Q (F0 m 22 ls [])) (Exit := fun v : Int32 => ∀ (H : Heap) (locs : List Loc) (ls : Array Slot), St A D s (RW_X12_classSize cy o d letters_ tests_ inputLength_ at_ signed_ newParts_ machineParts_ firstParts_ firstTruth_ secondTruth_ isPair_ states_ stateClasses_ elements_ cursor_ hasSnapshot_ isSaving_ wordLength_ word_ prefixes_ signatures_ held_) H locs → lv_has ls 5 [(3, .int v)] → W p l e rm_X12_classSize s m args below meth c H locs 0 0 Q (F0 m 56 ls [])) (fun v o9 hb1 K1 => wb_X12_classSize_22 o d kind_ bound_ patternLength_ pattern_ letters_ tests_ inputLength_ at_ signed_ newParts_ machineParts_ firstParts_ firstTruth_ secondTruth_ isPair_ states_ stateClasses_ elements_ cursor_ hasSnapshot_ isSaving_ wordLength_ word_ prefixes_ signatures_ held_ x2 v.1 v.2 o9 X hb1 K1) n v x h K
def f_X12_classSize (x1 : Int32) (x2 : Int32) (kind_ : Nat → Int32) (bound_ : Nat → Int32) (patternLength_ : Nat → Int32) (pattern_ : Nat → Int32) (letters_ : Int32) (tests_ : Int32) (signed_ : Int32) (wordLength_ : Nat → Int32) (word_ : Nat → Int32) (prefixes_ : Nat → Int32) (signatures_ : Nat → Int32) (held_ : Nat → Int32) : Option (Int32 × Int32 × (Nat → Int32) × (Nat → Int32) × (Nat → Int32) × (Nat → Int32) × (Nat → Int32)) :=
  (f_X12_isBetween x1 (0 : Int32) (7 : Int32)).bind (fun u4 =>
  if u4 = 0 then
  (some ((-1 : Int32), signed_, wordLength_, word_, prefixes_, signatures_, held_))
  else
  ((f_X12_findSignatures x1 kind_ bound_ patternLength_ pattern_ letters_ tests_ signed_ wordLength_ word_ prefixes_ signatures_ held_).bind (fun u6 =>
  (loopN (fun v => b_X12_classSize_22 u6.1 u6.2.2.2.2.1 x2 v.1 v.2) FU ((0 : Int32), (0 : Int32))).bind (fun u8 =>
  some (u8, u6.1, u6.2.1, u6.2.2.1, u6.2.2.2.1, u6.2.2.2.2.1, u6.2.2.2.2.2)))))
set_option maxHeartbeats 4000000 in
set_option maxRecDepth 100000 in
theorem wt_X12_classSize {p : Program} {l : Launch} {e : Env} {s : State} {m : MethodId} {args : Array Value} {below : List Frame} {meth : Method} {c : Code} {A : Nat → Prop} {Q : State → Prop} {D : va_G} {cy : Nat → ClassId} (o : Nat) (d : Nat → Nat) (kind_ : Nat → Int32) (bound_ : Nat → Int32) (patternLength_ : Nat → Int32) (pattern_ : Nat → Int32) (letters_ : Int32) (tests_ : Int32) (inputLength_ : Int32) (at_ : Int32) (signed_ : Int32) (newParts_ : Int32) (machineParts_ : Int32) (firstParts_ : Int32) (firstTruth_ : Int32) (secondTruth_ : Int32) (isPair_ : Int32) (states_ : Int32) (stateClasses_ : Int32) (elements_ : Int32) (cursor_ : Int32) (hasSnapshot_ : Int32) (isSaving_ : Int32) (wordLength_ : Nat → Int32) (word_ : Nat → Int32) (prefixes_ : Nat → Int32) (signatures_ : Nat → Int32) (held_ : Nat → Int32) (x1 : Int32) (x2 : Int32) (out : Int32 × Int32 × (Nat → Int32) × (Nat → Int32) × (Nat → Int32) × (Nat → Int32) × (Nat → Int32)) (X : Cx p m c cX12_classSize 5 s args wsX12_classSize RX12 A D cy (RO_X12_classSize cy o d kind_ bound_ patternLength_ pattern_)) (h : f_X12_classSize x1 x2 kind_ bound_ patternLength_ pattern_ letters_ tests_ signed_ wordLength_ word_ prefixes_ signatures_ held_ = some out) (K : ∀ (H : Heap) (locs : List Loc) (ls : Array Slot) (pc : Nat), decode cX12_classSize pc = .ok (.ireturn, 1) → St A D s (RW_X12_classSize cy o d letters_ tests_ inputLength_ at_ out.2.1 newParts_ machineParts_ firstParts_ firstTruth_ secondTruth_ isPair_ states_ stateClasses_ elements_ cursor_ hasSnapshot_ isSaving_ out.2.2.1 out.2.2.2.1 out.2.2.2.2.1 out.2.2.2.2.2.1 out.2.2.2.2.2.2) H locs → W p l e rm_X12_classSize s m args below meth c H locs 0 0 Q (F0 m pc ls [.int out.1])) : ∀ (H : Heap) (locs : List Loc) (ls : Array Slot), St A D s (RW_X12_classSize cy o d letters_ tests_ inputLength_ at_ signed_ newParts_ machineParts_ firstParts_ firstTruth_ secondTruth_ isPair_ states_ stateClasses_ elements_ cursor_ hasSnapshot_ isSaving_ wordLength_ word_ prefixes_ signatures_ held_) H locs → lv_has ls 5 [(0, .ref o), (1, .int x1), (2, .int x2)] → W p l e rm_X12_classSize s m args below meth c H locs 0 0 Q (F0 m 0 ls []) := by
  intro H locs ls Z hl
  have hx := X.1.1
  have hb := X.1.2.1
  unfold f_X12_classSize at h
  refine lv_iload_n hx hb dX12_classSize_0 rfl (lv_at hl 1 rfl) ?_
  refine lv_iconst (v := (0 : Int32)) hx hb dX12_classSize_1 (by decide) ?_
  refine lv_bipush (v := (7 : Int32)) hx hb dX12_classSize_2 (by decide) ?_
  obtain ⟨u4, hc5, h⟩ := ob_some h
  refine x_runSi (RW' := (RW_X12_classSize cy o d letters_ tests_ inputLength_ at_ signed_ newParts_ machineParts_ firstParts_ firstTruth_ secondTruth_ isPair_ states_ stateClasses_ elements_ cursor_ hasSnapshot_ isSaving_ wordLength_ word_ prefixes_ signatures_ held_)) (wr := [(o, ob 11 (oX12 d letters_ tests_ inputLength_ at_ signed_ newParts_ machineParts_ firstParts_ firstTruth_ secondTruth_ isPair_ states_ stateClasses_ elements_ cursor_ hasSnapshot_ isSaving_)), ((d 1), aI cy 3 wordLength_), ((d 2), aI cy 36 word_), ((d 3), aI cy 13 prefixes_), ((d 13), aI cy 2187 signatures_), ((d 14), aI cy 12 held_)]) (isC := []) (isR := [0, 1, 2, 3, 4, 5]) (isF := [0, 1, 2, 3, 4, 5]) (rest := []) (As := [.int x1, .int (0 : Int32), .int (7 : Int32)]) (n := 3) X Z (c_X12_isBetween l D cy x1 (0 : Int32) (7 : Int32) u4 hc5) gX12_classSize_X12_isBetween rfl (by decide +kernel) ⟨Nat.le_of_ble_eq_true rfl, Nat.le_of_ble_eq_true rfl⟩ ⟨rfl, rfl⟩ ⟨Nat.le_of_ble_eq_true rfl, Nat.le_of_ble_eq_true rfl⟩ ⟨rfl, rfl, roN, rfl, rfl, by decide⟩ ⟨rfl, rfl⟩ rfl hl.1 rfl (Nat.le_of_ble_eq_true rfl) dX12_classSize_4 (fun H locs Z => ?_)
  refine lv_if_ne (tgt := 12) hx hb dX12_classSize_7 (by decide) (fun cnd => ?_) (fun cnd => ?_)
  · replace h := ifn h cnd
    refine lv_aload_n hx hb dX12_classSize_12 rfl (lv_at hl 0 rfl) ?_
    refine lv_iload_n hx hb dX12_classSize_13 rfl (lv_at hl 1 rfl) ?_
    obtain ⟨u6, hc7, h⟩ := ob_some h
    refine x_runVv (RW' := (RW_X12_classSize cy o d letters_ tests_ inputLength_ at_ u6.1 newParts_ machineParts_ firstParts_ firstTruth_ secondTruth_ isPair_ states_ stateClasses_ elements_ cursor_ hasSnapshot_ isSaving_ u6.2.1 u6.2.2.1 u6.2.2.2.1 u6.2.2.2.2.1 u6.2.2.2.2.2)) (wr := []) (isC := [0, 1, 2, 3, 4, 5]) (isR := []) (isF := [0, 1, 2, 3, 4, 5]) (rest := []) (As := [.int x1]) (n := 1) X Z (c_X12_findSignatures l D cy o d kind_ bound_ patternLength_ pattern_ letters_ tests_ inputLength_ at_ signed_ newParts_ machineParts_ firstParts_ firstTruth_ secondTruth_ isPair_ states_ stateClasses_ elements_ cursor_ hasSnapshot_ isSaving_ wordLength_ word_ prefixes_ signatures_ held_ x1 u6 hc7) gX12_classSize_X12_findSignatures rfl (by decide +kernel) ⟨Nat.le_of_ble_eq_true rfl, Nat.le_of_ble_eq_true rfl⟩ ⟨rfl, rfl⟩ ⟨Nat.le_of_ble_eq_true rfl, Nat.le_of_ble_eq_true rfl⟩ (x_rv X Z 0 rfl rfl) ⟨rfl, rfl, (roC (Or.inr (mem_at 0 rfl)) (roC (Or.inr (mem_at 1 rfl)) (roC (Or.inr (mem_at 2 rfl)) (roC (Or.inr (mem_at 3 rfl)) roN)))), rfl, rfl, by decide⟩ ⟨rfl, rfl⟩ rfl hl.1 rfl (Nat.le_of_ble_eq_true rfl) dX12_classSize_14 (fun H locs Z => ?_)
    refine lv_iconst (v := (0 : Int32)) hx hb dX12_classSize_17 (by decide) ?_
    refine lv_istore_n (lv' := [(3, .int (0 : Int32)), (0, .ref o), (1, .int x1), (2, .int x2)]) hx hb dX12_classSize_18 rfl hl (by decide) rfl (fun ls hl => ?_)
    refine lv_iconst (v := (0 : Int32)) hx hb dX12_classSize_19 (by decide) ?_
    refine lv_istore (lv' := [(4, .int (0 : Int32)), (3, .int (0 : Int32)), (0, .ref o), (1, .int x1), (2, .int x2)]) hx hb dX12_classSize_20 hl (by decide) rfl (fun ls hl => ?_)
    obtain ⟨u8, hL9, h⟩ := ob_some h
    refine wl_X12_classSize_22 o d kind_ bound_ patternLength_ pattern_ letters_ tests_ inputLength_ at_ u6.1 newParts_ machineParts_ firstParts_ firstTruth_ secondTruth_ isPair_ states_ stateClasses_ elements_ cursor_ hasSnapshot_ isSaving_ u6.2.1 u6.2.2.1 u6.2.2.2.1 u6.2.2.2.2.1 u6.2.2.2.2.2 x2 FU ((0 : Int32), (0 : Int32)) u8 X hL9 (fun H locs ls Z hl => ?_) H locs ls Z (lv_sub hl [2, 4, 1, 0] rfl)
    refine lv_iload_n hx hb dX12_classSize_56 rfl (lv_at hl 0 rfl) ?_
    obtain rfl := Option.some.inj h
    exact K H locs ls _ dX12_classSize_57 Z
  · replace h := ifp h cnd
    refine lv_iconst (v := (-1 : Int32)) hx hb dX12_classSize_10 (by decide) ?_
    obtain rfl := Option.some.inj h
    exact K H locs ls _ dX12_classSize_11 Z
theorem c_X12_classSize (l : Launch) (D : va_G) (cy : Nat → ClassId) (o : Nat) (d : Nat → Nat) (kind_ : Nat → Int32) (bound_ : Nat → Int32) (patternLength_ : Nat → Int32) (pattern_ : Nat → Int32) (letters_ : Int32) (tests_ : Int32) (inputLength_ : Int32) (at_ : Int32) (signed_ : Int32) (newParts_ : Int32) (machineParts_ : Int32) (firstParts_ : Int32) (firstTruth_ : Int32) (secondTruth_ : Int32) (isPair_ : Int32) (states_ : Int32) (stateClasses_ : Int32) (elements_ : Int32) (cursor_ : Int32) (hasSnapshot_ : Int32) (isSaving_ : Int32) (wordLength_ : Nat → Int32) (word_ : Nat → Int32) (prefixes_ : Nat → Int32) (signatures_ : Nat → Int32) (held_ : Nat → Int32) (x1 : Int32) (x2 : Int32) (out : Int32 × Int32 × (Nat → Int32) × (Nat → Int32) × (Nat → Int32) × (Nat → Int32) × (Nat → Int32)) (h : f_X12_classSize x1 x2 kind_ bound_ patternLength_ pattern_ letters_ tests_ signed_ wordLength_ word_ prefixes_ signatures_ held_ = some out) : CtI l yX12_classSize wsX12_classSize rm_X12_classSize D cy [.ref o, .int x1, .int x2] (RW_X12_classSize cy o d letters_ tests_ inputLength_ at_ signed_ newParts_ machineParts_ firstParts_ firstTruth_ secondTruth_ isPair_ states_ stateClasses_ elements_ cursor_ hasSnapshot_ isSaving_ wordLength_ word_ prefixes_ signatures_ held_) (RO_X12_classSize cy o d kind_ bound_ patternLength_ pattern_) (RW_X12_classSize cy o d letters_ tests_ inputLength_ at_ out.2.1 newParts_ machineParts_ firstParts_ firstTruth_ secondTruth_ isPair_ states_ stateClasses_ elements_ cursor_ hasSnapshot_ isSaving_ out.2.2.1 out.2.2.2.1 out.2.2.2.2.1 out.2.2.2.2.2.1 out.2.2.2.2.2.2) out.1 :=
  mk_i (ty := .int) (by decide) rfl rfl (Nat.le_of_ble_eq_true rfl) (fun p e s m args below meth c A Q X K H locs ls Z hl => wt_X12_classSize o d kind_ bound_ patternLength_ pattern_ letters_ tests_ inputLength_ at_ signed_ newParts_ machineParts_ firstParts_ firstTruth_ secondTruth_ isPair_ states_ stateClasses_ elements_ cursor_ hasSnapshot_ isSaving_ wordLength_ word_ prefixes_ signatures_ held_ x1 x2 out X h K H locs ls Z hl)
