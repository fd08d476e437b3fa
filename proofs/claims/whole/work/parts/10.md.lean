set_option linter.unusedVariables false
/-! SubwordCounterModel addLanguage (I)V -/
abbrev rm_X12_addLanguage : Room := { frames := 1, cells := 0, slots := 0, locals := 28 }
def RW_X12_addLanguage (cy : Nat → ClassId) (o : Nat) (d : Nat → Nat) (letters_ : Int32) (tests_ : Int32) (inputLength_ : Int32) (at_ : Int32) (signed_ : Int32) (newParts_ : Int32) (machineParts_ : Int32) (firstParts_ : Int32) (firstTruth_ : Int32) (secondTruth_ : Int32) (isPair_ : Int32) (states_ : Int32) (stateClasses_ : Int32) (elements_ : Int32) (cursor_ : Int32) (hasSnapshot_ : Int32) (isSaving_ : Int32) (machineKind_ : Nat → Int32) (machineBound_ : Nat → Int32) (machineLength_ : Nat → Int32) (machineValue_ : Nat → Int32) (machinePattern_ : Nat → Int32) : va_W := [(o, ob 11 (oX12 d letters_ tests_ inputLength_ at_ signed_ newParts_ machineParts_ firstParts_ firstTruth_ secondTruth_ isPair_ states_ stateClasses_ elements_ cursor_ hasSnapshot_ isSaving_)), ((d 30), aI cy 8 machineKind_), ((d 31), aI cy 8 machineBound_), ((d 32), aI cy 8 machineLength_), ((d 33), aI cy 8 machineValue_), ((d 34), aI cy 32 machinePattern_)]
def RO_X12_addLanguage (cy : Nat → ClassId) (o : Nat) (d : Nat → Nat) (parts_ : Nat → Int32) (partKind_ : Nat → Int32) (partBound_ : Nat → Int32) (partLength_ : Nat → Int32) (partValue_ : Nat → Int32) (partPattern_ : Nat → Int32) : va_W := [((d 17), aI cy 4 parts_), ((d 19), aI cy 16 partKind_), ((d 20), aI cy 16 partBound_), ((d 21), aI cy 16 partLength_), ((d 22), aI cy 16 partValue_), ((d 23), aI cy 64 partPattern_)]
theorem in_X12_addLanguage_X12 : ∀ w ∈ u_ws RX12 TX12 68, w ∈ wsX12_addLanguage := fun w h => (List.mem_cons_of_mem _ (List.mem_append_right _ h))
theorem lk_X12_addLanguage_X12_parts : Lk wsX12_addLanguage RX12 50 11 17 := ⟨RX12, TX12, 68, rfl, by decide, in_X12_addLanguage_X12, mem_at 1 rfl⟩
theorem lk_X12_addLanguage_X12_partKind : Lk wsX12_addLanguage RX12 56 11 19 := ⟨RX12, TX12, 68, rfl, by decide, in_X12_addLanguage_X12, mem_at 2 rfl⟩
theorem lk_X12_addLanguage_X12_partBound : Lk wsX12_addLanguage RX12 59 11 20 := ⟨RX12, TX12, 68, rfl, by decide, in_X12_addLanguage_X12, mem_at 3 rfl⟩
theorem lk_X12_addLanguage_X12_partLength : Lk wsX12_addLanguage RX12 62 11 21 := ⟨RX12, TX12, 68, rfl, by decide, in_X12_addLanguage_X12, mem_at 4 rfl⟩
theorem lk_X12_addLanguage_X12_partValue : Lk wsX12_addLanguage RX12 65 11 22 := ⟨RX12, TX12, 68, rfl, by decide, in_X12_addLanguage_X12, mem_at 5 rfl⟩
theorem lk_X12_addLanguage_X12_partPattern : Lk wsX12_addLanguage RX12 68 11 23 := ⟨RX12, TX12, 68, rfl, by decide, in_X12_addLanguage_X12, mem_at 6 rfl⟩
def b_X12_addLanguage_2 (parts_ : Nat → Int32) (partKind_ : Nat → Int32) (partBound_ : Nat → Int32) (partLength_ : Nat → Int32) (partValue_ : Nat → Int32) (partPattern_ : Nat → Int32) (x1 : Int32) (machineParts_ : Int32) (machineKind_ : Nat → Int32) (machineBound_ : Nat → Int32) (machineLength_ : Nat → Int32) (machineValue_ : Nat → Int32) (machinePattern_ : Nat → Int32) (x2 : Int32) : Option ((Int32 × (Nat → Int32) × (Nat → Int32) × (Nat → Int32) × (Nat → Int32) × (Nat → Int32) × Int32) ⊕ (Int32 × (Nat → Int32) × (Nat → Int32) × (Nat → Int32) × (Nat → Int32) × (Nat → Int32))) :=
  ldA parts_ 4 x1 (fun v2 =>
  if v2 ≤ x2 then
  (some (.inr (machineParts_, machineKind_, machineBound_, machineLength_, machineValue_, machinePattern_)))
  else
  (ldA partKind_ 16 (((4 : Int32) * x1) + x2) (fun v5 =>
  ldA partBound_ 16 (((4 : Int32) * x1) + x2) (fun v8 =>
  ldA partLength_ 16 (((4 : Int32) * x1) + x2) (fun v11 =>
  ldA partValue_ 16 (((4 : Int32) * x1) + x2) (fun v14 =>
  (f_X12_addPart v5 v8 v11 v14 ((4 : Int32) * (((4 : Int32) * x1) + x2)) 64 partPattern_ machineParts_ machineKind_ machineBound_ machineLength_ machineValue_ machinePattern_).bind (fun u16 =>
  some (.inl (u16.1, u16.2.1, u16.2.2.1, u16.2.2.2.1, u16.2.2.2.2.1, u16.2.2.2.2.2, (x2 + (1 : Int32)))))))))))
set_option maxHeartbeats 4000000 in
set_option maxRecDepth 100000 in
theorem wb_X12_addLanguage_2 {p : Program} {l : Launch} {e : Env} {s : State} {m : MethodId} {args : Array Value} {below : List Frame} {meth : Method} {c : Code} {A : Nat → Prop} {Q : State → Prop} {D : va_G} {cy : Nat → ClassId} (o : Nat) (d : Nat → Nat) (parts_ : Nat → Int32) (partKind_ : Nat → Int32) (partBound_ : Nat → Int32) (partLength_ : Nat → Int32) (partValue_ : Nat → Int32) (partPattern_ : Nat → Int32) (letters_ : Int32) (tests_ : Int32) (inputLength_ : Int32) (at_ : Int32) (signed_ : Int32) (newParts_ : Int32) (firstParts_ : Int32) (firstTruth_ : Int32) (secondTruth_ : Int32) (isPair_ : Int32) (states_ : Int32) (stateClasses_ : Int32) (elements_ : Int32) (cursor_ : Int32) (hasSnapshot_ : Int32) (isSaving_ : Int32) (x1 : Int32) (machineParts_ : Int32) (machineKind_ : Nat → Int32) (machineBound_ : Nat → Int32) (machineLength_ : Nat → Int32) (machineValue_ : Nat → Int32) (machinePattern_ : Nat → Int32) (x2 : Int32) (o1 : (Int32 × (Nat → Int32) × (Nat → Int32) × (Nat → Int32) × (Nat → Int32) × (Nat → Int32) × Int32) ⊕ (Int32 × (Nat → Int32) × (Nat → Int32) × (Nat → Int32) × (Nat → Int32) × (Nat → Int32))) (X : Cx p m c cX12_addLanguage 4 s args wsX12_addLanguage RX12 A D cy (RO_X12_addLanguage cy o d parts_ partKind_ partBound_ partLength_ partValue_ partPattern_)) (h : b_X12_addLanguage_2 parts_ partKind_ partBound_ partLength_ partValue_ partPattern_ x1 machineParts_ machineKind_ machineBound_ machineLength_ machineValue_ machinePattern_ x2 = some o1) (K : Sum.elim (fun v : Int32 × (Nat → Int32) × (Nat → Int32) × (Nat → Int32) × (Nat → Int32) × (Nat → Int32) × Int32 => ∀ (H : Heap) (locs : List Loc) (ls : Array Slot), St A D s (RW_X12_addLanguage cy o d letters_ tests_ inputLength_ at_ signed_ newParts_ v.1 firstParts_ firstTruth_ secondTruth_ isPair_ states_ stateClasses_ elements_ cursor_ hasSnapshot_ isSaving_ v.2.1 v.2.2.1 v.2.2.2.1 v.2.2.2.2.1 v.2.2.2.2.2.1) H locs → lv_has ls 4 [(0, .ref o), (1, .int x1), (2, .int v.2.2.2.2.2.2)] → W p l e rm_X12_addLanguage s m args below meth c H locs 0 0 Q (F0 m 2 ls [])) (fun v : Int32 × (Nat → Int32) × (Nat → Int32) × (Nat → Int32) × (Nat → Int32) × (Nat → Int32) => ∀ (H : Heap) (locs : List Loc) (ls : Array Slot), St A D s (RW_X12_addLanguage cy o d letters_ tests_ inputLength_ at_ signed_ newParts_ v.1 firstParts_ firstTruth_ secondTruth_ isPair_ states_ stateClasses_ elements_ cursor_ hasSnapshot_ isSaving_ v.2.1 v.2.2.1 v.2.2.2.1 v.2.2.2.2.1 v.2.2.2.2.2) H locs → lv_has ls 4 [] → W p l e rm_X12_addLanguage s m args below meth c H locs 0 0 Q (F0 m 59 ls [])) o1) : ∀ (H : Heap) (locs : List Loc) (ls : Array Slot), St A D s (RW_X12_addLanguage cy o d letters_ tests_ inputLength_ at_ signed_ newParts_ machineParts_ firstParts_ firstTruth_ secondTruth_ isPair_ states_ stateClasses_ elements_ cursor_ hasSnapshot_ isSaving_ machineKind_ machineBound_ machineLength_ machineValue_ machinePattern_) H locs → lv_has ls 4 [(0, .ref o), (1, .int x1), (2, .int x2)] → W p l e rm_X12_addLanguage s m args below meth c H locs 0 0 Q (F0 m 2 ls []) := by
  intro H locs ls Z hl
  have hx := X.1.1
  have hb := X.1.2.1
  unfold b_X12_addLanguage_2 at h
  refine lv_iload_n hx hb dX12_addLanguage_2 rfl (lv_at hl 2 rfl) ?_
  refine lv_aload_n hx hb dX12_addLanguage_3 rfl (lv_at hl 0 rfl) ?_
  refine x_get X Z 0 17 (v := .ref (d 17)) rfl rfl lk_X12_addLanguage_X12_parts dX12_addLanguage_4 ?_
  refine lv_iload_n hx hb dX12_addLanguage_7 rfl (lv_at hl 1 rfl) ?_
  obtain ⟨hin1, v2, hv3, h⟩ := ld_b h
  refine x_ialdO X Z 0 rfl hin1 hv3 dX12_addLanguage_8 ?_
  refine lv_icmp_ge (tgt := 59) hx hb dX12_addLanguage_9 (by decide) (fun cnd => ?_) (fun cnd => ?_)
  · replace h := ifp h cnd
    obtain rfl := Option.some.inj h
    exact (sk_r K) H locs ls Z (lv_sub hl [] rfl)
  · replace h := ifn h cnd
    refine lv_iconst (v := (4 : Int32)) hx hb dX12_addLanguage_12 (by decide) ?_
    refine lv_iload_n hx hb dX12_addLanguage_13 rfl (lv_at hl 1 rfl) ?_
    refine lv_imul hx hb dX12_addLanguage_14 ?_
    refine lv_iload_n hx hb dX12_addLanguage_15 rfl (lv_at hl 2 rfl) ?_
    refine lv_iadd hx hb dX12_addLanguage_16 ?_
    refine lv_istore_n (lv' := [(3, .int (((4 : Int32) * x1) + x2)), (0, .ref o), (1, .int x1), (2, .int x2)]) hx hb dX12_addLanguage_17 rfl hl (by decide) rfl (fun ls hl => ?_)
    refine lv_aload_n hx hb dX12_addLanguage_18 rfl (lv_at hl 1 rfl) ?_
    refine lv_aload_n hx hb dX12_addLanguage_19 rfl (lv_at hl 1 rfl) ?_
    refine x_get X Z 0 19 (v := .ref (d 19)) rfl rfl lk_X12_addLanguage_X12_partKind dX12_addLanguage_20 ?_
    refine lv_iload_n hx hb dX12_addLanguage_23 rfl (lv_at hl 0 rfl) ?_
    obtain ⟨hin4, v5, hv6, h⟩ := ld_b h
    refine x_ialdO X Z 1 rfl hin4 hv6 dX12_addLanguage_24 ?_
    refine lv_aload_n hx hb dX12_addLanguage_25 rfl (lv_at hl 1 rfl) ?_
    refine x_get X Z 0 20 (v := .ref (d 20)) rfl rfl lk_X12_addLanguage_X12_partBound dX12_addLanguage_26 ?_
    refine lv_iload_n hx hb dX12_addLanguage_29 rfl (lv_at hl 0 rfl) ?_
    obtain ⟨hin7, v8, hv9, h⟩ := ld_b h
    refine x_ialdO X Z 2 rfl hin7 hv9 dX12_addLanguage_30 ?_
    refine lv_aload_n hx hb dX12_addLanguage_31 rfl (lv_at hl 1 rfl) ?_
    refine x_get X Z 0 21 (v := .ref (d 21)) rfl rfl lk_X12_addLanguage_X12_partLength dX12_addLanguage_32 ?_
    refine lv_iload_n hx hb dX12_addLanguage_35 rfl (lv_at hl 0 rfl) ?_
    obtain ⟨hin10, v11, hv12, h⟩ := ld_b h
    refine x_ialdO X Z 3 rfl hin10 hv12 dX12_addLanguage_36 ?_
    refine lv_aload_n hx hb dX12_addLanguage_37 rfl (lv_at hl 1 rfl) ?_
    refine x_get X Z 0 22 (v := .ref (d 22)) rfl rfl lk_X12_addLanguage_X12_partValue dX12_addLanguage_38 ?_
    refine lv_iload_n hx hb dX12_addLanguage_41 rfl (lv_at hl 0 rfl) ?_
    obtain ⟨hin13, v14, hv15, h⟩ := ld_b h
    refine x_ialdO X Z 4 rfl hin13 hv15 dX12_addLanguage_42 ?_
    refine lv_aload_n hx hb dX12_addLanguage_43 rfl (lv_at hl 1 rfl) ?_
    refine x_get X Z 0 23 (v := .ref (d 23)) rfl rfl lk_X12_addLanguage_X12_partPattern dX12_addLanguage_44 ?_
    refine lv_iconst (v := (4 : Int32)) hx hb dX12_addLanguage_47 (by decide) ?_
    refine lv_iload_n hx hb dX12_addLanguage_48 rfl (lv_at hl 0 rfl) ?_
    refine lv_imul hx hb dX12_addLanguage_49 ?_
    obtain ⟨u16, hc17, h⟩ := ob_some h
    refine x_runVv (RW' := (RW_X12_addLanguage cy o d letters_ tests_ inputLength_ at_ signed_ newParts_ u16.1 firstParts_ firstTruth_ secondTruth_ isPair_ states_ stateClasses_ elements_ cursor_ hasSnapshot_ isSaving_ u16.2.1 u16.2.2.1 u16.2.2.2.1 u16.2.2.2.2.1 u16.2.2.2.2.2)) (wr := []) (isC := [0, 1, 2, 3, 4, 5]) (isR := []) (isF := [0, 1, 2, 3, 4, 5]) (rest := []) (As := [.int v5, .int v8, .int v11, .int v14, .ref (d 23), .int ((4 : Int32) * (((4 : Int32) * x1) + x2))]) (n := 6) X Z (c_X12_addPart l D cy o (d 23) 64 d partPattern_ letters_ tests_ inputLength_ at_ signed_ newParts_ machineParts_ firstParts_ firstTruth_ secondTruth_ isPair_ states_ stateClasses_ elements_ cursor_ hasSnapshot_ isSaving_ machineKind_ machineBound_ machineLength_ machineValue_ machinePattern_ v5 v8 v11 v14 ((4 : Int32) * (((4 : Int32) * x1) + x2)) u16 hc17) gX12_addLanguage_X12_addPart rfl (by decide +kernel) ⟨Nat.le_of_ble_eq_true rfl, Nat.le_of_ble_eq_true rfl⟩ ⟨rfl, rfl⟩ ⟨Nat.le_of_ble_eq_true rfl, Nat.le_of_ble_eq_true rfl⟩ (x_rv X Z 0 rfl rfl) ⟨rfl, rfl, (roC (Or.inr (mem_at 5 rfl)) roN), rfl, rfl, by decide⟩ ⟨rfl, rfl⟩ rfl hl.1 rfl (Nat.le_of_ble_eq_true rfl) dX12_addLanguage_50 (fun H locs Z => ?_)
    refine lv_iinc (v := (x2 + (1 : Int32))) (lv' := [(2, .int (x2 + (1 : Int32))), (3, .int (((4 : Int32) * x1) + x2)), (0, .ref o), (1, .int x1)]) hx hb dX12_addLanguage_53 hl (k := 3) rfl rfl (by decide) rfl (fun ls hl => ?_)
    refine lv_goto (tgt := 2) hx hb dX12_addLanguage_56 (by decide) ?_
    obtain rfl := Option.some.inj h
    exact sk_l K H locs ls Z (lv_sub hl [2, 3, 0] rfl)
set_option maxHeartbeats 4000000 in
set_option maxRecDepth 100000 in
theorem wl_X12_addLanguage_2 {p : Program} {l : Launch} {e : Env} {s : State} {m : MethodId} {args : Array Value} {below : List Frame} {meth : Method} {c : Code} {A : Nat → Prop} {Q : State → Prop} {D : va_G} {cy : Nat → ClassId} (o : Nat) (d : Nat → Nat) (parts_ : Nat → Int32) (partKind_ : Nat → Int32) (partBound_ : Nat → Int32) (partLength_ : Nat → Int32) (partValue_ : Nat → Int32) (partPattern_ : Nat → Int32) (letters_ : Int32) (tests_ : Int32) (inputLength_ : Int32) (at_ : Int32) (signed_ : Int32) (newParts_ : Int32) (firstParts_ : Int32) (firstTruth_ : Int32) (secondTruth_ : Int32) (isPair_ : Int32) (states_ : Int32) (stateClasses_ : Int32) (elements_ : Int32) (cursor_ : Int32) (hasSnapshot_ : Int32) (isSaving_ : Int32) (x1 : Int32) (n : Nat) (v : Int32 × (Nat → Int32) × (Nat → Int32) × (Nat → Int32) × (Nat → Int32) × (Nat → Int32) × Int32) (x : Int32 × (Nat → Int32) × (Nat → Int32) × (Nat → Int32) × (Nat → Int32) × (Nat → Int32)) (X : Cx p m c cX12_addLanguage 4 s args wsX12_addLanguage RX12 A D cy (RO_X12_addLanguage cy o d parts_ partKind_ partBound_ partLength_ partValue_ partPattern_)) (h : loopN (fun v => b_X12_addLanguage_2 parts_ partKind_ partBound_ partLength_ partValue_ partPattern_ x1 v.1 v.2.1 v.2.2.1 v.2.2.2.1 v.2.2.2.2.1 v.2.2.2.2.2.1 v.2.2.2.2.2.2) n v = some x) (K : ∀ (H : Heap) (locs : List Loc) (ls : Array Slot), St A D s (RW_X12_addLanguage cy o d letters_ tests_ inputLength_ at_ signed_ newParts_ x.1 firstParts_ firstTruth_ secondTruth_ isPair_ states_ stateClasses_ elements_ cursor_ hasSnapshot_ isSaving_ x.2.1 x.2.2.1 x.2.2.2.1 x.2.2.2.2.1 x.2.2.2.2.2) H locs → lv_has ls 4 [] → W p l e rm_X12_addLanguage s m args below meth c H locs 0 0 Q (F0 m 59 ls [])) : ∀ (H : Heap) (locs : List Loc) (ls : Array Slot), St A D s (RW_X12_addLanguage cy o d letters_ tests_ inputLength_ at_ signed_ newParts_ v.1 firstParts_ firstTruth_ secondTruth_ isPair_ states_ stateClasses_ elements_ cursor_ hasSnapshot_ isSaving_ v.2.1 v.2.2.1 v.2.2.2.1 v.2.2.2.2.1 v.2.2.2.2.2.1) H locs → lv_has ls 4 [(0, .ref o), (1, .int x1), (2, .int v.2.2.2.2.2.2)] → W p l e rm_X12_addLanguage s m args below meth c H locs 0 0 Q (F0 m 2 ls []) :=
  loop_gen (B := (fun v => b_X12_addLanguage_2 parts_ partKind_ partBound_ partLength_ partValue_ partPattern_ x1 v.1 v.2.1 v.2.2.1 v.2.2.2.1 v.2.2.2.2.1 v.2.2.2.2.2.1 v.2.2.2.2.2.2)) (Head := fun v : Int32 × (Nat → Int32) × (Nat → Int32) × (Nat → Int32) × (Nat → Int32) × (Nat → Int32) × Int32 => ∀ (H : Heap) (locs : List Loc) (ls : Array Slot), St A D s (RW_X12_addLanguage cy o d letters_ tests_ inputLength_ at_ signed_ newParts_ v.1 firstParts_ firstTruth_ secondTruth_ isPair_ states_ stateClasses_ elements_ cursor_ hasSnapshot_ isSaving_ v.2.1 v.2.2.1 v.2.2.2.1 v.2.2.2.2.1 v.2.2.2.2.2.1) H locs → lv_has ls 4 [(0, .ref o), (1, .int x1), (2, .int v.2.2.2.2.2.2)] → W p l e rm_X12_addLanguage s m args below meth c H locs 0 0 Q (F0 m 2 ls [])) (Exit := fun v : Int32 × (Nat → Int32) × (Nat → Int32) × (Nat → Int32) × (Nat → Int32) × (Nat → Int32) => ∀ (H : Heap) (locs : List Loc) (ls : Array Slot), St A D s (RW_X12_addLanguage cy o d letters_ tests_ inputLength_ at_ signed_ newParts_ v.1 firstParts_ firstTruth_ secondTruth_ isPair_ states_ stateClasses_ elements_ cursor_ hasSnapshot_ isSaving_ v.2.1 v.2.2.1 v.2.2.2.1 v.2.2.2.2.1 v.2.2.2.2.2) H locs → lv_has ls 4 [] → W p l e rm_X12_addLanguage s m args below meth c H locs 0 0 Q (F0 m 59 ls [])) (fun v o9 hb1 K1 => wb_X12_addLanguage_2 o d parts_ partKind_ partBound_ partLength_ partValue_ partPattern_ letters_ tests_ inputLength_ at_ signed_ newParts_ firstParts_ firstTruth_ secondTruth_ isPair_ states_ stateClasses_ elements_ cursor_ hasSnapshot_ isSaving_ x1 v.1 v.2.1 v.2.2.1 v.2.2.2.1 v.2.2.2.2.1 v.2.2.2.2.2.1 v.2.2.2.2.2.2 o9 X hb1 K1) n v x h K
def f_X12_addLanguage (x1 : Int32) (parts_ : Nat → Int32) (partKind_ : Nat → Int32) (partBound_ : Nat → Int32) (partLength_ : Nat → Int32) (partValue_ : Nat → Int32) (partPattern_ : Nat → Int32) (machineParts_ : Int32) (machineKind_ : Nat → Int32) (machineBound_ : Nat → Int32) (machineLength_ : Nat → Int32) (machineValue_ : Nat → Int32) (machinePattern_ : Nat → Int32) : Option (Int32 × (Nat → Int32) × (Nat → Int32) × (Nat → Int32) × (Nat → Int32) × (Nat → Int32)) :=
  (loopN (fun v => b_X12_addLanguage_2 parts_ partKind_ partBound_ partLength_ partValue_ partPattern_ x1 v.1 v.2.1 v.2.2.1 v.2.2.2.1 v.2.2.2.2.1 v.2.2.2.2.2.1 v.2.2.2.2.2.2) FU (machineParts_, machineKind_, machineBound_, machineLength_, machineValue_, machinePattern_, (0 : Int32))).bind (fun u18 =>
  some (u18.1, u18.2.1, u18.2.2.1, u18.2.2.2.1, u18.2.2.2.2.1, u18.2.2.2.2.2))
set_option maxHeartbeats 4000000 in
set_option maxRecDepth 100000 in
theorem wt_X12_addLanguage {p : Program} {l : Launch} {e : Env} {s : State} {m : MethodId} {args : Array Value} {below : List Frame} {meth : Method} {c : Code} {A : Nat → Prop} {Q : State → Prop} {D : va_G} {cy : Nat → ClassId} (o : Nat) (d : Nat → Nat) (parts_ : Nat → Int32) (partKind_ : Nat → Int32) (partBound_ : Nat → Int32) (partLength_ : Nat → Int32) (partValue_ : Nat → Int32) (partPattern_ : Nat → Int32) (letters_ : Int32) (tests_ : Int32) (inputLength_ : Int32) (at_ : Int32) (signed_ : Int32) (newParts_ : Int32) (machineParts_ : Int32) (firstParts_ : Int32) (firstTruth_ : Int32) (secondTruth_ : Int32) (isPair_ : Int32) (states_ : Int32) (stateClasses_ : Int32) (elements_ : Int32) (cursor_ : Int32) (hasSnapshot_ : Int32) (isSaving_ : Int32) (machineKind_ : Nat → Int32) (machineBound_ : Nat → Int32) (machineLength_ : Nat → Int32) (machineValue_ : Nat → Int32) (machinePattern_ : Nat → Int32) (x1 : Int32) (out : Int32 × (Nat → Int32) × (Nat → Int32) × (Nat → Int32) × (Nat → Int32) × (Nat → Int32)) (X : Cx p m c cX12_addLanguage 4 s args wsX12_addLanguage RX12 A D cy (RO_X12_addLanguage cy o d parts_ partKind_ partBound_ partLength_ partValue_ partPattern_)) (h : f_X12_addLanguage x1 parts_ partKind_ partBound_ partLength_ partValue_ partPattern_ machineParts_ machineKind_ machineBound_ machineLength_ machineValue_ machinePattern_ = some out) (K : ∀ (H : Heap) (locs : List Loc) (ls : Array Slot) (pc : Nat), decode cX12_addLanguage pc = .ok (.return_, 1) → St A D s (RW_X12_addLanguage cy o d letters_ tests_ inputLength_ at_ signed_ newParts_ out.1 firstParts_ firstTruth_ secondTruth_ isPair_ states_ stateClasses_ elements_ cursor_ hasSnapshot_ isSaving_ out.2.1 out.2.2.1 out.2.2.2.1 out.2.2.2.2.1 out.2.2.2.2.2) H locs → W p l e rm_X12_addLanguage s m args below meth c H locs 0 0 Q (F0 m pc ls [])) : ∀ (H : Heap) (locs : List Loc) (ls : Array Slot), St A D s (RW_X12_addLanguage cy o d letters_ tests_ inputLength_ at_ signed_ newParts_ machineParts_ firstParts_ firstTruth_ secondTruth_ isPair_ states_ stateClasses_ elements_ cursor_ hasSnapshot_ isSaving_ machineKind_ machineBound_ machineLength_ machineValue_ machinePattern_) H locs → lv_has ls 4 [(0, .ref o), (1, .int x1)] → W p l e rm_X12_addLanguage s m args below meth c H locs 0 0 Q (F0 m 0 ls []) := by
  intro H locs ls Z hl
  have hx := X.1.1
  have hb := X.1.2.1
  unfold f_X12_addLanguage at h
  refine lv_iconst (v := (0 : Int32)) hx hb dX12_addLanguage_0 (by decide) ?_
  refine lv_istore_n (lv' := [(2, .int (0 : Int32)), (0, .ref o), (1, .int x1)]) hx hb dX12_addLanguage_1 rfl hl (by decide) rfl (fun ls hl => ?_)
  obtain ⟨u18, hL19, h⟩ := ob_some h
  refine wl_X12_addLanguage_2 o d parts_ partKind_ partBound_ partLength_ partValue_ partPattern_ letters_ tests_ inputLength_ at_ signed_ newParts_ firstParts_ firstTruth_ secondTruth_ isPair_ states_ stateClasses_ elements_ cursor_ hasSnapshot_ isSaving_ x1 FU (machineParts_, machineKind_, machineBound_, machineLength_, machineValue_, machinePattern_, (0 : Int32)) u18 X hL19 (fun H locs ls Z hl => ?_) H locs ls Z (lv_sub hl [1, 2, 0] rfl)
  obtain rfl := Option.some.inj h
  exact K H locs ls _ dX12_addLanguage_59 Z
theorem c_X12_addLanguage (l : Launch) (D : va_G) (cy : Nat → ClassId) (o : Nat) (d : Nat → Nat) (parts_ : Nat → Int32) (partKind_ : Nat → Int32) (partBound_ : Nat → Int32) (partLength_ : Nat → Int32) (partValue_ : Nat → Int32) (partPattern_ : Nat → Int32) (letters_ : Int32) (tests_ : Int32) (inputLength_ : Int32) (at_ : Int32) (signed_ : Int32) (newParts_ : Int32) (machineParts_ : Int32) (firstParts_ : Int32) (firstTruth_ : Int32) (secondTruth_ : Int32) (isPair_ : Int32) (states_ : Int32) (stateClasses_ : Int32) (elements_ : Int32) (cursor_ : Int32) (hasSnapshot_ : Int32) (isSaving_ : Int32) (machineKind_ : Nat → Int32) (machineBound_ : Nat → Int32) (machineLength_ : Nat → Int32) (machineValue_ : Nat → Int32) (machinePattern_ : Nat → Int32) (x1 : Int32) (out : Int32 × (Nat → Int32) × (Nat → Int32) × (Nat → Int32) × (Nat → Int32) × (Nat → Int32)) (h : f_X12_addLanguage x1 parts_ partKind_ partBound_ partLength_ partValue_ partPattern_ machineParts_ machineKind_ machineBound_ machineLength_ machineValue_ machinePattern_ = some out) : CtV l yX12_addLanguage wsX12_addLanguage rm_X12_addLanguage D cy [.ref o, .int x1] (RW_X12_addLanguage cy o d letters_ tests_ inputLength_ at_ signed_ newParts_ machineParts_ firstParts_ firstTruth_ secondTruth_ isPair_ states_ stateClasses_ elements_ cursor_ hasSnapshot_ isSaving_ machineKind_ machineBound_ machineLength_ machineValue_ machinePattern_) (RO_X12_addLanguage cy o d parts_ partKind_ partBound_ partLength_ partValue_ partPattern_) (RW_X12_addLanguage cy o d letters_ tests_ inputLength_ at_ signed_ newParts_ out.1 firstParts_ firstTruth_ secondTruth_ isPair_ states_ stateClasses_ elements_ cursor_ hasSnapshot_ isSaving_ out.2.1 out.2.2.1 out.2.2.2.1 out.2.2.2.2.1 out.2.2.2.2.2) :=
  mk_v (by decide) rfl (Nat.le_of_ble_eq_true rfl) (fun p e s m args below meth c A Q X K H locs ls Z hl => wt_X12_addLanguage o d parts_ partKind_ partBound_ partLength_ partValue_ partPattern_ letters_ tests_ inputLength_ at_ signed_ newParts_ machineParts_ firstParts_ firstTruth_ secondTruth_ isPair_ states_ stateClasses_ elements_ cursor_ hasSnapshot_ isSaving_ machineKind_ machineBound_ machineLength_ machineValue_ machinePattern_ x1 out X h K H locs ls Z hl)
/-! SubwordCounterModel stepped (III)I -/
abbrev rm_X12_stepped : Room := { frames := 0, cells := 0, slots := 0, locals := 0 }
def RW_X12_stepped (cy : Nat → ClassId) (o : Nat) (d : Nat → Nat) (digit_ : Nat → Int32) : va_W := [((d 35), aI cy 4 digit_)]
def RO_X12_stepped (cy : Nat → ClassId) (o : Nat) (d : Nat → Nat) (letters_ : Int32) (tests_ : Int32) (inputLength_ : Int32) (at_ : Int32) (signed_ : Int32) (newParts_ : Int32) (machineParts_ : Int32) (firstParts_ : Int32) (firstTruth_ : Int32) (secondTruth_ : Int32) (isPair_ : Int32) (states_ : Int32) (stateClasses_ : Int32) (elements_ : Int32) (cursor_ : Int32) (hasSnapshot_ : Int32) (isSaving_ : Int32) (machineKind_ : Nat → Int32) (machineBound_ : Nat → Int32) (machineLength_ : Nat → Int32) (machinePattern_ : Nat → Int32) : va_W := [(o, ob 11 (oX12 d letters_ tests_ inputLength_ at_ signed_ newParts_ machineParts_ firstParts_ firstTruth_ secondTruth_ isPair_ states_ stateClasses_ elements_ cursor_ hasSnapshot_ isSaving_)), ((d 30), aI cy 8 machineKind_), ((d 31), aI cy 8 machineBound_), ((d 32), aI cy 8 machineLength_), ((d 34), aI cy 32 machinePattern_)]
theorem in_X12_stepped_X12 : ∀ w ∈ u_ws RX12 TX12 68, w ∈ wsX12_stepped := fun w h => (List.mem_cons_of_mem _ (List.mem_append_right _ h))
theorem lk_X12_stepped_X12_digit : Lk wsX12_stepped RX12 101 11 35 := ⟨RX12, TX12, 68, rfl, by decide, in_X12_stepped_X12, mem_at 1 rfl⟩
theorem lk_X12_stepped_X12_machineKind : Lk wsX12_stepped RX12 86 11 30 := ⟨RX12, TX12, 68, rfl, by decide, in_X12_stepped_X12, mem_at 2 rfl⟩
theorem lk_X12_stepped_X12_machineBound : Lk wsX12_stepped RX12 89 11 31 := ⟨RX12, TX12, 68, rfl, by decide, in_X12_stepped_X12, mem_at 3 rfl⟩
theorem lk_X12_stepped_X12_machinePattern : Lk wsX12_stepped RX12 98 11 34 := ⟨RX12, TX12, 68, rfl, by decide, in_X12_stepped_X12, mem_at 5 rfl⟩
theorem lk_X12_stepped_X12_machineLength : Lk wsX12_stepped RX12 92 11 32 := ⟨RX12, TX12, 68, rfl, by decide, in_X12_stepped_X12, mem_at 4 rfl⟩
def j_X12_stepped_129 (machineKind_ : Nat → Int32) (machineBound_ : Nat → Int32) (digit_ : Nat → Int32) (x1 : Int32) (x5 : Int32) (t0 : Int32) (t1 : Int32) : Option (((Nat → Int32) × Int32) ⊕ ((Nat → Int32))) :=
  ldA machineKind_ 8 x1 (fun v2 =>
  if v2 = 0 then
  (ldA machineBound_ 8 x1 (fun v17 =>
  rmI (t1 + t0) v17 (fun v20 =>
  stA digit_ 4 x5 v20 (fun digit_23 =>
  some (.inl (digit_23, (x5 + (-1 : Int32))))))))
  else
  (ldA machineBound_ 8 x1 (fun v5 =>
  if v5 ≤ (t1 + t0) then
  (ldA machineBound_ 8 x1 (fun v8 =>
  stA digit_ 4 x5 v8 (fun digit_11 =>
  some (.inl (digit_11, (x5 + (-1 : Int32)))))))
  else
  (stA digit_ 4 x5 (t1 + t0) (fun digit_14 =>
  some (.inl (digit_14, (x5 + (-1 : Int32)))))))))
set_option maxHeartbeats 4000000 in
set_option maxRecDepth 100000 in
theorem jw_X12_stepped_129 {p : Program} {l : Launch} {e : Env} {s : State} {m : MethodId} {args : Array Value} {below : List Frame} {meth : Method} {c : Code} {A : Nat → Prop} {Q : State → Prop} {D : va_G} {cy : Nat → ClassId} (o : Nat) (d : Nat → Nat) (letters_ : Int32) (tests_ : Int32) (inputLength_ : Int32) (at_ : Int32) (signed_ : Int32) (newParts_ : Int32) (machineParts_ : Int32) (firstParts_ : Int32) (firstTruth_ : Int32) (secondTruth_ : Int32) (isPair_ : Int32) (states_ : Int32) (stateClasses_ : Int32) (elements_ : Int32) (cursor_ : Int32) (hasSnapshot_ : Int32) (isSaving_ : Int32) (machineKind_ : Nat → Int32) (machineBound_ : Nat → Int32) (machineLength_ : Nat → Int32) (machinePattern_ : Nat → Int32) (digit_ : Nat → Int32) (x1 : Int32) (x3 : Int32) (x5 : Int32) (t0 : Int32) (t1 : Int32) (o1 : ((Nat → Int32) × Int32) ⊕ ((Nat → Int32))) (X : Cx p m c cX12_stepped 7 s args wsX12_stepped RX12 A D cy (RO_X12_stepped cy o d letters_ tests_ inputLength_ at_ signed_ newParts_ machineParts_ firstParts_ firstTruth_ secondTruth_ isPair_ states_ stateClasses_ elements_ cursor_ hasSnapshot_ isSaving_ machineKind_ machineBound_ machineLength_ machinePattern_)) (h : j_X12_stepped_129 machineKind_ machineBound_ digit_ x1 x5 t0 t1 = some o1) (K : Sum.elim (fun v : (Nat → Int32) × Int32 => ∀ (H : Heap) (locs : List Loc) (ls : Array Slot), St A D s (RW_X12_stepped cy o d v.1) H locs → lv_has ls 7 [(0, .ref o), (1, .int x1), (3, .int x3), (5, .int v.2)] → W p l e rm_X12_stepped s m args below meth c H locs 0 0 Q (F0 m 81 ls [])) (fun v : (Nat → Int32) => ∀ (H : Heap) (locs : List Loc) (ls : Array Slot), St A D s (RW_X12_stepped cy o d v) H locs → lv_has ls 7 [(0, .ref o)] → W p l e rm_X12_stepped s m args below meth c H locs 0 0 Q (F0 m 188 ls [])) o1) : ∀ (H : Heap) (locs : List Loc) (ls : Array Slot), St A D s (RW_X12_stepped cy o d digit_) H locs → lv_has ls 7 [(0, .ref o), (1, .int x1), (3, .int x3), (5, .int x5)] → W p l e rm_X12_stepped s m args below meth c H locs 0 0 Q (F0 m 129 ls [.int t0, .int t1]) := by
  intro H locs ls Z hl
  have hx := X.1.1
  have hb := X.1.2.1
  unfold j_X12_stepped_129 at h
  refine lv_iadd hx hb dX12_stepped_129 ?_
  refine lv_istore (lv' := [(6, .int (t1 + t0)), (0, .ref o), (1, .int x1), (3, .int x3), (5, .int x5)]) hx hb dX12_stepped_130 hl (by decide) rfl (fun ls hl => ?_)
  refine lv_aload_n hx hb dX12_stepped_132 rfl (lv_at hl 1 rfl) ?_
  refine x_getO X Z 0 35 (v := .ref (d 35)) rfl rfl lk_X12_stepped_X12_digit dX12_stepped_133 ?_
  refine lv_iload hx hb dX12_stepped_136 (lv_at hl 4 rfl) ?_
  refine lv_aload_n hx hb dX12_stepped_138 rfl (lv_at hl 1 rfl) ?_
  refine x_getO X Z 0 30 (v := .ref (d 30)) rfl rfl lk_X12_stepped_X12_machineKind dX12_stepped_139 ?_
  refine lv_iload_n hx hb dX12_stepped_142 rfl (lv_at hl 2 rfl) ?_
  obtain ⟨hin1, v2, hv3, h⟩ := ld_b h
  refine x_ialdO X Z 1 rfl hin1 hv3 dX12_stepped_143 ?_
  refine lv_if_ne (tgt := 159) hx hb dX12_stepped_144 (by decide) (fun cnd => ?_) (fun cnd => ?_)
  · replace h := ifn h cnd
    refine lv_iload hx hb dX12_stepped_159 (lv_at hl 0 rfl) ?_
    refine lv_aload_n hx hb dX12_stepped_161 rfl (lv_at hl 1 rfl) ?_
    refine x_getO X Z 0 31 (v := .ref (d 31)) rfl rfl lk_X12_stepped_X12_machineBound dX12_stepped_162 ?_
    refine lv_iload_n hx hb dX12_stepped_165 rfl (lv_at hl 2 rfl) ?_
    obtain ⟨hin4, v5, hv6, h⟩ := ld_b h
    refine x_ialdO X Z 2 rfl hin4 hv6 dX12_stepped_166 ?_
    refine lv_icmp_ge (tgt := 175) hx hb dX12_stepped_167 (by decide) (fun cnd => ?_) (fun cnd => ?_)
    · replace h := ifp h cnd
      refine lv_aload_n hx hb dX12_stepped_175 rfl (lv_at hl 1 rfl) ?_
      refine x_getO X Z 0 31 (v := .ref (d 31)) rfl rfl lk_X12_stepped_X12_machineBound dX12_stepped_176 ?_
      refine lv_iload_n hx hb dX12_stepped_179 rfl (lv_at hl 2 rfl) ?_
      obtain ⟨hin7, v8, hv9, h⟩ := ld_b h
      refine x_ialdO X Z 2 rfl hin7 hv9 dX12_stepped_180 ?_
      obtain ⟨hin10, digit_11, hv12, h⟩ := st_b h
      refine x_iast X Z 0 (RW_X12_stepped cy o d digit_11) rfl hin10 hv12 rfl dX12_stepped_181 (fun H locs Z => ?_)
      refine lv_iinc (v := (x5 + (-1 : Int32))) (lv' := [(5, .int (x5 + (-1 : Int32))), (6, .int (t1 + t0)), (0, .ref o), (1, .int x1), (3, .int x3)]) hx hb dX12_stepped_182 hl (k := 4) rfl rfl (by decide) rfl (fun ls hl => ?_)
      refine lv_goto (tgt := 81) hx hb dX12_stepped_185 (by decide) ?_
      obtain rfl := Option.some.inj h
      exact sk_l K H locs ls Z (lv_sub hl [2, 3, 4, 0] rfl)
    · replace h := ifn h cnd
      refine lv_iload hx hb dX12_stepped_170 (lv_at hl 0 rfl) ?_
      refine lv_goto (tgt := 181) hx hb dX12_stepped_172 (by decide) ?_
      obtain ⟨hin13, digit_14, hv15, h⟩ := st_b h
      refine x_iast X Z 0 (RW_X12_stepped cy o d digit_14) rfl hin13 hv15 rfl dX12_stepped_181 (fun H locs Z => ?_)
      refine lv_iinc (v := (x5 + (-1 : Int32))) (lv' := [(5, .int (x5 + (-1 : Int32))), (6, .int (t1 + t0)), (0, .ref o), (1, .int x1), (3, .int x3)]) hx hb dX12_stepped_182 hl (k := 4) rfl rfl (by decide) rfl (fun ls hl => ?_)
      refine lv_goto (tgt := 81) hx hb dX12_stepped_185 (by decide) ?_
      obtain rfl := Option.some.inj h
      exact sk_l K H locs ls Z (lv_sub hl [2, 3, 4, 0] rfl)
  · replace h := ifp h cnd
    refine lv_iload hx hb dX12_stepped_147 (lv_at hl 0 rfl) ?_
    refine lv_aload_n hx hb dX12_stepped_149 rfl (lv_at hl 1 rfl) ?_
    refine x_getO X Z 0 31 (v := .ref (d 31)) rfl rfl lk_X12_stepped_X12_machineBound dX12_stepped_150 ?_
    refine lv_iload_n hx hb dX12_stepped_153 rfl (lv_at hl 2 rfl) ?_
    obtain ⟨hin16, v17, hv18, h⟩ := ld_b h
    refine x_ialdO X Z 2 rfl hin16 hv18 dX12_stepped_154 ?_
    obtain ⟨hz19, v20, hv21, h⟩ := rm_b h
    refine lv_irem hx hb dX12_stepped_155 hz19 ?_
    rw [hv21]
    refine lv_goto (tgt := 181) hx hb dX12_stepped_156 (by decide) ?_
    obtain ⟨hin22, digit_23, hv24, h⟩ := st_b h
    refine x_iast X Z 0 (RW_X12_stepped cy o d digit_23) rfl hin22 hv24 rfl dX12_stepped_181 (fun H locs Z => ?_)
    refine lv_iinc (v := (x5 + (-1 : Int32))) (lv' := [(5, .int (x5 + (-1 : Int32))), (6, .int (t1 + t0)), (0, .ref o), (1, .int x1), (3, .int x3)]) hx hb dX12_stepped_182 hl (k := 4) rfl rfl (by decide) rfl (fun ls hl => ?_)
    refine lv_goto (tgt := 81) hx hb dX12_stepped_185 (by decide) ?_
    obtain rfl := Option.some.inj h
    exact sk_l K H locs ls Z (lv_sub hl [2, 3, 4, 0] rfl)
def b_X12_stepped_81 (machineKind_ : Nat → Int32) (machineBound_ : Nat → Int32) (machinePattern_ : Nat → Int32) (x1 : Int32) (x3 : Int32) (digit_ : Nat → Int32) (x5 : Int32) : Option (((Nat → Int32) × Int32) ⊕ ((Nat → Int32))) :=
  if x5 < 0 then
  (some (.inr digit_))
  else
  (ldA machinePattern_ 32 (((4 : Int32) * x1) + x5) (fun v26 =>
  if v26 = x3 then
  (ldA digit_ 4 x5 (fun v29 =>
  if x5 = 0 then
  (j_X12_stepped_129 machineKind_ machineBound_ digit_ x1 x5 (1 : Int32) v29)
  else
  (ldA digit_ 4 (x5 - (1 : Int32)) (fun v32 =>
  j_X12_stepped_129 machineKind_ machineBound_ digit_ x1 x5 v32 v29))))
  else
  (some (.inl (digit_, (x5 + (-1 : Int32)))))))
set_option maxHeartbeats 4000000 in
set_option maxRecDepth 100000 in
theorem wb_X12_stepped_81 {p : Program} {l : Launch} {e : Env} {s : State} {m : MethodId} {args : Array Value} {below : List Frame} {meth : Method} {c : Code} {A : Nat → Prop} {Q : State → Prop} {D : va_G} {cy : Nat → ClassId} (o : Nat) (d : Nat → Nat) (letters_ : Int32) (tests_ : Int32) (inputLength_ : Int32) (at_ : Int32) (signed_ : Int32) (newParts_ : Int32) (machineParts_ : Int32) (firstParts_ : Int32) (firstTruth_ : Int32) (secondTruth_ : Int32) (isPair_ : Int32) (states_ : Int32) (stateClasses_ : Int32) (elements_ : Int32) (cursor_ : Int32) (hasSnapshot_ : Int32) (isSaving_ : Int32) (machineKind_ : Nat → Int32) (machineBound_ : Nat → Int32) (machineLength_ : Nat → Int32) (machinePattern_ : Nat → Int32)  (x1 : Int32) (x3 : Int32) (digit_ : Nat → Int32) (x5 : Int32) (o1 : ((Nat → Int32) × Int32) ⊕ ((Nat → Int32))) (X : Cx p m c cX12_stepped 7 s args wsX12_stepped RX12 A D cy (RO_X12_stepped cy o d letters_ tests_ inputLength_ at_ signed_ newParts_ machineParts_ firstParts_ firstTruth_ secondTruth_ isPair_ states_ stateClasses_ elements_ cursor_ hasSnapshot_ isSaving_ machineKind_ machineBound_ machineLength_ machinePattern_)) (h : b_X12_stepped_81 machineKind_ machineBound_ machinePattern_ x1 x3 digit_ x5 = some o1) (K : Sum.elim (fun v : (Nat → Int32) × Int32 => ∀ (H : Heap) (locs : List Loc) (ls : Array Slot), St A D s (RW_X12_stepped cy o d v.1) H locs → lv_has ls 7 [(0, .ref o), (1, .int x1), (3, .int x3), (5, .int v.2)] → W p l e rm_X12_stepped s m args below meth c H locs 0 0 Q (F0 m 81 ls [])) (fun v : (Nat → Int32) => ∀ (H : Heap) (locs : List Loc) (ls : Array Slot), St A D s (RW_X12_stepped cy o d v) H locs → lv_has ls 7 [(0, .ref o)] → W p l e rm_X12_stepped s m args below meth c H locs 0 0 Q (F0 m 188 ls [])) o1) : ∀ (H : Heap) (locs : List Loc) (ls : Array Slot), St A D s (RW_X12_stepped cy o d digit_) H locs → lv_has ls 7 [(0, .ref o), (1, .int x1), (3, .int x3), (5, .int x5)] → W p l e rm_X12_stepped s m args below meth c H locs 0 0 Q (F0 m 81 ls []) := by
  intro H locs ls Z hl
  have hx := X.1.1
  have hb := X.1.2.1
  unfold b_X12_stepped_81 at h
  refine lv_iload hx hb dX12_stepped_81 (lv_at hl 3 rfl) ?_
  refine lv_if_lt (tgt := 188) hx hb dX12_stepped_83 (by decide) (fun cnd => ?_) (fun cnd => ?_)
  · replace h := ifp h cnd
    obtain rfl := Option.some.inj h
    exact (sk_r K) H locs ls Z (lv_sub hl [0] rfl)
  · replace h := ifn h cnd
    refine lv_aload_n hx hb dX12_stepped_86 rfl (lv_at hl 0 rfl) ?_
    refine x_getO X Z 0 34 (v := .ref (d 34)) rfl rfl lk_X12_stepped_X12_machinePattern dX12_stepped_87 ?_
    refine lv_iconst (v := (4 : Int32)) hx hb dX12_stepped_90 (by decide) ?_
    refine lv_iload_n hx hb dX12_stepped_91 rfl (lv_at hl 1 rfl) ?_
    refine lv_imul hx hb dX12_stepped_92 ?_
    refine lv_iload hx hb dX12_stepped_93 (lv_at hl 3 rfl) ?_
    refine lv_iadd hx hb dX12_stepped_95 ?_
    obtain ⟨hin25, v26, hv27, h⟩ := ld_b h
    refine x_ialdO X Z 4 rfl hin25 hv27 dX12_stepped_96 ?_
    refine lv_iload_n hx hb dX12_stepped_97 rfl (lv_at hl 2 rfl) ?_
    refine lv_icmp_eq (tgt := 104) hx hb dX12_stepped_98 (by decide) (fun cnd => ?_) (fun cnd => ?_)
    · replace h := ifp h cnd
      refine lv_aload_n hx hb dX12_stepped_104 rfl (lv_at hl 0 rfl) ?_
      refine x_getO X Z 0 35 (v := .ref (d 35)) rfl rfl lk_X12_stepped_X12_digit dX12_stepped_105 ?_
      refine lv_iload hx hb dX12_stepped_108 (lv_at hl 3 rfl) ?_
      obtain ⟨hin28, v29, hv30, h⟩ := ld_b h
      refine x_iald X Z 0 rfl hin28 hv30 dX12_stepped_110 ?_
      refine lv_iload hx hb dX12_stepped_111 (lv_at hl 3 rfl) ?_
      refine lv_if_ne (tgt := 120) hx hb dX12_stepped_113 (by decide) (fun cnd => ?_) (fun cnd => ?_)
      · replace h := ifn h cnd
        refine lv_aload_n hx hb dX12_stepped_120 rfl (lv_at hl 0 rfl) ?_
        refine x_getO X Z 0 35 (v := .ref (d 35)) rfl rfl lk_X12_stepped_X12_digit dX12_stepped_121 ?_
        refine lv_iload hx hb dX12_stepped_124 (lv_at hl 3 rfl) ?_
        refine lv_iconst (v := (1 : Int32)) hx hb dX12_stepped_126 (by decide) ?_
        refine lv_isub hx hb dX12_stepped_127 ?_
        obtain ⟨hin31, v32, hv33, h⟩ := ld_b h
        refine x_iald X Z 0 rfl hin31 hv33 dX12_stepped_128 ?_
        exact jw_X12_stepped_129 o d letters_ tests_ inputLength_ at_ signed_ newParts_ machineParts_ firstParts_ firstTruth_ secondTruth_ isPair_ states_ stateClasses_ elements_ cursor_ hasSnapshot_ isSaving_ machineKind_ machineBound_ machineLength_ machinePattern_ digit_ x1 x3 x5 v32 v29 _ X h K H locs ls Z (lv_sub hl [0, 1, 2, 3] rfl)
      · replace h := ifp h cnd
        refine lv_iconst (v := (1 : Int32)) hx hb dX12_stepped_116 (by decide) ?_
        refine lv_goto (tgt := 129) hx hb dX12_stepped_117 (by decide) ?_
        exact jw_X12_stepped_129 o d letters_ tests_ inputLength_ at_ signed_ newParts_ machineParts_ firstParts_ firstTruth_ secondTruth_ isPair_ states_ stateClasses_ elements_ cursor_ hasSnapshot_ isSaving_ machineKind_ machineBound_ machineLength_ machinePattern_ digit_ x1 x3 x5 (1 : Int32) v29 _ X h K H locs ls Z (lv_sub hl [0, 1, 2, 3] rfl)
    · replace h := ifn h cnd
      refine lv_goto (tgt := 182) hx hb dX12_stepped_101 (by decide) ?_
      refine lv_iinc (v := (x5 + (-1 : Int32))) (lv' := [(5, .int (x5 + (-1 : Int32))), (0, .ref o), (1, .int x1), (3, .int x3)]) hx hb dX12_stepped_182 hl (k := 3) rfl rfl (by decide) rfl (fun ls hl => ?_)
      refine lv_goto (tgt := 81) hx hb dX12_stepped_185 (by decide) ?_
      obtain rfl := Option.some.inj h
      exact sk_l K H locs ls Z (lv_sub hl [1, 2, 3, 0] rfl)
set_option maxHeartbeats 4000000 in
set_option maxRecDepth 100000 in
theorem wl_X12_stepped_81 {p : Program} {l : Launch} {e : Env} {s : State} {m : MethodId} {args : Array Value} {below : List Frame} {meth : Method} {c : Code} {A : Nat → Prop} {Q : State → Prop} {D : va_G} {cy : Nat → ClassId} (o : Nat) (d : Nat → Nat) (letters_ : Int32) (tests_ : Int32) (inputLength_ : Int32) (at_ : Int32) (signed_ : Int32) (newParts_ : Int32) (machineParts_ : Int32) (firstParts_ : Int32) (firstTruth_ : Int32) (secondTruth_ : Int32) (isPair_ : Int32) (states_ : Int32) (stateClasses_ : Int32) (elements_ : Int32) (cursor_ : Int32) (hasSnapshot_ : Int32) (isSaving_ : Int32) (machineKind_ : Nat → Int32) (machineBound_ : Nat → Int32) (machineLength_ : Nat → Int32) (machinePattern_ : Nat → Int32)  (x1 : Int32) (x3 : Int32) (n : Nat) (v : (Nat → Int32) × Int32) (x : (Nat → Int32)) (X : Cx p m c cX12_stepped 7 s args wsX12_stepped RX12 A D cy (RO_X12_stepped cy o d letters_ tests_ inputLength_ at_ signed_ newParts_ machineParts_ firstParts_ firstTruth_ secondTruth_ isPair_ states_ stateClasses_ elements_ cursor_ hasSnapshot_ isSaving_ machineKind_ machineBound_ machineLength_ machinePattern_)) (h : loopN (fun v => b_X12_stepped_81 machineKind_ machineBound_ machinePattern_ x1 x3 v.1 v.2) n v = some x) (K : ∀ (H : Heap) (locs : List Loc) (ls : Array Slot), St A D s (RW_X12_stepped cy o d x) H locs → lv_has ls 7 [(0, .ref o)] → W p l e rm_X12_stepped s m args below meth c H locs 0 0 Q (F0 m 188 ls [])) : ∀ (H : Heap) (locs : List Loc) (ls : Array Slot), St A D s (RW_X12_stepped cy o d v.1) H locs → lv_has ls 7 [(0, .ref o), (1, .int x1), (3, .int x3), (5, .int v.2)] → W p l e rm_X12_stepped s m args below meth c H locs 0 0 Q (F0 m 81 ls []) :=
  loop_gen (B := (fun v => b_X12_stepped_81 machineKind_ machineBound_ machinePattern_ x1 x3 v.1 v.2)) (Head := fun v : (Nat → Int32) × Int32 => ∀ (H : Heap) (locs : List Loc) (ls : Array Slot), St A D s (RW_X12_stepped cy o d v.1) H locs → lv_has ls 7 [(0, .ref o), (1, .int x1), (3, .int x3), (5, .int v.2)] → W p l e rm_X12_stepped s m args below meth c H locs 0 0 Q (F0 m 81 ls [])) (Exit := fun v : (Nat → Int32) => ∀ (H : Heap) (locs : List Loc) (ls : Array Slot), St A D s (RW_X12_stepped cy o d v) H locs → lv_has ls 7 [(0, .ref o)] → W p l e rm_X12_stepped s m args below meth c H locs 0 0 Q (F0 m 188 ls [])) (fun v o9 hb1 K1 => wb_X12_stepped_81 o d letters_ tests_ inputLength_ at_ signed_ newParts_ machineParts_ firstParts_ firstTruth_ secondTruth_ isPair_ states_ stateClasses_ elements_ cursor_ hasSnapshot_ isSaving_ machineKind_ machineBound_ machineLength_ machinePattern_ x1 x3 v.1 v.2 o9 X hb1 K1) n v x h K
def b_X12_stepped_6  (digit_ : Nat → Int32) (x4 : Int32) (x5 : Int32) : Option (((Nat → Int32) × Int32 × Int32) ⊕ ((Nat → Int32))) :=
  if (4 : Int32) ≤ x5 then
  (some (.inr digit_))
  else
  (rmI x4 (10 : Int32) (fun v35 =>
  stA digit_ 4 x5 v35 (fun digit_38 =>
  dvI x4 (10 : Int32) (fun v41 =>
  some (.inl (digit_38, v41, (x5 + (1 : Int32))))))))
set_option maxHeartbeats 4000000 in
set_option maxRecDepth 100000 in
theorem wb_X12_stepped_6 {p : Program} {l : Launch} {e : Env} {s : State} {m : MethodId} {args : Array Value} {below : List Frame} {meth : Method} {c : Code} {A : Nat → Prop} {Q : State → Prop} {D : va_G} {cy : Nat → ClassId} (o : Nat) (d : Nat → Nat) (letters_ : Int32) (tests_ : Int32) (inputLength_ : Int32) (at_ : Int32) (signed_ : Int32) (newParts_ : Int32) (machineParts_ : Int32) (firstParts_ : Int32) (firstTruth_ : Int32) (secondTruth_ : Int32) (isPair_ : Int32) (states_ : Int32) (stateClasses_ : Int32) (elements_ : Int32) (cursor_ : Int32) (hasSnapshot_ : Int32) (isSaving_ : Int32) (machineKind_ : Nat → Int32) (machineBound_ : Nat → Int32) (machineLength_ : Nat → Int32) (machinePattern_ : Nat → Int32)  (x1 : Int32) (x3 : Int32) (digit_ : Nat → Int32) (x4 : Int32) (x5 : Int32) (o1 : ((Nat → Int32) × Int32 × Int32) ⊕ ((Nat → Int32))) (X : Cx p m c cX12_stepped 7 s args wsX12_stepped RX12 A D cy (RO_X12_stepped cy o d letters_ tests_ inputLength_ at_ signed_ newParts_ machineParts_ firstParts_ firstTruth_ secondTruth_ isPair_ states_ stateClasses_ elements_ cursor_ hasSnapshot_ isSaving_ machineKind_ machineBound_ machineLength_ machinePattern_)) (h : b_X12_stepped_6 digit_ x4 x5 = some o1) (K : Sum.elim (fun v : (Nat → Int32) × Int32 × Int32 => ∀ (H : Heap) (locs : List Loc) (ls : Array Slot), St A D s (RW_X12_stepped cy o d v.1) H locs → lv_has ls 7 [(0, .ref o), (1, .int x1), (3, .int x3), (4, .int v.2.1), (5, .int v.2.2)] → W p l e rm_X12_stepped s m args below meth c H locs 0 0 Q (F0 m 6 ls [])) (fun v : (Nat → Int32) => ∀ (H : Heap) (locs : List Loc) (ls : Array Slot), St A D s (RW_X12_stepped cy o d v) H locs → lv_has ls 7 [(0, .ref o), (1, .int x1), (3, .int x3)] → W p l e rm_X12_stepped s m args below meth c H locs 0 0 Q (F0 m 37 ls [])) o1) : ∀ (H : Heap) (locs : List Loc) (ls : Array Slot), St A D s (RW_X12_stepped cy o d digit_) H locs → lv_has ls 7 [(0, .ref o), (1, .int x1), (3, .int x3), (4, .int x4), (5, .int x5)] → W p l e rm_X12_stepped s m args below meth c H locs 0 0 Q (F0 m 6 ls []) := by
  intro H locs ls Z hl
  have hx := X.1.1
  have hb := X.1.2.1
  unfold b_X12_stepped_6 at h
  refine lv_iload hx hb dX12_stepped_6 (lv_at hl 4 rfl) ?_
  refine lv_iconst (v := (4 : Int32)) hx hb dX12_stepped_8 (by decide) ?_
  refine lv_icmp_ge (tgt := 37) hx hb dX12_stepped_9 (by decide) (fun cnd => ?_) (fun cnd => ?_)
  · replace h := ifp h cnd
    obtain rfl := Option.some.inj h
    exact (sk_r K) H locs ls Z (lv_sub hl [0, 1, 2] rfl)
  · replace h := ifn h cnd
    refine lv_aload_n hx hb dX12_stepped_12 rfl (lv_at hl 0 rfl) ?_
    refine x_getO X Z 0 35 (v := .ref (d 35)) rfl rfl lk_X12_stepped_X12_digit dX12_stepped_13 ?_
    refine lv_iload hx hb dX12_stepped_16 (lv_at hl 4 rfl) ?_
    refine lv_iload hx hb dX12_stepped_18 (lv_at hl 3 rfl) ?_
    refine lv_bipush (v := (10 : Int32)) hx hb dX12_stepped_20 (by decide) ?_
    obtain ⟨hz34, v35, hv36, h⟩ := rm_b h
    refine lv_irem hx hb dX12_stepped_22 hz34 ?_
    rw [hv36]
    obtain ⟨hin37, digit_38, hv39, h⟩ := st_b h
    refine x_iast X Z 0 (RW_X12_stepped cy o d digit_38) rfl hin37 hv39 rfl dX12_stepped_23 (fun H locs Z => ?_)
    refine lv_iload hx hb dX12_stepped_24 (lv_at hl 3 rfl) ?_
    refine lv_bipush (v := (10 : Int32)) hx hb dX12_stepped_26 (by decide) ?_
    obtain ⟨hz40, v41, hv42, h⟩ := dv_b h
    refine lv_idiv hx hb dX12_stepped_28 hz40 ?_
    rw [hv42]
    refine lv_istore (lv' := [(4, .int v41), (0, .ref o), (1, .int x1), (3, .int x3), (5, .int x5)]) hx hb dX12_stepped_29 hl (by decide) rfl (fun ls hl => ?_)
    refine lv_iinc (v := (x5 + (1 : Int32))) (lv' := [(5, .int (x5 + (1 : Int32))), (4, .int v41), (0, .ref o), (1, .int x1), (3, .int x3)]) hx hb dX12_stepped_31 hl (k := 4) rfl rfl (by decide) rfl (fun ls hl => ?_)
    refine lv_goto (tgt := 6) hx hb dX12_stepped_34 (by decide) ?_
    obtain rfl := Option.some.inj h
    exact sk_l K H locs ls Z (lv_sub hl [2, 3, 4, 1, 0] rfl)
set_option maxHeartbeats 4000000 in
set_option maxRecDepth 100000 in
theorem wl_X12_stepped_6 {p : Program} {l : Launch} {e : Env} {s : State} {m : MethodId} {args : Array Value} {below : List Frame} {meth : Method} {c : Code} {A : Nat → Prop} {Q : State → Prop} {D : va_G} {cy : Nat → ClassId} (o : Nat) (d : Nat → Nat) (letters_ : Int32) (tests_ : Int32) (inputLength_ : Int32) (at_ : Int32) (signed_ : Int32) (newParts_ : Int32) (machineParts_ : Int32) (firstParts_ : Int32) (firstTruth_ : Int32) (secondTruth_ : Int32) (isPair_ : Int32) (states_ : Int32) (stateClasses_ : Int32) (elements_ : Int32) (cursor_ : Int32) (hasSnapshot_ : Int32) (isSaving_ : Int32) (machineKind_ : Nat → Int32) (machineBound_ : Nat → Int32) (machineLength_ : Nat → Int32) (machinePattern_ : Nat → Int32)  (x1 : Int32) (x3 : Int32) (n : Nat) (v : (Nat → Int32) × Int32 × Int32) (x : (Nat → Int32)) (X : Cx p m c cX12_stepped 7 s args wsX12_stepped RX12 A D cy (RO_X12_stepped cy o d letters_ tests_ inputLength_ at_ signed_ newParts_ machineParts_ firstParts_ firstTruth_ secondTruth_ isPair_ states_ stateClasses_ elements_ cursor_ hasSnapshot_ isSaving_ machineKind_ machineBound_ machineLength_ machinePattern_)) (h : loopN (fun v => b_X12_stepped_6 v.1 v.2.1 v.2.2) n v = some x) (K : ∀ (H : Heap) (locs : List Loc) (ls : Array Slot), St A D s (RW_X12_stepped cy o d x) H locs → lv_has ls 7 [(0, .ref o), (1, .int x1), (3, .int x3)] → W p l e rm_X12_stepped s m args below meth c H locs 0 0 Q (F0 m 37 ls [])) : ∀ (H : Heap) (locs : List Loc) (ls : Array Slot), St A D s (RW_X12_stepped cy o d v.1) H locs → lv_has ls 7 [(0, .ref o), (1, .int x1), (3, .int x3), (4, .int v.2.1), (5, .int v.2.2)] → W p l e rm_X12_stepped s m args below meth c H locs 0 0 Q (F0 m 6 ls []) :=
  loop_gen (B := (fun v => b_X12_stepped_6 v.1 v.2.1 v.2.2)) (Head := fun v : (Nat → Int32) × Int32 × Int32 => ∀ (H : Heap) (locs : List Loc) (ls : Array Slot), St A D s (RW_X12_stepped cy o d v.1) H locs → lv_has ls 7 [(0, .ref o), (1, .int x1), (3, .int x3), (4, .int v.2.1), (5, .int v.2.2)] → W p l e rm_X12_stepped s m args below meth c H locs 0 0 Q (F0 m 6 ls [])) (Exit := fun v : (Nat → Int32) => ∀ (H : Heap) (locs : List Loc) (ls : Array Slot), St A D s (RW_X12_stepped cy o d v) H locs → lv_has ls 7 [(0, .ref o), (1, .int x1), (3, .int x3)] → W p l e rm_X12_stepped s m args below meth c H locs 0 0 Q (F0 m 37 ls [])) (fun v o9 hb1 K1 => wb_X12_stepped_6 o d letters_ tests_ inputLength_ at_ signed_ newParts_ machineParts_ firstParts_ firstTruth_ secondTruth_ isPair_ states_ stateClasses_ elements_ cursor_ hasSnapshot_ isSaving_ machineKind_ machineBound_ machineLength_ machinePattern_ x1 x3 v.1 v.2.1 v.2.2 o9 X hb1 K1) n v x h K
def j_X12_stepped_188 (digit_ : Nat → Int32) : Option (Int32 × (Nat → Int32)) :=
  ldA digit_ 4 (0 : Int32) (fun v44 =>
  ldA digit_ 4 (1 : Int32) (fun v47 =>
  ldA digit_ 4 (2 : Int32) (fun v50 =>
  ldA digit_ 4 (3 : Int32) (fun v53 =>
  some ((((v44 + ((10 : Int32) * v47)) + ((100 : Int32) * v50)) + ((1000 : Int32) * v53)), digit_)))))
set_option maxHeartbeats 4000000 in
set_option maxRecDepth 100000 in
theorem jw_X12_stepped_188 {p : Program} {l : Launch} {e : Env} {s : State} {m : MethodId} {args : Array Value} {below : List Frame} {meth : Method} {c : Code} {A : Nat → Prop} {Q : State → Prop} {D : va_G} {cy : Nat → ClassId} (o : Nat) (d : Nat → Nat) (letters_ : Int32) (tests_ : Int32) (inputLength_ : Int32) (at_ : Int32) (signed_ : Int32) (newParts_ : Int32) (machineParts_ : Int32) (firstParts_ : Int32) (firstTruth_ : Int32) (secondTruth_ : Int32) (isPair_ : Int32) (states_ : Int32) (stateClasses_ : Int32) (elements_ : Int32) (cursor_ : Int32) (hasSnapshot_ : Int32) (isSaving_ : Int32) (machineKind_ : Nat → Int32) (machineBound_ : Nat → Int32) (machineLength_ : Nat → Int32) (machinePattern_ : Nat → Int32) (digit_ : Nat → Int32) (out : Int32 × (Nat → Int32)) (X : Cx p m c cX12_stepped 7 s args wsX12_stepped RX12 A D cy (RO_X12_stepped cy o d letters_ tests_ inputLength_ at_ signed_ newParts_ machineParts_ firstParts_ firstTruth_ secondTruth_ isPair_ states_ stateClasses_ elements_ cursor_ hasSnapshot_ isSaving_ machineKind_ machineBound_ machineLength_ machinePattern_)) (h : j_X12_stepped_188 digit_ = some out) (K : ∀ (H : Heap) (locs : List Loc) (ls : Array Slot) (pc : Nat), decode cX12_stepped pc = .ok (.ireturn, 1) → St A D s (RW_X12_stepped cy o d out.2) H locs → W p l e rm_X12_stepped s m args below meth c H locs 0 0 Q (F0 m pc ls [.int out.1])) : ∀ (H : Heap) (locs : List Loc) (ls : Array Slot), St A D s (RW_X12_stepped cy o d digit_) H locs → lv_has ls 7 [(0, .ref o)] → W p l e rm_X12_stepped s m args below meth c H locs 0 0 Q (F0 m 188 ls []) := by
  intro H locs ls Z hl
  have hx := X.1.1
  have hb := X.1.2.1
  unfold j_X12_stepped_188 at h
  refine lv_aload_n hx hb dX12_stepped_188 rfl (lv_at hl 0 rfl) ?_
  refine x_getO X Z 0 35 (v := .ref (d 35)) rfl rfl lk_X12_stepped_X12_digit dX12_stepped_189 ?_
  refine lv_iconst (v := (0 : Int32)) hx hb dX12_stepped_192 (by decide) ?_
  obtain ⟨hin43, v44, hv45, h⟩ := ld_b h
  refine x_iald X Z 0 rfl hin43 hv45 dX12_stepped_193 ?_
  refine lv_bipush (v := (10 : Int32)) hx hb dX12_stepped_194 (by decide) ?_
  refine lv_aload_n hx hb dX12_stepped_196 rfl (lv_at hl 0 rfl) ?_
  refine x_getO X Z 0 35 (v := .ref (d 35)) rfl rfl lk_X12_stepped_X12_digit dX12_stepped_197 ?_
  refine lv_iconst (v := (1 : Int32)) hx hb dX12_stepped_200 (by decide) ?_
  obtain ⟨hin46, v47, hv48, h⟩ := ld_b h
  refine x_iald X Z 0 rfl hin46 hv48 dX12_stepped_201 ?_
  refine lv_imul hx hb dX12_stepped_202 ?_
  refine lv_iadd hx hb dX12_stepped_203 ?_
  refine lv_bipush (v := (100 : Int32)) hx hb dX12_stepped_204 (by decide) ?_
  refine lv_aload_n hx hb dX12_stepped_206 rfl (lv_at hl 0 rfl) ?_
  refine x_getO X Z 0 35 (v := .ref (d 35)) rfl rfl lk_X12_stepped_X12_digit dX12_stepped_207 ?_
  refine lv_iconst (v := (2 : Int32)) hx hb dX12_stepped_210 (by decide) ?_
  obtain ⟨hin49, v50, hv51, h⟩ := ld_b h
  refine x_iald X Z 0 rfl hin49 hv51 dX12_stepped_211 ?_
  refine lv_imul hx hb dX12_stepped_212 ?_
  refine lv_iadd hx hb dX12_stepped_213 ?_
  refine lv_sipush (v := (1000 : Int32)) hx hb dX12_stepped_214 (by decide) ?_
  refine lv_aload_n hx hb dX12_stepped_217 rfl (lv_at hl 0 rfl) ?_
  refine x_getO X Z 0 35 (v := .ref (d 35)) rfl rfl lk_X12_stepped_X12_digit dX12_stepped_218 ?_
  refine lv_iconst (v := (3 : Int32)) hx hb dX12_stepped_221 (by decide) ?_
  obtain ⟨hin52, v53, hv54, h⟩ := ld_b h
  refine x_iald X Z 0 rfl hin52 hv54 dX12_stepped_222 ?_
  refine lv_imul hx hb dX12_stepped_223 ?_
  refine lv_iadd hx hb dX12_stepped_224 ?_
  obtain rfl := Option.some.inj h
  exact K H locs ls _ dX12_stepped_225 Z
def f_X12_stepped (x1 : Int32) (x2 : Int32) (x3 : Int32) (machineKind_ : Nat → Int32) (machineBound_ : Nat → Int32) (machineLength_ : Nat → Int32) (machinePattern_ : Nat → Int32) (digit_ : Nat → Int32) : Option (Int32 × (Nat → Int32)) :=
  (loopN (fun v => b_X12_stepped_6 v.1 v.2.1 v.2.2) FU (digit_, x2, (0 : Int32))).bind (fun u55 =>
  ldA machineKind_ 8 x1 (fun v58 =>
  if v58 = (1 : Int32) then
  (ldA u55 4 (0 : Int32) (fun v66 =>
  ldA machineBound_ 8 x1 (fun v69 =>
  rmI (v66 + (1 : Int32)) v69 (fun v72 =>
  stA u55 4 (0 : Int32) v72 (fun digit_75 =>
  j_X12_stepped_188 digit_75)))))
  else
  (ldA machineLength_ 8 x1 (fun v61 =>
  (loopN (fun v => b_X12_stepped_81 machineKind_ machineBound_ machinePattern_ x1 x3 v.1 v.2) FU (u55, (v61 - (1 : Int32)))).bind (fun u63 =>
  j_X12_stepped_188 u63)))))
set_option maxHeartbeats 4000000 in
set_option maxRecDepth 100000 in
theorem wt_X12_stepped {p : Program} {l : Launch} {e : Env} {s : State} {m : MethodId} {args : Array Value} {below : List Frame} {meth : Method} {c : Code} {A : Nat → Prop} {Q : State → Prop} {D : va_G} {cy : Nat → ClassId} (o : Nat) (d : Nat → Nat) (letters_ : Int32) (tests_ : Int32) (inputLength_ : Int32) (at_ : Int32) (signed_ : Int32) (newParts_ : Int32) (machineParts_ : Int32) (firstParts_ : Int32) (firstTruth_ : Int32) (secondTruth_ : Int32) (isPair_ : Int32) (states_ : Int32) (stateClasses_ : Int32) (elements_ : Int32) (cursor_ : Int32) (hasSnapshot_ : Int32) (isSaving_ : Int32) (machineKind_ : Nat → Int32) (machineBound_ : Nat → Int32) (machineLength_ : Nat → Int32) (machinePattern_ : Nat → Int32) (digit_ : Nat → Int32) (x1 : Int32) (x2 : Int32) (x3 : Int32) (out : Int32 × (Nat → Int32)) (X : Cx p m c cX12_stepped 7 s args wsX12_stepped RX12 A D cy (RO_X12_stepped cy o d letters_ tests_ inputLength_ at_ signed_ newParts_ machineParts_ firstParts_ firstTruth_ secondTruth_ isPair_ states_ stateClasses_ elements_ cursor_ hasSnapshot_ isSaving_ machineKind_ machineBound_ machineLength_ machinePattern_)) (h : f_X12_stepped x1 x2 x3 machineKind_ machineBound_ machineLength_ machinePattern_ digit_ = some out) (K : ∀ (H : Heap) (locs : List Loc) (ls : Array Slot) (pc : Nat), decode cX12_stepped pc = .ok (.ireturn, 1) → St A D s (RW_X12_stepped cy o d out.2) H locs → W p l e rm_X12_stepped s m args below meth c H locs 0 0 Q (F0 m pc ls [.int out.1])) : ∀ (H : Heap) (locs : List Loc) (ls : Array Slot), St A D s (RW_X12_stepped cy o d digit_) H locs → lv_has ls 7 [(0, .ref o), (1, .int x1), (2, .int x2), (3, .int x3)] → W p l e rm_X12_stepped s m args below meth c H locs 0 0 Q (F0 m 0 ls []) := by
  intro H locs ls Z hl
  have hx := X.1.1
  have hb := X.1.2.1
  unfold f_X12_stepped at h
  refine lv_iload_n hx hb dX12_stepped_0 rfl (lv_at hl 2 rfl) ?_
  refine lv_istore (lv' := [(4, .int x2), (0, .ref o), (1, .int x1), (2, .int x2), (3, .int x3)]) hx hb dX12_stepped_1 hl (by decide) rfl (fun ls hl => ?_)
  refine lv_iconst (v := (0 : Int32)) hx hb dX12_stepped_3 (by decide) ?_
  refine lv_istore (lv' := [(5, .int (0 : Int32)), (4, .int x2), (0, .ref o), (1, .int x1), (2, .int x2), (3, .int x3)]) hx hb dX12_stepped_4 hl (by decide) rfl (fun ls hl => ?_)
  obtain ⟨u55, hL56, h⟩ := ob_some h
  refine wl_X12_stepped_6 o d letters_ tests_ inputLength_ at_ signed_ newParts_ machineParts_ firstParts_ firstTruth_ secondTruth_ isPair_ states_ stateClasses_ elements_ cursor_ hasSnapshot_ isSaving_ machineKind_ machineBound_ machineLength_ machinePattern_ x1 x3 FU (digit_, x2, (0 : Int32)) u55 X hL56 (fun H locs ls Z hl => ?_) H locs ls Z (lv_sub hl [2, 3, 5, 1, 0] rfl)
  refine lv_aload_n hx hb dX12_stepped_37 rfl (lv_at hl 0 rfl) ?_
  refine x_getO X Z 0 30 (v := .ref (d 30)) rfl rfl lk_X12_stepped_X12_machineKind dX12_stepped_38 ?_
  refine lv_iload_n hx hb dX12_stepped_41 rfl (lv_at hl 1 rfl) ?_
  obtain ⟨hin57, v58, hv59, h⟩ := ld_b h
  refine x_ialdO X Z 1 rfl hin57 hv59 dX12_stepped_42 ?_
  refine lv_iconst (v := (1 : Int32)) hx hb dX12_stepped_43 (by decide) ?_
  refine lv_icmp_ne (tgt := 71) hx hb dX12_stepped_44 (by decide) (fun cnd => ?_) (fun cnd => ?_)
  · replace h := ifn h cnd
    refine lv_aload_n hx hb dX12_stepped_71 rfl (lv_at hl 0 rfl) ?_
    refine x_getO X Z 0 32 (v := .ref (d 32)) rfl rfl lk_X12_stepped_X12_machineLength dX12_stepped_72 ?_
    refine lv_iload_n hx hb dX12_stepped_75 rfl (lv_at hl 1 rfl) ?_
    obtain ⟨hin60, v61, hv62, h⟩ := ld_b h
    refine x_ialdO X Z 3 rfl hin60 hv62 dX12_stepped_76 ?_
    refine lv_iconst (v := (1 : Int32)) hx hb dX12_stepped_77 (by decide) ?_
    refine lv_isub hx hb dX12_stepped_78 ?_
    refine lv_istore (lv' := [(5, .int (v61 - (1 : Int32))), (0, .ref o), (1, .int x1), (3, .int x3)]) hx hb dX12_stepped_79 hl (by decide) rfl (fun ls hl => ?_)
    obtain ⟨u63, hL64, h⟩ := ob_some h
    refine wl_X12_stepped_81 o d letters_ tests_ inputLength_ at_ signed_ newParts_ machineParts_ firstParts_ firstTruth_ secondTruth_ isPair_ states_ stateClasses_ elements_ cursor_ hasSnapshot_ isSaving_ machineKind_ machineBound_ machineLength_ machinePattern_ x1 x3 FU (u55, (v61 - (1 : Int32))) u63 X hL64 (fun H locs ls Z hl => ?_) H locs ls Z (lv_sub hl [1, 2, 3, 0] rfl)
    exact jw_X12_stepped_188 o d letters_ tests_ inputLength_ at_ signed_ newParts_ machineParts_ firstParts_ firstTruth_ secondTruth_ isPair_ states_ stateClasses_ elements_ cursor_ hasSnapshot_ isSaving_ machineKind_ machineBound_ machineLength_ machinePattern_ u63 _ X h K H locs ls Z (lv_sub hl [0] rfl)
  · replace h := ifp h cnd
    refine lv_aload_n hx hb dX12_stepped_47 rfl (lv_at hl 0 rfl) ?_
    refine x_getO X Z 0 35 (v := .ref (d 35)) rfl rfl lk_X12_stepped_X12_digit dX12_stepped_48 ?_
    refine lv_iconst (v := (0 : Int32)) hx hb dX12_stepped_51 (by decide) ?_
    refine lv_aload_n hx hb dX12_stepped_52 rfl (lv_at hl 0 rfl) ?_
    refine x_getO X Z 0 35 (v := .ref (d 35)) rfl rfl lk_X12_stepped_X12_digit dX12_stepped_53 ?_
    refine lv_iconst (v := (0 : Int32)) hx hb dX12_stepped_56 (by decide) ?_
    obtain ⟨hin65, v66, hv67, h⟩ := ld_b h
    refine x_iald X Z 0 rfl hin65 hv67 dX12_stepped_57 ?_
    refine lv_iconst (v := (1 : Int32)) hx hb dX12_stepped_58 (by decide) ?_
    refine lv_iadd hx hb dX12_stepped_59 ?_
    refine lv_aload_n hx hb dX12_stepped_60 rfl (lv_at hl 0 rfl) ?_
    refine x_getO X Z 0 31 (v := .ref (d 31)) rfl rfl lk_X12_stepped_X12_machineBound dX12_stepped_61 ?_
    refine lv_iload_n hx hb dX12_stepped_64 rfl (lv_at hl 1 rfl) ?_
    obtain ⟨hin68, v69, hv70, h⟩ := ld_b h
    refine x_ialdO X Z 2 rfl hin68 hv70 dX12_stepped_65 ?_
    obtain ⟨hz71, v72, hv73, h⟩ := rm_b h
    refine lv_irem hx hb dX12_stepped_66 hz71 ?_
    rw [hv73]
    obtain ⟨hin74, digit_75, hv76, h⟩ := st_b h
    refine x_iast X Z 0 (RW_X12_stepped cy o d digit_75) rfl hin74 hv76 rfl dX12_stepped_67 (fun H locs Z => ?_)
    refine lv_goto (tgt := 188) hx hb dX12_stepped_68 (by decide) ?_
    exact jw_X12_stepped_188 o d letters_ tests_ inputLength_ at_ signed_ newParts_ machineParts_ firstParts_ firstTruth_ secondTruth_ isPair_ states_ stateClasses_ elements_ cursor_ hasSnapshot_ isSaving_ machineKind_ machineBound_ machineLength_ machinePattern_ digit_75 _ X h K H locs ls Z (lv_sub hl [0] rfl)
theorem c_X12_stepped (l : Launch) (D : va_G) (cy : Nat → ClassId) (o : Nat) (d : Nat → Nat) (letters_ : Int32) (tests_ : Int32) (inputLength_ : Int32) (at_ : Int32) (signed_ : Int32) (newParts_ : Int32) (machineParts_ : Int32) (firstParts_ : Int32) (firstTruth_ : Int32) (secondTruth_ : Int32) (isPair_ : Int32) (states_ : Int32) (stateClasses_ : Int32) (elements_ : Int32) (cursor_ : Int32) (hasSnapshot_ : Int32) (isSaving_ : Int32) (machineKind_ : Nat → Int32) (machineBound_ : Nat → Int32) (machineLength_ : Nat → Int32) (machinePattern_ : Nat → Int32) (digit_ : Nat → Int32) (x1 : Int32) (x2 : Int32) (x3 : Int32) (out : Int32 × (Nat → Int32)) (h : f_X12_stepped x1 x2 x3 machineKind_ machineBound_ machineLength_ machinePattern_ digit_ = some out) : CtI l yX12_stepped wsX12_stepped rm_X12_stepped D cy [.ref o, .int x1, .int x2, .int x3] (RW_X12_stepped cy o d digit_) (RO_X12_stepped cy o d letters_ tests_ inputLength_ at_ signed_ newParts_ machineParts_ firstParts_ firstTruth_ secondTruth_ isPair_ states_ stateClasses_ elements_ cursor_ hasSnapshot_ isSaving_ machineKind_ machineBound_ machineLength_ machinePattern_) (RW_X12_stepped cy o d out.2) out.1 :=
  mk_i (ty := .int) (by decide) rfl rfl (Nat.le_of_ble_eq_true rfl) (fun p e s m args below meth c A Q X K H locs ls Z hl => wt_X12_stepped o d letters_ tests_ inputLength_ at_ signed_ newParts_ machineParts_ firstParts_ firstTruth_ secondTruth_ isPair_ states_ stateClasses_ elements_ cursor_ hasSnapshot_ isSaving_ machineKind_ machineBound_ machineLength_ machinePattern_ digit_ x1 x2 x3 out X h K H locs ls Z hl)
/-! SubwordCounterModel digitsOf (JI)I -/
abbrev rm_X12_digitsOf : Room := { frames := 0, cells := 0, slots := 0, locals := 0 }
def RW_X12_digitsOf (cy : Nat → ClassId)   : va_W := []
def RO_X12_digitsOf (cy : Nat → ClassId)   : va_W := []
def b_X12_digitsOf_5  (x2 : Int32)  (x3 : Int64) (x5 : Int32) : Option ((Int64 × Int32) ⊕ (Int64)) :=
  if x2 ≤ x5 then
  (some (.inr x3))
  else
  (dvL x3 (10000 : Int64) (fun v2 =>
  some (.inl (v2, (x5 + (1 : Int32))))))
set_option maxHeartbeats 4000000 in
set_option maxRecDepth 100000 in
theorem wb_X12_digitsOf_5 {p : Program} {l : Launch} {e : Env} {s : State} {m : MethodId} {args : Array Value} {below : List Frame} {meth : Method} {c : Code} {A : Nat → Prop} {Q : State → Prop} {D : va_G} {cy : Nat → ClassId}    (x2 : Int32)  (x3 : Int64) (x5 : Int32) (o1 : (Int64 × Int32) ⊕ (Int64)) (X : Cx p m c cX12_digitsOf 6 s args wsX12_digitsOf RX12 A D cy (RO_X12_digitsOf cy )) (h : b_X12_digitsOf_5 x2 x3 x5 = some o1) (K : Sum.elim (fun v : Int64 × Int32 => ∀ (H : Heap) (locs : List Loc) (ls : Array Slot), St A D s (RW_X12_digitsOf cy ) H locs → lv_has ls 6 [(2, .int x2), (3, .long v.1), (5, .int v.2)] → W p l e rm_X12_digitsOf s m args below meth c H locs 0 0 Q (F0 m 5 ls [])) (fun v : Int64 => ∀ (H : Heap) (locs : List Loc) (ls : Array Slot), St A D s (RW_X12_digitsOf cy ) H locs → lv_has ls 6 [(3, .long v)] → W p l e rm_X12_digitsOf s m args below meth c H locs 0 0 Q (F0 m 23 ls [])) o1) : ∀ (H : Heap) (locs : List Loc) (ls : Array Slot), St A D s (RW_X12_digitsOf cy ) H locs → lv_has ls 6 [(2, .int x2), (3, .long x3), (5, .int x5)] → W p l e rm_X12_digitsOf s m args below meth c H locs 0 0 Q (F0 m 5 ls []) := by
  intro H locs ls Z hl
  have hx := X.1.1
  have hb := X.1.2.1
  unfold b_X12_digitsOf_5 at h
  refine lv_iload hx hb dX12_digitsOf_5 (lv_at hl 2 rfl) ?_
  refine lv_iload_n hx hb dX12_digitsOf_7 rfl (lv_at hl 0 rfl) ?_
  refine lv_icmp_ge (tgt := 23) hx hb dX12_digitsOf_8 (by decide) (fun cnd => ?_) (fun cnd => ?_)
  · replace h := ifp h cnd
    obtain rfl := Option.some.inj h
    exact (sk_r K) H locs ls Z (lv_sub hl [1] rfl)
  · replace h := ifn h cnd
    refine lv_lload_n hx hb dX12_digitsOf_11 rfl (lv_at hl 1 rfl) ?_
    refine lv_ldc2 (v := (10000 : Int64)) hx hb X.1.2.2.2.1 (X.1.2.2.2.2 _ (mem_at 1 rfl)) dX12_digitsOf_12 ?_
    obtain ⟨hz1, v2, hv3, h⟩ := dv_bL h
    refine lv_ldiv hx hb dX12_digitsOf_15 hz1 ?_
    rw [hv3]
    refine lv_lstore_n (lv' := [(3, .long v2), (2, .int x2), (5, .int x5)]) hx hb dX12_digitsOf_16 rfl hl (by decide) rfl (fun ls hl => ?_)
    refine lv_iinc (v := (x5 + (1 : Int32))) (lv' := [(5, .int (x5 + (1 : Int32))), (3, .long v2), (2, .int x2)]) hx hb dX12_digitsOf_17 hl (k := 2) rfl rfl (by decide) rfl (fun ls hl => ?_)
    refine lv_goto (tgt := 5) hx hb dX12_digitsOf_20 (by decide) ?_
    obtain rfl := Option.some.inj h
    exact sk_l K H locs ls Z (lv_sub hl [2, 1, 0] rfl)
set_option maxHeartbeats 4000000 in
set_option maxRecDepth 100000 in
theorem wl_X12_digitsOf_5 {p : Program} {l : Launch} {e : Env} {s : State} {m : MethodId} {args : Array Value} {below : List Frame} {meth : Method} {c : Code} {A : Nat → Prop} {Q : State → Prop} {D : va_G} {cy : Nat → ClassId}    (x2 : Int32) (n : Nat) (v : Int64 × Int32) (x : Int64) (X : Cx p m c cX12_digitsOf 6 s args wsX12_digitsOf RX12 A D cy (RO_X12_digitsOf cy )) (h : loopN (fun v => b_X12_digitsOf_5 x2 v.1 v.2) n v = some x) (K : ∀ (H : Heap) (locs : List Loc) (ls : Array Slot), St A D s (RW_X12_digitsOf cy ) H locs → lv_has ls 6 [(3, .long x)] → W p l e rm_X12_digitsOf s m args below meth c H locs 0 0 Q (F0 m 23 ls [])) : ∀ (H : Heap) (locs : List Loc) (ls : Array Slot), St A D s (RW_X12_digitsOf cy ) H locs → lv_has ls 6 [(2, .int x2), (3, .long v.1), (5, .int v.2)] → W p l e rm_X12_digitsOf s m args below meth c H locs 0 0 Q (F0 m 5 ls []) :=
  loop_gen (B := (fun v => b_X12_digitsOf_5 x2 v.1 v.2)) (Head := fun v : Int64 × Int32 => ∀ (H : Heap) (locs : List Loc) (ls : Array Slot), St A D s (RW_X12_digitsOf cy ) H locs → lv_has ls 6 [(2, .int x2), (3, .long v.1), (5, .int v.2)] → W p l e rm_X12_digitsOf s m args below meth c H locs 0 0 Q (F0 m 5 ls [])) (Exit := fun v : Int64 => ∀ (H : Heap) (locs : List Loc) (ls : Array Slot), St A D s (RW_X12_digitsOf cy ) H locs → lv_has ls 6 [(3, .long v)] → W p l e rm_X12_digitsOf s m args below meth c H locs 0 0 Q (F0 m 23 ls [])) (fun v o9 hb1 K1 => wb_X12_digitsOf_5  x2 v.1 v.2 o9 X hb1 K1) n v x h K
def f_X12_digitsOf (x0 : Int64) (x2 : Int32)  : Option (Int32) :=
  (loopN (fun v => b_X12_digitsOf_5 x2 v.1 v.2) FU (x0, (0 : Int32))).bind (fun u4 =>
  rmL u4 (10000 : Int64) (fun v7 =>
  some (v7.toInt32)))
set_option maxHeartbeats 4000000 in
set_option maxRecDepth 100000 in
theorem wt_X12_digitsOf {p : Program} {l : Launch} {e : Env} {s : State} {m : MethodId} {args : Array Value} {below : List Frame} {meth : Method} {c : Code} {A : Nat → Prop} {Q : State → Prop} {D : va_G} {cy : Nat → ClassId}    (x0 : Int64) (x2 : Int32) (out : Int32) (X : Cx p m c cX12_digitsOf 6 s args wsX12_digitsOf RX12 A D cy (RO_X12_digitsOf cy )) (h : f_X12_digitsOf x0 x2 = some out) (K : ∀ (H : Heap) (locs : List Loc) (ls : Array Slot) (pc : Nat), decode cX12_digitsOf pc = .ok (.ireturn, 1) → St A D s (RW_X12_digitsOf cy ) H locs → W p l e rm_X12_digitsOf s m args below meth c H locs 0 0 Q (F0 m pc ls [.int out])) : ∀ (H : Heap) (locs : List Loc) (ls : Array Slot), St A D s (RW_X12_digitsOf cy ) H locs → lv_has ls 6 [(0, .long x0), (2, .int x2)] → W p l e rm_X12_digitsOf s m args below meth c H locs 0 0 Q (F0 m 0 ls []) := by
  intro H locs ls Z hl
  have hx := X.1.1
  have hb := X.1.2.1
  unfold f_X12_digitsOf at h
  refine lv_lload_n hx hb dX12_digitsOf_0 rfl (lv_at hl 0 rfl) ?_
  refine lv_lstore_n (lv' := [(3, .long x0), (0, .long x0), (2, .int x2)]) hx hb dX12_digitsOf_1 rfl hl (by decide) rfl (fun ls hl => ?_)
  refine lv_iconst (v := (0 : Int32)) hx hb dX12_digitsOf_2 (by decide) ?_
  refine lv_istore (lv' := [(5, .int (0 : Int32)), (3, .long x0), (0, .long x0), (2, .int x2)]) hx hb dX12_digitsOf_3 hl (by decide) rfl (fun ls hl => ?_)
  obtain ⟨u4, hL5, h⟩ := ob_some h
  refine wl_X12_digitsOf_5  x2 FU (x0, (0 : Int32)) u4 X hL5 (fun H locs ls Z hl => ?_) H locs ls Z (lv_sub hl [3, 1, 0] rfl)
  refine lv_lload_n hx hb dX12_digitsOf_23 rfl (lv_at hl 0 rfl) ?_
  refine lv_ldc2 (v := (10000 : Int64)) hx hb X.1.2.2.2.1 (X.1.2.2.2.2 _ (mem_at 1 rfl)) dX12_digitsOf_24 ?_
  obtain ⟨hz6, v7, hv8, h⟩ := rm_bL h
  refine lv_lrem hx hb dX12_digitsOf_27 hz6 ?_
  rw [hv8]
  refine lv_l2i (v := (v7.toInt32)) hx hb dX12_digitsOf_28 rfl ?_
  obtain rfl := Option.some.inj h
  exact K H locs ls _ dX12_digitsOf_29 Z
theorem c_X12_digitsOf (l : Launch) (D : va_G) (cy : Nat → ClassId)    (x0 : Int64) (x2 : Int32) (out : Int32) (h : f_X12_digitsOf x0 x2 = some out) : CtI l yX12_digitsOf wsX12_digitsOf rm_X12_digitsOf D cy [.long x0, .int x2] (RW_X12_digitsOf cy ) (RO_X12_digitsOf cy ) (RW_X12_digitsOf cy ) out :=
  mk_i (ty := .int) (by decide) rfl rfl (Nat.le_of_ble_eq_true rfl) (fun p e s m args below meth c A Q X K H locs ls Z hl => wt_X12_digitsOf  x0 x2 out X h K H locs ls Z hl)
/-! SubwordCounterModel steppedCode (JII)J -/
abbrev rm_X12_steppedCode : Room := { frames := 1, cells := 0, slots := 0, locals := 26 }
def RW_X12_steppedCode (cy : Nat → ClassId) (o : Nat) (d : Nat → Nat) (digit_ : Nat → Int32) : va_W := [((d 35), aI cy 4 digit_)]
def RO_X12_steppedCode (cy : Nat → ClassId) (o : Nat) (d : Nat → Nat) (letters_ : Int32) (tests_ : Int32) (inputLength_ : Int32) (at_ : Int32) (signed_ : Int32) (newParts_ : Int32) (machineParts_ : Int32) (firstParts_ : Int32) (firstTruth_ : Int32) (secondTruth_ : Int32) (isPair_ : Int32) (states_ : Int32) (stateClasses_ : Int32) (elements_ : Int32) (cursor_ : Int32) (hasSnapshot_ : Int32) (isSaving_ : Int32) (machineKind_ : Nat → Int32) (machineBound_ : Nat → Int32) (machineLength_ : Nat → Int32) (machinePattern_ : Nat → Int32) : va_W := [(o, ob 11 (oX12 d letters_ tests_ inputLength_ at_ signed_ newParts_ machineParts_ firstParts_ firstTruth_ secondTruth_ isPair_ states_ stateClasses_ elements_ cursor_ hasSnapshot_ isSaving_)), ((d 30), aI cy 8 machineKind_), ((d 31), aI cy 8 machineBound_), ((d 32), aI cy 8 machineLength_), ((d 34), aI cy 32 machinePattern_)]
theorem in_X12_steppedCode_X12 : ∀ w ∈ u_ws RX12 TX12 68, w ∈ wsX12_steppedCode := fun w h => (List.mem_cons_of_mem _ (List.mem_append_right _ h))
theorem lk_X12_steppedCode_X12_machineParts : Lk wsX12_steppedCode RX12 244 11 36 := ⟨RX12, TX12, 68, rfl, by decide, in_X12_steppedCode_X12, mem_at 1 rfl⟩
def b_X12_steppedCode_9 (machineParts_ : Int32) (machineKind_ : Nat → Int32) (machineBound_ : Nat → Int32) (machineLength_ : Nat → Int32) (machinePattern_ : Nat → Int32) (x1 : Int64) (x3 : Int32) (x4 : Int32) (digit_ : Nat → Int32) (x5 : Int64) (x7 : Int64) (x9 : Int32) : Option (((Nat → Int32) × Int64 × Int64 × Int32) ⊕ ((Nat → Int32) × Int64)) :=
  if machineParts_ ≤ x9 then
  (some (.inr (digit_, x5)))
  else
  (if (x3 + (4 : Int32)) ≤ x9 then
  (some (.inr (digit_, x5)))
  else
  ((f_X12_digitsOf x1 (x9 - x3)).bind (fun u1 =>
  (f_X12_stepped x9 u1 x4 machineKind_ machineBound_ machineLength_ machinePattern_ digit_).bind (fun u3 =>
  some (.inl (u3.2, (x5 + (x7 * (u3.1.toInt64))), (x7 * (10000 : Int64)), (x9 + (1 : Int32))))))))
set_option maxHeartbeats 4000000 in
set_option maxRecDepth 100000 in
theorem wb_X12_steppedCode_9 {p : Program} {l : Launch} {e : Env} {s : State} {m : MethodId} {args : Array Value} {below : List Frame} {meth : Method} {c : Code} {A : Nat → Prop} {Q : State → Prop} {D : va_G} {cy : Nat → ClassId} (o : Nat) (d : Nat → Nat) (letters_ : Int32) (tests_ : Int32) (inputLength_ : Int32) (at_ : Int32) (signed_ : Int32) (newParts_ : Int32) (machineParts_ : Int32) (firstParts_ : Int32) (firstTruth_ : Int32) (secondTruth_ : Int32) (isPair_ : Int32) (states_ : Int32) (stateClasses_ : Int32) (elements_ : Int32) (cursor_ : Int32) (hasSnapshot_ : Int32) (isSaving_ : Int32) (machineKind_ : Nat → Int32) (machineBound_ : Nat → Int32) (machineLength_ : Nat → Int32) (machinePattern_ : Nat → Int32)  (x1 : Int64) (x3 : Int32) (x4 : Int32) (digit_ : Nat → Int32) (x5 : Int64) (x7 : Int64) (x9 : Int32) (o1 : ((Nat → Int32) × Int64 × Int64 × Int32) ⊕ ((Nat → Int32) × Int64)) (X : Cx p m c cX12_steppedCode 10 s args wsX12_steppedCode RX12 A D cy (RO_X12_steppedCode cy o d letters_ tests_ inputLength_ at_ signed_ newParts_ machineParts_ firstParts_ firstTruth_ secondTruth_ isPair_ states_ stateClasses_ elements_ cursor_ hasSnapshot_ isSaving_ machineKind_ machineBound_ machineLength_ machinePattern_)) (h : b_X12_steppedCode_9 machineParts_ machineKind_ machineBound_ machineLength_ machinePattern_ x1 x3 x4 digit_ x5 x7 x9 = some o1) (K : Sum.elim (fun v : (Nat → Int32) × Int64 × Int64 × Int32 => ∀ (H : Heap) (locs : List Loc) (ls : Array Slot), St A D s (RW_X12_steppedCode cy o d v.1) H locs → lv_has ls 10 [(0, .ref o), (1, .long x1), (3, .int x3), (4, .int x4), (5, .long v.2.1), (7, .long v.2.2.1), (9, .int v.2.2.2)] → W p l e rm_X12_steppedCode s m args below meth c H locs 0 0 Q (F0 m 9 ls [])) (fun v : (Nat → Int32) × Int64 => ∀ (H : Heap) (locs : List Loc) (ls : Array Slot), St A D s (RW_X12_steppedCode cy o d v.1) H locs → lv_has ls 10 [(5, .long v.2)] → W p l e rm_X12_steppedCode s m args below meth c H locs 0 0 Q (F0 m 65 ls [])) o1) : ∀ (H : Heap) (locs : List Loc) (ls : Array Slot), St A D s (RW_X12_steppedCode cy o d digit_) H locs → lv_has ls 10 [(0, .ref o), (1, .long x1), (3, .int x3), (4, .int x4), (5, .long x5), (7, .long x7), (9, .int x9)] → W p l e rm_X12_steppedCode s m args below meth c H locs 0 0 Q (F0 m 9 ls []) := by
  intro H locs ls Z hl
  have hx := X.1.1
  have hb := X.1.2.1
  unfold b_X12_steppedCode_9 at h
  refine lv_iload hx hb dX12_steppedCode_9 (lv_at hl 6 rfl) ?_
  refine lv_aload_n hx hb dX12_steppedCode_11 rfl (lv_at hl 0 rfl) ?_
  refine x_getO X Z 0 36 (v := .int machineParts_) rfl rfl lk_X12_steppedCode_X12_machineParts dX12_steppedCode_12 ?_
  refine lv_icmp_ge (tgt := 65) hx hb dX12_steppedCode_15 (by decide) (fun cnd => ?_) (fun cnd => ?_)
  · replace h := ifp h cnd
    obtain rfl := Option.some.inj h
    exact (sk_r K) H locs ls Z (lv_sub hl [4] rfl)
  · replace h := ifn h cnd
    refine lv_iload hx hb dX12_steppedCode_18 (lv_at hl 6 rfl) ?_
    refine lv_iload_n hx hb dX12_steppedCode_20 rfl (lv_at hl 2 rfl) ?_
    refine lv_iconst (v := (4 : Int32)) hx hb dX12_steppedCode_21 (by decide) ?_
    refine lv_iadd hx hb dX12_steppedCode_22 ?_
    refine lv_icmp_ge (tgt := 65) hx hb dX12_steppedCode_23 (by decide) (fun cnd => ?_) (fun cnd => ?_)
    · replace h := ifp h cnd
      obtain rfl := Option.some.inj h
      exact (sk_r K) H locs ls Z (lv_sub hl [4] rfl)
    · replace h := ifn h cnd
      refine lv_lload hx hb dX12_steppedCode_26 (lv_at hl 4 rfl) ?_
      refine lv_lload hx hb dX12_steppedCode_28 (lv_at hl 5 rfl) ?_
      refine lv_aload_n hx hb dX12_steppedCode_30 rfl (lv_at hl 0 rfl) ?_
      refine lv_iload hx hb dX12_steppedCode_31 (lv_at hl 6 rfl) ?_
      refine lv_lload_n hx hb dX12_steppedCode_33 rfl (lv_at hl 1 rfl) ?_
      refine lv_iload hx hb dX12_steppedCode_34 (lv_at hl 6 rfl) ?_
      refine lv_iload_n hx hb dX12_steppedCode_36 rfl (lv_at hl 2 rfl) ?_
      refine lv_isub hx hb dX12_steppedCode_37 ?_
      obtain ⟨u1, hc2, h⟩ := ob_some h
      refine x_runSi (RW' := (RW_X12_steppedCode cy o d digit_)) (wr := [((d 35), aI cy 4 digit_)]) (isC := []) (isR := [0]) (isF := [0]) (rest := [.int x9, .ref o, .long x7, .long x5]) (As := [.long x1, .int (x9 - x3)]) (n := 2) X Z (c_X12_digitsOf l D cy x1 (x9 - x3) u1 hc2) gX12_steppedCode_X12_digitsOf rfl (by decide +kernel) ⟨Nat.le_of_ble_eq_true rfl, Nat.le_of_ble_eq_true rfl⟩ ⟨rfl, rfl⟩ ⟨Nat.le_of_ble_eq_true rfl, Nat.le_of_ble_eq_true rfl⟩ ⟨rfl, rfl, roN, rfl, rfl, by decide⟩ ⟨rfl, rfl⟩ rfl hl.1 rfl (Nat.le_of_ble_eq_true rfl) dX12_steppedCode_38 (fun H locs Z => ?_)
      refine lv_iload hx hb dX12_steppedCode_41 (lv_at hl 3 rfl) ?_
      obtain ⟨u3, hc4, h⟩ := ob_some h
      refine x_runVi (RW' := (RW_X12_steppedCode cy o d u3.2)) (wr := []) (isC := [0]) (isR := []) (isF := [0]) (rest := [.long x7, .long x5]) (As := [.int x9, .int u1, .int x4]) (n := 3) X Z (c_X12_stepped l D cy o d letters_ tests_ inputLength_ at_ signed_ newParts_ machineParts_ firstParts_ firstTruth_ secondTruth_ isPair_ states_ stateClasses_ elements_ cursor_ hasSnapshot_ isSaving_ machineKind_ machineBound_ machineLength_ machinePattern_ digit_ x9 u1 x4 u3 hc4) gX12_steppedCode_X12_stepped rfl (by decide +kernel) ⟨Nat.le_of_ble_eq_true rfl, Nat.le_of_ble_eq_true rfl⟩ ⟨rfl, rfl⟩ ⟨Nat.le_of_ble_eq_true rfl, Nat.le_of_ble_eq_true rfl⟩ (x_rvO X Z 0 rfl rfl) ⟨rfl, rfl, (roC (Or.inr (mem_at 0 rfl)) (roC (Or.inr (mem_at 1 rfl)) (roC (Or.inr (mem_at 2 rfl)) (roC (Or.inr (mem_at 3 rfl)) (roC (Or.inr (mem_at 4 rfl)) roN))))), rfl, rfl, by decide⟩ ⟨rfl, rfl⟩ rfl hl.1 rfl (Nat.le_of_ble_eq_true rfl) dX12_steppedCode_43 (fun H locs Z => ?_)
      refine lv_i2l (v := (u3.1.toInt64)) hx hb dX12_steppedCode_46 rfl ?_
      refine lv_lmul hx hb dX12_steppedCode_47 ?_
      refine lv_ladd hx hb dX12_steppedCode_48 ?_
      refine lv_lstore (lv' := [(5, .long (x5 + (x7 * (u3.1.toInt64)))), (0, .ref o), (1, .long x1), (3, .int x3), (4, .int x4), (7, .long x7), (9, .int x9)]) hx hb dX12_steppedCode_49 hl (by decide) rfl (fun ls hl => ?_)
      refine lv_lload hx hb dX12_steppedCode_51 (lv_at hl 5 rfl) ?_
      refine lv_ldc2 (v := (10000 : Int64)) hx hb X.1.2.2.2.1 (X.1.2.2.2.2 _ (mem_at 2 rfl)) dX12_steppedCode_53 ?_
      refine lv_lmul hx hb dX12_steppedCode_56 ?_
      refine lv_lstore (lv' := [(7, .long (x7 * (10000 : Int64))), (5, .long (x5 + (x7 * (u3.1.toInt64)))), (0, .ref o), (1, .long x1), (3, .int x3), (4, .int x4), (9, .int x9)]) hx hb dX12_steppedCode_57 hl (by decide) rfl (fun ls hl => ?_)
      refine lv_iinc (v := (x9 + (1 : Int32))) (lv' := [(9, .int (x9 + (1 : Int32))), (7, .long (x7 * (10000 : Int64))), (5, .long (x5 + (x7 * (u3.1.toInt64)))), (0, .ref o), (1, .long x1), (3, .int x3), (4, .int x4)]) hx hb dX12_steppedCode_59 hl (k := 6) rfl rfl (by decide) rfl (fun ls hl => ?_)
      refine lv_goto (tgt := 9) hx hb dX12_steppedCode_62 (by decide) ?_
      obtain rfl := Option.some.inj h
      exact sk_l K H locs ls Z (lv_sub hl [3, 4, 5, 6, 2, 1, 0] rfl)
set_option maxHeartbeats 4000000 in
set_option maxRecDepth 100000 in
theorem wl_X12_steppedCode_9 {p : Program} {l : Launch} {e : Env} {s : State} {m : MethodId} {args : Array Value} {below : List Frame} {meth : Method} {c : Code} {A : Nat → Prop} {Q : State → Prop} {D : va_G} {cy : Nat → ClassId} (o : Nat) (d : Nat → Nat) (letters_ : Int32) (tests_ : Int32) (inputLength_ : Int32) (at_ : Int32) (signed_ : Int32) (newParts_ : Int32) (machineParts_ : Int32) (firstParts_ : Int32) (firstTruth_ : Int32) (secondTruth_ : Int32) (isPair_ : Int32) (states_ : Int32) (stateClasses_ : Int32) (elements_ : Int32) (cursor_ : Int32) (hasSnapshot_ : Int32) (isSaving_ : Int32) (machineKind_ : Nat → Int32) (machineBound_ : Nat → Int32) (machineLength_ : Nat → Int32) (machinePattern_ : Nat → Int32)  (x1 : Int64) (x3 : Int32) (x4 : Int32) (n : Nat) (v : (Nat → Int32) × Int64 × Int64 × Int32) (x : (Nat → Int32) × Int64) (X : Cx p m c cX12_steppedCode 10 s args wsX12_steppedCode RX12 A D cy (RO_X12_steppedCode cy o d letters_ tests_ inputLength_ at_ signed_ newParts_ machineParts_ firstParts_ firstTruth_ secondTruth_ isPair_ states_ stateClasses_ elements_ cursor_ hasSnapshot_ isSaving_ machineKind_ machineBound_ machineLength_ machinePattern_)) (h : loopN (fun v => b_X12_steppedCode_9 machineParts_ machineKind_ machineBound_ machineLength_ machinePattern_ x1 x3 x4 v.1 v.2.1 v.2.2.1 v.2.2.2) n v = some x) (K : ∀ (H : Heap) (locs : List Loc) (ls : Array Slot), St A D s (RW_X12_steppedCode cy o d x.1) H locs → lv_has ls 10 [(5, .long x.2)] → W p l e rm_X12_steppedCode s m args below meth c H locs 0 0 Q (F0 m 65 ls [])) : ∀ (H : Heap) (locs : List Loc) (ls : Array Slot), St A D s (RW_X12_steppedCode cy o d v.1) H locs → lv_has ls 10 [(0, .ref o), (1, .long x1), (3, .int x3), (4, .int x4), (5, .long v.2.1), (7, .long v.2.2.1), (9, .int v.2.2.2)] → W p l e rm_X12_steppedCode s m args below meth c H locs 0 0 Q (F0 m 9 ls []) :=
  loop_gen (B := (fun v => b_X12_steppedCode_9 machineParts_ machineKind_ machineBound_ machineLength_ machinePattern_ x1 x3 x4 v.1 v.2.1 v.2.2.1 v.2.2.2)) (Head := fun v : (Nat → Int32) × Int64 × Int64 × Int32 => ∀ (H : Heap) (locs : List Loc) (ls : Array Slot), St A D s (RW_X12_steppedCode cy o d v.1) H locs → lv_has ls 10 [(0, .ref o), (1, .long x1), (3, .int x3), (4, .int x4), (5, .long v.2.1), (7, .long v.2.2.1), (9, .int v.2.2.2)] → W p l e rm_X12_steppedCode s m args below meth c H locs 0 0 Q (F0 m 9 ls [])) (Exit := fun v : (Nat → Int32) × Int64 => ∀ (H : Heap) (locs : List Loc) (ls : Array Slot), St A D s (RW_X12_steppedCode cy o d v.1) H locs → lv_has ls 10 [(5, .long v.2)] → W p l e rm_X12_steppedCode s m args below meth c H locs 0 0 Q (F0 m 65 ls [])) (fun v o9 hb1 K1 => wb_X12_steppedCode_9 o d letters_ tests_ inputLength_ at_ signed_ newParts_ machineParts_ firstParts_ firstTruth_ secondTruth_ isPair_ states_ stateClasses_ elements_ cursor_ hasSnapshot_ isSaving_ machineKind_ machineBound_ machineLength_ machinePattern_ x1 x3 x4 v.1 v.2.1 v.2.2.1 v.2.2.2 o9 X hb1 K1) n v x h K
def f_X12_steppedCode (x1 : Int64) (x3 : Int32) (x4 : Int32) (machineParts_ : Int32) (machineKind_ : Nat → Int32) (machineBound_ : Nat → Int32) (machineLength_ : Nat → Int32) (machinePattern_ : Nat → Int32) (digit_ : Nat → Int32) : Option (Int64 × (Nat → Int32)) :=
  (loopN (fun v => b_X12_steppedCode_9 machineParts_ machineKind_ machineBound_ machineLength_ machinePattern_ x1 x3 x4 v.1 v.2.1 v.2.2.1 v.2.2.2) FU (digit_, (0 : Int64), (1 : Int64), x3)).bind (fun u5 =>
  some (u5.2, u5.1))
set_option maxHeartbeats 4000000 in
set_option maxRecDepth 100000 in
theorem wt_X12_steppedCode {p : Program} {l : Launch} {e : Env} {s : State} {m : MethodId} {args : Array Value} {below : List Frame} {meth : Method} {c : Code} {A : Nat → Prop} {Q : State → Prop} {D : va_G} {cy : Nat → ClassId} (o : Nat) (d : Nat → Nat) (letters_ : Int32) (tests_ : Int32) (inputLength_ : Int32) (at_ : Int32) (signed_ : Int32) (newParts_ : Int32) (machineParts_ : Int32) (firstParts_ : Int32) (firstTruth_ : Int32) (secondTruth_ : Int32) (isPair_ : Int32) (states_ : Int32) (stateClasses_ : Int32) (elements_ : Int32) (cursor_ : Int32) (hasSnapshot_ : Int32) (isSaving_ : Int32) (machineKind_ : Nat → Int32) (machineBound_ : Nat → Int32) (machineLength_ : Nat → Int32) (machinePattern_ : Nat → Int32) (digit_ : Nat → Int32) (x1 : Int64) (x3 : Int32) (x4 : Int32) (out : Int64 × (Nat → Int32)) (X : Cx p m c cX12_steppedCode 10 s args wsX12_steppedCode RX12 A D cy (RO_X12_steppedCode cy o d letters_ tests_ inputLength_ at_ signed_ newParts_ machineParts_ firstParts_ firstTruth_ secondTruth_ isPair_ states_ stateClasses_ elements_ cursor_ hasSnapshot_ isSaving_ machineKind_ machineBound_ machineLength_ machinePattern_)) (h : f_X12_steppedCode x1 x3 x4 machineParts_ machineKind_ machineBound_ machineLength_ machinePattern_ digit_ = some out) (K : ∀ (H : Heap) (locs : List Loc) (ls : Array Slot) (pc : Nat), decode cX12_steppedCode pc = .ok (.lreturn, 1) → St A D s (RW_X12_steppedCode cy o d out.2) H locs → W p l e rm_X12_steppedCode s m args below meth c H locs 0 0 Q (F0 m pc ls [.long out.1])) : ∀ (H : Heap) (locs : List Loc) (ls : Array Slot), St A D s (RW_X12_steppedCode cy o d digit_) H locs → lv_has ls 10 [(0, .ref o), (1, .long x1), (3, .int x3), (4, .int x4)] → W p l e rm_X12_steppedCode s m args below meth c H locs 0 0 Q (F0 m 0 ls []) := by
  intro H locs ls Z hl
  have hx := X.1.1
  have hb := X.1.2.1
  unfold f_X12_steppedCode at h
  refine lv_lconst (v := (0 : Int64)) hx hb dX12_steppedCode_0 (by decide) ?_
  refine lv_lstore (lv' := [(5, .long (0 : Int64)), (0, .ref o), (1, .long x1), (3, .int x3), (4, .int x4)]) hx hb dX12_steppedCode_1 hl (by decide) rfl (fun ls hl => ?_)
  refine lv_lconst (v := (1 : Int64)) hx hb dX12_steppedCode_3 (by decide) ?_
  refine lv_lstore (lv' := [(7, .long (1 : Int64)), (5, .long (0 : Int64)), (0, .ref o), (1, .long x1), (3, .int x3), (4, .int x4)]) hx hb dX12_steppedCode_4 hl (by decide) rfl (fun ls hl => ?_)
  refine lv_iload_n hx hb dX12_steppedCode_6 rfl (lv_at hl 4 rfl) ?_
  refine lv_istore (lv' := [(9, .int x3), (7, .long (1 : Int64)), (5, .long (0 : Int64)), (0, .ref o), (1, .long x1), (3, .int x3), (4, .int x4)]) hx hb dX12_steppedCode_7 hl (by decide) rfl (fun ls hl => ?_)
  obtain ⟨u5, hL6, h⟩ := ob_some h
  refine wl_X12_steppedCode_9 o d letters_ tests_ inputLength_ at_ signed_ newParts_ machineParts_ firstParts_ firstTruth_ secondTruth_ isPair_ states_ stateClasses_ elements_ cursor_ hasSnapshot_ isSaving_ machineKind_ machineBound_ machineLength_ machinePattern_ x1 x3 x4 FU (digit_, (0 : Int64), (1 : Int64), x3) u5 X hL6 (fun H locs ls Z hl => ?_) H locs ls Z (lv_sub hl [3, 4, 5, 6, 2, 1, 0] rfl)
  refine lv_lload hx hb dX12_steppedCode_65 (lv_at hl 0 rfl) ?_
  obtain rfl := Option.some.inj h
  exact K H locs ls _ dX12_steppedCode_67 Z
theorem c_X12_steppedCode (l : Launch) (D : va_G) (cy : Nat → ClassId) (o : Nat) (d : Nat → Nat) (letters_ : Int32) (tests_ : Int32) (inputLength_ : Int32) (at_ : Int32) (signed_ : Int32) (newParts_ : Int32) (machineParts_ : Int32) (firstParts_ : Int32) (firstTruth_ : Int32) (secondTruth_ : Int32) (isPair_ : Int32) (states_ : Int32) (stateClasses_ : Int32) (elements_ : Int32) (cursor_ : Int32) (hasSnapshot_ : Int32) (isSaving_ : Int32) (machineKind_ : Nat → Int32) (machineBound_ : Nat → Int32) (machineLength_ : Nat → Int32) (machinePattern_ : Nat → Int32) (digit_ : Nat → Int32) (x1 : Int64) (x3 : Int32) (x4 : Int32) (out : Int64 × (Nat → Int32)) (h : f_X12_steppedCode x1 x3 x4 machineParts_ machineKind_ machineBound_ machineLength_ machinePattern_ digit_ = some out) : CtL l yX12_steppedCode wsX12_steppedCode rm_X12_steppedCode D cy [.ref o, .long x1, .int x3, .int x4] (RW_X12_steppedCode cy o d digit_) (RO_X12_steppedCode cy o d letters_ tests_ inputLength_ at_ signed_ newParts_ machineParts_ firstParts_ firstTruth_ secondTruth_ isPair_ states_ stateClasses_ elements_ cursor_ hasSnapshot_ isSaving_ machineKind_ machineBound_ machineLength_ machinePattern_) (RW_X12_steppedCode cy o d out.2) out.1 :=
  mk_l (by decide) rfl (Nat.le_of_ble_eq_true rfl) (fun p e s m args below meth c A Q X K H locs ls Z hl => wt_X12_steppedCode o d letters_ tests_ inputLength_ at_ signed_ newParts_ machineParts_ firstParts_ firstTruth_ secondTruth_ isPair_ states_ stateClasses_ elements_ cursor_ hasSnapshot_ isSaving_ machineKind_ machineBound_ machineLength_ machinePattern_ digit_ x1 x3 x4 out X h K H locs ls Z hl)
/-! SubwordCounterModel clearKeys ()V -/
abbrev rm_X12_clearKeys : Room := { frames := 0, cells := 0, slots := 0, locals := 0 }
def RW_X12_clearKeys (cy : Nat → ClassId) (o : Nat) (d : Nat → Nat) (found_ : Nat → Int32) : va_W := [((d 45), aI cy 8192 found_)]
def RO_X12_clearKeys (cy : Nat → ClassId) (o : Nat) (d : Nat → Nat) (letters_ : Int32) (tests_ : Int32) (inputLength_ : Int32) (at_ : Int32) (signed_ : Int32) (newParts_ : Int32) (machineParts_ : Int32) (firstParts_ : Int32) (firstTruth_ : Int32) (secondTruth_ : Int32) (isPair_ : Int32) (states_ : Int32) (stateClasses_ : Int32) (elements_ : Int32) (cursor_ : Int32) (hasSnapshot_ : Int32) (isSaving_ : Int32) : va_W := [(o, ob 11 (oX12 d letters_ tests_ inputLength_ at_ signed_ newParts_ machineParts_ firstParts_ firstTruth_ secondTruth_ isPair_ states_ stateClasses_ elements_ cursor_ hasSnapshot_ isSaving_))]
theorem in_X12_clearKeys_X12 : ∀ w ∈ u_ws RX12 TX12 68, w ∈ wsX12_clearKeys := fun w h => (List.mem_cons_of_mem _ (List.mem_append_right _ h))
theorem lk_X12_clearKeys_X12_found : Lk wsX12_clearKeys RX12 117 11 45 := ⟨RX12, TX12, 68, rfl, by decide, in_X12_clearKeys_X12, mem_at 1 rfl⟩
def b_X12_clearKeys_2  (found_ : Nat → Int32) (x1 : Int32) : Option (((Nat → Int32) × Int32) ⊕ ((Nat → Int32))) :=
  if (8192 : Int32) ≤ x1 then
  (some (.inr found_))
  else
  (stA found_ 8192 x1 (-1 : Int32) (fun found_2 =>
  some (.inl (found_2, (x1 + (1 : Int32))))))
set_option maxHeartbeats 4000000 in
set_option maxRecDepth 100000 in
theorem wb_X12_clearKeys_2 {p : Program} {l : Launch} {e : Env} {s : State} {m : MethodId} {args : Array Value} {below : List Frame} {meth : Method} {c : Code} {A : Nat → Prop} {Q : State → Prop} {D : va_G} {cy : Nat → ClassId} (o : Nat) (d : Nat → Nat) (letters_ : Int32) (tests_ : Int32) (inputLength_ : Int32) (at_ : Int32) (signed_ : Int32) (newParts_ : Int32) (machineParts_ : Int32) (firstParts_ : Int32) (firstTruth_ : Int32) (secondTruth_ : Int32) (isPair_ : Int32) (states_ : Int32) (stateClasses_ : Int32) (elements_ : Int32) (cursor_ : Int32) (hasSnapshot_ : Int32) (isSaving_ : Int32)  (found_ : Nat → Int32) (x1 : Int32) (o1 : ((Nat → Int32) × Int32) ⊕ ((Nat → Int32))) (X : Cx p m c cX12_clearKeys 2 s args wsX12_clearKeys RX12 A D cy (RO_X12_clearKeys cy o d letters_ tests_ inputLength_ at_ signed_ newParts_ machineParts_ firstParts_ firstTruth_ secondTruth_ isPair_ states_ stateClasses_ elements_ cursor_ hasSnapshot_ isSaving_)) (h : b_X12_clearKeys_2 found_ x1 = some o1) (K : Sum.elim (fun v : (Nat → Int32) × Int32 => ∀ (H : Heap) (locs : List Loc) (ls : Array Slot), St A D s (RW_X12_clearKeys cy o d v.1) H locs → lv_has ls 2 [(0, .ref o), (1, .int v.2)] → W p l e rm_X12_clearKeys s m args below meth c H locs 0 0 Q (F0 m 2 ls [])) (fun v : (Nat → Int32) => ∀ (H : Heap) (locs : List Loc) (ls : Array Slot), St A D s (RW_X12_clearKeys cy o d v) H locs → lv_has ls 2 [] → W p l e rm_X12_clearKeys s m args below meth c H locs 0 0 Q (F0 m 22 ls [])) o1) : ∀ (H : Heap) (locs : List Loc) (ls : Array Slot), St A D s (RW_X12_clearKeys cy o d found_) H locs → lv_has ls 2 [(0, .ref o), (1, .int x1)] → W p l e rm_X12_clearKeys s m args below meth c H locs 0 0 Q (F0 m 2 ls []) := by
  intro H locs ls Z hl
  have hx := X.1.1
  have hb := X.1.2.1
  unfold b_X12_clearKeys_2 at h
  refine lv_iload_n hx hb dX12_clearKeys_2 rfl (lv_at hl 1 rfl) ?_
  refine lv_sipush (v := (8192 : Int32)) hx hb dX12_clearKeys_3 (by decide) ?_
  refine lv_icmp_ge (tgt := 22) hx hb dX12_clearKeys_6 (by decide) (fun cnd => ?_) (fun cnd => ?_)
  · replace h := ifp h cnd
    obtain rfl := Option.some.inj h
    exact (sk_r K) H locs ls Z (lv_sub hl [] rfl)
  · replace h := ifn h cnd
    refine lv_aload_n hx hb dX12_clearKeys_9 rfl (lv_at hl 0 rfl) ?_
    refine x_getO X Z 0 45 (v := .ref (d 45)) rfl rfl lk_X12_clearKeys_X12_found dX12_clearKeys_10 ?_
    refine lv_iload_n hx hb dX12_clearKeys_13 rfl (lv_at hl 1 rfl) ?_
    refine lv_iconst (v := (-1 : Int32)) hx hb dX12_clearKeys_14 (by decide) ?_
    obtain ⟨hin1, found_2, hv3, h⟩ := st_b h
    refine x_iast X Z 0 (RW_X12_clearKeys cy o d found_2) rfl hin1 hv3 rfl dX12_clearKeys_15 (fun H locs Z => ?_)
    refine lv_iinc (v := (x1 + (1 : Int32))) (lv' := [(1, .int (x1 + (1 : Int32))), (0, .ref o)]) hx hb dX12_clearKeys_16 hl (k := 1) rfl rfl (by decide) rfl (fun ls hl => ?_)
    refine lv_goto (tgt := 2) hx hb dX12_clearKeys_19 (by decide) ?_
    obtain rfl := Option.some.inj h
    exact sk_l K H locs ls Z (lv_sub hl [1, 0] rfl)
set_option maxHeartbeats 4000000 in
set_option maxRecDepth 100000 in
theorem wl_X12_clearKeys_2 {p : Program} {l : Launch} {e : Env} {s : State} {m : MethodId} {args : Array Value} {below : List Frame} {meth : Method} {c : Code} {A : Nat → Prop} {Q : State → Prop} {D : va_G} {cy : Nat → ClassId} (o : Nat) (d : Nat → Nat) (letters_ : Int32) (tests_ : Int32) (inputLength_ : Int32) (at_ : Int32) (signed_ : Int32) (newParts_ : Int32) (machineParts_ : Int32) (firstParts_ : Int32) (firstTruth_ : Int32) (secondTruth_ : Int32) (isPair_ : Int32) (states_ : Int32) (stateClasses_ : Int32) (elements_ : Int32) (cursor_ : Int32) (hasSnapshot_ : Int32) (isSaving_ : Int32)  (n : Nat) (v : (Nat → Int32) × Int32) (x : (Nat → Int32)) (X : Cx p m c cX12_clearKeys 2 s args wsX12_clearKeys RX12 A D cy (RO_X12_clearKeys cy o d letters_ tests_ inputLength_ at_ signed_ newParts_ machineParts_ firstParts_ firstTruth_ secondTruth_ isPair_ states_ stateClasses_ elements_ cursor_ hasSnapshot_ isSaving_)) (h : loopN (fun v => b_X12_clearKeys_2 v.1 v.2) n v = some x) (K : ∀ (H : Heap) (locs : List Loc) (ls : Array Slot), St A D s (RW_X12_clearKeys cy o d x) H locs → lv_has ls 2 [] → W p l e rm_X12_clearKeys s m args below meth c H locs 0 0 Q (F0 m 22 ls [])) : ∀ (H : Heap) (locs : List Loc) (ls : Array Slot), St A D s (RW_X12_clearKeys cy o d v.1) H locs → lv_has ls 2 [(0, .ref o), (1, .int v.2)] → W p l e rm_X12_clearKeys s m args below meth c H locs 0 0 Q (F0 m 2 ls []) :=
  loop_gen (B := (fun v => b_X12_clearKeys_2 v.1 v.2)) (Head := fun v : (Nat → Int32) × Int32 => ∀ (H : Heap) (locs : List Loc) (ls : Array Slot), St A D s (RW_X12_clearKeys cy o d v.1) H locs → lv_has ls 2 [(0, .ref o), (1, .int v.2)] → W p l e rm_X12_clearKeys s m args below meth c H locs 0 0 Q (F0 m 2 ls [])) (Exit := fun v : (Nat → Int32) => ∀ (H : Heap) (locs : List Loc) (ls : Array Slot), St A D s (RW_X12_clearKeys cy o d v) H locs → lv_has ls 2 [] → W p l e rm_X12_clearKeys s m args below meth c H locs 0 0 Q (F0 m 22 ls [])) (fun v o9 hb1 K1 => wb_X12_clearKeys_2 o d letters_ tests_ inputLength_ at_ signed_ newParts_ machineParts_ firstParts_ firstTruth_ secondTruth_ isPair_ states_ stateClasses_ elements_ cursor_ hasSnapshot_ isSaving_ v.1 v.2 o9 X hb1 K1) n v x h K
def f_X12_clearKeys (found_ : Nat → Int32) : Option ((Nat → Int32)) :=
  (loopN (fun v => b_X12_clearKeys_2 v.1 v.2) FU (found_, (0 : Int32))).bind (fun u4 =>
  some u4)
set_option maxHeartbeats 4000000 in
set_option maxRecDepth 100000 in
theorem wt_X12_clearKeys {p : Program} {l : Launch} {e : Env} {s : State} {m : MethodId} {args : Array Value} {below : List Frame} {meth : Method} {c : Code} {A : Nat → Prop} {Q : State → Prop} {D : va_G} {cy : Nat → ClassId} (o : Nat) (d : Nat → Nat) (letters_ : Int32) (tests_ : Int32) (inputLength_ : Int32) (at_ : Int32) (signed_ : Int32) (newParts_ : Int32) (machineParts_ : Int32) (firstParts_ : Int32) (firstTruth_ : Int32) (secondTruth_ : Int32) (isPair_ : Int32) (states_ : Int32) (stateClasses_ : Int32) (elements_ : Int32) (cursor_ : Int32) (hasSnapshot_ : Int32) (isSaving_ : Int32) (found_ : Nat → Int32) (out : (Nat → Int32)) (X : Cx p m c cX12_clearKeys 2 s args wsX12_clearKeys RX12 A D cy (RO_X12_clearKeys cy o d letters_ tests_ inputLength_ at_ signed_ newParts_ machineParts_ firstParts_ firstTruth_ secondTruth_ isPair_ states_ stateClasses_ elements_ cursor_ hasSnapshot_ isSaving_)) (h : f_X12_clearKeys found_ = some out) (K : ∀ (H : Heap) (locs : List Loc) (ls : Array Slot) (pc : Nat), decode cX12_clearKeys pc = .ok (.return_, 1) → St A D s (RW_X12_clearKeys cy o d out) H locs → W p l e rm_X12_clearKeys s m args below meth c H locs 0 0 Q (F0 m pc ls [])) : ∀ (H : Heap) (locs : List Loc) (ls : Array Slot), St A D s (RW_X12_clearKeys cy o d found_) H locs → lv_has ls 2 [(0, .ref o)] → W p l e rm_X12_clearKeys s m args below meth c H locs 0 0 Q (F0 m 0 ls []) := by
  intro H locs ls Z hl
  have hx := X.1.1
  have hb := X.1.2.1
  unfold f_X12_clearKeys at h
  refine lv_iconst (v := (0 : Int32)) hx hb dX12_clearKeys_0 (by decide) ?_
  refine lv_istore_n (lv' := [(1, .int (0 : Int32)), (0, .ref o)]) hx hb dX12_clearKeys_1 rfl hl (by decide) rfl (fun ls hl => ?_)
  obtain ⟨u4, hL5, h⟩ := ob_some h
  refine wl_X12_clearKeys_2 o d letters_ tests_ inputLength_ at_ signed_ newParts_ machineParts_ firstParts_ firstTruth_ secondTruth_ isPair_ states_ stateClasses_ elements_ cursor_ hasSnapshot_ isSaving_ FU (found_, (0 : Int32)) u4 X hL5 (fun H locs ls Z hl => ?_) H locs ls Z (lv_sub hl [1, 0] rfl)
  obtain rfl := Option.some.inj h
  exact K H locs ls _ dX12_clearKeys_22 Z
theorem c_X12_clearKeys (l : Launch) (D : va_G) (cy : Nat → ClassId) (o : Nat) (d : Nat → Nat) (letters_ : Int32) (tests_ : Int32) (inputLength_ : Int32) (at_ : Int32) (signed_ : Int32) (newParts_ : Int32) (machineParts_ : Int32) (firstParts_ : Int32) (firstTruth_ : Int32) (secondTruth_ : Int32) (isPair_ : Int32) (states_ : Int32) (stateClasses_ : Int32) (elements_ : Int32) (cursor_ : Int32) (hasSnapshot_ : Int32) (isSaving_ : Int32) (found_ : Nat → Int32) (out : (Nat → Int32)) (h : f_X12_clearKeys found_ = some out) : CtV l yX12_clearKeys wsX12_clearKeys rm_X12_clearKeys D cy [.ref o] (RW_X12_clearKeys cy o d found_) (RO_X12_clearKeys cy o d letters_ tests_ inputLength_ at_ signed_ newParts_ machineParts_ firstParts_ firstTruth_ secondTruth_ isPair_ states_ stateClasses_ elements_ cursor_ hasSnapshot_ isSaving_) (RW_X12_clearKeys cy o d out) :=
  mk_v (by decide) rfl (Nat.le_of_ble_eq_true rfl) (fun p e s m args below meth c A Q X K H locs ls Z hl => wt_X12_clearKeys o d letters_ tests_ inputLength_ at_ signed_ newParts_ machineParts_ firstParts_ firstTruth_ secondTruth_ isPair_ states_ stateClasses_ elements_ cursor_ hasSnapshot_ isSaving_ found_ out X h K H locs ls Z hl)
/-! SubwordCounterModel slotOf (JJ)I -/
abbrev rm_X12_slotOf : Room := { frames := 0, cells := 0, slots := 0, locals := 0 }
def RW_X12_slotOf (cy : Nat → ClassId) (o : Nat) (d : Nat → Nat)  : va_W := []
def RO_X12_slotOf (cy : Nat → ClassId) (o : Nat) (d : Nat → Nat) (letters_ : Int32) (tests_ : Int32) (inputLength_ : Int32) (at_ : Int32) (signed_ : Int32) (newParts_ : Int32) (machineParts_ : Int32) (firstParts_ : Int32) (firstTruth_ : Int32) (secondTruth_ : Int32) (isPair_ : Int32) (states_ : Int32) (stateClasses_ : Int32) (elements_ : Int32) (cursor_ : Int32) (hasSnapshot_ : Int32) (isSaving_ : Int32) (keyA_ : Nat → Int64) (keyB_ : Nat → Int64) (found_ : Nat → Int32) : va_W := [(o, ob 11 (oX12 d letters_ tests_ inputLength_ at_ signed_ newParts_ machineParts_ firstParts_ firstTruth_ secondTruth_ isPair_ states_ stateClasses_ elements_ cursor_ hasSnapshot_ isSaving_)), ((d 43), aJ cy 8192 keyA_), ((d 44), aJ cy 8192 keyB_), ((d 45), aI cy 8192 found_)]
theorem in_X12_slotOf_X12 : ∀ w ∈ u_ws RX12 TX12 68, w ∈ wsX12_slotOf := fun w h => (List.mem_cons_of_mem _ (List.mem_append_right _ h))
theorem lk_X12_slotOf_X12_found : Lk wsX12_slotOf RX12 117 11 45 := ⟨RX12, TX12, 68, rfl, by decide, in_X12_slotOf_X12, mem_at 4 rfl⟩
theorem lk_X12_slotOf_X12_keyA : Lk wsX12_slotOf RX12 111 11 43 := ⟨RX12, TX12, 68, rfl, by decide, in_X12_slotOf_X12, mem_at 5 rfl⟩
theorem lk_X12_slotOf_X12_keyB : Lk wsX12_slotOf RX12 114 11 44 := ⟨RX12, TX12, 68, rfl, by decide, in_X12_slotOf_X12, mem_at 6 rfl⟩
def j_X12_slotOf_57  (x5 : Int32) : Option ((Int32) ⊕ (Int32)) :=
  some (.inl ((x5 + (1 : Int32)) &&& (8191 : Int32)))
set_option maxHeartbeats 4000000 in
set_option maxRecDepth 100000 in
theorem jw_X12_slotOf_57 {p : Program} {l : Launch} {e : Env} {s : State} {m : MethodId} {args : Array Value} {below : List Frame} {meth : Method} {c : Code} {A : Nat → Prop} {Q : State → Prop} {D : va_G} {cy : Nat → ClassId} (o : Nat) (d : Nat → Nat) (letters_ : Int32) (tests_ : Int32) (inputLength_ : Int32) (at_ : Int32) (signed_ : Int32) (newParts_ : Int32) (machineParts_ : Int32) (firstParts_ : Int32) (firstTruth_ : Int32) (secondTruth_ : Int32) (isPair_ : Int32) (states_ : Int32) (stateClasses_ : Int32) (elements_ : Int32) (cursor_ : Int32) (hasSnapshot_ : Int32) (isSaving_ : Int32) (keyA_ : Nat → Int64) (keyB_ : Nat → Int64) (found_ : Nat → Int32)  (x1 : Int64) (x3 : Int64) (x5 : Int32) (o1 : (Int32) ⊕ (Int32)) (X : Cx p m c cX12_slotOf 6 s args wsX12_slotOf RX12 A D cy (RO_X12_slotOf cy o d letters_ tests_ inputLength_ at_ signed_ newParts_ machineParts_ firstParts_ firstTruth_ secondTruth_ isPair_ states_ stateClasses_ elements_ cursor_ hasSnapshot_ isSaving_ keyA_ keyB_ found_)) (h : j_X12_slotOf_57 x5 = some o1) (K : Sum.elim (fun v : Int32 => ∀ (H : Heap) (locs : List Loc) (ls : Array Slot), St A D s (RW_X12_slotOf cy o d) H locs → lv_has ls 6 [(0, .ref o), (1, .long x1), (3, .long x3), (5, .int v)] → W p l e rm_X12_slotOf s m args below meth c H locs 0 0 Q (F0 m 23 ls [])) (fun v : Int32 => ∀ (H : Heap) (locs : List Loc) (ls : Array Slot), St A D s (RW_X12_slotOf cy o d) H locs → lv_has ls 6 [(5, .int v)] → W p l e rm_X12_slotOf s m args below meth c H locs 0 0 Q (F0 m 70 ls [])) o1) : ∀ (H : Heap) (locs : List Loc) (ls : Array Slot), St A D s (RW_X12_slotOf cy o d) H locs → lv_has ls 6 [(0, .ref o), (1, .long x1), (3, .long x3), (5, .int x5)] → W p l e rm_X12_slotOf s m args below meth c H locs 0 0 Q (F0 m 57 ls []) := by
  intro H locs ls Z hl
  have hx := X.1.1
  have hb := X.1.2.1
  unfold j_X12_slotOf_57 at h
  refine lv_iload hx hb dX12_slotOf_57 (lv_at hl 3 rfl) ?_
  refine lv_iconst (v := (1 : Int32)) hx hb dX12_slotOf_59 (by decide) ?_
  refine lv_iadd hx hb dX12_slotOf_60 ?_
  refine lv_sipush (v := (8191 : Int32)) hx hb dX12_slotOf_61 (by decide) ?_
  refine lv_iand hx hb dX12_slotOf_64 ?_
  refine lv_istore (lv' := [(5, .int ((x5 + (1 : Int32)) &&& (8191 : Int32))), (0, .ref o), (1, .long x1), (3, .long x3)]) hx hb dX12_slotOf_65 hl (by decide) rfl (fun ls hl => ?_)
  refine lv_goto (tgt := 23) hx hb dX12_slotOf_67 (by decide) ?_
  obtain rfl := Option.some.inj h
  exact sk_l K H locs ls Z (lv_sub hl [1, 2, 3, 0] rfl)
def b_X12_slotOf_23 (keyA_ : Nat → Int64) (keyB_ : Nat → Int64) (found_ : Nat → Int32) (x1 : Int64) (x3 : Int64)  (x5 : Int32) : Option ((Int32) ⊕ (Int32)) :=
  ldA found_ 8192 x5 (fun v2 =>
  if v2 < 0 then
  (some (.inr x5))
  else
  (ldA keyA_ 8192 x5 (fun v5 =>
  if (lg_cmp v5 x1) = 0 then
  (ldA keyB_ 8192 x5 (fun v8 =>
  if (lg_cmp v8 x3) = 0 then
  (some (.inr x5))
  else
  (j_X12_slotOf_57 x5)))
  else
  (j_X12_slotOf_57 x5))))
set_option maxHeartbeats 4000000 in
set_option maxRecDepth 100000 in
theorem wb_X12_slotOf_23 {p : Program} {l : Launch} {e : Env} {s : State} {m : MethodId} {args : Array Value} {below : List Frame} {meth : Method} {c : Code} {A : Nat → Prop} {Q : State → Prop} {D : va_G} {cy : Nat → ClassId} (o : Nat) (d : Nat → Nat) (letters_ : Int32) (tests_ : Int32) (inputLength_ : Int32) (at_ : Int32) (signed_ : Int32) (newParts_ : Int32) (machineParts_ : Int32) (firstParts_ : Int32) (firstTruth_ : Int32) (secondTruth_ : Int32) (isPair_ : Int32) (states_ : Int32) (stateClasses_ : Int32) (elements_ : Int32) (cursor_ : Int32) (hasSnapshot_ : Int32) (isSaving_ : Int32) (keyA_ : Nat → Int64) (keyB_ : Nat → Int64) (found_ : Nat → Int32)  (x1 : Int64) (x3 : Int64)  (x5 : Int32) (o1 : (Int32) ⊕ (Int32)) (X : Cx p m c cX12_slotOf 6 s args wsX12_slotOf RX12 A D cy (RO_X12_slotOf cy o d letters_ tests_ inputLength_ at_ signed_ newParts_ machineParts_ firstParts_ firstTruth_ secondTruth_ isPair_ states_ stateClasses_ elements_ cursor_ hasSnapshot_ isSaving_ keyA_ keyB_ found_)) (h : b_X12_slotOf_23 keyA_ keyB_ found_ x1 x3 x5 = some o1) (K : Sum.elim (fun v : Int32 => ∀ (H : Heap) (locs : List Loc) (ls : Array Slot), St A D s (RW_X12_slotOf cy o d) H locs → lv_has ls 6 [(0, .ref o), (1, .long x1), (3, .long x3), (5, .int v)] → W p l e rm_X12_slotOf s m args below meth c H locs 0 0 Q (F0 m 23 ls [])) (fun v : Int32 => ∀ (H : Heap) (locs : List Loc) (ls : Array Slot), St A D s (RW_X12_slotOf cy o d) H locs → lv_has ls 6 [(5, .int v)] → W p l e rm_X12_slotOf s m args below meth c H locs 0 0 Q (F0 m 70 ls [])) o1) : ∀ (H : Heap) (locs : List Loc) (ls : Array Slot), St A D s (RW_X12_slotOf cy o d) H locs → lv_has ls 6 [(0, .ref o), (1, .long x1), (3, .long x3), (5, .int x5)] → W p l e rm_X12_slotOf s m args below meth c H locs 0 0 Q (F0 m 23 ls []) := by
  intro H locs ls Z hl
  have hx := X.1.1
  have hb := X.1.2.1
  unfold b_X12_slotOf_23 at h
  refine lv_aload_n hx hb dX12_slotOf_23 rfl (lv_at hl 0 rfl) ?_
  refine x_getO X Z 0 45 (v := .ref (d 45)) rfl rfl lk_X12_slotOf_X12_found dX12_slotOf_24 ?_
  refine lv_iload hx hb dX12_slotOf_27 (lv_at hl 3 rfl) ?_
  obtain ⟨hin1, v2, hv3, h⟩ := ld_b h
  refine x_ialdO X Z 3 rfl hin1 hv3 dX12_slotOf_29 ?_
  refine lv_if_lt (tgt := 70) hx hb dX12_slotOf_30 (by decide) (fun cnd => ?_) (fun cnd => ?_)
  · replace h := ifp h cnd
    obtain rfl := Option.some.inj h
    exact (sk_r K) H locs ls Z (lv_sub hl [3] rfl)
  · replace h := ifn h cnd
    refine lv_aload_n hx hb dX12_slotOf_33 rfl (lv_at hl 0 rfl) ?_
    refine x_getO X Z 0 43 (v := .ref (d 43)) rfl rfl lk_X12_slotOf_X12_keyA dX12_slotOf_34 ?_
    refine lv_iload hx hb dX12_slotOf_37 (lv_at hl 3 rfl) ?_
    obtain ⟨hin4, v5, hv6, h⟩ := ld_b h
    refine x_laldO X Z 1 rfl hin4 hv6 dX12_slotOf_39 ?_
    refine lv_lload_n hx hb dX12_slotOf_40 rfl (lv_at hl 1 rfl) ?_
    refine W.lcmp hx hb dX12_slotOf_41 ?_
    refine lv_if_ne (tgt := 57) hx hb dX12_slotOf_42 (by decide) (fun cnd => ?_) (fun cnd => ?_)
    · replace h := ifn h cnd
      exact jw_X12_slotOf_57 o d letters_ tests_ inputLength_ at_ signed_ newParts_ machineParts_ firstParts_ firstTruth_ secondTruth_ isPair_ states_ stateClasses_ elements_ cursor_ hasSnapshot_ isSaving_ keyA_ keyB_ found_ x1 x3 x5 _ X h K H locs ls Z (lv_sub hl [0, 1, 2, 3] rfl)
    · replace h := ifp h cnd
      refine lv_aload_n hx hb dX12_slotOf_45 rfl (lv_at hl 0 rfl) ?_
      refine x_getO X Z 0 44 (v := .ref (d 44)) rfl rfl lk_X12_slotOf_X12_keyB dX12_slotOf_46 ?_
      refine lv_iload hx hb dX12_slotOf_49 (lv_at hl 3 rfl) ?_
      obtain ⟨hin7, v8, hv9, h⟩ := ld_b h
      refine x_laldO X Z 2 rfl hin7 hv9 dX12_slotOf_51 ?_
      refine lv_lload_n hx hb dX12_slotOf_52 rfl (lv_at hl 2 rfl) ?_
      refine W.lcmp hx hb dX12_slotOf_53 ?_
      refine lv_if_eq (tgt := 70) hx hb dX12_slotOf_54 (by decide) (fun cnd => ?_) (fun cnd => ?_)
      · replace h := ifp h cnd
        obtain rfl := Option.some.inj h
        exact (sk_r K) H locs ls Z (lv_sub hl [3] rfl)
      · replace h := ifn h cnd
        exact jw_X12_slotOf_57 o d letters_ tests_ inputLength_ at_ signed_ newParts_ machineParts_ firstParts_ firstTruth_ secondTruth_ isPair_ states_ stateClasses_ elements_ cursor_ hasSnapshot_ isSaving_ keyA_ keyB_ found_ x1 x3 x5 _ X h K H locs ls Z (lv_sub hl [0, 1, 2, 3] rfl)
set_option maxHeartbeats 4000000 in
set_option maxRecDepth 100000 in
theorem wl_X12_slotOf_23 {p : Program} {l : Launch} {e : Env} {s : State} {m : MethodId} {args : Array Value} {below : List Frame} {meth : Method} {c : Code} {A : Nat → Prop} {Q : State → Prop} {D : va_G} {cy : Nat → ClassId} (o : Nat) (d : Nat → Nat) (letters_ : Int32) (tests_ : Int32) (inputLength_ : Int32) (at_ : Int32) (signed_ : Int32) (newParts_ : Int32) (machineParts_ : Int32) (firstParts_ : Int32) (firstTruth_ : Int32) (secondTruth_ : Int32) (isPair_ : Int32) (states_ : Int32) (stateClasses_ : Int32) (elements_ : Int32) (cursor_ : Int32) (hasSnapshot_ : Int32) (isSaving_ : Int32) (keyA_ : Nat → Int64) (keyB_ : Nat → Int64) (found_ : Nat → Int32)  (x1 : Int64) (x3 : Int64) (n : Nat) (v : Int32) (x : Int32) (X : Cx p m c cX12_slotOf 6 s args wsX12_slotOf RX12 A D cy (RO_X12_slotOf cy o d letters_ tests_ inputLength_ at_ signed_ newParts_ machineParts_ firstParts_ firstTruth_ secondTruth_ isPair_ states_ stateClasses_ elements_ cursor_ hasSnapshot_ isSaving_ keyA_ keyB_ found_)) (h : loopN (fun v => b_X12_slotOf_23 keyA_ keyB_ found_ x1 x3 v) n v = some x) (K : ∀ (H : Heap) (locs : List Loc) (ls : Array Slot), St A D s (RW_X12_slotOf cy o d) H locs → lv_has ls 6 [(5, .int x)] → W p l e rm_X12_slotOf s m args below meth c H locs 0 0 Q (F0 m 70 ls [])) : ∀ (H : Heap) (locs : List Loc) (ls : Array Slot), St A D s (RW_X12_slotOf cy o d) H locs → lv_has ls 6 [(0, .ref o), (1, .long x1), (3, .long x3), (5, .int v)] → W p l e rm_X12_slotOf s m args below meth c H locs 0 0 Q (F0 m 23 ls []) :=
  loop_gen (B := (fun v => b_X12_slotOf_23 keyA_ keyB_ found_ x1 x3 v)) (Head := fun v : Int32 => ∀ (H : Heap) (locs : List Loc) (ls : Array Slot), St A D s (RW_X12_slotOf cy o d) H locs → lv_has ls 6 [(0, .ref o), (1, .long x1), (3, .long x3), (5, .int v)] → W p l e rm_X12_slotOf s m args below meth c H locs 0 0 Q (F0 m 23 ls [])) (Exit := fun v : Int32 => ∀ (H : Heap) (locs : List Loc) (ls : Array Slot), St A D s (RW_X12_slotOf cy o d) H locs → lv_has ls 6 [(5, .int v)] → W p l e rm_X12_slotOf s m args below meth c H locs 0 0 Q (F0 m 70 ls [])) (fun v o9 hb1 K1 => wb_X12_slotOf_23 o d letters_ tests_ inputLength_ at_ signed_ newParts_ machineParts_ firstParts_ firstTruth_ secondTruth_ isPair_ states_ stateClasses_ elements_ cursor_ hasSnapshot_ isSaving_ keyA_ keyB_ found_ x1 x3 v o9 X hb1 K1) n v x h K
def f_X12_slotOf (x1 : Int64) (x3 : Int64) (keyA_ : Nat → Int64) (keyB_ : Nat → Int64) (found_ : Nat → Int32) : Option (Int32) :=
  (loopN (fun v => b_X12_slotOf_23 keyA_ keyB_ found_ x1 x3 v) FU (((((x1 * (1000003 : Int64)) + (x3 * (7919 : Int64))) ^^^ (ushL x1 (23 : Int32))) &&& (8191 : Int64)).toInt32)).bind (fun u10 =>
  some u10)
set_option maxHeartbeats 4000000 in
set_option maxRecDepth 100000 in
theorem wt_X12_slotOf {p : Program} {l : Launch} {e : Env} {s : State} {m : MethodId} {args : Array Value} {below : List Frame} {meth : Method} {c : Code} {A : Nat → Prop} {Q : State → Prop} {D : va_G} {cy : Nat → ClassId} (o : Nat) (d : Nat → Nat) (letters_ : Int32) (tests_ : Int32) (inputLength_ : Int32) (at_ : Int32) (signed_ : Int32) (newParts_ : Int32) (machineParts_ : Int32) (firstParts_ : Int32) (firstTruth_ : Int32) (secondTruth_ : Int32) (isPair_ : Int32) (states_ : Int32) (stateClasses_ : Int32) (elements_ : Int32) (cursor_ : Int32) (hasSnapshot_ : Int32) (isSaving_ : Int32) (keyA_ : Nat → Int64) (keyB_ : Nat → Int64) (found_ : Nat → Int32)  (x1 : Int64) (x3 : Int64) (out : Int32) (X : Cx p m c cX12_slotOf 6 s args wsX12_slotOf RX12 A D cy (RO_X12_slotOf cy o d letters_ tests_ inputLength_ at_ signed_ newParts_ machineParts_ firstParts_ firstTruth_ secondTruth_ isPair_ states_ stateClasses_ elements_ cursor_ hasSnapshot_ isSaving_ keyA_ keyB_ found_)) (h : f_X12_slotOf x1 x3 keyA_ keyB_ found_ = some out) (K : ∀ (H : Heap) (locs : List Loc) (ls : Array Slot) (pc : Nat), decode cX12_slotOf pc = .ok (.ireturn, 1) → St A D s (RW_X12_slotOf cy o d) H locs → W p l e rm_X12_slotOf s m args below meth c H locs 0 0 Q (F0 m pc ls [.int out])) : ∀ (H : Heap) (locs : List Loc) (ls : Array Slot), St A D s (RW_X12_slotOf cy o d) H locs → lv_has ls 6 [(0, .ref o), (1, .long x1), (3, .long x3)] → W p l e rm_X12_slotOf s m args below meth c H locs 0 0 Q (F0 m 0 ls []) := by
  intro H locs ls Z hl
  have hx := X.1.1
  have hb := X.1.2.1
  unfold f_X12_slotOf at h
  refine lv_lload_n hx hb dX12_slotOf_0 rfl (lv_at hl 1 rfl) ?_
  refine lv_ldc2 (v := (1000003 : Int64)) hx hb X.1.2.2.2.1 (X.1.2.2.2.2 _ (mem_at 1 rfl)) dX12_slotOf_1 ?_
  refine lv_lmul hx hb dX12_slotOf_4 ?_
  refine lv_lload_n hx hb dX12_slotOf_5 rfl (lv_at hl 2 rfl) ?_
  refine lv_ldc2 (v := (7919 : Int64)) hx hb X.1.2.2.2.1 (X.1.2.2.2.2 _ (mem_at 2 rfl)) dX12_slotOf_6 ?_
  refine lv_lmul hx hb dX12_slotOf_9 ?_
  refine lv_ladd hx hb dX12_slotOf_10 ?_
  refine lv_lload_n hx hb dX12_slotOf_11 rfl (lv_at hl 1 rfl) ?_
  refine lv_bipush (v := (23 : Int32)) hx hb dX12_slotOf_12 (by decide) ?_
  refine lv_lushr (v := (ushL x1 (23 : Int32))) hx hb dX12_slotOf_14 rfl ?_
  refine lv_lxor hx hb dX12_slotOf_15 ?_
  refine lv_ldc2 (v := (8191 : Int64)) hx hb X.1.2.2.2.1 (X.1.2.2.2.2 _ (mem_at 3 rfl)) dX12_slotOf_16 ?_
  refine lv_land hx hb dX12_slotOf_19 ?_
  refine lv_l2i (v := (((((x1 * (1000003 : Int64)) + (x3 * (7919 : Int64))) ^^^ (ushL x1 (23 : Int32))) &&& (8191 : Int64)).toInt32)) hx hb dX12_slotOf_20 rfl ?_
  refine lv_istore (lv' := [(5, .int (((((x1 * (1000003 : Int64)) + (x3 * (7919 : Int64))) ^^^ (ushL x1 (23 : Int32))) &&& (8191 : Int64)).toInt32)), (0, .ref o), (1, .long x1), (3, .long x3)]) hx hb dX12_slotOf_21 hl (by decide) rfl (fun ls hl => ?_)
  obtain ⟨u10, hL11, h⟩ := ob_some h
  refine wl_X12_slotOf_23 o d letters_ tests_ inputLength_ at_ signed_ newParts_ machineParts_ firstParts_ firstTruth_ secondTruth_ isPair_ states_ stateClasses_ elements_ cursor_ hasSnapshot_ isSaving_ keyA_ keyB_ found_ x1 x3 FU (((((x1 * (1000003 : Int64)) + (x3 * (7919 : Int64))) ^^^ (ushL x1 (23 : Int32))) &&& (8191 : Int64)).toInt32) u10 X hL11 (fun H locs ls Z hl => ?_) H locs ls Z (lv_sub hl [1, 2, 3, 0] rfl)
  refine lv_iload hx hb dX12_slotOf_70 (lv_at hl 0 rfl) ?_
  obtain rfl := Option.some.inj h
  exact K H locs ls _ dX12_slotOf_72 Z
theorem c_X12_slotOf (l : Launch) (D : va_G) (cy : Nat → ClassId) (o : Nat) (d : Nat → Nat) (letters_ : Int32) (tests_ : Int32) (inputLength_ : Int32) (at_ : Int32) (signed_ : Int32) (newParts_ : Int32) (machineParts_ : Int32) (firstParts_ : Int32) (firstTruth_ : Int32) (secondTruth_ : Int32) (isPair_ : Int32) (states_ : Int32) (stateClasses_ : Int32) (elements_ : Int32) (cursor_ : Int32) (hasSnapshot_ : Int32) (isSaving_ : Int32) (keyA_ : Nat → Int64) (keyB_ : Nat → Int64) (found_ : Nat → Int32)  (x1 : Int64) (x3 : Int64) (out : Int32) (h : f_X12_slotOf x1 x3 keyA_ keyB_ found_ = some out) : CtI l yX12_slotOf wsX12_slotOf rm_X12_slotOf D cy [.ref o, .long x1, .long x3] (RW_X12_slotOf cy o d) (RO_X12_slotOf cy o d letters_ tests_ inputLength_ at_ signed_ newParts_ machineParts_ firstParts_ firstTruth_ secondTruth_ isPair_ states_ stateClasses_ elements_ cursor_ hasSnapshot_ isSaving_ keyA_ keyB_ found_) (RW_X12_slotOf cy o d) out :=
  mk_i (ty := .int) (by decide) rfl rfl (Nat.le_of_ble_eq_true rfl) (fun p e s m args below meth c A Q X K H locs ls Z hl => wt_X12_slotOf o d letters_ tests_ inputLength_ at_ signed_ newParts_ machineParts_ firstParts_ firstTruth_ secondTruth_ isPair_ states_ stateClasses_ elements_ cursor_ hasSnapshot_ isSaving_ keyA_ keyB_ found_ x1 x3 out X h K H locs ls Z hl)
/-! SubwordCounterModel putKey (IJJI)V -/
abbrev rm_X12_putKey : Room := { frames := 0, cells := 0, slots := 0, locals := 0 }
def RW_X12_putKey (cy : Nat → ClassId) (o : Nat) (d : Nat → Nat) (keyA_ : Nat → Int64) (keyB_ : Nat → Int64) (found_ : Nat → Int32) : va_W := [((d 43), aJ cy 8192 keyA_), ((d 44), aJ cy 8192 keyB_), ((d 45), aI cy 8192 found_)]
def RO_X12_putKey (cy : Nat → ClassId) (o : Nat) (d : Nat → Nat) (letters_ : Int32) (tests_ : Int32) (inputLength_ : Int32) (at_ : Int32) (signed_ : Int32) (newParts_ : Int32) (machineParts_ : Int32) (firstParts_ : Int32) (firstTruth_ : Int32) (secondTruth_ : Int32) (isPair_ : Int32) (states_ : Int32) (stateClasses_ : Int32) (elements_ : Int32) (cursor_ : Int32) (hasSnapshot_ : Int32) (isSaving_ : Int32) : va_W := [(o, ob 11 (oX12 d letters_ tests_ inputLength_ at_ signed_ newParts_ machineParts_ firstParts_ firstTruth_ secondTruth_ isPair_ states_ stateClasses_ elements_ cursor_ hasSnapshot_ isSaving_))]
theorem in_X12_putKey_X12 : ∀ w ∈ u_ws RX12 TX12 68, w ∈ wsX12_putKey := fun w h => (List.mem_cons_of_mem _ (List.mem_append_right _ h))
theorem lk_X12_putKey_X12_keyA : Lk wsX12_putKey RX12 111 11 43 := ⟨RX12, TX12, 68, rfl, by decide, in_X12_putKey_X12, mem_at 1 rfl⟩
theorem lk_X12_putKey_X12_keyB : Lk wsX12_putKey RX12 114 11 44 := ⟨RX12, TX12, 68, rfl, by decide, in_X12_putKey_X12, mem_at 2 rfl⟩
theorem lk_X12_putKey_X12_found : Lk wsX12_putKey RX12 117 11 45 := ⟨RX12, TX12, 68, rfl, by decide, in_X12_putKey_X12, mem_at 3 rfl⟩
def f_X12_putKey (x1 : Int32) (x2 : Int64) (x4 : Int64) (x6 : Int32) (keyA_ : Nat → Int64) (keyB_ : Nat → Int64) (found_ : Nat → Int32) : Option ((Nat → Int64) × (Nat → Int64) × (Nat → Int32)) :=
  stA keyA_ 8192 x1 x2 (fun keyA_2 =>
  stA keyB_ 8192 x1 x4 (fun keyB_5 =>
  stA found_ 8192 x1 x6 (fun found_8 =>
  some (keyA_2, keyB_5, found_8))))
set_option maxHeartbeats 4000000 in
set_option maxRecDepth 100000 in
theorem wt_X12_putKey {p : Program} {l : Launch} {e : Env} {s : State} {m : MethodId} {args : Array Value} {below : List Frame} {meth : Method} {c : Code} {A : Nat → Prop} {Q : State → Prop} {D : va_G} {cy : Nat → ClassId} (o : Nat) (d : Nat → Nat) (letters_ : Int32) (tests_ : Int32) (inputLength_ : Int32) (at_ : Int32) (signed_ : Int32) (newParts_ : Int32) (machineParts_ : Int32) (firstParts_ : Int32) (firstTruth_ : Int32) (secondTruth_ : Int32) (isPair_ : Int32) (states_ : Int32) (stateClasses_ : Int32) (elements_ : Int32) (cursor_ : Int32) (hasSnapshot_ : Int32) (isSaving_ : Int32) (keyA_ : Nat → Int64) (keyB_ : Nat → Int64) (found_ : Nat → Int32) (x1 : Int32) (x2 : Int64) (x4 : Int64) (x6 : Int32) (out : (Nat → Int64) × (Nat → Int64) × (Nat → Int32)) (X : Cx p m c cX12_putKey 7 s args wsX12_putKey RX12 A D cy (RO_X12_putKey cy o d letters_ tests_ inputLength_ at_ signed_ newParts_ machineParts_ firstParts_ firstTruth_ secondTruth_ isPair_ states_ stateClasses_ elements_ cursor_ hasSnapshot_ isSaving_)) (h : f_X12_putKey x1 x2 x4 x6 keyA_ keyB_ found_ = some out) (K : ∀ (H : Heap) (locs : List Loc) (ls : Array Slot) (pc : Nat), decode cX12_putKey pc = .ok (.return_, 1) → St A D s (RW_X12_putKey cy o d out.1 out.2.1 out.2.2) H locs → W p l e rm_X12_putKey s m args below meth c H locs 0 0 Q (F0 m pc ls [])) : ∀ (H : Heap) (locs : List Loc) (ls : Array Slot), St A D s (RW_X12_putKey cy o d keyA_ keyB_ found_) H locs → lv_has ls 7 [(0, .ref o), (1, .int x1), (2, .long x2), (4, .long x4), (6, .int x6)] → W p l e rm_X12_putKey s m args below meth c H locs 0 0 Q (F0 m 0 ls []) := by
  intro H locs ls Z hl
  have hx := X.1.1
  have hb := X.1.2.1
  unfold f_X12_putKey at h
  refine lv_aload_n hx hb dX12_putKey_0 rfl (lv_at hl 0 rfl) ?_
  refine x_getO X Z 0 43 (v := .ref (d 43)) rfl rfl lk_X12_putKey_X12_keyA dX12_putKey_1 ?_
  refine lv_iload_n hx hb dX12_putKey_4 rfl (lv_at hl 1 rfl) ?_
  refine lv_lload_n hx hb dX12_putKey_5 rfl (lv_at hl 2 rfl) ?_
  obtain ⟨hin1, keyA_2, hv3, h⟩ := st_b h
  refine x_last X Z 0 (RW_X12_putKey cy o d keyA_2 keyB_ found_) rfl hin1 hv3 rfl dX12_putKey_6 (fun H locs Z => ?_)
  refine lv_aload_n hx hb dX12_putKey_7 rfl (lv_at hl 0 rfl) ?_
  refine x_getO X Z 0 44 (v := .ref (d 44)) rfl rfl lk_X12_putKey_X12_keyB dX12_putKey_8 ?_
  refine lv_iload_n hx hb dX12_putKey_11 rfl (lv_at hl 1 rfl) ?_
  refine lv_lload hx hb dX12_putKey_12 (lv_at hl 3 rfl) ?_
  obtain ⟨hin4, keyB_5, hv6, h⟩ := st_b h
  refine x_last X Z 1 (RW_X12_putKey cy o d keyA_2 keyB_5 found_) rfl hin4 hv6 rfl dX12_putKey_14 (fun H locs Z => ?_)
  refine lv_aload_n hx hb dX12_putKey_15 rfl (lv_at hl 0 rfl) ?_
  refine x_getO X Z 0 45 (v := .ref (d 45)) rfl rfl lk_X12_putKey_X12_found dX12_putKey_16 ?_
  refine lv_iload_n hx hb dX12_putKey_19 rfl (lv_at hl 1 rfl) ?_
  refine lv_iload hx hb dX12_putKey_20 (lv_at hl 4 rfl) ?_
  obtain ⟨hin7, found_8, hv9, h⟩ := st_b h
  refine x_iast X Z 2 (RW_X12_putKey cy o d keyA_2 keyB_5 found_8) rfl hin7 hv9 rfl dX12_putKey_22 (fun H locs Z => ?_)
  obtain rfl := Option.some.inj h
  exact K H locs ls _ dX12_putKey_23 Z
theorem c_X12_putKey (l : Launch) (D : va_G) (cy : Nat → ClassId) (o : Nat) (d : Nat → Nat) (letters_ : Int32) (tests_ : Int32) (inputLength_ : Int32) (at_ : Int32) (signed_ : Int32) (newParts_ : Int32) (machineParts_ : Int32) (firstParts_ : Int32) (firstTruth_ : Int32) (secondTruth_ : Int32) (isPair_ : Int32) (states_ : Int32) (stateClasses_ : Int32) (elements_ : Int32) (cursor_ : Int32) (hasSnapshot_ : Int32) (isSaving_ : Int32) (keyA_ : Nat → Int64) (keyB_ : Nat → Int64) (found_ : Nat → Int32) (x1 : Int32) (x2 : Int64) (x4 : Int64) (x6 : Int32) (out : (Nat → Int64) × (Nat → Int64) × (Nat → Int32)) (h : f_X12_putKey x1 x2 x4 x6 keyA_ keyB_ found_ = some out) : CtV l yX12_putKey wsX12_putKey rm_X12_putKey D cy [.ref o, .int x1, .long x2, .long x4, .int x6] (RW_X12_putKey cy o d keyA_ keyB_ found_) (RO_X12_putKey cy o d letters_ tests_ inputLength_ at_ signed_ newParts_ machineParts_ firstParts_ firstTruth_ secondTruth_ isPair_ states_ stateClasses_ elements_ cursor_ hasSnapshot_ isSaving_) (RW_X12_putKey cy o d out.1 out.2.1 out.2.2) :=
  mk_v (by decide) rfl (Nat.le_of_ble_eq_true rfl) (fun p e s m args below meth c A Q X K H locs ls Z hl => wt_X12_putKey o d letters_ tests_ inputLength_ at_ signed_ newParts_ machineParts_ firstParts_ firstTruth_ secondTruth_ isPair_ states_ stateClasses_ elements_ cursor_ hasSnapshot_ isSaving_ keyA_ keyB_ found_ x1 x2 x4 x6 out X h K H locs ls Z hl)
/-! SubwordCounterModel addState (IJJII)V -/
abbrev rm_X12_addState : Room := { frames := 1, cells := 0, slots := 0, locals := 26 }
def RW_X12_addState (cy : Nat → ClassId) (o : Nat) (d : Nat → Nat) (letters_ : Int32) (tests_ : Int32) (inputLength_ : Int32) (at_ : Int32) (signed_ : Int32) (newParts_ : Int32) (machineParts_ : Int32) (firstParts_ : Int32) (firstTruth_ : Int32) (secondTruth_ : Int32) (isPair_ : Int32) (states_ : Int32) (stateClasses_ : Int32) (elements_ : Int32) (cursor_ : Int32) (hasSnapshot_ : Int32) (isSaving_ : Int32) (codeA_ : Nat → Int64) (codeB_ : Nat → Int64) (keyA_ : Nat → Int64) (keyB_ : Nat → Int64) (found_ : Nat → Int32) (before_ : Nat → Int32) (by_ : Nat → Int32) : va_W := [(o, ob 11 (oX12 d letters_ tests_ inputLength_ at_ signed_ newParts_ machineParts_ firstParts_ firstTruth_ secondTruth_ isPair_ states_ stateClasses_ elements_ cursor_ hasSnapshot_ isSaving_)), ((d 41), aJ cy 2000 codeA_), ((d 42), aJ cy 2000 codeB_), ((d 43), aJ cy 8192 keyA_), ((d 44), aJ cy 8192 keyB_), ((d 45), aI cy 8192 found_), ((d 47), aI cy 2000 before_), ((d 48), aI cy 2000 by_)]
def RO_X12_addState (cy : Nat → ClassId) (o : Nat) (d : Nat → Nat)  : va_W := []
theorem in_X12_addState_X12 : ∀ w ∈ u_ws RX12 TX12 68, w ∈ wsX12_addState := fun w h => (List.mem_cons_of_mem _ (List.mem_append_right _ h))
theorem lk_X12_addState_X12_states : Lk wsX12_addState RX12 266 11 49 := ⟨RX12, TX12, 68, rfl, by decide, in_X12_addState_X12, mem_at 1 rfl⟩
theorem lk_X12_addState_X12_codeA : Lk wsX12_addState RX12 104 11 41 := ⟨RX12, TX12, 68, rfl, by decide, in_X12_addState_X12, mem_at 2 rfl⟩
theorem lk_X12_addState_X12_codeB : Lk wsX12_addState RX12 108 11 42 := ⟨RX12, TX12, 68, rfl, by decide, in_X12_addState_X12, mem_at 3 rfl⟩
theorem lk_X12_addState_X12_before : Lk wsX12_addState RX12 123 11 47 := ⟨RX12, TX12, 68, rfl, by decide, in_X12_addState_X12, mem_at 4 rfl⟩
theorem lk_X12_addState_X12_by : Lk wsX12_addState RX12 126 11 48 := ⟨RX12, TX12, 68, rfl, by decide, in_X12_addState_X12, mem_at 5 rfl⟩
theorem lp_X12_addState_X12_states : Lp wsX12_addState RX12 266 11 49 .int := ⟨RX12, TX12, 68, tyX12, rfl, by decide, in_X12_addState_X12, mem_at 1 rfl, tyX12_ok, nmX12, rfl, by decide +kernel⟩
def f_X12_addState (x1 : Int32) (x2 : Int64) (x4 : Int64) (x6 : Int32) (x7 : Int32) (states_ : Int32) (codeA_ : Nat → Int64) (codeB_ : Nat → Int64) (keyA_ : Nat → Int64) (keyB_ : Nat → Int64) (found_ : Nat → Int32) (before_ : Nat → Int32) (by_ : Nat → Int32) : Option (Int32 × (Nat → Int64) × (Nat → Int64) × (Nat → Int64) × (Nat → Int64) × (Nat → Int32) × (Nat → Int32) × (Nat → Int32)) :=
  (f_X12_putKey x1 x2 x4 states_ keyA_ keyB_ found_).bind (fun u1 =>
  stA codeA_ 2000 states_ x2 (fun codeA_4 =>
  stA codeB_ 2000 states_ x4 (fun codeB_7 =>
  stA before_ 2000 states_ x6 (fun before_10 =>
  stA by_ 2000 states_ x7 (fun by_13 =>
  some ((states_ + (1 : Int32)), codeA_4, codeB_7, u1.1, u1.2.1, u1.2.2, before_10, by_13))))))
set_option maxHeartbeats 4000000 in
set_option maxRecDepth 100000 in
theorem wt_X12_addState {p : Program} {l : Launch} {e : Env} {s : State} {m : MethodId} {args : Array Value} {below : List Frame} {meth : Method} {c : Code} {A : Nat → Prop} {Q : State → Prop} {D : va_G} {cy : Nat → ClassId} (o : Nat) (d : Nat → Nat)  (letters_ : Int32) (tests_ : Int32) (inputLength_ : Int32) (at_ : Int32) (signed_ : Int32) (newParts_ : Int32) (machineParts_ : Int32) (firstParts_ : Int32) (firstTruth_ : Int32) (secondTruth_ : Int32) (isPair_ : Int32) (states_ : Int32) (stateClasses_ : Int32) (elements_ : Int32) (cursor_ : Int32) (hasSnapshot_ : Int32) (isSaving_ : Int32) (codeA_ : Nat → Int64) (codeB_ : Nat → Int64) (keyA_ : Nat → Int64) (keyB_ : Nat → Int64) (found_ : Nat → Int32) (before_ : Nat → Int32) (by_ : Nat → Int32) (x1 : Int32) (x2 : Int64) (x4 : Int64) (x6 : Int32) (x7 : Int32) (out : Int32 × (Nat → Int64) × (Nat → Int64) × (Nat → Int64) × (Nat → Int64) × (Nat → Int32) × (Nat → Int32) × (Nat → Int32)) (X : Cx p m c cX12_addState 8 s args wsX12_addState RX12 A D cy (RO_X12_addState cy o d)) (h : f_X12_addState x1 x2 x4 x6 x7 states_ codeA_ codeB_ keyA_ keyB_ found_ before_ by_ = some out) (K : ∀ (H : Heap) (locs : List Loc) (ls : Array Slot) (pc : Nat), decode cX12_addState pc = .ok (.return_, 1) → St A D s (RW_X12_addState cy o d letters_ tests_ inputLength_ at_ signed_ newParts_ machineParts_ firstParts_ firstTruth_ secondTruth_ isPair_ out.1 stateClasses_ elements_ cursor_ hasSnapshot_ isSaving_ out.2.1 out.2.2.1 out.2.2.2.1 out.2.2.2.2.1 out.2.2.2.2.2.1 out.2.2.2.2.2.2.1 out.2.2.2.2.2.2.2) H locs → W p l e rm_X12_addState s m args below meth c H locs 0 0 Q (F0 m pc ls [])) : ∀ (H : Heap) (locs : List Loc) (ls : Array Slot), St A D s (RW_X12_addState cy o d letters_ tests_ inputLength_ at_ signed_ newParts_ machineParts_ firstParts_ firstTruth_ secondTruth_ isPair_ states_ stateClasses_ elements_ cursor_ hasSnapshot_ isSaving_ codeA_ codeB_ keyA_ keyB_ found_ before_ by_) H locs → lv_has ls 8 [(0, .ref o), (1, .int x1), (2, .long x2), (4, .long x4), (6, .int x6), (7, .int x7)] → W p l e rm_X12_addState s m args below meth c H locs 0 0 Q (F0 m 0 ls []) := by
  intro H locs ls Z hl
  have hx := X.1.1
  have hb := X.1.2.1
  unfold f_X12_addState at h
  refine lv_aload_n hx hb dX12_addState_0 rfl (lv_at hl 0 rfl) ?_
  refine lv_iload_n hx hb dX12_addState_1 rfl (lv_at hl 1 rfl) ?_
  refine lv_lload_n hx hb dX12_addState_2 rfl (lv_at hl 2 rfl) ?_
  refine lv_lload hx hb dX12_addState_3 (lv_at hl 3 rfl) ?_
  refine lv_aload_n hx hb dX12_addState_5 rfl (lv_at hl 0 rfl) ?_
  refine x_get X Z 0 49 (v := .int states_) rfl rfl lk_X12_addState_X12_states dX12_addState_6 ?_
  obtain ⟨u1, hc2, h⟩ := ob_some h
  refine x_runVv (RW' := (RW_X12_addState cy o d letters_ tests_ inputLength_ at_ signed_ newParts_ machineParts_ firstParts_ firstTruth_ secondTruth_ isPair_ states_ stateClasses_ elements_ cursor_ hasSnapshot_ isSaving_ codeA_ codeB_ u1.1 u1.2.1 u1.2.2 before_ by_)) (wr := [(o, ob 11 (oX12 d letters_ tests_ inputLength_ at_ signed_ newParts_ machineParts_ firstParts_ firstTruth_ secondTruth_ isPair_ states_ stateClasses_ elements_ cursor_ hasSnapshot_ isSaving_)), ((d 41), aJ cy 2000 codeA_), ((d 42), aJ cy 2000 codeB_), ((d 47), aI cy 2000 before_), ((d 48), aI cy 2000 by_)]) (isC := [3, 4, 5]) (isR := [0, 1, 2, 6, 7]) (isF := [0, 1, 2, 5, 6, 7, 3, 4]) (rest := []) (As := [.int x1, .long x2, .long x4, .int states_]) (n := 4) X Z (c_X12_putKey l D cy o d letters_ tests_ inputLength_ at_ signed_ newParts_ machineParts_ firstParts_ firstTruth_ secondTruth_ isPair_ states_ stateClasses_ elements_ cursor_ hasSnapshot_ isSaving_ keyA_ keyB_ found_ x1 x2 x4 states_ u1 hc2) gX12_addState_X12_putKey rfl (by decide +kernel) ⟨Nat.le_of_ble_eq_true rfl, Nat.le_of_ble_eq_true rfl⟩ ⟨rfl, rfl⟩ ⟨Nat.le_of_ble_eq_true rfl, Nat.le_of_ble_eq_true rfl⟩ (x_rv X Z 0 rfl rfl) ⟨rfl, rfl, (roC (Or.inl (mem_at 0 rfl)) roN), rfl, rfl, by decide⟩ ⟨rfl, rfl⟩ rfl hl.1 rfl (Nat.le_of_ble_eq_true rfl) dX12_addState_9 (fun H locs Z => ?_)
  refine lv_aload_n hx hb dX12_addState_12 rfl (lv_at hl 0 rfl) ?_
  refine x_get X Z 0 41 (v := .ref (d 41)) rfl rfl lk_X12_addState_X12_codeA dX12_addState_13 ?_
  refine lv_aload_n hx hb dX12_addState_16 rfl (lv_at hl 0 rfl) ?_
  refine x_get X Z 0 49 (v := .int states_) rfl rfl lk_X12_addState_X12_states dX12_addState_17 ?_
  refine lv_lload_n hx hb dX12_addState_20 rfl (lv_at hl 2 rfl) ?_
  obtain ⟨hin3, codeA_4, hv5, h⟩ := st_b h
  refine x_last X Z 1 (RW_X12_addState cy o d letters_ tests_ inputLength_ at_ signed_ newParts_ machineParts_ firstParts_ firstTruth_ secondTruth_ isPair_ states_ stateClasses_ elements_ cursor_ hasSnapshot_ isSaving_ codeA_4 codeB_ u1.1 u1.2.1 u1.2.2 before_ by_) rfl hin3 hv5 rfl dX12_addState_21 (fun H locs Z => ?_)
  refine lv_aload_n hx hb dX12_addState_22 rfl (lv_at hl 0 rfl) ?_
  refine x_get X Z 0 42 (v := .ref (d 42)) rfl rfl lk_X12_addState_X12_codeB dX12_addState_23 ?_
  refine lv_aload_n hx hb dX12_addState_26 rfl (lv_at hl 0 rfl) ?_
  refine x_get X Z 0 49 (v := .int states_) rfl rfl lk_X12_addState_X12_states dX12_addState_27 ?_
  refine lv_lload hx hb dX12_addState_30 (lv_at hl 3 rfl) ?_
  obtain ⟨hin6, codeB_7, hv8, h⟩ := st_b h
  refine x_last X Z 2 (RW_X12_addState cy o d letters_ tests_ inputLength_ at_ signed_ newParts_ machineParts_ firstParts_ firstTruth_ secondTruth_ isPair_ states_ stateClasses_ elements_ cursor_ hasSnapshot_ isSaving_ codeA_4 codeB_7 u1.1 u1.2.1 u1.2.2 before_ by_) rfl hin6 hv8 rfl dX12_addState_32 (fun H locs Z => ?_)
  refine lv_aload_n hx hb dX12_addState_33 rfl (lv_at hl 0 rfl) ?_
  refine x_get X Z 0 47 (v := .ref (d 47)) rfl rfl lk_X12_addState_X12_before dX12_addState_34 ?_
  refine lv_aload_n hx hb dX12_addState_37 rfl (lv_at hl 0 rfl) ?_
  refine x_get X Z 0 49 (v := .int states_) rfl rfl lk_X12_addState_X12_states dX12_addState_38 ?_
  refine lv_iload hx hb dX12_addState_41 (lv_at hl 4 rfl) ?_
  obtain ⟨hin9, before_10, hv11, h⟩ := st_b h
  refine x_iast X Z 6 (RW_X12_addState cy o d letters_ tests_ inputLength_ at_ signed_ newParts_ machineParts_ firstParts_ firstTruth_ secondTruth_ isPair_ states_ stateClasses_ elements_ cursor_ hasSnapshot_ isSaving_ codeA_4 codeB_7 u1.1 u1.2.1 u1.2.2 before_10 by_) rfl hin9 hv11 rfl dX12_addState_43 (fun H locs Z => ?_)
  refine lv_aload_n hx hb dX12_addState_44 rfl (lv_at hl 0 rfl) ?_
  refine x_get X Z 0 48 (v := .ref (d 48)) rfl rfl lk_X12_addState_X12_by dX12_addState_45 ?_
  refine lv_aload_n hx hb dX12_addState_48 rfl (lv_at hl 0 rfl) ?_
  refine x_get X Z 0 49 (v := .int states_) rfl rfl lk_X12_addState_X12_states dX12_addState_49 ?_
  refine lv_iload hx hb dX12_addState_52 (lv_at hl 5 rfl) ?_
  obtain ⟨hin12, by_13, hv14, h⟩ := st_b h
  refine x_iast X Z 7 (RW_X12_addState cy o d letters_ tests_ inputLength_ at_ signed_ newParts_ machineParts_ firstParts_ firstTruth_ secondTruth_ isPair_ states_ stateClasses_ elements_ cursor_ hasSnapshot_ isSaving_ codeA_4 codeB_7 u1.1 u1.2.1 u1.2.2 before_10 by_13) rfl hin12 hv14 rfl dX12_addState_54 (fun H locs Z => ?_)
  refine lv_aload_n hx hb dX12_addState_55 rfl (lv_at hl 0 rfl) ?_
  refine lv_dup hx hb dX12_addState_56 rfl ?_
  refine x_get X Z 0 49 (v := .int states_) rfl rfl lk_X12_addState_X12_states dX12_addState_57 ?_
  refine lv_iconst (v := (1 : Int32)) hx hb dX12_addState_60 (by decide) ?_
  refine lv_iadd hx hb dX12_addState_61 ?_
  refine x_put X Z 0 49 (RW_X12_addState cy o d letters_ tests_ inputLength_ at_ signed_ newParts_ machineParts_ firstParts_ firstTruth_ secondTruth_ isPair_ (states_ + (1 : Int32)) stateClasses_ elements_ cursor_ hasSnapshot_ isSaving_ codeA_4 codeB_7 u1.1 u1.2.1 u1.2.2 before_10 by_13) rfl lp_X12_addState_X12_states (Nat.le_of_ble_eq_true rfl) rfl dX12_addState_62 (fun H locs Z => ?_)
  obtain rfl := Option.some.inj h
  exact K H locs ls _ dX12_addState_65 Z
theorem c_X12_addState (l : Launch) (D : va_G) (cy : Nat → ClassId) (o : Nat) (d : Nat → Nat)  (letters_ : Int32) (tests_ : Int32) (inputLength_ : Int32) (at_ : Int32) (signed_ : Int32) (newParts_ : Int32) (machineParts_ : Int32) (firstParts_ : Int32) (firstTruth_ : Int32) (secondTruth_ : Int32) (isPair_ : Int32) (states_ : Int32) (stateClasses_ : Int32) (elements_ : Int32) (cursor_ : Int32) (hasSnapshot_ : Int32) (isSaving_ : Int32) (codeA_ : Nat → Int64) (codeB_ : Nat → Int64) (keyA_ : Nat → Int64) (keyB_ : Nat → Int64) (found_ : Nat → Int32) (before_ : Nat → Int32) (by_ : Nat → Int32) (x1 : Int32) (x2 : Int64) (x4 : Int64) (x6 : Int32) (x7 : Int32) (out : Int32 × (Nat → Int64) × (Nat → Int64) × (Nat → Int64) × (Nat → Int64) × (Nat → Int32) × (Nat → Int32) × (Nat → Int32)) (h : f_X12_addState x1 x2 x4 x6 x7 states_ codeA_ codeB_ keyA_ keyB_ found_ before_ by_ = some out) : CtV l yX12_addState wsX12_addState rm_X12_addState D cy [.ref o, .int x1, .long x2, .long x4, .int x6, .int x7] (RW_X12_addState cy o d letters_ tests_ inputLength_ at_ signed_ newParts_ machineParts_ firstParts_ firstTruth_ secondTruth_ isPair_ states_ stateClasses_ elements_ cursor_ hasSnapshot_ isSaving_ codeA_ codeB_ keyA_ keyB_ found_ before_ by_) (RO_X12_addState cy o d) (RW_X12_addState cy o d letters_ tests_ inputLength_ at_ signed_ newParts_ machineParts_ firstParts_ firstTruth_ secondTruth_ isPair_ out.1 stateClasses_ elements_ cursor_ hasSnapshot_ isSaving_ out.2.1 out.2.2.1 out.2.2.2.1 out.2.2.2.2.1 out.2.2.2.2.2.1 out.2.2.2.2.2.2.1 out.2.2.2.2.2.2.2) :=
  mk_v (by decide) rfl (Nat.le_of_ble_eq_true rfl) (fun p e s m args below meth c A Q X K H locs ls Z hl => wt_X12_addState o d letters_ tests_ inputLength_ at_ signed_ newParts_ machineParts_ firstParts_ firstTruth_ secondTruth_ isPair_ states_ stateClasses_ elements_ cursor_ hasSnapshot_ isSaving_ codeA_ codeB_ keyA_ keyB_ found_ before_ by_ x1 x2 x4 x6 x7 out X h K H locs ls Z hl)
/-! SubwordCounterModel builds ()Z -/
abbrev rm_X12_builds : Room := { frames := 2, cells := 0, slots := 0, locals := 55 }
def RW_X12_builds (cy : Nat → ClassId) (o : Nat) (d : Nat → Nat) (letters_ : Int32) (tests_ : Int32) (inputLength_ : Int32) (at_ : Int32) (signed_ : Int32) (newParts_ : Int32) (machineParts_ : Int32) (firstParts_ : Int32) (firstTruth_ : Int32) (secondTruth_ : Int32) (isPair_ : Int32) (states_ : Int32) (stateClasses_ : Int32) (elements_ : Int32) (cursor_ : Int32) (hasSnapshot_ : Int32) (isSaving_ : Int32) (digit_ : Nat → Int32) (codeA_ : Nat → Int64) (codeB_ : Nat → Int64) (keyA_ : Nat → Int64) (keyB_ : Nat → Int64) (found_ : Nat → Int32) (next_ : Nat → Int32) (before_ : Nat → Int32) (by_ : Nat → Int32) : va_W := [(o, ob 11 (oX12 d letters_ tests_ inputLength_ at_ signed_ newParts_ machineParts_ firstParts_ firstTruth_ secondTruth_ isPair_ states_ stateClasses_ elements_ cursor_ hasSnapshot_ isSaving_)), ((d 35), aI cy 4 digit_), ((d 41), aJ cy 2000 codeA_), ((d 42), aJ cy 2000 codeB_), ((d 43), aJ cy 8192 keyA_), ((d 44), aJ cy 8192 keyB_), ((d 45), aI cy 8192 found_), ((d 46), aI cy 6000 next_), ((d 47), aI cy 2000 before_), ((d 48), aI cy 2000 by_)]
def RO_X12_builds (cy : Nat → ClassId) (o : Nat) (d : Nat → Nat) (machineKind_ : Nat → Int32) (machineBound_ : Nat → Int32) (machineLength_ : Nat → Int32) (machinePattern_ : Nat → Int32) : va_W := [((d 30), aI cy 8 machineKind_), ((d 31), aI cy 8 machineBound_), ((d 32), aI cy 8 machineLength_), ((d 34), aI cy 32 machinePattern_)]
theorem in_X12_builds_X12 : ∀ w ∈ u_ws RX12 TX12 68, w ∈ wsX12_builds := fun w h => (List.mem_cons_of_mem _ (List.mem_append_right _ h))
theorem lk_X12_builds_X12_next : Lk wsX12_builds RX12 120 11 46 := ⟨RX12, TX12, 68, rfl, by decide, in_X12_builds_X12, mem_at 6 rfl⟩
theorem lk_X12_builds_X12_found : Lk wsX12_builds RX12 117 11 45 := ⟨RX12, TX12, 68, rfl, by decide, in_X12_builds_X12, mem_at 5 rfl⟩
theorem lk_X12_builds_X12_letters : Lk wsX12_builds RX12 7 11 0 := ⟨RX12, TX12, 68, rfl, by decide, in_X12_builds_X12, mem_at 2 rfl⟩
theorem lk_X12_builds_X12_codeA : Lk wsX12_builds RX12 104 11 41 := ⟨RX12, TX12, 68, rfl, by decide, in_X12_builds_X12, mem_at 3 rfl⟩
theorem lk_X12_builds_X12_codeB : Lk wsX12_builds RX12 108 11 42 := ⟨RX12, TX12, 68, rfl, by decide, in_X12_builds_X12, mem_at 4 rfl⟩
theorem lk_X12_builds_X12_states : Lk wsX12_builds RX12 266 11 49 := ⟨RX12, TX12, 68, rfl, by decide, in_X12_builds_X12, mem_at 1 rfl⟩
theorem lp_X12_builds_X12_states : Lp wsX12_builds RX12 266 11 49 .int := ⟨RX12, TX12, 68, tyX12, rfl, by decide, in_X12_builds_X12, mem_at 1 rfl, tyX12_ok, nmX12, rfl, by decide +kernel⟩
def j_X12_builds_112 (states_ : Int32) (digit_ : Nat → Int32) (codeA_ : Nat → Int64) (codeB_ : Nat → Int64) (keyA_ : Nat → Int64) (keyB_ : Nat → Int64) (found_ : Nat → Int32) (next_ : Nat → Int32) (before_ : Nat → Int32) (by_ : Nat → Int32) (x1 : Int32) (x2 : Int32) (x7 : Int32) : Option ((Int32 × (Nat → Int32) × (Nat → Int64) × (Nat → Int64) × (Nat → Int64) × (Nat → Int64) × (Nat → Int32) × (Nat → Int32) × (Nat → Int32) × (Nat → Int32) × Int32) ⊕ ((Int32 × (Nat → Int32) × (Nat → Int64) × (Nat → Int64) × (Nat → Int64) × (Nat → Int64) × (Nat → Int32) × (Nat → Int32) × (Nat → Int32) × (Nat → Int32)) ⊕ (Int32 × (Nat → Int32) × (Nat → Int64) × (Nat → Int64) × (Nat → Int64) × (Nat → Int64) × (Nat → Int32) × (Nat → Int32) × (Nat → Int32) × (Nat → Int32)))) :=
  ldA found_ 8192 x7 (fun v2 =>
  stA next_ 6000 (((3 : Int32) * x1) + x2) v2 (fun next_5 =>
  some (.inl (states_, digit_, codeA_, codeB_, keyA_, keyB_, found_, next_5, before_, by_, (x2 + (1 : Int32))))))
set_option maxHeartbeats 4000000 in
set_option maxRecDepth 100000 in
theorem jw_X12_builds_112 {p : Program} {l : Launch} {e : Env} {s : State} {m : MethodId} {args : Array Value} {below : List Frame} {meth : Method} {c : Code} {A : Nat → Prop} {Q : State → Prop} {D : va_G} {cy : Nat → ClassId} (o : Nat) (d : Nat → Nat) (machineKind_ : Nat → Int32) (machineBound_ : Nat → Int32) (machineLength_ : Nat → Int32) (machinePattern_ : Nat → Int32) (letters_ : Int32) (tests_ : Int32) (inputLength_ : Int32) (at_ : Int32) (signed_ : Int32) (newParts_ : Int32) (machineParts_ : Int32) (firstParts_ : Int32) (firstTruth_ : Int32) (secondTruth_ : Int32) (isPair_ : Int32) (states_ : Int32) (stateClasses_ : Int32) (elements_ : Int32) (cursor_ : Int32) (hasSnapshot_ : Int32) (isSaving_ : Int32) (digit_ : Nat → Int32) (codeA_ : Nat → Int64) (codeB_ : Nat → Int64) (keyA_ : Nat → Int64) (keyB_ : Nat → Int64) (found_ : Nat → Int32) (next_ : Nat → Int32) (before_ : Nat → Int32) (by_ : Nat → Int32) (x1 : Int32) (x2 : Int32) (x7 : Int32) (o1 : (Int32 × (Nat → Int32) × (Nat → Int64) × (Nat → Int64) × (Nat → Int64) × (Nat → Int64) × (Nat → Int32) × (Nat → Int32) × (Nat → Int32) × (Nat → Int32) × Int32) ⊕ ((Int32 × (Nat → Int32) × (Nat → Int64) × (Nat → Int64) × (Nat → Int64) × (Nat → Int64) × (Nat → Int32) × (Nat → Int32) × (Nat → Int32) × (Nat → Int32)) ⊕ (Int32 × (Nat → Int32) × (Nat → Int64) × (Nat → Int64) × (Nat → Int64) × (Nat → Int64) × (Nat → Int32) × (Nat → Int32) × (Nat → Int32) × (Nat → Int32)))) (X : Cx p m c cX12_builds 8 s args wsX12_builds RX12 A D cy (RO_X12_builds cy o d machineKind_ machineBound_ machineLength_ machinePattern_)) (h : j_X12_builds_112 states_ digit_ codeA_ codeB_ keyA_ keyB_ found_ next_ before_ by_ x1 x2 x7 = some o1) (K : Sum.elim (fun v : Int32 × (Nat → Int32) × (Nat → Int64) × (Nat → Int64) × (Nat → Int64) × (Nat → Int64) × (Nat → Int32) × (Nat → Int32) × (Nat → Int32) × (Nat → Int32) × Int32 => ∀ (H : Heap) (locs : List Loc) (ls : Array Slot), St A D s (RW_X12_builds cy o d letters_ tests_ inputLength_ at_ signed_ newParts_ machineParts_ firstParts_ firstTruth_ secondTruth_ isPair_ v.1 stateClasses_ elements_ cursor_ hasSnapshot_ isSaving_ v.2.1 v.2.2.1 v.2.2.2.1 v.2.2.2.2.1 v.2.2.2.2.2.1 v.2.2.2.2.2.2.1 v.2.2.2.2.2.2.2.1 v.2.2.2.2.2.2.2.2.1 v.2.2.2.2.2.2.2.2.2.1) H locs → lv_has ls 8 [(0, .ref o), (1, .int x1), (2, .int v.2.2.2.2.2.2.2.2.2.2)] → W p l e rm_X12_builds s m args below meth c H locs 0 0 Q (F0 m 35 ls [])) (fun v : (Int32 × (Nat → Int32) × (Nat → Int64) × (Nat → Int64) × (Nat → Int64) × (Nat → Int64) × (Nat → Int32) × (Nat → Int32) × (Nat → Int32) × (Nat → Int32)) ⊕ (Int32 × (Nat → Int32) × (Nat → Int64) × (Nat → Int64) × (Nat → Int64) × (Nat → Int64) × (Nat → Int32) × (Nat → Int32) × (Nat → Int32) × (Nat → Int32)) => Sum.elim (fun w : Int32 × (Nat → Int32) × (Nat → Int64) × (Nat → Int64) × (Nat → Int64) × (Nat → Int64) × (Nat → Int32) × (Nat → Int32) × (Nat → Int32) × (Nat → Int32) => ∀ (H : Heap) (locs : List Loc) (ls : Array Slot), St A D s (RW_X12_builds cy o d letters_ tests_ inputLength_ at_ signed_ newParts_ machineParts_ firstParts_ firstTruth_ secondTruth_ isPair_ w.1 stateClasses_ elements_ cursor_ hasSnapshot_ isSaving_ w.2.1 w.2.2.1 w.2.2.2.1 w.2.2.2.2.1 w.2.2.2.2.2.1 w.2.2.2.2.2.2.1 w.2.2.2.2.2.2.2.1 w.2.2.2.2.2.2.2.2.1 w.2.2.2.2.2.2.2.2.2) H locs → lv_has ls 8 [] → W p l e rm_X12_builds s m args below meth c H locs 0 0 Q (F0 m 99 ls [])) (fun w => ∀ (H : Heap) (locs : List Loc) (ls : Array Slot), St A D s (RW_X12_builds cy o d letters_ tests_ inputLength_ at_ signed_ newParts_ machineParts_ firstParts_ firstTruth_ secondTruth_ isPair_ w.1 stateClasses_ elements_ cursor_ hasSnapshot_ isSaving_ w.2.1 w.2.2.1 w.2.2.2.1 w.2.2.2.2.1 w.2.2.2.2.2.1 w.2.2.2.2.2.2.1 w.2.2.2.2.2.2.2.1 w.2.2.2.2.2.2.2.2.1 w.2.2.2.2.2.2.2.2.2) H locs → lv_has ls 8 [(0, .ref o), (1, .int x1)] → W p l e rm_X12_builds s m args below meth c H locs 0 0 Q (F0 m 135 ls [])) v) o1) : ∀ (H : Heap) (locs : List Loc) (ls : Array Slot), St A D s (RW_X12_builds cy o d letters_ tests_ inputLength_ at_ signed_ newParts_ machineParts_ firstParts_ firstTruth_ secondTruth_ isPair_ states_ stateClasses_ elements_ cursor_ hasSnapshot_ isSaving_ digit_ codeA_ codeB_ keyA_ keyB_ found_ next_ before_ by_) H locs → lv_has ls 8 [(0, .ref o), (1, .int x1), (2, .int x2), (7, .int x7)] → W p l e rm_X12_builds s m args below meth c H locs 0 0 Q (F0 m 112 ls []) := by
  intro H locs ls Z hl
  have hx := X.1.1
  have hb := X.1.2.1
  unfold j_X12_builds_112 at h
  refine lv_aload_n hx hb dX12_builds_112 rfl (lv_at hl 0 rfl) ?_
  refine x_get X Z 0 46 (v := .ref (d 46)) rfl rfl lk_X12_builds_X12_next dX12_builds_113 ?_
  refine lv_iconst (v := (3 : Int32)) hx hb dX12_builds_116 (by decide) ?_
  refine lv_iload_n hx hb dX12_builds_117 rfl (lv_at hl 1 rfl) ?_
  refine lv_imul hx hb dX12_builds_118 ?_
  refine lv_iload_n hx hb dX12_builds_119 rfl (lv_at hl 2 rfl) ?_
  refine lv_iadd hx hb dX12_builds_120 ?_
  refine lv_aload_n hx hb dX12_builds_121 rfl (lv_at hl 0 rfl) ?_
  refine x_get X Z 0 45 (v := .ref (d 45)) rfl rfl lk_X12_builds_X12_found dX12_builds_122 ?_
  refine lv_iload hx hb dX12_builds_125 (lv_at hl 3 rfl) ?_
  obtain ⟨hin1, v2, hv3, h⟩ := ld_b h
  refine x_iald X Z 6 rfl hin1 hv3 dX12_builds_127 ?_
  obtain ⟨hin4, next_5, hv6, h⟩ := st_b h
  refine x_iast X Z 7 (RW_X12_builds cy o d letters_ tests_ inputLength_ at_ signed_ newParts_ machineParts_ firstParts_ firstTruth_ secondTruth_ isPair_ states_ stateClasses_ elements_ cursor_ hasSnapshot_ isSaving_ digit_ codeA_ codeB_ keyA_ keyB_ found_ next_5 before_ by_) rfl hin4 hv6 rfl dX12_builds_128 (fun H locs Z => ?_)
  refine lv_iinc (v := (x2 + (1 : Int32))) (lv' := [(2, .int (x2 + (1 : Int32))), (0, .ref o), (1, .int x1), (7, .int x7)]) hx hb dX12_builds_129 hl (k := 2) rfl rfl (by decide) rfl (fun ls hl => ?_)
  refine lv_goto (tgt := 35) hx hb dX12_builds_132 (by decide) ?_
  obtain rfl := Option.some.inj h
  exact sk_l K H locs ls Z (lv_sub hl [1, 2, 0] rfl)
def b_X12_builds_35 (machineKind_ : Nat → Int32) (machineBound_ : Nat → Int32) (machineLength_ : Nat → Int32) (machinePattern_ : Nat → Int32) (letters_ : Int32) (machineParts_ : Int32) (x1 : Int32) (states_ : Int32) (digit_ : Nat → Int32) (codeA_ : Nat → Int64) (codeB_ : Nat → Int64) (keyA_ : Nat → Int64) (keyB_ : Nat → Int64) (found_ : Nat → Int32) (next_ : Nat → Int32) (before_ : Nat → Int32) (by_ : Nat → Int32) (x2 : Int32) : Option ((Int32 × (Nat → Int32) × (Nat → Int64) × (Nat → Int64) × (Nat → Int64) × (Nat → Int64) × (Nat → Int32) × (Nat → Int32) × (Nat → Int32) × (Nat → Int32) × Int32) ⊕ ((Int32 × (Nat → Int32) × (Nat → Int64) × (Nat → Int64) × (Nat → Int64) × (Nat → Int64) × (Nat → Int32) × (Nat → Int32) × (Nat → Int32) × (Nat → Int32)) ⊕ (Int32 × (Nat → Int32) × (Nat → Int64) × (Nat → Int64) × (Nat → Int64) × (Nat → Int64) × (Nat → Int32) × (Nat → Int32) × (Nat → Int32) × (Nat → Int32)))) :=
  if letters_ ≤ x2 then
  (some (.inr (.inr (states_, digit_, codeA_, codeB_, keyA_, keyB_, found_, next_, before_, by_))))
  else
  (ldA codeA_ 2000 x1 (fun v8 =>
  (f_X12_steppedCode v8 (0 : Int32) x2 machineParts_ machineKind_ machineBound_ machineLength_ machinePattern_ digit_).bind (fun u10 =>
  ldA codeB_ 2000 x1 (fun v13 =>
  (f_X12_steppedCode v13 (4 : Int32) x2 machineParts_ machineKind_ machineBound_ machineLength_ machinePattern_ u10.2).bind (fun u15 =>
  (f_X12_slotOf u10.1 u15.1 keyA_ keyB_ found_).bind (fun u17 =>
  ldA found_ 8192 u17 (fun v20 =>
  if 0 ≤ v20 then
  (j_X12_builds_112 states_ u15.2 codeA_ codeB_ keyA_ keyB_ found_ next_ before_ by_ x1 x2 u17)
  else
  (if states_ = (2000 : Int32) then
  (some (.inr (.inl (states_, u15.2, codeA_, codeB_, keyA_, keyB_, found_, next_, before_, by_))))
  else
  ((f_X12_addState u17 u10.1 u15.1 x1 x2 states_ codeA_ codeB_ keyA_ keyB_ found_ before_ by_).bind (fun u22 =>
  j_X12_builds_112 u22.1 u15.2 u22.2.1 u22.2.2.1 u22.2.2.2.1 u22.2.2.2.2.1 u22.2.2.2.2.2.1 next_ u22.2.2.2.2.2.2.1 u22.2.2.2.2.2.2.2 x1 x2 u17))))))))))
set_option maxHeartbeats 4000000 in
set_option maxRecDepth 100000 in
theorem wb_X12_builds_35 {p : Program} {l : Launch} {e : Env} {s : State} {m : MethodId} {args : Array Value} {below : List Frame} {meth : Method} {c : Code} {A : Nat → Prop} {Q : State → Prop} {D : va_G} {cy : Nat → ClassId} (o : Nat) (d : Nat → Nat) (machineKind_ : Nat → Int32) (machineBound_ : Nat → Int32) (machineLength_ : Nat → Int32) (machinePattern_ : Nat → Int32) (letters_ : Int32) (tests_ : Int32) (inputLength_ : Int32) (at_ : Int32) (signed_ : Int32) (newParts_ : Int32) (machineParts_ : Int32) (firstParts_ : Int32) (firstTruth_ : Int32) (secondTruth_ : Int32) (isPair_ : Int32) (stateClasses_ : Int32) (elements_ : Int32) (cursor_ : Int32) (hasSnapshot_ : Int32) (isSaving_ : Int32) (x1 : Int32) (states_ : Int32) (digit_ : Nat → Int32) (codeA_ : Nat → Int64) (codeB_ : Nat → Int64) (keyA_ : Nat → Int64) (keyB_ : Nat → Int64) (found_ : Nat → Int32) (next_ : Nat → Int32) (before_ : Nat → Int32) (by_ : Nat → Int32) (x2 : Int32) (o1 : (Int32 × (Nat → Int32) × (Nat → Int64) × (Nat → Int64) × (Nat → Int64) × (Nat → Int64) × (Nat → Int32) × (Nat → Int32) × (Nat → Int32) × (Nat → Int32) × Int32) ⊕ ((Int32 × (Nat → Int32) × (Nat → Int64) × (Nat → Int64) × (Nat → Int64) × (Nat → Int64) × (Nat → Int32) × (Nat → Int32) × (Nat → Int32) × (Nat → Int32)) ⊕ (Int32 × (Nat → Int32) × (Nat → Int64) × (Nat → Int64) × (Nat → Int64) × (Nat → Int64) × (Nat → Int32) × (Nat → Int32) × (Nat → Int32) × (Nat → Int32)))) (X : Cx p m c cX12_builds 8 s args wsX12_builds RX12 A D cy (RO_X12_builds cy o d machineKind_ machineBound_ machineLength_ machinePattern_)) (h : b_X12_builds_35 machineKind_ machineBound_ machineLength_ machinePattern_ letters_ machineParts_ x1 states_ digit_ codeA_ codeB_ keyA_ keyB_ found_ next_ before_ by_ x2 = some o1) (K : Sum.elim (fun v : Int32 × (Nat → Int32) × (Nat → Int64) × (Nat → Int64) × (Nat → Int64) × (Nat → Int64) × (Nat → Int32) × (Nat → Int32) × (Nat → Int32) × (Nat → Int32) × Int32 => ∀ (H : Heap) (locs : List Loc) (ls : Array Slot), St A D s (RW_X12_builds cy o d letters_ tests_ inputLength_ at_ signed_ newParts_ machineParts_ firstParts_ firstTruth_ secondTruth_ isPair_ v.1 stateClasses_ elements_ cursor_ hasSnapshot_ isSaving_ v.2.1 v.2.2.1 v.2.2.2.1 v.2.2.2.2.1 v.2.2.2.2.2.1 v.2.2.2.2.2.2.1 v.2.2.2.2.2.2.2.1 v.2.2.2.2.2.2.2.2.1 v.2.2.2.2.2.2.2.2.2.1) H locs → lv_has ls 8 [(0, .ref o), (1, .int x1), (2, .int v.2.2.2.2.2.2.2.2.2.2)] → W p l e rm_X12_builds s m args below meth c H locs 0 0 Q (F0 m 35 ls [])) (fun v : (Int32 × (Nat → Int32) × (Nat → Int64) × (Nat → Int64) × (Nat → Int64) × (Nat → Int64) × (Nat → Int32) × (Nat → Int32) × (Nat → Int32) × (Nat → Int32)) ⊕ (Int32 × (Nat → Int32) × (Nat → Int64) × (Nat → Int64) × (Nat → Int64) × (Nat → Int64) × (Nat → Int32) × (Nat → Int32) × (Nat → Int32) × (Nat → Int32)) => Sum.elim (fun w : Int32 × (Nat → Int32) × (Nat → Int64) × (Nat → Int64) × (Nat → Int64) × (Nat → Int64) × (Nat → Int32) × (Nat → Int32) × (Nat → Int32) × (Nat → Int32) => ∀ (H : Heap) (locs : List Loc) (ls : Array Slot), St A D s (RW_X12_builds cy o d letters_ tests_ inputLength_ at_ signed_ newParts_ machineParts_ firstParts_ firstTruth_ secondTruth_ isPair_ w.1 stateClasses_ elements_ cursor_ hasSnapshot_ isSaving_ w.2.1 w.2.2.1 w.2.2.2.1 w.2.2.2.2.1 w.2.2.2.2.2.1 w.2.2.2.2.2.2.1 w.2.2.2.2.2.2.2.1 w.2.2.2.2.2.2.2.2.1 w.2.2.2.2.2.2.2.2.2) H locs → lv_has ls 8 [] → W p l e rm_X12_builds s m args below meth c H locs 0 0 Q (F0 m 99 ls [])) (fun w => ∀ (H : Heap) (locs : List Loc) (ls : Array Slot), St A D s (RW_X12_builds cy o d letters_ tests_ inputLength_ at_ signed_ newParts_ machineParts_ firstParts_ firstTruth_ secondTruth_ isPair_ w.1 stateClasses_ elements_ cursor_ hasSnapshot_ isSaving_ w.2.1 w.2.2.1 w.2.2.2.1 w.2.2.2.2.1 w.2.2.2.2.2.1 w.2.2.2.2.2.2.1 w.2.2.2.2.2.2.2.1 w.2.2.2.2.2.2.2.2.1 w.2.2.2.2.2.2.2.2.2) H locs → lv_has ls 8 [(0, .ref o), (1, .int x1)] → W p l e rm_X12_builds s m args below meth c H locs 0 0 Q (F0 m 135 ls [])) v) o1) : ∀ (H : Heap) (locs : List Loc) (ls : Array Slot), St A D s (RW_X12_builds cy o d letters_ tests_ inputLength_ at_ signed_ newParts_ machineParts_ firstParts_ firstTruth_ secondTruth_ isPair_ states_ stateClasses_ elements_ cursor_ hasSnapshot_ isSaving_ digit_ codeA_ codeB_ keyA_ keyB_ found_ next_ before_ by_) H locs → lv_has ls 8 [(0, .ref o), (1, .int x1), (2, .int x2)] → W p l e rm_X12_builds s m args below meth c H locs 0 0 Q (F0 m 35 ls []) := by
  intro H locs ls Z hl
  have hx := X.1.1
  have hb := X.1.2.1
  unfold b_X12_builds_35 at h
  refine lv_iload_n hx hb dX12_builds_35 rfl (lv_at hl 2 rfl) ?_
  refine lv_aload_n hx hb dX12_builds_36 rfl (lv_at hl 0 rfl) ?_
  refine x_get X Z 0 0 (v := .int letters_) rfl rfl lk_X12_builds_X12_letters dX12_builds_37 ?_
  refine lv_icmp_ge (tgt := 135) hx hb dX12_builds_40 (by decide) (fun cnd => ?_) (fun cnd => ?_)
  · replace h := ifp h cnd
    obtain rfl := Option.some.inj h
    exact (sk_r (sk_r K)) H locs ls Z (lv_sub hl [0, 1] rfl)
  · replace h := ifn h cnd
    refine lv_aload_n hx hb dX12_builds_43 rfl (lv_at hl 0 rfl) ?_
    refine lv_aload_n hx hb dX12_builds_44 rfl (lv_at hl 0 rfl) ?_
    refine x_get X Z 0 41 (v := .ref (d 41)) rfl rfl lk_X12_builds_X12_codeA dX12_builds_45 ?_
    refine lv_iload_n hx hb dX12_builds_48 rfl (lv_at hl 1 rfl) ?_
    obtain ⟨hin7, v8, hv9, h⟩ := ld_b h
    refine x_lald X Z 2 rfl hin7 hv9 dX12_builds_49 ?_
    refine lv_iconst (v := (0 : Int32)) hx hb dX12_builds_50 (by decide) ?_
    refine lv_iload_n hx hb dX12_builds_51 rfl (lv_at hl 2 rfl) ?_
    obtain ⟨u10, hc11, h⟩ := ob_some h
    refine x_runVl (RW' := (RW_X12_builds cy o d letters_ tests_ inputLength_ at_ signed_ newParts_ machineParts_ firstParts_ firstTruth_ secondTruth_ isPair_ states_ stateClasses_ elements_ cursor_ hasSnapshot_ isSaving_ u10.2 codeA_ codeB_ keyA_ keyB_ found_ next_ before_ by_)) (wr := [(o, ob 11 (oX12 d letters_ tests_ inputLength_ at_ signed_ newParts_ machineParts_ firstParts_ firstTruth_ secondTruth_ isPair_ states_ stateClasses_ elements_ cursor_ hasSnapshot_ isSaving_)), ((d 41), aJ cy 2000 codeA_), ((d 42), aJ cy 2000 codeB_), ((d 43), aJ cy 8192 keyA_), ((d 44), aJ cy 8192 keyB_), ((d 45), aI cy 8192 found_), ((d 46), aI cy 6000 next_), ((d 47), aI cy 2000 before_), ((d 48), aI cy 2000 by_)]) (isC := [1]) (isR := [0, 2, 3, 4, 5, 6, 7, 8, 9]) (isF := [0, 9, 1, 2, 3, 4, 5, 6, 7, 8]) (rest := []) (As := [.long v8, .int (0 : Int32), .int x2]) (n := 3) X Z (c_X12_steppedCode l D cy o d letters_ tests_ inputLength_ at_ signed_ newParts_ machineParts_ firstParts_ firstTruth_ secondTruth_ isPair_ states_ stateClasses_ elements_ cursor_ hasSnapshot_ isSaving_ machineKind_ machineBound_ machineLength_ machinePattern_ digit_ v8 (0 : Int32) x2 u10 hc11) gX12_builds_X12_steppedCode rfl (by decide +kernel) ⟨Nat.le_of_ble_eq_true rfl, Nat.le_of_ble_eq_true rfl⟩ ⟨rfl, rfl⟩ ⟨Nat.le_of_ble_eq_true rfl, Nat.le_of_ble_eq_true rfl⟩ (x_rv X Z 0 rfl rfl) ⟨rfl, rfl, (roC (Or.inl (mem_at 0 rfl)) (roC (Or.inr (mem_at 0 rfl)) (roC (Or.inr (mem_at 1 rfl)) (roC (Or.inr (mem_at 2 rfl)) (roC (Or.inr (mem_at 3 rfl)) roN))))), rfl, rfl, by decide⟩ ⟨rfl, rfl⟩ rfl hl.1 rfl (Nat.le_of_ble_eq_true rfl) dX12_builds_52 (fun H locs Z => ?_)
    refine lv_lstore_n (lv' := [(3, .long u10.1), (0, .ref o), (1, .int x1), (2, .int x2)]) hx hb dX12_builds_55 rfl hl (by decide) rfl (fun ls hl => ?_)
    refine lv_aload_n hx hb dX12_builds_56 rfl (lv_at hl 1 rfl) ?_
    refine lv_aload_n hx hb dX12_builds_57 rfl (lv_at hl 1 rfl) ?_
    refine x_get X Z 0 42 (v := .ref (d 42)) rfl rfl lk_X12_builds_X12_codeB dX12_builds_58 ?_
    refine lv_iload_n hx hb dX12_builds_61 rfl (lv_at hl 2 rfl) ?_
    obtain ⟨hin12, v13, hv14, h⟩ := ld_b h
    refine x_lald X Z 3 rfl hin12 hv14 dX12_builds_62 ?_
    refine lv_iconst (v := (4 : Int32)) hx hb dX12_builds_63 (by decide) ?_
    refine lv_iload_n hx hb dX12_builds_64 rfl (lv_at hl 3 rfl) ?_
    obtain ⟨u15, hc16, h⟩ := ob_some h
    refine x_runVl (RW' := (RW_X12_builds cy o d letters_ tests_ inputLength_ at_ signed_ newParts_ machineParts_ firstParts_ firstTruth_ secondTruth_ isPair_ states_ stateClasses_ elements_ cursor_ hasSnapshot_ isSaving_ u15.2 codeA_ codeB_ keyA_ keyB_ found_ next_ before_ by_)) (wr := [(o, ob 11 (oX12 d letters_ tests_ inputLength_ at_ signed_ newParts_ machineParts_ firstParts_ firstTruth_ secondTruth_ isPair_ states_ stateClasses_ elements_ cursor_ hasSnapshot_ isSaving_)), ((d 41), aJ cy 2000 codeA_), ((d 42), aJ cy 2000 codeB_), ((d 43), aJ cy 8192 keyA_), ((d 44), aJ cy 8192 keyB_), ((d 45), aI cy 8192 found_), ((d 46), aI cy 6000 next_), ((d 47), aI cy 2000 before_), ((d 48), aI cy 2000 by_)]) (isC := [1]) (isR := [0, 2, 3, 4, 5, 6, 7, 8, 9]) (isF := [0, 9, 1, 2, 3, 4, 5, 6, 7, 8]) (rest := []) (As := [.long v13, .int (4 : Int32), .int x2]) (n := 3) X Z (c_X12_steppedCode l D cy o d letters_ tests_ inputLength_ at_ signed_ newParts_ machineParts_ firstParts_ firstTruth_ secondTruth_ isPair_ states_ stateClasses_ elements_ cursor_ hasSnapshot_ isSaving_ machineKind_ machineBound_ machineLength_ machinePattern_ u10.2 v13 (4 : Int32) x2 u15 hc16) gX12_builds_X12_steppedCode rfl (by decide +kernel) ⟨Nat.le_of_ble_eq_true rfl, Nat.le_of_ble_eq_true rfl⟩ ⟨rfl, rfl⟩ ⟨Nat.le_of_ble_eq_true rfl, Nat.le_of_ble_eq_true rfl⟩ (x_rv X Z 0 rfl rfl) ⟨rfl, rfl, (roC (Or.inl (mem_at 0 rfl)) (roC (Or.inr (mem_at 0 rfl)) (roC (Or.inr (mem_at 1 rfl)) (roC (Or.inr (mem_at 2 rfl)) (roC (Or.inr (mem_at 3 rfl)) roN))))), rfl, rfl, by decide⟩ ⟨rfl, rfl⟩ rfl hl.1 rfl (Nat.le_of_ble_eq_true rfl) dX12_builds_65 (fun H locs Z => ?_)
    refine lv_lstore (lv' := [(5, .long u15.1), (3, .long u10.1), (0, .ref o), (1, .int x1), (2, .int x2)]) hx hb dX12_builds_68 hl (by decide) rfl (fun ls hl => ?_)
    refine lv_aload_n hx hb dX12_builds_70 rfl (lv_at hl 2 rfl) ?_
    refine lv_lload_n hx hb dX12_builds_71 rfl (lv_at hl 1 rfl) ?_
    refine lv_lload hx hb dX12_builds_72 (lv_at hl 0 rfl) ?_
    obtain ⟨u17, hc18, h⟩ := ob_some h
    refine x_runVi (RW' := (RW_X12_builds cy o d letters_ tests_ inputLength_ at_ signed_ newParts_ machineParts_ firstParts_ firstTruth_ secondTruth_ isPair_ states_ stateClasses_ elements_ cursor_ hasSnapshot_ isSaving_ u15.2 codeA_ codeB_ keyA_ keyB_ found_ next_ before_ by_)) (wr := [(o, ob 11 (oX12 d letters_ tests_ inputLength_ at_ signed_ newParts_ machineParts_ firstParts_ firstTruth_ secondTruth_ isPair_ states_ stateClasses_ elements_ cursor_ hasSnapshot_ isSaving_)), ((d 35), aI cy 4 u15.2), ((d 41), aJ cy 2000 codeA_), ((d 42), aJ cy 2000 codeB_), ((d 43), aJ cy 8192 keyA_), ((d 44), aJ cy 8192 keyB_), ((d 45), aI cy 8192 found_), ((d 46), aI cy 6000 next_), ((d 47), aI cy 2000 before_), ((d 48), aI cy 2000 by_)]) (isC := []) (isR := [0, 1, 2, 3, 4, 5, 6, 7, 8, 9]) (isF := [0, 1, 2, 3, 4, 5, 6, 7, 8, 9]) (rest := []) (As := [.long u10.1, .long u15.1]) (n := 2) X Z (c_X12_slotOf l D cy o d letters_ tests_ inputLength_ at_ signed_ newParts_ machineParts_ firstParts_ firstTruth_ secondTruth_ isPair_ states_ stateClasses_ elements_ cursor_ hasSnapshot_ isSaving_ keyA_ keyB_ found_ u10.1 u15.1 u17 hc18) gX12_builds_X12_slotOf rfl (by decide +kernel) ⟨Nat.le_of_ble_eq_true rfl, Nat.le_of_ble_eq_true rfl⟩ ⟨rfl, rfl⟩ ⟨Nat.le_of_ble_eq_true rfl, Nat.le_of_ble_eq_true rfl⟩ (x_rv X Z 0 rfl rfl) ⟨rfl, rfl, (roC (Or.inl (mem_at 0 rfl)) (roC (Or.inl (mem_at 4 rfl)) (roC (Or.inl (mem_at 5 rfl)) (roC (Or.inl (mem_at 6 rfl)) roN)))), rfl, rfl, by decide⟩ ⟨rfl, rfl⟩ rfl hl.1 rfl (Nat.le_of_ble_eq_true rfl) dX12_builds_74 (fun H locs Z => ?_)
    refine lv_istore (lv' := [(7, .int u17), (5, .long u15.1), (3, .long u10.1), (0, .ref o), (1, .int x1), (2, .int x2)]) hx hb dX12_builds_77 hl (by decide) rfl (fun ls hl => ?_)
    refine lv_aload_n hx hb dX12_builds_79 rfl (lv_at hl 3 rfl) ?_
    refine x_get X Z 0 45 (v := .ref (d 45)) rfl rfl lk_X12_builds_X12_found dX12_builds_80 ?_
    refine lv_iload hx hb dX12_builds_83 (lv_at hl 0 rfl) ?_
    obtain ⟨hin19, v20, hv21, h⟩ := ld_b h
    refine x_iald X Z 6 rfl hin19 hv21 dX12_builds_85 ?_
    refine lv_if_ge (tgt := 112) hx hb dX12_builds_86 (by decide) (fun cnd => ?_) (fun cnd => ?_)
    · replace h := ifp h cnd
      exact jw_X12_builds_112 o d machineKind_ machineBound_ machineLength_ machinePattern_ letters_ tests_ inputLength_ at_ signed_ newParts_ machineParts_ firstParts_ firstTruth_ secondTruth_ isPair_ states_ stateClasses_ elements_ cursor_ hasSnapshot_ isSaving_ u15.2 codeA_ codeB_ keyA_ keyB_ found_ next_ before_ by_ x1 x2 u17 _ X h K H locs ls Z (lv_sub hl [3, 4, 5, 0] rfl)
    · replace h := ifn h cnd
      refine lv_aload_n hx hb dX12_builds_89 rfl (lv_at hl 3 rfl) ?_
      refine x_get X Z 0 49 (v := .int states_) rfl rfl lk_X12_builds_X12_states dX12_builds_90 ?_
      refine lv_sipush (v := (2000 : Int32)) hx hb dX12_builds_93 (by decide) ?_
      refine lv_icmp_ne (tgt := 101) hx hb dX12_builds_96 (by decide) (fun cnd => ?_) (fun cnd => ?_)
      · replace h := ifn h cnd
        refine lv_aload_n hx hb dX12_builds_101 rfl (lv_at hl 3 rfl) ?_
        refine lv_iload hx hb dX12_builds_102 (lv_at hl 0 rfl) ?_
        refine lv_lload_n hx hb dX12_builds_104 rfl (lv_at hl 2 rfl) ?_
        refine lv_lload hx hb dX12_builds_105 (lv_at hl 1 rfl) ?_
        refine lv_iload_n hx hb dX12_builds_107 rfl (lv_at hl 4 rfl) ?_
        refine lv_iload_n hx hb dX12_builds_108 rfl (lv_at hl 5 rfl) ?_
        obtain ⟨u22, hc23, h⟩ := ob_some h
        refine x_runVv (RW' := (RW_X12_builds cy o d letters_ tests_ inputLength_ at_ signed_ newParts_ machineParts_ firstParts_ firstTruth_ secondTruth_ isPair_ u22.1 stateClasses_ elements_ cursor_ hasSnapshot_ isSaving_ u15.2 u22.2.1 u22.2.2.1 u22.2.2.2.1 u22.2.2.2.2.1 u22.2.2.2.2.2.1 next_ u22.2.2.2.2.2.2.1 u22.2.2.2.2.2.2.2)) (wr := [((d 35), aI cy 4 u15.2), ((d 46), aI cy 6000 next_)]) (isC := [0, 2, 3, 4, 5, 6, 8, 9]) (isR := [1, 7]) (isF := [2, 0, 3, 4, 5, 6, 7, 1, 8, 9]) (rest := []) (As := [.int u17, .long u10.1, .long u15.1, .int x1, .int x2]) (n := 5) X Z (c_X12_addState l D cy o d letters_ tests_ inputLength_ at_ signed_ newParts_ machineParts_ firstParts_ firstTruth_ secondTruth_ isPair_ states_ stateClasses_ elements_ cursor_ hasSnapshot_ isSaving_ codeA_ codeB_ keyA_ keyB_ found_ before_ by_ u17 u10.1 u15.1 x1 x2 u22 hc23) gX12_builds_X12_addState rfl (by decide +kernel) ⟨Nat.le_of_ble_eq_true rfl, Nat.le_of_ble_eq_true rfl⟩ ⟨rfl, rfl⟩ ⟨Nat.le_of_ble_eq_true rfl, Nat.le_of_ble_eq_true rfl⟩ (x_rv X Z 0 rfl rfl) ⟨rfl, rfl, roN, rfl, rfl, by decide⟩ ⟨rfl, rfl⟩ rfl hl.1 rfl (Nat.le_of_ble_eq_true rfl) dX12_builds_109 (fun H locs Z => ?_)
        exact jw_X12_builds_112 o d machineKind_ machineBound_ machineLength_ machinePattern_ letters_ tests_ inputLength_ at_ signed_ newParts_ machineParts_ firstParts_ firstTruth_ secondTruth_ isPair_ u22.1 stateClasses_ elements_ cursor_ hasSnapshot_ isSaving_ u15.2 u22.2.1 u22.2.2.1 u22.2.2.2.1 u22.2.2.2.2.1 u22.2.2.2.2.2.1 next_ u22.2.2.2.2.2.2.1 u22.2.2.2.2.2.2.2 x1 x2 u17 _ X h K H locs ls Z (lv_sub hl [3, 4, 5, 0] rfl)
      · replace h := ifp h cnd
        obtain rfl := Option.some.inj h
        exact (sk_l (sk_r K)) H locs ls Z (lv_sub hl [] rfl)
set_option maxHeartbeats 4000000 in
set_option maxRecDepth 100000 in
theorem wl_X12_builds_35 {p : Program} {l : Launch} {e : Env} {s : State} {m : MethodId} {args : Array Value} {below : List Frame} {meth : Method} {c : Code} {A : Nat → Prop} {Q : State → Prop} {D : va_G} {cy : Nat → ClassId} (o : Nat) (d : Nat → Nat) (machineKind_ : Nat → Int32) (machineBound_ : Nat → Int32) (machineLength_ : Nat → Int32) (machinePattern_ : Nat → Int32) (letters_ : Int32) (tests_ : Int32) (inputLength_ : Int32) (at_ : Int32) (signed_ : Int32) (newParts_ : Int32) (machineParts_ : Int32) (firstParts_ : Int32) (firstTruth_ : Int32) (secondTruth_ : Int32) (isPair_ : Int32) (stateClasses_ : Int32) (elements_ : Int32) (cursor_ : Int32) (hasSnapshot_ : Int32) (isSaving_ : Int32) (x1 : Int32) (n : Nat) (v : Int32 × (Nat → Int32) × (Nat → Int64) × (Nat → Int64) × (Nat → Int64) × (Nat → Int64) × (Nat → Int32) × (Nat → Int32) × (Nat → Int32) × (Nat → Int32) × Int32) (x : (Int32 × (Nat → Int32) × (Nat → Int64) × (Nat → Int64) × (Nat → Int64) × (Nat → Int64) × (Nat → Int32) × (Nat → Int32) × (Nat → Int32) × (Nat → Int32)) ⊕ (Int32 × (Nat → Int32) × (Nat → Int64) × (Nat → Int64) × (Nat → Int64) × (Nat → Int64) × (Nat → Int32) × (Nat → Int32) × (Nat → Int32) × (Nat → Int32))) (X : Cx p m c cX12_builds 8 s args wsX12_builds RX12 A D cy (RO_X12_builds cy o d machineKind_ machineBound_ machineLength_ machinePattern_)) (h : loopN (fun v => b_X12_builds_35 machineKind_ machineBound_ machineLength_ machinePattern_ letters_ machineParts_ x1 v.1 v.2.1 v.2.2.1 v.2.2.2.1 v.2.2.2.2.1 v.2.2.2.2.2.1 v.2.2.2.2.2.2.1 v.2.2.2.2.2.2.2.1 v.2.2.2.2.2.2.2.2.1 v.2.2.2.2.2.2.2.2.2.1 v.2.2.2.2.2.2.2.2.2.2) n v = some x) (K : Sum.elim (fun w : Int32 × (Nat → Int32) × (Nat → Int64) × (Nat → Int64) × (Nat → Int64) × (Nat → Int64) × (Nat → Int32) × (Nat → Int32) × (Nat → Int32) × (Nat → Int32) => ∀ (H : Heap) (locs : List Loc) (ls : Array Slot), St A D s (RW_X12_builds cy o d letters_ tests_ inputLength_ at_ signed_ newParts_ machineParts_ firstParts_ firstTruth_ secondTruth_ isPair_ w.1 stateClasses_ elements_ cursor_ hasSnapshot_ isSaving_ w.2.1 w.2.2.1 w.2.2.2.1 w.2.2.2.2.1 w.2.2.2.2.2.1 w.2.2.2.2.2.2.1 w.2.2.2.2.2.2.2.1 w.2.2.2.2.2.2.2.2.1 w.2.2.2.2.2.2.2.2.2) H locs → lv_has ls 8 [] → W p l e rm_X12_builds s m args below meth c H locs 0 0 Q (F0 m 99 ls [])) (fun w => ∀ (H : Heap) (locs : List Loc) (ls : Array Slot), St A D s (RW_X12_builds cy o d letters_ tests_ inputLength_ at_ signed_ newParts_ machineParts_ firstParts_ firstTruth_ secondTruth_ isPair_ w.1 stateClasses_ elements_ cursor_ hasSnapshot_ isSaving_ w.2.1 w.2.2.1 w.2.2.2.1 w.2.2.2.2.1 w.2.2.2.2.2.1 w.2.2.2.2.2.2.1 w.2.2.2.2.2.2.2.1 w.2.2.2.2.2.2.2.2.1 w.2.2.2.2.2.2.2.2.2) H locs → lv_has ls 8 [(0, .ref o), (1, .int x1)] → W p l e rm_X12_builds s m args below meth c H locs 0 0 Q (F0 m 135 ls [])) x) : ∀ (H : Heap) (locs : List Loc) (ls : Array Slot), St A D s (RW_X12_builds cy o d letters_ tests_ inputLength_ at_ signed_ newParts_ machineParts_ firstParts_ firstTruth_ secondTruth_ isPair_ v.1 stateClasses_ elements_ cursor_ hasSnapshot_ isSaving_ v.2.1 v.2.2.1 v.2.2.2.1 v.2.2.2.2.1 v.2.2.2.2.2.1 v.2.2.2.2.2.2.1 v.2.2.2.2.2.2.2.1 v.2.2.2.2.2.2.2.2.1 v.2.2.2.2.2.2.2.2.2.1) H locs → lv_has ls 8 [(0, .ref o), (1, .int x1), (2, .int v.2.2.2.2.2.2.2.2.2.2)] → W p l e rm_X12_builds s m args below meth c H locs 0 0 Q (F0 m 35 ls []) :=
  loop_gen (B := (fun v => b_X12_builds_35 machineKind_ machineBound_ machineLength_ machinePattern_ letters_ machineParts_ x1 v.1 v.2.1 v.2.2.1 v.2.2.2.1 v.2.2.2.2.1 v.2.2.2.2.2.1 v.2.2.2.2.2.2.1 v.2.2.2.2.2.2.2.1 v.2.2.2.2.2.2.2.2.1 v.2.2.2.2.2.2.2.2.2.1 v.2.2.2.2.2.2.2.2.2.2)) (Head := fun v : Int32 × (Nat → Int32) × (Nat → Int64) × (Nat → Int64) × (Nat → Int64) × (Nat → Int64) × (Nat → Int32) × (Nat → Int32) × (Nat → Int32) × (Nat → Int32) × Int32 => ∀ (H : Heap) (locs : List Loc) (ls : Array Slot), St A D s (RW_X12_builds cy o d letters_ tests_ inputLength_ at_ signed_ newParts_ machineParts_ firstParts_ firstTruth_ secondTruth_ isPair_ v.1 stateClasses_ elements_ cursor_ hasSnapshot_ isSaving_ v.2.1 v.2.2.1 v.2.2.2.1 v.2.2.2.2.1 v.2.2.2.2.2.1 v.2.2.2.2.2.2.1 v.2.2.2.2.2.2.2.1 v.2.2.2.2.2.2.2.2.1 v.2.2.2.2.2.2.2.2.2.1) H locs → lv_has ls 8 [(0, .ref o), (1, .int x1), (2, .int v.2.2.2.2.2.2.2.2.2.2)] → W p l e rm_X12_builds s m args below meth c H locs 0 0 Q (F0 m 35 ls [])) (Exit := fun v : (Int32 × (Nat → Int32) × (Nat → Int64) × (Nat → Int64) × (Nat → Int64) × (Nat → Int64) × (Nat → Int32) × (Nat → Int32) × (Nat → Int32) × (Nat → Int32)) ⊕ (Int32 × (Nat → Int32) × (Nat → Int64) × (Nat → Int64) × (Nat → Int64) × (Nat → Int64) × (Nat → Int32) × (Nat → Int32) × (Nat → Int32) × (Nat → Int32)) => Sum.elim (fun w : Int32 × (Nat → Int32) × (Nat → Int64) × (Nat → Int64) × (Nat → Int64) × (Nat → Int64) × (Nat → Int32) × (Nat → Int32) × (Nat → Int32) × (Nat → Int32) => ∀ (H : Heap) (locs : List Loc) (ls : Array Slot), St A D s (RW_X12_builds cy o d letters_ tests_ inputLength_ at_ signed_ newParts_ machineParts_ firstParts_ firstTruth_ secondTruth_ isPair_ w.1 stateClasses_ elements_ cursor_ hasSnapshot_ isSaving_ w.2.1 w.2.2.1 w.2.2.2.1 w.2.2.2.2.1 w.2.2.2.2.2.1 w.2.2.2.2.2.2.1 w.2.2.2.2.2.2.2.1 w.2.2.2.2.2.2.2.2.1 w.2.2.2.2.2.2.2.2.2) H locs → lv_has ls 8 [] → W p l e rm_X12_builds s m args below meth c H locs 0 0 Q (F0 m 99 ls [])) (fun w => ∀ (H : Heap) (locs : List Loc) (ls : Array Slot), St A D s (RW_X12_builds cy o d letters_ tests_ inputLength_ at_ signed_ newParts_ machineParts_ firstParts_ firstTruth_ secondTruth_ isPair_ w.1 stateClasses_ elements_ cursor_ hasSnapshot_ isSaving_ w.2.1 w.2.2.1 w.2.2.2.1 w.2.2.2.2.1 w.2.2.2.2.2.1 w.2.2.2.2.2.2.1 w.2.2.2.2.2.2.2.1 w.2.2.2.2.2.2.2.2.1 w.2.2.2.2.2.2.2.2.2) H locs → lv_has ls 8 [(0, .ref o), (1, .int x1)] → W p l e rm_X12_builds s m args below meth c H locs 0 0 Q (F0 m 135 ls [])) v) (fun v o9 hb1 K1 => wb_X12_builds_35 o d machineKind_ machineBound_ machineLength_ machinePattern_ letters_ tests_ inputLength_ at_ signed_ newParts_ machineParts_ firstParts_ firstTruth_ secondTruth_ isPair_ stateClasses_ elements_ cursor_ hasSnapshot_ isSaving_ x1 v.1 v.2.1 v.2.2.1 v.2.2.2.1 v.2.2.2.2.1 v.2.2.2.2.2.1 v.2.2.2.2.2.2.1 v.2.2.2.2.2.2.2.1 v.2.2.2.2.2.2.2.2.1 v.2.2.2.2.2.2.2.2.2.1 v.2.2.2.2.2.2.2.2.2.2 o9 X hb1 K1) n v x h K
def b_X12_builds_25 (machineKind_ : Nat → Int32) (machineBound_ : Nat → Int32) (machineLength_ : Nat → Int32) (machinePattern_ : Nat → Int32) (letters_ : Int32) (machineParts_ : Int32) (states_ : Int32) (digit_ : Nat → Int32) (codeA_ : Nat → Int64) (codeB_ : Nat → Int64) (keyA_ : Nat → Int64) (keyB_ : Nat → Int64) (found_ : Nat → Int32) (next_ : Nat → Int32) (before_ : Nat → Int32) (by_ : Nat → Int32) (x1 : Int32) : Option ((Int32 × (Nat → Int32) × (Nat → Int64) × (Nat → Int64) × (Nat → Int64) × (Nat → Int64) × (Nat → Int32) × (Nat → Int32) × (Nat → Int32) × (Nat → Int32) × Int32) ⊕ ((Int32 × (Nat → Int32) × (Nat → Int64) × (Nat → Int64) × (Nat → Int64) × (Nat → Int64) × (Nat → Int32) × (Nat → Int32) × (Nat → Int32) × (Nat → Int32)) ⊕ (Int32 × (Nat → Int32) × (Nat → Int64) × (Nat → Int64) × (Nat → Int64) × (Nat → Int64) × (Nat → Int32) × (Nat → Int32) × (Nat → Int32) × (Nat → Int32)))) :=
  if states_ ≤ x1 then
  (some (.inr (.inr (states_, digit_, codeA_, codeB_, keyA_, keyB_, found_, next_, before_, by_))))
  else
  ((loopN (fun v => b_X12_builds_35 machineKind_ machineBound_ machineLength_ machinePattern_ letters_ machineParts_ x1 v.1 v.2.1 v.2.2.1 v.2.2.2.1 v.2.2.2.2.1 v.2.2.2.2.2.1 v.2.2.2.2.2.2.1 v.2.2.2.2.2.2.2.1 v.2.2.2.2.2.2.2.2.1 v.2.2.2.2.2.2.2.2.2.1 v.2.2.2.2.2.2.2.2.2.2) FU (states_, digit_, codeA_, codeB_, keyA_, keyB_, found_, next_, before_, by_, (0 : Int32))).bind (fun u24 =>
  Sum.elim (fun u24 =>
  some (.inr (.inl (u24.1, u24.2.1, u24.2.2.1, u24.2.2.2.1, u24.2.2.2.2.1, u24.2.2.2.2.2.1, u24.2.2.2.2.2.2.1, u24.2.2.2.2.2.2.2.1, u24.2.2.2.2.2.2.2.2.1, u24.2.2.2.2.2.2.2.2.2)))) (fun u24 =>
  some (.inl (u24.1, u24.2.1, u24.2.2.1, u24.2.2.2.1, u24.2.2.2.2.1, u24.2.2.2.2.2.1, u24.2.2.2.2.2.2.1, u24.2.2.2.2.2.2.2.1, u24.2.2.2.2.2.2.2.2.1, u24.2.2.2.2.2.2.2.2.2, (x1 + (1 : Int32))))) u24))
set_option maxHeartbeats 4000000 in
set_option maxRecDepth 100000 in
theorem wb_X12_builds_25 {p : Program} {l : Launch} {e : Env} {s : State} {m : MethodId} {args : Array Value} {below : List Frame} {meth : Method} {c : Code} {A : Nat → Prop} {Q : State → Prop} {D : va_G} {cy : Nat → ClassId} (o : Nat) (d : Nat → Nat) (machineKind_ : Nat → Int32) (machineBound_ : Nat → Int32) (machineLength_ : Nat → Int32) (machinePattern_ : Nat → Int32) (letters_ : Int32) (tests_ : Int32) (inputLength_ : Int32) (at_ : Int32) (signed_ : Int32) (newParts_ : Int32) (machineParts_ : Int32) (firstParts_ : Int32) (firstTruth_ : Int32) (secondTruth_ : Int32) (isPair_ : Int32) (stateClasses_ : Int32) (elements_ : Int32) (cursor_ : Int32) (hasSnapshot_ : Int32) (isSaving_ : Int32) (states_ : Int32) (digit_ : Nat → Int32) (codeA_ : Nat → Int64) (codeB_ : Nat → Int64) (keyA_ : Nat → Int64) (keyB_ : Nat → Int64) (found_ : Nat → Int32) (next_ : Nat → Int32) (before_ : Nat → Int32) (by_ : Nat → Int32) (x1 : Int32) (o1 : (Int32 × (Nat → Int32) × (Nat → Int64) × (Nat → Int64) × (Nat → Int64) × (Nat → Int64) × (Nat → Int32) × (Nat → Int32) × (Nat → Int32) × (Nat → Int32) × Int32) ⊕ ((Int32 × (Nat → Int32) × (Nat → Int64) × (Nat → Int64) × (Nat → Int64) × (Nat → Int64) × (Nat → Int32) × (Nat → Int32) × (Nat → Int32) × (Nat → Int32)) ⊕ (Int32 × (Nat → Int32) × (Nat → Int64) × (Nat → Int64) × (Nat → Int64) × (Nat → Int64) × (Nat → Int32) × (Nat → Int32) × (Nat → Int32) × (Nat → Int32)))) (X : Cx p m c cX12_builds 8 s args wsX12_builds RX12 A D cy (RO_X12_builds cy o d machineKind_ machineBound_ machineLength_ machinePattern_)) (h : b_X12_builds_25 machineKind_ machineBound_ machineLength_ machinePattern_ letters_ machineParts_ states_ digit_ codeA_ codeB_ keyA_ keyB_ found_ next_ before_ by_ x1 = some o1) (K : Sum.elim (fun v : Int32 × (Nat → Int32) × (Nat → Int64) × (Nat → Int64) × (Nat → Int64) × (Nat → Int64) × (Nat → Int32) × (Nat → Int32) × (Nat → Int32) × (Nat → Int32) × Int32 => ∀ (H : Heap) (locs : List Loc) (ls : Array Slot), St A D s (RW_X12_builds cy o d letters_ tests_ inputLength_ at_ signed_ newParts_ machineParts_ firstParts_ firstTruth_ secondTruth_ isPair_ v.1 stateClasses_ elements_ cursor_ hasSnapshot_ isSaving_ v.2.1 v.2.2.1 v.2.2.2.1 v.2.2.2.2.1 v.2.2.2.2.2.1 v.2.2.2.2.2.2.1 v.2.2.2.2.2.2.2.1 v.2.2.2.2.2.2.2.2.1 v.2.2.2.2.2.2.2.2.2.1) H locs → lv_has ls 8 [(0, .ref o), (1, .int v.2.2.2.2.2.2.2.2.2.2)] → W p l e rm_X12_builds s m args below meth c H locs 0 0 Q (F0 m 25 ls [])) (fun v : (Int32 × (Nat → Int32) × (Nat → Int64) × (Nat → Int64) × (Nat → Int64) × (Nat → Int64) × (Nat → Int32) × (Nat → Int32) × (Nat → Int32) × (Nat → Int32)) ⊕ (Int32 × (Nat → Int32) × (Nat → Int64) × (Nat → Int64) × (Nat → Int64) × (Nat → Int64) × (Nat → Int32) × (Nat → Int32) × (Nat → Int32) × (Nat → Int32)) => Sum.elim (fun w : Int32 × (Nat → Int32) × (Nat → Int64) × (Nat → Int64) × (Nat → Int64) × (Nat → Int64) × (Nat → Int32) × (Nat → Int32) × (Nat → Int32) × (Nat → Int32) => ∀ (H : Heap) (locs : List Loc) (ls : Array Slot), St A D s (RW_X12_builds cy o d letters_ tests_ inputLength_ at_ signed_ newParts_ machineParts_ firstParts_ firstTruth_ secondTruth_ isPair_ w.1 stateClasses_ elements_ cursor_ hasSnapshot_ isSaving_ w.2.1 w.2.2.1 w.2.2.2.1 w.2.2.2.2.1 w.2.2.2.2.2.1 w.2.2.2.2.2.2.1 w.2.2.2.2.2.2.2.1 w.2.2.2.2.2.2.2.2.1 w.2.2.2.2.2.2.2.2.2) H locs → lv_has ls 8 [] → W p l e rm_X12_builds s m args below meth c H locs 0 0 Q (F0 m 99 ls [])) (fun w => ∀ (H : Heap) (locs : List Loc) (ls : Array Slot), St A D s (RW_X12_builds cy o d letters_ tests_ inputLength_ at_ signed_ newParts_ machineParts_ firstParts_ firstTruth_ secondTruth_ isPair_ w.1 stateClasses_ elements_ cursor_ hasSnapshot_ isSaving_ w.2.1 w.2.2.1 w.2.2.2.1 w.2.2.2.2.1 w.2.2.2.2.2.1 w.2.2.2.2.2.2.1 w.2.2.2.2.2.2.2.1 w.2.2.2.2.2.2.2.2.1 w.2.2.2.2.2.2.2.2.2) H locs → lv_has ls 8 [] → W p l e rm_X12_builds s m args below meth c H locs 0 0 Q (F0 m 141 ls [])) v) o1) : ∀ (H : Heap) (locs : List Loc) (ls : Array Slot), St A D s (RW_X12_builds cy o d letters_ tests_ inputLength_ at_ signed_ newParts_ machineParts_ firstParts_ firstTruth_ secondTruth_ isPair_ states_ stateClasses_ elements_ cursor_ hasSnapshot_ isSaving_ digit_ codeA_ codeB_ keyA_ keyB_ found_ next_ before_ by_) H locs → lv_has ls 8 [(0, .ref o), (1, .int x1)] → W p l e rm_X12_builds s m args below meth c H locs 0 0 Q (F0 m 25 ls []) := by
  intro H locs ls Z hl
  have hx := X.1.1
  have hb := X.1.2.1
  unfold b_X12_builds_25 at h
  refine lv_iload_n hx hb dX12_builds_25 rfl (lv_at hl 1 rfl) ?_
  refine lv_aload_n hx hb dX12_builds_26 rfl (lv_at hl 0 rfl) ?_
  refine x_get X Z 0 49 (v := .int states_) rfl rfl lk_X12_builds_X12_states dX12_builds_27 ?_
  refine lv_icmp_ge (tgt := 141) hx hb dX12_builds_30 (by decide) (fun cnd => ?_) (fun cnd => ?_)
  · replace h := ifp h cnd
    obtain rfl := Option.some.inj h
    exact (sk_r (sk_r K)) H locs ls Z (lv_sub hl [] rfl)
  · replace h := ifn h cnd
    refine lv_iconst (v := (0 : Int32)) hx hb dX12_builds_33 (by decide) ?_
    refine lv_istore_n (lv' := [(2, .int (0 : Int32)), (0, .ref o), (1, .int x1)]) hx hb dX12_builds_34 rfl hl (by decide) rfl (fun ls hl => ?_)
    obtain ⟨u24, hL25, h⟩ := ob_some h
    rcases u24 with u24 | u24
    · replace h := se_l h
      refine wl_X12_builds_35 o d machineKind_ machineBound_ machineLength_ machinePattern_ letters_ tests_ inputLength_ at_ signed_ newParts_ machineParts_ firstParts_ firstTruth_ secondTruth_ isPair_ stateClasses_ elements_ cursor_ hasSnapshot_ isSaving_ x1 FU (states_, digit_, codeA_, codeB_, keyA_, keyB_, found_, next_, before_, by_, (0 : Int32)) (.inl u24) X hL25 (sk_li (fun H locs ls Z hl => ?_)) H locs ls Z (lv_sub hl [1, 2, 0] rfl)
      obtain rfl := Option.some.inj h
      exact (sk_l (sk_r K)) H locs ls Z (lv_sub hl [] rfl)
    · replace h := se_r h
      refine wl_X12_builds_35 o d machineKind_ machineBound_ machineLength_ machinePattern_ letters_ tests_ inputLength_ at_ signed_ newParts_ machineParts_ firstParts_ firstTruth_ secondTruth_ isPair_ stateClasses_ elements_ cursor_ hasSnapshot_ isSaving_ x1 FU (states_, digit_, codeA_, codeB_, keyA_, keyB_, found_, next_, before_, by_, (0 : Int32)) (.inr u24) X hL25 (sk_ri (fun H locs ls Z hl => ?_)) H locs ls Z (lv_sub hl [1, 2, 0] rfl)
      refine lv_iinc (v := (x1 + (1 : Int32))) (lv' := [(1, .int (x1 + (1 : Int32))), (0, .ref o)]) hx hb dX12_builds_135 hl (k := 1) rfl rfl (by decide) rfl (fun ls hl => ?_)
      refine lv_goto (tgt := 25) hx hb dX12_builds_138 (by decide) ?_
      obtain rfl := Option.some.inj h
      exact sk_l K H locs ls Z (lv_sub hl [1, 0] rfl)
set_option maxHeartbeats 4000000 in
set_option maxRecDepth 100000 in
theorem wl_X12_builds_25 {p : Program} {l : Launch} {e : Env} {s : State} {m : MethodId} {args : Array Value} {below : List Frame} {meth : Method} {c : Code} {A : Nat → Prop} {Q : State → Prop} {D : va_G} {cy : Nat → ClassId} (o : Nat) (d : Nat → Nat) (machineKind_ : Nat → Int32) (machineBound_ : Nat → Int32) (machineLength_ : Nat → Int32) (machinePattern_ : Nat → Int32) (letters_ : Int32) (tests_ : Int32) (inputLength_ : Int32) (at_ : Int32) (signed_ : Int32) (newParts_ : Int32) (machineParts_ : Int32) (firstParts_ : Int32) (firstTruth_ : Int32) (secondTruth_ : Int32) (isPair_ : Int32) (stateClasses_ : Int32) (elements_ : Int32) (cursor_ : Int32) (hasSnapshot_ : Int32) (isSaving_ : Int32) (n : Nat) (v : Int32 × (Nat → Int32) × (Nat → Int64) × (Nat → Int64) × (Nat → Int64) × (Nat → Int64) × (Nat → Int32) × (Nat → Int32) × (Nat → Int32) × (Nat → Int32) × Int32) (x : (Int32 × (Nat → Int32) × (Nat → Int64) × (Nat → Int64) × (Nat → Int64) × (Nat → Int64) × (Nat → Int32) × (Nat → Int32) × (Nat → Int32) × (Nat → Int32)) ⊕ (Int32 × (Nat → Int32) × (Nat → Int64) × (Nat → Int64) × (Nat → Int64) × (Nat → Int64) × (Nat → Int32) × (Nat → Int32) × (Nat → Int32) × (Nat → Int32))) (X : Cx p m c cX12_builds 8 s args wsX12_builds RX12 A D cy (RO_X12_builds cy o d machineKind_ machineBound_ machineLength_ machinePattern_)) (h : loopN (fun v => b_X12_builds_25 machineKind_ machineBound_ machineLength_ machinePattern_ letters_ machineParts_ v.1 v.2.1 v.2.2.1 v.2.2.2.1 v.2.2.2.2.1 v.2.2.2.2.2.1 v.2.2.2.2.2.2.1 v.2.2.2.2.2.2.2.1 v.2.2.2.2.2.2.2.2.1 v.2.2.2.2.2.2.2.2.2.1 v.2.2.2.2.2.2.2.2.2.2) n v = some x) (K : Sum.elim (fun w : Int32 × (Nat → Int32) × (Nat → Int64) × (Nat → Int64) × (Nat → Int64) × (Nat → Int64) × (Nat → Int32) × (Nat → Int32) × (Nat → Int32) × (Nat → Int32) => ∀ (H : Heap) (locs : List Loc) (ls : Array Slot), St A D s (RW_X12_builds cy o d letters_ tests_ inputLength_ at_ signed_ newParts_ machineParts_ firstParts_ firstTruth_ secondTruth_ isPair_ w.1 stateClasses_ elements_ cursor_ hasSnapshot_ isSaving_ w.2.1 w.2.2.1 w.2.2.2.1 w.2.2.2.2.1 w.2.2.2.2.2.1 w.2.2.2.2.2.2.1 w.2.2.2.2.2.2.2.1 w.2.2.2.2.2.2.2.2.1 w.2.2.2.2.2.2.2.2.2) H locs → lv_has ls 8 [] → W p l e rm_X12_builds s m args below meth c H locs 0 0 Q (F0 m 99 ls [])) (fun w => ∀ (H : Heap) (locs : List Loc) (ls : Array Slot), St A D s (RW_X12_builds cy o d letters_ tests_ inputLength_ at_ signed_ newParts_ machineParts_ firstParts_ firstTruth_ secondTruth_ isPair_ w.1 stateClasses_ elements_ cursor_ hasSnapshot_ isSaving_ w.2.1 w.2.2.1 w.2.2.2.1 w.2.2.2.2.1 w.2.2.2.2.2.1 w.2.2.2.2.2.2.1 w.2.2.2.2.2.2.2.1 w.2.2.2.2.2.2.2.2.1 w.2.2.2.2.2.2.2.2.2) H locs → lv_has ls 8 [] → W p l e rm_X12_builds s m args below meth c H locs 0 0 Q (F0 m 141 ls [])) x) : ∀ (H : Heap) (locs : List Loc) (ls : Array Slot), St A D s (RW_X12_builds cy o d letters_ tests_ inputLength_ at_ signed_ newParts_ machineParts_ firstParts_ firstTruth_ secondTruth_ isPair_ v.1 stateClasses_ elements_ cursor_ hasSnapshot_ isSaving_ v.2.1 v.2.2.1 v.2.2.2.1 v.2.2.2.2.1 v.2.2.2.2.2.1 v.2.2.2.2.2.2.1 v.2.2.2.2.2.2.2.1 v.2.2.2.2.2.2.2.2.1 v.2.2.2.2.2.2.2.2.2.1) H locs → lv_has ls 8 [(0, .ref o), (1, .int v.2.2.2.2.2.2.2.2.2.2)] → W p l e rm_X12_builds s m args below meth c H locs 0 0 Q (F0 m 25 ls []) :=
  loop_gen (B := (fun v => b_X12_builds_25 machineKind_ machineBound_ machineLength_ machinePattern_ letters_ machineParts_ v.1 v.2.1 v.2.2.1 v.2.2.2.1 v.2.2.2.2.1 v.2.2.2.2.2.1 v.2.2.2.2.2.2.1 v.2.2.2.2.2.2.2.1 v.2.2.2.2.2.2.2.2.1 v.2.2.2.2.2.2.2.2.2.1 v.2.2.2.2.2.2.2.2.2.2)) (Head := fun v : Int32 × (Nat → Int32) × (Nat → Int64) × (Nat → Int64) × (Nat → Int64) × (Nat → Int64) × (Nat → Int32) × (Nat → Int32) × (Nat → Int32) × (Nat → Int32) × Int32 => ∀ (H : Heap) (locs : List Loc) (ls : Array Slot), St A D s (RW_X12_builds cy o d letters_ tests_ inputLength_ at_ signed_ newParts_ machineParts_ firstParts_ firstTruth_ secondTruth_ isPair_ v.1 stateClasses_ elements_ cursor_ hasSnapshot_ isSaving_ v.2.1 v.2.2.1 v.2.2.2.1 v.2.2.2.2.1 v.2.2.2.2.2.1 v.2.2.2.2.2.2.1 v.2.2.2.2.2.2.2.1 v.2.2.2.2.2.2.2.2.1 v.2.2.2.2.2.2.2.2.2.1) H locs → lv_has ls 8 [(0, .ref o), (1, .int v.2.2.2.2.2.2.2.2.2.2)] → W p l e rm_X12_builds s m args below meth c H locs 0 0 Q (F0 m 25 ls [])) (Exit := fun v : (Int32 × (Nat → Int32) × (Nat → Int64) × (Nat → Int64) × (Nat → Int64) × (Nat → Int64) × (Nat → Int32) × (Nat → Int32) × (Nat → Int32) × (Nat → Int32)) ⊕ (Int32 × (Nat → Int32) × (Nat → Int64) × (Nat → Int64) × (Nat → Int64) × (Nat → Int64) × (Nat → Int32) × (Nat → Int32) × (Nat → Int32) × (Nat → Int32)) => Sum.elim (fun w : Int32 × (Nat → Int32) × (Nat → Int64) × (Nat → Int64) × (Nat → Int64) × (Nat → Int64) × (Nat → Int32) × (Nat → Int32) × (Nat → Int32) × (Nat → Int32) => ∀ (H : Heap) (locs : List Loc) (ls : Array Slot), St A D s (RW_X12_builds cy o d letters_ tests_ inputLength_ at_ signed_ newParts_ machineParts_ firstParts_ firstTruth_ secondTruth_ isPair_ w.1 stateClasses_ elements_ cursor_ hasSnapshot_ isSaving_ w.2.1 w.2.2.1 w.2.2.2.1 w.2.2.2.2.1 w.2.2.2.2.2.1 w.2.2.2.2.2.2.1 w.2.2.2.2.2.2.2.1 w.2.2.2.2.2.2.2.2.1 w.2.2.2.2.2.2.2.2.2) H locs → lv_has ls 8 [] → W p l e rm_X12_builds s m args below meth c H locs 0 0 Q (F0 m 99 ls [])) (fun w => ∀ (H : Heap) (locs : List Loc) (ls : Array Slot), St A D s (RW_X12_builds cy o d letters_ tests_ inputLength_ at_ signed_ newParts_ machineParts_ firstParts_ firstTruth_ secondTruth_ isPair_ w.1 stateClasses_ elements_ cursor_ hasSnapshot_ isSaving_ w.2.1 w.2.2.1 w.2.2.2.1 w.2.2.2.2.1 w.2.2.2.2.2.1 w.2.2.2.2.2.2.1 w.2.2.2.2.2.2.2.1 w.2.2.2.2.2.2.2.2.1 w.2.2.2.2.2.2.2.2.2) H locs → lv_has ls 8 [] → W p l e rm_X12_builds s m args below meth c H locs 0 0 Q (F0 m 141 ls [])) v) (fun v o9 hb1 K1 => wb_X12_builds_25 o d machineKind_ machineBound_ machineLength_ machinePattern_ letters_ tests_ inputLength_ at_ signed_ newParts_ machineParts_ firstParts_ firstTruth_ secondTruth_ isPair_ stateClasses_ elements_ cursor_ hasSnapshot_ isSaving_ v.1 v.2.1 v.2.2.1 v.2.2.2.1 v.2.2.2.2.1 v.2.2.2.2.2.1 v.2.2.2.2.2.2.1 v.2.2.2.2.2.2.2.1 v.2.2.2.2.2.2.2.2.1 v.2.2.2.2.2.2.2.2.2.1 v.2.2.2.2.2.2.2.2.2.2 o9 X hb1 K1) n v x h K
def f_X12_builds (machineKind_ : Nat → Int32) (machineBound_ : Nat → Int32) (machineLength_ : Nat → Int32) (machinePattern_ : Nat → Int32) (letters_ : Int32) (machineParts_ : Int32) (states_ : Int32) (digit_ : Nat → Int32) (codeA_ : Nat → Int64) (codeB_ : Nat → Int64) (keyA_ : Nat → Int64) (keyB_ : Nat → Int64) (found_ : Nat → Int32) (next_ : Nat → Int32) (before_ : Nat → Int32) (by_ : Nat → Int32) : Option (Int32 × Int32 × (Nat → Int32) × (Nat → Int64) × (Nat → Int64) × (Nat → Int64) × (Nat → Int64) × (Nat → Int32) × (Nat → Int32) × (Nat → Int32) × (Nat → Int32)) :=
  (f_X12_clearKeys found_).bind (fun u26 =>
  (f_X12_slotOf (0 : Int64) (0 : Int64) keyA_ keyB_ u26).bind (fun u28 =>
  (f_X12_addState u28 (0 : Int64) (0 : Int64) (-1 : Int32) (-1 : Int32) (0 : Int32) codeA_ codeB_ keyA_ keyB_ u26 before_ by_).bind (fun u30 =>
  (loopN (fun v => b_X12_builds_25 machineKind_ machineBound_ machineLength_ machinePattern_ letters_ machineParts_ v.1 v.2.1 v.2.2.1 v.2.2.2.1 v.2.2.2.2.1 v.2.2.2.2.2.1 v.2.2.2.2.2.2.1 v.2.2.2.2.2.2.2.1 v.2.2.2.2.2.2.2.2.1 v.2.2.2.2.2.2.2.2.2.1 v.2.2.2.2.2.2.2.2.2.2) FU (u30.1, digit_, u30.2.1, u30.2.2.1, u30.2.2.2.1, u30.2.2.2.2.1, u30.2.2.2.2.2.1, next_, u30.2.2.2.2.2.2.1, u30.2.2.2.2.2.2.2, (0 : Int32))).bind (fun u32 =>
  Sum.elim (fun u32 =>
  some ((0 : Int32), u32.1, u32.2.1, u32.2.2.1, u32.2.2.2.1, u32.2.2.2.2.1, u32.2.2.2.2.2.1, u32.2.2.2.2.2.2.1, u32.2.2.2.2.2.2.2.1, u32.2.2.2.2.2.2.2.2.1, u32.2.2.2.2.2.2.2.2.2)) (fun u32 =>
  some ((1 : Int32), u32.1, u32.2.1, u32.2.2.1, u32.2.2.2.1, u32.2.2.2.2.1, u32.2.2.2.2.2.1, u32.2.2.2.2.2.2.1, u32.2.2.2.2.2.2.2.1, u32.2.2.2.2.2.2.2.2.1, u32.2.2.2.2.2.2.2.2.2)) u32))))
set_option maxHeartbeats 4000000 in
set_option maxRecDepth 100000 in
theorem wt_X12_builds {p : Program} {l : Launch} {e : Env} {s : State} {m : MethodId} {args : Array Value} {below : List Frame} {meth : Method} {c : Code} {A : Nat → Prop} {Q : State → Prop} {D : va_G} {cy : Nat → ClassId} (o : Nat) (d : Nat → Nat) (machineKind_ : Nat → Int32) (machineBound_ : Nat → Int32) (machineLength_ : Nat → Int32) (machinePattern_ : Nat → Int32) (letters_ : Int32) (tests_ : Int32) (inputLength_ : Int32) (at_ : Int32) (signed_ : Int32) (newParts_ : Int32) (machineParts_ : Int32) (firstParts_ : Int32) (firstTruth_ : Int32) (secondTruth_ : Int32) (isPair_ : Int32) (states_ : Int32) (stateClasses_ : Int32) (elements_ : Int32) (cursor_ : Int32) (hasSnapshot_ : Int32) (isSaving_ : Int32) (digit_ : Nat → Int32) (codeA_ : Nat → Int64) (codeB_ : Nat → Int64) (keyA_ : Nat → Int64) (keyB_ : Nat → Int64) (found_ : Nat → Int32) (next_ : Nat → Int32) (before_ : Nat → Int32) (by_ : Nat → Int32) (out : Int32 × Int32 × (Nat → Int32) × (Nat → Int64) × (Nat → Int64) × (Nat → Int64) × (Nat → Int64) × (Nat → Int32) × (Nat → Int32) × (Nat → Int32) × (Nat → Int32)) (X : Cx p m c cX12_builds 8 s args wsX12_builds RX12 A D cy (RO_X12_builds cy o d machineKind_ machineBound_ machineLength_ machinePattern_)) (h : f_X12_builds machineKind_ machineBound_ machineLength_ machinePattern_ letters_ machineParts_ states_ digit_ codeA_ codeB_ keyA_ keyB_ found_ next_ before_ by_ = some out) (K : ∀ (H : Heap) (locs : List Loc) (ls : Array Slot) (pc : Nat), decode cX12_builds pc = .ok (.ireturn, 1) → (out.1 = 0 ∨ out.1 = 1) → St A D s (RW_X12_builds cy o d letters_ tests_ inputLength_ at_ signed_ newParts_ machineParts_ firstParts_ firstTruth_ secondTruth_ isPair_ out.2.1 stateClasses_ elements_ cursor_ hasSnapshot_ isSaving_ out.2.2.1 out.2.2.2.1 out.2.2.2.2.1 out.2.2.2.2.2.1 out.2.2.2.2.2.2.1 out.2.2.2.2.2.2.2.1 out.2.2.2.2.2.2.2.2.1 out.2.2.2.2.2.2.2.2.2.1 out.2.2.2.2.2.2.2.2.2.2) H locs → W p l e rm_X12_builds s m args below meth c H locs 0 0 Q (F0 m pc ls [.int out.1])) : ∀ (H : Heap) (locs : List Loc) (ls : Array Slot), St A D s (RW_X12_builds cy o d letters_ tests_ inputLength_ at_ signed_ newParts_ machineParts_ firstParts_ firstTruth_ secondTruth_ isPair_ states_ stateClasses_ elements_ cursor_ hasSnapshot_ isSaving_ digit_ codeA_ codeB_ keyA_ keyB_ found_ next_ before_ by_) H locs → lv_has ls 8 [(0, .ref o)] → W p l e rm_X12_builds s m args below meth c H locs 0 0 Q (F0 m 0 ls []) := by
  intro H locs ls Z hl
  have hx := X.1.1
  have hb := X.1.2.1
  unfold f_X12_builds at h
  refine lv_aload_n hx hb dX12_builds_0 rfl (lv_at hl 0 rfl) ?_
  obtain ⟨u26, hc27, h⟩ := ob_some h
  refine x_runVv (RW' := (RW_X12_builds cy o d letters_ tests_ inputLength_ at_ signed_ newParts_ machineParts_ firstParts_ firstTruth_ secondTruth_ isPair_ states_ stateClasses_ elements_ cursor_ hasSnapshot_ isSaving_ digit_ codeA_ codeB_ keyA_ keyB_ u26 next_ before_ by_)) (wr := [(o, ob 11 (oX12 d letters_ tests_ inputLength_ at_ signed_ newParts_ machineParts_ firstParts_ firstTruth_ secondTruth_ isPair_ states_ stateClasses_ elements_ cursor_ hasSnapshot_ isSaving_)), ((d 35), aI cy 4 digit_), ((d 41), aJ cy 2000 codeA_), ((d 42), aJ cy 2000 codeB_), ((d 43), aJ cy 8192 keyA_), ((d 44), aJ cy 8192 keyB_), ((d 46), aI cy 6000 next_), ((d 47), aI cy 2000 before_), ((d 48), aI cy 2000 by_)]) (isC := [6]) (isR := [0, 1, 2, 3, 4, 5, 7, 8, 9]) (isF := [0, 1, 2, 3, 4, 5, 9, 6, 7, 8]) (rest := []) (As := []) (n := 0) X Z (c_X12_clearKeys l D cy o d letters_ tests_ inputLength_ at_ signed_ newParts_ machineParts_ firstParts_ firstTruth_ secondTruth_ isPair_ states_ stateClasses_ elements_ cursor_ hasSnapshot_ isSaving_ found_ u26 hc27) gX12_builds_X12_clearKeys rfl (by decide +kernel) ⟨Nat.le_of_ble_eq_true rfl, Nat.le_of_ble_eq_true rfl⟩ ⟨rfl, rfl⟩ ⟨Nat.le_of_ble_eq_true rfl, Nat.le_of_ble_eq_true rfl⟩ (x_rv X Z 0 rfl rfl) ⟨rfl, rfl, (roC (Or.inl (mem_at 0 rfl)) roN), rfl, rfl, by decide⟩ ⟨rfl, rfl⟩ rfl hl.1 rfl (Nat.le_of_ble_eq_true rfl) dX12_builds_1 (fun H locs Z => ?_)
  refine lv_aload_n hx hb dX12_builds_4 rfl (lv_at hl 0 rfl) ?_
  refine lv_iconst (v := (0 : Int32)) hx hb dX12_builds_5 (by decide) ?_
  refine x_put X Z 0 49 (RW_X12_builds cy o d letters_ tests_ inputLength_ at_ signed_ newParts_ machineParts_ firstParts_ firstTruth_ secondTruth_ isPair_ (0 : Int32) stateClasses_ elements_ cursor_ hasSnapshot_ isSaving_ digit_ codeA_ codeB_ keyA_ keyB_ u26 next_ before_ by_) rfl lp_X12_builds_X12_states (Nat.le_of_ble_eq_true rfl) rfl dX12_builds_6 (fun H locs Z => ?_)
  refine lv_aload_n hx hb dX12_builds_9 rfl (lv_at hl 0 rfl) ?_
  refine lv_aload_n hx hb dX12_builds_10 rfl (lv_at hl 0 rfl) ?_
  refine lv_lconst (v := (0 : Int64)) hx hb dX12_builds_11 (by decide) ?_
  refine lv_lconst (v := (0 : Int64)) hx hb dX12_builds_12 (by decide) ?_
  obtain ⟨u28, hc29, h⟩ := ob_some h
  refine x_runVi (RW' := (RW_X12_builds cy o d letters_ tests_ inputLength_ at_ signed_ newParts_ machineParts_ firstParts_ firstTruth_ secondTruth_ isPair_ (0 : Int32) stateClasses_ elements_ cursor_ hasSnapshot_ isSaving_ digit_ codeA_ codeB_ keyA_ keyB_ u26 next_ before_ by_)) (wr := [(o, ob 11 (oX12 d letters_ tests_ inputLength_ at_ signed_ newParts_ machineParts_ firstParts_ firstTruth_ secondTruth_ isPair_ (0 : Int32) stateClasses_ elements_ cursor_ hasSnapshot_ isSaving_)), ((d 35), aI cy 4 digit_), ((d 41), aJ cy 2000 codeA_), ((d 42), aJ cy 2000 codeB_), ((d 43), aJ cy 8192 keyA_), ((d 44), aJ cy 8192 keyB_), ((d 45), aI cy 8192 u26), ((d 46), aI cy 6000 next_), ((d 47), aI cy 2000 before_), ((d 48), aI cy 2000 by_)]) (isC := []) (isR := [0, 1, 2, 3, 4, 5, 6, 7, 8, 9]) (isF := [0, 1, 2, 3, 4, 5, 6, 7, 8, 9]) (rest := [.ref o]) (As := [.long (0 : Int64), .long (0 : Int64)]) (n := 2) X Z (c_X12_slotOf l D cy o d letters_ tests_ inputLength_ at_ signed_ newParts_ machineParts_ firstParts_ firstTruth_ secondTruth_ isPair_ (0 : Int32) stateClasses_ elements_ cursor_ hasSnapshot_ isSaving_ keyA_ keyB_ u26 (0 : Int64) (0 : Int64) u28 hc29) gX12_builds_X12_slotOf rfl (by decide +kernel) ⟨Nat.le_of_ble_eq_true rfl, Nat.le_of_ble_eq_true rfl⟩ ⟨rfl, rfl⟩ ⟨Nat.le_of_ble_eq_true rfl, Nat.le_of_ble_eq_true rfl⟩ (x_rv X Z 0 rfl rfl) ⟨rfl, rfl, (roC (Or.inl (mem_at 0 rfl)) (roC (Or.inl (mem_at 4 rfl)) (roC (Or.inl (mem_at 5 rfl)) (roC (Or.inl (mem_at 6 rfl)) roN)))), rfl, rfl, by decide⟩ ⟨rfl, rfl⟩ rfl hl.1 rfl (Nat.le_of_ble_eq_true rfl) dX12_builds_13 (fun H locs Z => ?_)
  refine lv_lconst (v := (0 : Int64)) hx hb dX12_builds_16 (by decide) ?_
  refine lv_lconst (v := (0 : Int64)) hx hb dX12_builds_17 (by decide) ?_
  refine lv_iconst (v := (-1 : Int32)) hx hb dX12_builds_18 (by decide) ?_
  refine lv_iconst (v := (-1 : Int32)) hx hb dX12_builds_19 (by decide) ?_
  obtain ⟨u30, hc31, h⟩ := ob_some h
  refine x_runVv (RW' := (RW_X12_builds cy o d letters_ tests_ inputLength_ at_ signed_ newParts_ machineParts_ firstParts_ firstTruth_ secondTruth_ isPair_ u30.1 stateClasses_ elements_ cursor_ hasSnapshot_ isSaving_ digit_ u30.2.1 u30.2.2.1 u30.2.2.2.1 u30.2.2.2.2.1 u30.2.2.2.2.2.1 next_ u30.2.2.2.2.2.2.1 u30.2.2.2.2.2.2.2)) (wr := [((d 35), aI cy 4 digit_), ((d 46), aI cy 6000 next_)]) (isC := [0, 2, 3, 4, 5, 6, 8, 9]) (isR := [1, 7]) (isF := [2, 0, 3, 4, 5, 6, 7, 1, 8, 9]) (rest := []) (As := [.int u28, .long (0 : Int64), .long (0 : Int64), .int (-1 : Int32), .int (-1 : Int32)]) (n := 5) X Z (c_X12_addState l D cy o d letters_ tests_ inputLength_ at_ signed_ newParts_ machineParts_ firstParts_ firstTruth_ secondTruth_ isPair_ (0 : Int32) stateClasses_ elements_ cursor_ hasSnapshot_ isSaving_ codeA_ codeB_ keyA_ keyB_ u26 before_ by_ u28 (0 : Int64) (0 : Int64) (-1 : Int32) (-1 : Int32) u30 hc31) gX12_builds_X12_addState rfl (by decide +kernel) ⟨Nat.le_of_ble_eq_true rfl, Nat.le_of_ble_eq_true rfl⟩ ⟨rfl, rfl⟩ ⟨Nat.le_of_ble_eq_true rfl, Nat.le_of_ble_eq_true rfl⟩ (x_rv X Z 0 rfl rfl) ⟨rfl, rfl, roN, rfl, rfl, by decide⟩ ⟨rfl, rfl⟩ rfl hl.1 rfl (Nat.le_of_ble_eq_true rfl) dX12_builds_20 (fun H locs Z => ?_)
  refine lv_iconst (v := (0 : Int32)) hx hb dX12_builds_23 (by decide) ?_
  refine lv_istore_n (lv' := [(1, .int (0 : Int32)), (0, .ref o)]) hx hb dX12_builds_24 rfl hl (by decide) rfl (fun ls hl => ?_)
  obtain ⟨u32, hL33, h⟩ := ob_some h
  rcases u32 with u32 | u32
  · replace h := se_l h
    refine wl_X12_builds_25 o d machineKind_ machineBound_ machineLength_ machinePattern_ letters_ tests_ inputLength_ at_ signed_ newParts_ machineParts_ firstParts_ firstTruth_ secondTruth_ isPair_ stateClasses_ elements_ cursor_ hasSnapshot_ isSaving_ FU (u30.1, digit_, u30.2.1, u30.2.2.1, u30.2.2.2.1, u30.2.2.2.2.1, u30.2.2.2.2.2.1, next_, u30.2.2.2.2.2.2.1, u30.2.2.2.2.2.2.2, (0 : Int32)) (.inl u32) X hL33 (sk_li (fun H locs ls Z hl => ?_)) H locs ls Z (lv_sub hl [1, 0] rfl)
    refine lv_iconst (v := (0 : Int32)) hx hb dX12_builds_99 (by decide) ?_
    obtain rfl := Option.some.inj h
    exact K H locs ls _ dX12_builds_100 (Or.inl rfl) Z
  · replace h := se_r h
    refine wl_X12_builds_25 o d machineKind_ machineBound_ machineLength_ machinePattern_ letters_ tests_ inputLength_ at_ signed_ newParts_ machineParts_ firstParts_ firstTruth_ secondTruth_ isPair_ stateClasses_ elements_ cursor_ hasSnapshot_ isSaving_ FU (u30.1, digit_, u30.2.1, u30.2.2.1, u30.2.2.2.1, u30.2.2.2.2.1, u30.2.2.2.2.2.1, next_, u30.2.2.2.2.2.2.1, u30.2.2.2.2.2.2.2, (0 : Int32)) (.inr u32) X hL33 (sk_ri (fun H locs ls Z hl => ?_)) H locs ls Z (lv_sub hl [1, 0] rfl)
    refine lv_iconst (v := (1 : Int32)) hx hb dX12_builds_141 (by decide) ?_
    obtain rfl := Option.some.inj h
    exact K H locs ls _ dX12_builds_142 (Or.inr rfl) Z
theorem c_X12_builds (l : Launch) (D : va_G) (cy : Nat → ClassId) (o : Nat) (d : Nat → Nat) (machineKind_ : Nat → Int32) (machineBound_ : Nat → Int32) (machineLength_ : Nat → Int32) (machinePattern_ : Nat → Int32) (letters_ : Int32) (tests_ : Int32) (inputLength_ : Int32) (at_ : Int32) (signed_ : Int32) (newParts_ : Int32) (machineParts_ : Int32) (firstParts_ : Int32) (firstTruth_ : Int32) (secondTruth_ : Int32) (isPair_ : Int32) (states_ : Int32) (stateClasses_ : Int32) (elements_ : Int32) (cursor_ : Int32) (hasSnapshot_ : Int32) (isSaving_ : Int32) (digit_ : Nat → Int32) (codeA_ : Nat → Int64) (codeB_ : Nat → Int64) (keyA_ : Nat → Int64) (keyB_ : Nat → Int64) (found_ : Nat → Int32) (next_ : Nat → Int32) (before_ : Nat → Int32) (by_ : Nat → Int32) (out : Int32 × Int32 × (Nat → Int32) × (Nat → Int64) × (Nat → Int64) × (Nat → Int64) × (Nat → Int64) × (Nat → Int32) × (Nat → Int32) × (Nat → Int32) × (Nat → Int32)) (h : f_X12_builds machineKind_ machineBound_ machineLength_ machinePattern_ letters_ machineParts_ states_ digit_ codeA_ codeB_ keyA_ keyB_ found_ next_ before_ by_ = some out) : CtI l yX12_builds wsX12_builds rm_X12_builds D cy [.ref o] (RW_X12_builds cy o d letters_ tests_ inputLength_ at_ signed_ newParts_ machineParts_ firstParts_ firstTruth_ secondTruth_ isPair_ states_ stateClasses_ elements_ cursor_ hasSnapshot_ isSaving_ digit_ codeA_ codeB_ keyA_ keyB_ found_ next_ before_ by_) (RO_X12_builds cy o d machineKind_ machineBound_ machineLength_ machinePattern_) (RW_X12_builds cy o d letters_ tests_ inputLength_ at_ signed_ newParts_ machineParts_ firstParts_ firstTruth_ secondTruth_ isPair_ out.2.1 stateClasses_ elements_ cursor_ hasSnapshot_ isSaving_ out.2.2.1 out.2.2.2.1 out.2.2.2.2.1 out.2.2.2.2.2.1 out.2.2.2.2.2.2.1 out.2.2.2.2.2.2.2.1 out.2.2.2.2.2.2.2.2.1 out.2.2.2.2.2.2.2.2.2.1 out.2.2.2.2.2.2.2.2.2.2) out.1 :=
  mk_z (by decide) rfl (Nat.le_of_ble_eq_true rfl) (fun p e s m args below meth c A Q X K H locs ls Z hl => wt_X12_builds o d machineKind_ machineBound_ machineLength_ machinePattern_ letters_ tests_ inputLength_ at_ signed_ newParts_ machineParts_ firstParts_ firstTruth_ secondTruth_ isPair_ states_ stateClasses_ elements_ cursor_ hasSnapshot_ isSaving_ digit_ codeA_ codeB_ keyA_ keyB_ found_ next_ before_ by_ out X h K H locs ls Z hl)
/-! SubwordCounterModel valueAt (II)I -/
abbrev rm_X12_valueAt : Room := { frames := 1, cells := 0, slots := 0, locals := 25 }
def RW_X12_valueAt (cy : Nat → ClassId) (o : Nat) (d : Nat → Nat)  : va_W := []
def RO_X12_valueAt (cy : Nat → ClassId) (o : Nat) (d : Nat → Nat) (letters_ : Int32) (tests_ : Int32) (inputLength_ : Int32) (at_ : Int32) (signed_ : Int32) (newParts_ : Int32) (machineParts_ : Int32) (firstParts_ : Int32) (firstTruth_ : Int32) (secondTruth_ : Int32) (isPair_ : Int32) (states_ : Int32) (stateClasses_ : Int32) (elements_ : Int32) (cursor_ : Int32) (hasSnapshot_ : Int32) (isSaving_ : Int32) (machineLength_ : Nat → Int32) (codeA_ : Nat → Int64) (codeB_ : Nat → Int64) : va_W := [(o, ob 11 (oX12 d letters_ tests_ inputLength_ at_ signed_ newParts_ machineParts_ firstParts_ firstTruth_ secondTruth_ isPair_ states_ stateClasses_ elements_ cursor_ hasSnapshot_ isSaving_)), ((d 32), aI cy 8 machineLength_), ((d 41), aJ cy 2000 codeA_), ((d 42), aJ cy 2000 codeB_)]
theorem in_X12_valueAt_X12 : ∀ w ∈ u_ws RX12 TX12 68, w ∈ wsX12_valueAt := fun w h => (List.mem_cons_of_mem _ (List.mem_append_right _ h))
theorem lk_X12_valueAt_X12_machineLength : Lk wsX12_valueAt RX12 92 11 32 := ⟨RX12, TX12, 68, rfl, by decide, in_X12_valueAt_X12, mem_at 3 rfl⟩
theorem lk_X12_valueAt_X12_codeB : Lk wsX12_valueAt RX12 108 11 42 := ⟨RX12, TX12, 68, rfl, by decide, in_X12_valueAt_X12, mem_at 2 rfl⟩
theorem lk_X12_valueAt_X12_codeA : Lk wsX12_valueAt RX12 104 11 41 := ⟨RX12, TX12, 68, rfl, by decide, in_X12_valueAt_X12, mem_at 1 rfl⟩
def b_X12_valueAt_30 (machineLength_ : Nat → Int32) (x2 : Int32)  (x3 : Int32) (x4 : Int32) : Option ((Int32 × Int32) ⊕ (Int32)) :=
  ldA machineLength_ 8 x2 (fun v2 =>
  if v2 ≤ x4 then
  (some (.inr x3))
  else
  (dvI x3 (10 : Int32) (fun v5 =>
  some (.inl (v5, (x4 + (1 : Int32)))))))
set_option maxHeartbeats 4000000 in
set_option maxRecDepth 100000 in
theorem wb_X12_valueAt_30 {p : Program} {l : Launch} {e : Env} {s : State} {m : MethodId} {args : Array Value} {below : List Frame} {meth : Method} {c : Code} {A : Nat → Prop} {Q : State → Prop} {D : va_G} {cy : Nat → ClassId} (o : Nat) (d : Nat → Nat) (letters_ : Int32) (tests_ : Int32) (inputLength_ : Int32) (at_ : Int32) (signed_ : Int32) (newParts_ : Int32) (machineParts_ : Int32) (firstParts_ : Int32) (firstTruth_ : Int32) (secondTruth_ : Int32) (isPair_ : Int32) (states_ : Int32) (stateClasses_ : Int32) (elements_ : Int32) (cursor_ : Int32) (hasSnapshot_ : Int32) (isSaving_ : Int32) (machineLength_ : Nat → Int32) (codeA_ : Nat → Int64) (codeB_ : Nat → Int64)  (x2 : Int32)  (x3 : Int32) (x4 : Int32) (o1 : (Int32 × Int32) ⊕ (Int32)) (X : Cx p m c cX12_valueAt 5 s args wsX12_valueAt RX12 A D cy (RO_X12_valueAt cy o d letters_ tests_ inputLength_ at_ signed_ newParts_ machineParts_ firstParts_ firstTruth_ secondTruth_ isPair_ states_ stateClasses_ elements_ cursor_ hasSnapshot_ isSaving_ machineLength_ codeA_ codeB_)) (h : b_X12_valueAt_30 machineLength_ x2 x3 x4 = some o1) (K : Sum.elim (fun v : Int32 × Int32 => ∀ (H : Heap) (locs : List Loc) (ls : Array Slot), St A D s (RW_X12_valueAt cy o d) H locs → lv_has ls 5 [(0, .ref o), (2, .int x2), (3, .int v.1), (4, .int v.2)] → W p l e rm_X12_valueAt s m args below meth c H locs 0 0 Q (F0 m 30 ls [])) (fun v : Int32 => ∀ (H : Heap) (locs : List Loc) (ls : Array Slot), St A D s (RW_X12_valueAt cy o d) H locs → lv_has ls 5 [(3, .int v)] → W p l e rm_X12_valueAt s m args below meth c H locs 0 0 Q (F0 m 52 ls [])) o1) : ∀ (H : Heap) (locs : List Loc) (ls : Array Slot), St A D s (RW_X12_valueAt cy o d) H locs → lv_has ls 5 [(0, .ref o), (2, .int x2), (3, .int x3), (4, .int x4)] → W p l e rm_X12_valueAt s m args below meth c H locs 0 0 Q (F0 m 30 ls []) := by
  intro H locs ls Z hl
  have hx := X.1.1
  have hb := X.1.2.1
  unfold b_X12_valueAt_30 at h
  refine lv_iload hx hb dX12_valueAt_30 (lv_at hl 3 rfl) ?_
  refine lv_aload_n hx hb dX12_valueAt_32 rfl (lv_at hl 0 rfl) ?_
  refine x_getO X Z 0 32 (v := .ref (d 32)) rfl rfl lk_X12_valueAt_X12_machineLength dX12_valueAt_33 ?_
  refine lv_iload_n hx hb dX12_valueAt_36 rfl (lv_at hl 1 rfl) ?_
  obtain ⟨hin1, v2, hv3, h⟩ := ld_b h
  refine x_ialdO X Z 1 rfl hin1 hv3 dX12_valueAt_37 ?_
  refine lv_icmp_ge (tgt := 52) hx hb dX12_valueAt_38 (by decide) (fun cnd => ?_) (fun cnd => ?_)
  · replace h := ifp h cnd
    obtain rfl := Option.some.inj h
    exact (sk_r K) H locs ls Z (lv_sub hl [2] rfl)
  · replace h := ifn h cnd
    refine lv_iload_n hx hb dX12_valueAt_41 rfl (lv_at hl 2 rfl) ?_
    refine lv_bipush (v := (10 : Int32)) hx hb dX12_valueAt_42 (by decide) ?_
    obtain ⟨hz4, v5, hv6, h⟩ := dv_b h
    refine lv_idiv hx hb dX12_valueAt_44 hz4 ?_
    rw [hv6]
    refine lv_istore_n (lv' := [(3, .int v5), (0, .ref o), (2, .int x2), (4, .int x4)]) hx hb dX12_valueAt_45 rfl hl (by decide) rfl (fun ls hl => ?_)
    refine lv_iinc (v := (x4 + (1 : Int32))) (lv' := [(4, .int (x4 + (1 : Int32))), (3, .int v5), (0, .ref o), (2, .int x2)]) hx hb dX12_valueAt_46 hl (k := 3) rfl rfl (by decide) rfl (fun ls hl => ?_)
    refine lv_goto (tgt := 30) hx hb dX12_valueAt_49 (by decide) ?_
    obtain rfl := Option.some.inj h
    exact sk_l K H locs ls Z (lv_sub hl [2, 3, 1, 0] rfl)
set_option maxHeartbeats 4000000 in
set_option maxRecDepth 100000 in
theorem wl_X12_valueAt_30 {p : Program} {l : Launch} {e : Env} {s : State} {m : MethodId} {args : Array Value} {below : List Frame} {meth : Method} {c : Code} {A : Nat → Prop} {Q : State → Prop} {D : va_G} {cy : Nat → ClassId} (o : Nat) (d : Nat → Nat) (letters_ : Int32) (tests_ : Int32) (inputLength_ : Int32) (at_ : Int32) (signed_ : Int32) (newParts_ : Int32) (machineParts_ : Int32) (firstParts_ : Int32) (firstTruth_ : Int32) (secondTruth_ : Int32) (isPair_ : Int32) (states_ : Int32) (stateClasses_ : Int32) (elements_ : Int32) (cursor_ : Int32) (hasSnapshot_ : Int32) (isSaving_ : Int32) (machineLength_ : Nat → Int32) (codeA_ : Nat → Int64) (codeB_ : Nat → Int64)  (x2 : Int32) (n : Nat) (v : Int32 × Int32) (x : Int32) (X : Cx p m c cX12_valueAt 5 s args wsX12_valueAt RX12 A D cy (RO_X12_valueAt cy o d letters_ tests_ inputLength_ at_ signed_ newParts_ machineParts_ firstParts_ firstTruth_ secondTruth_ isPair_ states_ stateClasses_ elements_ cursor_ hasSnapshot_ isSaving_ machineLength_ codeA_ codeB_)) (h : loopN (fun v => b_X12_valueAt_30 machineLength_ x2 v.1 v.2) n v = some x) (K : ∀ (H : Heap) (locs : List Loc) (ls : Array Slot), St A D s (RW_X12_valueAt cy o d) H locs → lv_has ls 5 [(3, .int x)] → W p l e rm_X12_valueAt s m args below meth c H locs 0 0 Q (F0 m 52 ls [])) : ∀ (H : Heap) (locs : List Loc) (ls : Array Slot), St A D s (RW_X12_valueAt cy o d) H locs → lv_has ls 5 [(0, .ref o), (2, .int x2), (3, .int v.1), (4, .int v.2)] → W p l e rm_X12_valueAt s m args below meth c H locs 0 0 Q (F0 m 30 ls []) :=
  loop_gen (B := (fun v => b_X12_valueAt_30 machineLength_ x2 v.1 v.2)) (Head := fun v : Int32 × Int32 => ∀ (H : Heap) (locs : List Loc) (ls : Array Slot), St A D s (RW_X12_valueAt cy o d) H locs → lv_has ls 5 [(0, .ref o), (2, .int x2), (3, .int v.1), (4, .int v.2)] → W p l e rm_X12_valueAt s m args below meth c H locs 0 0 Q (F0 m 30 ls [])) (Exit := fun v : Int32 => ∀ (H : Heap) (locs : List Loc) (ls : Array Slot), St A D s (RW_X12_valueAt cy o d) H locs → lv_has ls 5 [(3, .int v)] → W p l e rm_X12_valueAt s m args below meth c H locs 0 0 Q (F0 m 52 ls [])) (fun v o9 hb1 K1 => wb_X12_valueAt_30 o d letters_ tests_ inputLength_ at_ signed_ newParts_ machineParts_ firstParts_ firstTruth_ secondTruth_ isPair_ states_ stateClasses_ elements_ cursor_ hasSnapshot_ isSaving_ machineLength_ codeA_ codeB_ x2 v.1 v.2 o9 X hb1 K1) n v x h K
def j_X12_valueAt_20 (machineLength_ : Nat → Int32) (x2 : Int32) (t0 : Int64) : Option (Int32) :=
  rmI x2 (4 : Int32) (fun v8 =>
  (f_X12_digitsOf t0 v8).bind (fun u10 =>
  (loopN (fun v => b_X12_valueAt_30 machineLength_ x2 v.1 v.2) FU (u10, (1 : Int32))).bind (fun u12 =>
  rmI u12 (10 : Int32) (fun v15 =>
  some v15))))
set_option maxHeartbeats 4000000 in
set_option maxRecDepth 100000 in
theorem jw_X12_valueAt_20 {p : Program} {l : Launch} {e : Env} {s : State} {m : MethodId} {args : Array Value} {below : List Frame} {meth : Method} {c : Code} {A : Nat → Prop} {Q : State → Prop} {D : va_G} {cy : Nat → ClassId} (o : Nat) (d : Nat → Nat) (letters_ : Int32) (tests_ : Int32) (inputLength_ : Int32) (at_ : Int32) (signed_ : Int32) (newParts_ : Int32) (machineParts_ : Int32) (firstParts_ : Int32) (firstTruth_ : Int32) (secondTruth_ : Int32) (isPair_ : Int32) (states_ : Int32) (stateClasses_ : Int32) (elements_ : Int32) (cursor_ : Int32) (hasSnapshot_ : Int32) (isSaving_ : Int32) (machineLength_ : Nat → Int32) (codeA_ : Nat → Int64) (codeB_ : Nat → Int64)  (x2 : Int32) (t0 : Int64) (out : Int32) (X : Cx p m c cX12_valueAt 5 s args wsX12_valueAt RX12 A D cy (RO_X12_valueAt cy o d letters_ tests_ inputLength_ at_ signed_ newParts_ machineParts_ firstParts_ firstTruth_ secondTruth_ isPair_ states_ stateClasses_ elements_ cursor_ hasSnapshot_ isSaving_ machineLength_ codeA_ codeB_)) (h : j_X12_valueAt_20 machineLength_ x2 t0 = some out) (K : ∀ (H : Heap) (locs : List Loc) (ls : Array Slot) (pc : Nat), decode cX12_valueAt pc = .ok (.ireturn, 1) → St A D s (RW_X12_valueAt cy o d) H locs → W p l e rm_X12_valueAt s m args below meth c H locs 0 0 Q (F0 m pc ls [.int out])) : ∀ (H : Heap) (locs : List Loc) (ls : Array Slot), St A D s (RW_X12_valueAt cy o d) H locs → lv_has ls 5 [(0, .ref o), (2, .int x2)] → W p l e rm_X12_valueAt s m args below meth c H locs 0 0 Q (F0 m 20 ls [.long t0]) := by
  intro H locs ls Z hl
  have hx := X.1.1
  have hb := X.1.2.1
  unfold j_X12_valueAt_20 at h
  refine lv_iload_n hx hb dX12_valueAt_20 rfl (lv_at hl 1 rfl) ?_
  refine lv_iconst (v := (4 : Int32)) hx hb dX12_valueAt_21 (by decide) ?_
  obtain ⟨hz7, v8, hv9, h⟩ := rm_b h
  refine lv_irem hx hb dX12_valueAt_22 hz7 ?_
  rw [hv9]
  obtain ⟨u10, hc11, h⟩ := ob_some h
  refine x_runSi (RW' := (RW_X12_valueAt cy o d)) (wr := []) (isC := []) (isR := []) (isF := []) (rest := []) (As := [.long t0, .int v8]) (n := 2) X Z (c_X12_digitsOf l D cy t0 v8 u10 hc11) gX12_valueAt_X12_digitsOf rfl (by decide +kernel) ⟨Nat.le_of_ble_eq_true rfl, Nat.le_of_ble_eq_true rfl⟩ ⟨rfl, rfl⟩ ⟨Nat.le_of_ble_eq_true rfl, Nat.le_of_ble_eq_true rfl⟩ ⟨rfl, rfl, roN, rfl, rfl, by decide⟩ ⟨rfl, rfl⟩ rfl hl.1 rfl (Nat.le_of_ble_eq_true rfl) dX12_valueAt_23 (fun H locs Z => ?_)
  refine lv_istore_n (lv' := [(3, .int u10), (0, .ref o), (2, .int x2)]) hx hb dX12_valueAt_26 rfl hl (by decide) rfl (fun ls hl => ?_)
  refine lv_iconst (v := (1 : Int32)) hx hb dX12_valueAt_27 (by decide) ?_
  refine lv_istore (lv' := [(4, .int (1 : Int32)), (3, .int u10), (0, .ref o), (2, .int x2)]) hx hb dX12_valueAt_28 hl (by decide) rfl (fun ls hl => ?_)
  obtain ⟨u12, hL13, h⟩ := ob_some h
  refine wl_X12_valueAt_30 o d letters_ tests_ inputLength_ at_ signed_ newParts_ machineParts_ firstParts_ firstTruth_ secondTruth_ isPair_ states_ stateClasses_ elements_ cursor_ hasSnapshot_ isSaving_ machineLength_ codeA_ codeB_ x2 FU (u10, (1 : Int32)) u12 X hL13 (fun H locs ls Z hl => ?_) H locs ls Z (lv_sub hl [2, 3, 1, 0] rfl)
  refine lv_iload_n hx hb dX12_valueAt_52 rfl (lv_at hl 0 rfl) ?_
  refine lv_bipush (v := (10 : Int32)) hx hb dX12_valueAt_53 (by decide) ?_
  obtain ⟨hz14, v15, hv16, h⟩ := rm_b h
  refine lv_irem hx hb dX12_valueAt_55 hz14 ?_
  rw [hv16]
  obtain rfl := Option.some.inj h
  exact K H locs ls _ dX12_valueAt_56 Z
def f_X12_valueAt (x1 : Int32) (x2 : Int32) (machineLength_ : Nat → Int32) (codeA_ : Nat → Int64) (codeB_ : Nat → Int64) : Option (Int32) :=
  if (4 : Int32) ≤ x2 then
  (ldA codeB_ 2000 x1 (fun v18 =>
  j_X12_valueAt_20 machineLength_ x2 v18))
  else
  (ldA codeA_ 2000 x1 (fun v21 =>
  j_X12_valueAt_20 machineLength_ x2 v21))
set_option maxHeartbeats 4000000 in
set_option maxRecDepth 100000 in
theorem wt_X12_valueAt {p : Program} {l : Launch} {e : Env} {s : State} {m : MethodId} {args : Array Value} {below : List Frame} {meth : Method} {c : Code} {A : Nat → Prop} {Q : State → Prop} {D : va_G} {cy : Nat → ClassId} (o : Nat) (d : Nat → Nat) (letters_ : Int32) (tests_ : Int32) (inputLength_ : Int32) (at_ : Int32) (signed_ : Int32) (newParts_ : Int32) (machineParts_ : Int32) (firstParts_ : Int32) (firstTruth_ : Int32) (secondTruth_ : Int32) (isPair_ : Int32) (states_ : Int32) (stateClasses_ : Int32) (elements_ : Int32) (cursor_ : Int32) (hasSnapshot_ : Int32) (isSaving_ : Int32) (machineLength_ : Nat → Int32) (codeA_ : Nat → Int64) (codeB_ : Nat → Int64)  (x1 : Int32) (x2 : Int32) (out : Int32) (X : Cx p m c cX12_valueAt 5 s args wsX12_valueAt RX12 A D cy (RO_X12_valueAt cy o d letters_ tests_ inputLength_ at_ signed_ newParts_ machineParts_ firstParts_ firstTruth_ secondTruth_ isPair_ states_ stateClasses_ elements_ cursor_ hasSnapshot_ isSaving_ machineLength_ codeA_ codeB_)) (h : f_X12_valueAt x1 x2 machineLength_ codeA_ codeB_ = some out) (K : ∀ (H : Heap) (locs : List Loc) (ls : Array Slot) (pc : Nat), decode cX12_valueAt pc = .ok (.ireturn, 1) → St A D s (RW_X12_valueAt cy o d) H locs → W p l e rm_X12_valueAt s m args below meth c H locs 0 0 Q (F0 m pc ls [.int out])) : ∀ (H : Heap) (locs : List Loc) (ls : Array Slot), St A D s (RW_X12_valueAt cy o d) H locs → lv_has ls 5 [(0, .ref o), (1, .int x1), (2, .int x2)] → W p l e rm_X12_valueAt s m args below meth c H locs 0 0 Q (F0 m 0 ls []) := by
  intro H locs ls Z hl
  have hx := X.1.1
  have hb := X.1.2.1
  unfold f_X12_valueAt at h
  refine lv_iload_n hx hb dX12_valueAt_0 rfl (lv_at hl 2 rfl) ?_
  refine lv_iconst (v := (4 : Int32)) hx hb dX12_valueAt_1 (by decide) ?_
  refine lv_icmp_ge (tgt := 14) hx hb dX12_valueAt_2 (by decide) (fun cnd => ?_) (fun cnd => ?_)
  · replace h := ifp h cnd
    refine lv_aload_n hx hb dX12_valueAt_14 rfl (lv_at hl 0 rfl) ?_
    refine x_getO X Z 0 42 (v := .ref (d 42)) rfl rfl lk_X12_valueAt_X12_codeB dX12_valueAt_15 ?_
    refine lv_iload_n hx hb dX12_valueAt_18 rfl (lv_at hl 1 rfl) ?_
    obtain ⟨hin17, v18, hv19, h⟩ := ld_b h
    refine x_laldO X Z 3 rfl hin17 hv19 dX12_valueAt_19 ?_
    exact jw_X12_valueAt_20 o d letters_ tests_ inputLength_ at_ signed_ newParts_ machineParts_ firstParts_ firstTruth_ secondTruth_ isPair_ states_ stateClasses_ elements_ cursor_ hasSnapshot_ isSaving_ machineLength_ codeA_ codeB_ x2 v18 _ X h K H locs ls Z (lv_sub hl [0, 2] rfl)
  · replace h := ifn h cnd
    refine lv_aload_n hx hb dX12_valueAt_5 rfl (lv_at hl 0 rfl) ?_
    refine x_getO X Z 0 41 (v := .ref (d 41)) rfl rfl lk_X12_valueAt_X12_codeA dX12_valueAt_6 ?_
    refine lv_iload_n hx hb dX12_valueAt_9 rfl (lv_at hl 1 rfl) ?_
    obtain ⟨hin20, v21, hv22, h⟩ := ld_b h
    refine x_laldO X Z 2 rfl hin20 hv22 dX12_valueAt_10 ?_
    refine lv_goto (tgt := 20) hx hb dX12_valueAt_11 (by decide) ?_
    exact jw_X12_valueAt_20 o d letters_ tests_ inputLength_ at_ signed_ newParts_ machineParts_ firstParts_ firstTruth_ secondTruth_ isPair_ states_ stateClasses_ elements_ cursor_ hasSnapshot_ isSaving_ machineLength_ codeA_ codeB_ x2 v21 _ X h K H locs ls Z (lv_sub hl [0, 2] rfl)
theorem c_X12_valueAt (l : Launch) (D : va_G) (cy : Nat → ClassId) (o : Nat) (d : Nat → Nat) (letters_ : Int32) (tests_ : Int32) (inputLength_ : Int32) (at_ : Int32) (signed_ : Int32) (newParts_ : Int32) (machineParts_ : Int32) (firstParts_ : Int32) (firstTruth_ : Int32) (secondTruth_ : Int32) (isPair_ : Int32) (states_ : Int32) (stateClasses_ : Int32) (elements_ : Int32) (cursor_ : Int32) (hasSnapshot_ : Int32) (isSaving_ : Int32) (machineLength_ : Nat → Int32) (codeA_ : Nat → Int64) (codeB_ : Nat → Int64)  (x1 : Int32) (x2 : Int32) (out : Int32) (h : f_X12_valueAt x1 x2 machineLength_ codeA_ codeB_ = some out) : CtI l yX12_valueAt wsX12_valueAt rm_X12_valueAt D cy [.ref o, .int x1, .int x2] (RW_X12_valueAt cy o d) (RO_X12_valueAt cy o d letters_ tests_ inputLength_ at_ signed_ newParts_ machineParts_ firstParts_ firstTruth_ secondTruth_ isPair_ states_ stateClasses_ elements_ cursor_ hasSnapshot_ isSaving_ machineLength_ codeA_ codeB_) (RW_X12_valueAt cy o d) out :=
  mk_i (ty := .int) (by decide) rfl rfl (Nat.le_of_ble_eq_true rfl) (fun p e s m args below meth c A Q X K H locs ls Z hl => wt_X12_valueAt o d letters_ tests_ inputLength_ at_ signed_ newParts_ machineParts_ firstParts_ firstTruth_ secondTruth_ isPair_ states_ stateClasses_ elements_ cursor_ hasSnapshot_ isSaving_ machineLength_ codeA_ codeB_ x1 x2 out X h K H locs ls Z hl)
/-! SubwordCounterModel answerAt (IZ)I -/
abbrev rm_X12_answerAt : Room := { frames := 2, cells := 0, slots := 0, locals := 49 }
def RW_X12_answerAt (cy : Nat → ClassId) (o : Nat) (d : Nat → Nat)  : va_W := []
def RO_X12_answerAt (cy : Nat → ClassId) (o : Nat) (d : Nat → Nat) (letters_ : Int32) (tests_ : Int32) (inputLength_ : Int32) (at_ : Int32) (signed_ : Int32) (newParts_ : Int32) (machineParts_ : Int32) (firstParts_ : Int32) (firstTruth_ : Int32) (secondTruth_ : Int32) (isPair_ : Int32) (states_ : Int32) (stateClasses_ : Int32) (elements_ : Int32) (cursor_ : Int32) (hasSnapshot_ : Int32) (isSaving_ : Int32) (machineLength_ : Nat → Int32) (machineValue_ : Nat → Int32) (codeA_ : Nat → Int64) (codeB_ : Nat → Int64) : va_W := [(o, ob 11 (oX12 d letters_ tests_ inputLength_ at_ signed_ newParts_ machineParts_ firstParts_ firstTruth_ secondTruth_ isPair_ states_ stateClasses_ elements_ cursor_ hasSnapshot_ isSaving_)), ((d 32), aI cy 8 machineLength_), ((d 33), aI cy 8 machineValue_), ((d 41), aJ cy 2000 codeA_), ((d 42), aJ cy 2000 codeB_)]
theorem in_X12_answerAt_X12 : ∀ w ∈ u_ws RX12 TX12 68, w ∈ wsX12_answerAt := fun w h => (List.mem_cons_of_mem _ (List.mem_append_right _ h))
theorem lk_X12_answerAt_X12_machineParts : Lk wsX12_answerAt RX12 244 11 36 := ⟨RX12, TX12, 68, rfl, by decide, in_X12_answerAt_X12, mem_at 1 rfl⟩
theorem lk_X12_answerAt_X12_machineValue : Lk wsX12_answerAt RX12 95 11 33 := ⟨RX12, TX12, 68, rfl, by decide, in_X12_answerAt_X12, mem_at 2 rfl⟩
theorem lk_X12_answerAt_X12_firstTruth : Lk wsX12_answerAt RX12 291 11 38 := ⟨RX12, TX12, 68, rfl, by decide, in_X12_answerAt_X12, mem_at 3 rfl⟩
theorem lk_X12_answerAt_X12_firstParts : Lk wsX12_answerAt RX12 294 11 37 := ⟨RX12, TX12, 68, rfl, by decide, in_X12_answerAt_X12, mem_at 4 rfl⟩
theorem lk_X12_answerAt_X12_isPair : Lk wsX12_answerAt RX12 297 11 40 := ⟨RX12, TX12, 68, rfl, by decide, in_X12_answerAt_X12, mem_at 5 rfl⟩
theorem lk_X12_answerAt_X12_secondTruth : Lk wsX12_answerAt RX12 301 11 39 := ⟨RX12, TX12, 68, rfl, by decide, in_X12_answerAt_X12, mem_at 6 rfl⟩
def b_X12_answerAt_16 (machineParts_ : Int32) (machineLength_ : Nat → Int32) (machineValue_ : Nat → Int32) (codeA_ : Nat → Int64) (codeB_ : Nat → Int64) (x1 : Int32)  (x3 : Int32) (x4 : Int32) : Option ((Int32 × Int32) ⊕ (Int32)) :=
  if machineParts_ ≤ x4 then
  (some (.inr x3))
  else
  ((f_X12_valueAt x1 x4 machineLength_ codeA_ codeB_).bind (fun u1 =>
  ldA machineValue_ 8 x4 (fun v4 =>
  if u1 = v4 then
  (some (.inl ((x3 ||| ((1 : Int32) <<< (x4 &&& 31))), (x4 + (1 : Int32)))))
  else
  (some (.inl ((x3 ||| (0 : Int32)), (x4 + (1 : Int32))))))))
set_option maxHeartbeats 4000000 in
set_option maxRecDepth 100000 in
theorem wb_X12_answerAt_16 {p : Program} {l : Launch} {e : Env} {s : State} {m : MethodId} {args : Array Value} {below : List Frame} {meth : Method} {c : Code} {A : Nat → Prop} {Q : State → Prop} {D : va_G} {cy : Nat → ClassId} (o : Nat) (d : Nat → Nat) (letters_ : Int32) (tests_ : Int32) (inputLength_ : Int32) (at_ : Int32) (signed_ : Int32) (newParts_ : Int32) (machineParts_ : Int32) (firstParts_ : Int32) (firstTruth_ : Int32) (secondTruth_ : Int32) (isPair_ : Int32) (states_ : Int32) (stateClasses_ : Int32) (elements_ : Int32) (cursor_ : Int32) (hasSnapshot_ : Int32) (isSaving_ : Int32) (machineLength_ : Nat → Int32) (machineValue_ : Nat → Int32) (codeA_ : Nat → Int64) (codeB_ : Nat → Int64)  (x1 : Int32)  (x3 : Int32) (x4 : Int32) (o1 : (Int32 × Int32) ⊕ (Int32)) (X : Cx p m c cX12_answerAt 5 s args wsX12_answerAt RX12 A D cy (RO_X12_answerAt cy o d letters_ tests_ inputLength_ at_ signed_ newParts_ machineParts_ firstParts_ firstTruth_ secondTruth_ isPair_ states_ stateClasses_ elements_ cursor_ hasSnapshot_ isSaving_ machineLength_ machineValue_ codeA_ codeB_)) (h : b_X12_answerAt_16 machineParts_ machineLength_ machineValue_ codeA_ codeB_ x1 x3 x4 = some o1) (K : Sum.elim (fun v : Int32 × Int32 => ∀ (H : Heap) (locs : List Loc) (ls : Array Slot), St A D s (RW_X12_answerAt cy o d) H locs → lv_has ls 5 [(0, .ref o), (1, .int x1), (3, .int v.1), (4, .int v.2)] → W p l e rm_X12_answerAt s m args below meth c H locs 0 0 Q (F0 m 16 ls [])) (fun v : Int32 => ∀ (H : Heap) (locs : List Loc) (ls : Array Slot), St A D s (RW_X12_answerAt cy o d) H locs → lv_has ls 5 [(0, .ref o), (3, .int v)] → W p l e rm_X12_answerAt s m args below meth c H locs 0 0 Q (F0 m 59 ls [])) o1) : ∀ (H : Heap) (locs : List Loc) (ls : Array Slot), St A D s (RW_X12_answerAt cy o d) H locs → lv_has ls 5 [(0, .ref o), (1, .int x1), (3, .int x3), (4, .int x4)] → W p l e rm_X12_answerAt s m args below meth c H locs 0 0 Q (F0 m 16 ls []) := by
  intro H locs ls Z hl
  have hx := X.1.1
  have hb := X.1.2.1
  unfold b_X12_answerAt_16 at h
  refine lv_iload hx hb dX12_answerAt_16 (lv_at hl 3 rfl) ?_
  refine lv_aload_n hx hb dX12_answerAt_18 rfl (lv_at hl 0 rfl) ?_
  refine x_getO X Z 0 36 (v := .int machineParts_) rfl rfl lk_X12_answerAt_X12_machineParts dX12_answerAt_19 ?_
  refine lv_icmp_ge (tgt := 59) hx hb dX12_answerAt_22 (by decide) (fun cnd => ?_) (fun cnd => ?_)
  · replace h := ifp h cnd
    obtain rfl := Option.some.inj h
    exact (sk_r K) H locs ls Z (lv_sub hl [0, 2] rfl)
  · replace h := ifn h cnd
    refine lv_iload_n hx hb dX12_answerAt_25 rfl (lv_at hl 2 rfl) ?_
    refine lv_aload_n hx hb dX12_answerAt_26 rfl (lv_at hl 0 rfl) ?_
    refine lv_iload_n hx hb dX12_answerAt_27 rfl (lv_at hl 1 rfl) ?_
    refine lv_iload hx hb dX12_answerAt_28 (lv_at hl 3 rfl) ?_
    obtain ⟨u1, hc2, h⟩ := ob_some h
    refine x_runVi (RW' := (RW_X12_answerAt cy o d)) (wr := []) (isC := []) (isR := []) (isF := []) (rest := [.int x3]) (As := [.int x1, .int x4]) (n := 2) X Z (c_X12_valueAt l D cy o d letters_ tests_ inputLength_ at_ signed_ newParts_ machineParts_ firstParts_ firstTruth_ secondTruth_ isPair_ states_ stateClasses_ elements_ cursor_ hasSnapshot_ isSaving_ machineLength_ codeA_ codeB_ x1 x4 u1 hc2) gX12_answerAt_X12_valueAt rfl (by decide +kernel) ⟨Nat.le_of_ble_eq_true rfl, Nat.le_of_ble_eq_true rfl⟩ ⟨rfl, rfl⟩ ⟨Nat.le_of_ble_eq_true rfl, Nat.le_of_ble_eq_true rfl⟩ (x_rvO X Z 0 rfl rfl) ⟨rfl, rfl, (roC (Or.inr (mem_at 0 rfl)) (roC (Or.inr (mem_at 1 rfl)) (roC (Or.inr (mem_at 3 rfl)) (roC (Or.inr (mem_at 4 rfl)) roN)))), rfl, rfl, by decide⟩ ⟨rfl, rfl⟩ rfl hl.1 rfl (Nat.le_of_ble_eq_true rfl) dX12_answerAt_30 (fun H locs Z => ?_)
    refine lv_aload_n hx hb dX12_answerAt_33 rfl (lv_at hl 0 rfl) ?_
    refine x_getO X Z 0 33 (v := .ref (d 33)) rfl rfl lk_X12_answerAt_X12_machineValue dX12_answerAt_34 ?_
    refine lv_iload hx hb dX12_answerAt_37 (lv_at hl 3 rfl) ?_
    obtain ⟨hin3, v4, hv5, h⟩ := ld_b h
    refine x_ialdO X Z 2 rfl hin3 hv5 dX12_answerAt_39 ?_
    refine lv_icmp_ne (tgt := 50) hx hb dX12_answerAt_40 (by decide) (fun cnd => ?_) (fun cnd => ?_)
    · replace h := ifn h cnd
      refine lv_iconst (v := (0 : Int32)) hx hb dX12_answerAt_50 (by decide) ?_
      refine lv_ior hx hb dX12_answerAt_51 ?_
      refine lv_istore_n (lv' := [(3, .int (x3 ||| (0 : Int32))), (0, .ref o), (1, .int x1), (4, .int x4)]) hx hb dX12_answerAt_52 rfl hl (by decide) rfl (fun ls hl => ?_)
      refine lv_iinc (v := (x4 + (1 : Int32))) (lv' := [(4, .int (x4 + (1 : Int32))), (3, .int (x3 ||| (0 : Int32))), (0, .ref o), (1, .int x1)]) hx hb dX12_answerAt_53 hl (k := 3) rfl rfl (by decide) rfl (fun ls hl => ?_)
      refine lv_goto (tgt := 16) hx hb dX12_answerAt_56 (by decide) ?_
      obtain rfl := Option.some.inj h
      exact sk_l K H locs ls Z (lv_sub hl [2, 3, 1, 0] rfl)
    · replace h := ifp h cnd
      refine lv_iconst (v := (1 : Int32)) hx hb dX12_answerAt_43 (by decide) ?_
      refine lv_iload hx hb dX12_answerAt_44 (lv_at hl 3 rfl) ?_
      refine lv_ishl hx hb dX12_answerAt_46 ?_
      refine lv_goto (tgt := 51) hx hb dX12_answerAt_47 (by decide) ?_
      refine lv_ior hx hb dX12_answerAt_51 ?_
      refine lv_istore_n (lv' := [(3, .int (x3 ||| ((1 : Int32) <<< (x4 &&& 31)))), (0, .ref o), (1, .int x1), (4, .int x4)]) hx hb dX12_answerAt_52 rfl hl (by decide) rfl (fun ls hl => ?_)
      refine lv_iinc (v := (x4 + (1 : Int32))) (lv' := [(4, .int (x4 + (1 : Int32))), (3, .int (x3 ||| ((1 : Int32) <<< (x4 &&& 31)))), (0, .ref o), (1, .int x1)]) hx hb dX12_answerAt_53 hl (k := 3) rfl rfl (by decide) rfl (fun ls hl => ?_)
      refine lv_goto (tgt := 16) hx hb dX12_answerAt_56 (by decide) ?_
      obtain rfl := Option.some.inj h
      exact sk_l K H locs ls Z (lv_sub hl [2, 3, 1, 0] rfl)
set_option maxHeartbeats 4000000 in
set_option maxRecDepth 100000 in
theorem wl_X12_answerAt_16 {p : Program} {l : Launch} {e : Env} {s : State} {m : MethodId} {args : Array Value} {below : List Frame} {meth : Method} {c : Code} {A : Nat → Prop} {Q : State → Prop} {D : va_G} {cy : Nat → ClassId} (o : Nat) (d : Nat → Nat) (letters_ : Int32) (tests_ : Int32) (inputLength_ : Int32) (at_ : Int32) (signed_ : Int32) (newParts_ : Int32) (machineParts_ : Int32) (firstParts_ : Int32) (firstTruth_ : Int32) (secondTruth_ : Int32) (isPair_ : Int32) (states_ : Int32) (stateClasses_ : Int32) (elements_ : Int32) (cursor_ : Int32) (hasSnapshot_ : Int32) (isSaving_ : Int32) (machineLength_ : Nat → Int32) (machineValue_ : Nat → Int32) (codeA_ : Nat → Int64) (codeB_ : Nat → Int64)  (x1 : Int32) (n : Nat) (v : Int32 × Int32) (x : Int32) (X : Cx p m c cX12_answerAt 5 s args wsX12_answerAt RX12 A D cy (RO_X12_answerAt cy o d letters_ tests_ inputLength_ at_ signed_ newParts_ machineParts_ firstParts_ firstTruth_ secondTruth_ isPair_ states_ stateClasses_ elements_ cursor_ hasSnapshot_ isSaving_ machineLength_ machineValue_ codeA_ codeB_)) (h : loopN (fun v => b_X12_answerAt_16 machineParts_ machineLength_ machineValue_ codeA_ codeB_ x1 v.1 v.2) n v = some x) (K : ∀ (H : Heap) (locs : List Loc) (ls : Array Slot), St A D s (RW_X12_answerAt cy o d) H locs → lv_has ls 5 [(0, .ref o), (3, .int x)] → W p l e rm_X12_answerAt s m args below meth c H locs 0 0 Q (F0 m 59 ls [])) : ∀ (H : Heap) (locs : List Loc) (ls : Array Slot), St A D s (RW_X12_answerAt cy o d) H locs → lv_has ls 5 [(0, .ref o), (1, .int x1), (3, .int v.1), (4, .int v.2)] → W p l e rm_X12_answerAt s m args below meth c H locs 0 0 Q (F0 m 16 ls []) :=
  loop_gen (B := (fun v => b_X12_answerAt_16 machineParts_ machineLength_ machineValue_ codeA_ codeB_ x1 v.1 v.2)) (Head := fun v : Int32 × Int32 => ∀ (H : Heap) (locs : List Loc) (ls : Array Slot), St A D s (RW_X12_answerAt cy o d) H locs → lv_has ls 5 [(0, .ref o), (1, .int x1), (3, .int v.1), (4, .int v.2)] → W p l e rm_X12_answerAt s m args below meth c H locs 0 0 Q (F0 m 16 ls [])) (Exit := fun v : Int32 => ∀ (H : Heap) (locs : List Loc) (ls : Array Slot), St A D s (RW_X12_answerAt cy o d) H locs → lv_has ls 5 [(0, .ref o), (3, .int v)] → W p l e rm_X12_answerAt s m args below meth c H locs 0 0 Q (F0 m 59 ls [])) (fun v o9 hb1 K1 => wb_X12_answerAt_16 o d letters_ tests_ inputLength_ at_ signed_ newParts_ machineParts_ firstParts_ firstTruth_ secondTruth_ isPair_ states_ stateClasses_ elements_ cursor_ hasSnapshot_ isSaving_ machineLength_ machineValue_ codeA_ codeB_ x1 v.1 v.2 o9 X hb1 K1) n v x h K
def f_X12_answerAt (x1 : Int32) (x2 : Int32) (machineParts_ : Int32) (firstParts_ : Int32) (firstTruth_ : Int32) (secondTruth_ : Int32) (isPair_ : Int32) (machineLength_ : Nat → Int32) (machineValue_ : Nat → Int32) (codeA_ : Nat → Int64) (codeB_ : Nat → Int64) : Option (Int32) :=
  if x2 = 0 then
  ((loopN (fun v => b_X12_answerAt_16 machineParts_ machineLength_ machineValue_ codeA_ codeB_ x1 v.1 v.2) FU ((0 : Int32), (0 : Int32))).bind (fun u6 =>
  if isPair_ = 0 then
  (some ((firstTruth_ >>> ((u6 &&& (((1 : Int32) <<< (firstParts_ &&& 31)) - (1 : Int32))) &&& 31)) &&& (1 : Int32)))
  else
  (some (((firstTruth_ >>> ((u6 &&& (((1 : Int32) <<< (firstParts_ &&& 31)) - (1 : Int32))) &&& 31)) &&& (1 : Int32)) ^^^ ((secondTruth_ >>> ((u6 >>> ((4 : Int32) &&& 31)) &&& 31)) &&& (1 : Int32))))))
  else
  ((f_X12_valueAt x1 (0 : Int32) machineLength_ codeA_ codeB_).bind (fun u8 =>
  some u8))
set_option maxHeartbeats 4000000 in
set_option maxRecDepth 100000 in
theorem wt_X12_answerAt {p : Program} {l : Launch} {e : Env} {s : State} {m : MethodId} {args : Array Value} {below : List Frame} {meth : Method} {c : Code} {A : Nat → Prop} {Q : State → Prop} {D : va_G} {cy : Nat → ClassId} (o : Nat) (d : Nat → Nat) (letters_ : Int32) (tests_ : Int32) (inputLength_ : Int32) (at_ : Int32) (signed_ : Int32) (newParts_ : Int32) (machineParts_ : Int32) (firstParts_ : Int32) (firstTruth_ : Int32) (secondTruth_ : Int32) (isPair_ : Int32) (states_ : Int32) (stateClasses_ : Int32) (elements_ : Int32) (cursor_ : Int32) (hasSnapshot_ : Int32) (isSaving_ : Int32) (machineLength_ : Nat → Int32) (machineValue_ : Nat → Int32) (codeA_ : Nat → Int64) (codeB_ : Nat → Int64)  (x1 : Int32) (x2 : Int32) (out : Int32) (X : Cx p m c cX12_answerAt 5 s args wsX12_answerAt RX12 A D cy (RO_X12_answerAt cy o d letters_ tests_ inputLength_ at_ signed_ newParts_ machineParts_ firstParts_ firstTruth_ secondTruth_ isPair_ states_ stateClasses_ elements_ cursor_ hasSnapshot_ isSaving_ machineLength_ machineValue_ codeA_ codeB_)) (h : f_X12_answerAt x1 x2 machineParts_ firstParts_ firstTruth_ secondTruth_ isPair_ machineLength_ machineValue_ codeA_ codeB_ = some out) (K : ∀ (H : Heap) (locs : List Loc) (ls : Array Slot) (pc : Nat), decode cX12_answerAt pc = .ok (.ireturn, 1) → St A D s (RW_X12_answerAt cy o d) H locs → W p l e rm_X12_answerAt s m args below meth c H locs 0 0 Q (F0 m pc ls [.int out])) : ∀ (H : Heap) (locs : List Loc) (ls : Array Slot), St A D s (RW_X12_answerAt cy o d) H locs → lv_has ls 5 [(0, .ref o), (1, .int x1), (2, .int x2)] → W p l e rm_X12_answerAt s m args below meth c H locs 0 0 Q (F0 m 0 ls []) := by
  intro H locs ls Z hl
  have hx := X.1.1
  have hb := X.1.2.1
  unfold f_X12_answerAt at h
  refine lv_iload_n hx hb dX12_answerAt_0 rfl (lv_at hl 2 rfl) ?_
  refine lv_if_eq (tgt := 11) hx hb dX12_answerAt_1 (by decide) (fun cnd => ?_) (fun cnd => ?_)
  · replace h := ifp h cnd
    refine lv_iconst (v := (0 : Int32)) hx hb dX12_answerAt_11 (by decide) ?_
    refine lv_istore_n (lv' := [(3, .int (0 : Int32)), (0, .ref o), (1, .int x1), (2, .int x2)]) hx hb dX12_answerAt_12 rfl hl (by decide) rfl (fun ls hl => ?_)
    refine lv_iconst (v := (0 : Int32)) hx hb dX12_answerAt_13 (by decide) ?_
    refine lv_istore (lv' := [(4, .int (0 : Int32)), (3, .int (0 : Int32)), (0, .ref o), (1, .int x1), (2, .int x2)]) hx hb dX12_answerAt_14 hl (by decide) rfl (fun ls hl => ?_)
    obtain ⟨u6, hL7, h⟩ := ob_some h
    refine wl_X12_answerAt_16 o d letters_ tests_ inputLength_ at_ signed_ newParts_ machineParts_ firstParts_ firstTruth_ secondTruth_ isPair_ states_ stateClasses_ elements_ cursor_ hasSnapshot_ isSaving_ machineLength_ machineValue_ codeA_ codeB_ x1 FU ((0 : Int32), (0 : Int32)) u6 X hL7 (fun H locs ls Z hl => ?_) H locs ls Z (lv_sub hl [2, 3, 1, 0] rfl)
    refine lv_aload_n hx hb dX12_answerAt_59 rfl (lv_at hl 0 rfl) ?_
    refine x_getO X Z 0 38 (v := .int firstTruth_) rfl rfl lk_X12_answerAt_X12_firstTruth dX12_answerAt_60 ?_
    refine lv_iload_n hx hb dX12_answerAt_63 rfl (lv_at hl 1 rfl) ?_
    refine lv_iconst (v := (1 : Int32)) hx hb dX12_answerAt_64 (by decide) ?_
    refine lv_aload_n hx hb dX12_answerAt_65 rfl (lv_at hl 0 rfl) ?_
    refine x_getO X Z 0 37 (v := .int firstParts_) rfl rfl lk_X12_answerAt_X12_firstParts dX12_answerAt_66 ?_
    refine lv_ishl hx hb dX12_answerAt_69 ?_
    refine lv_iconst (v := (1 : Int32)) hx hb dX12_answerAt_70 (by decide) ?_
    refine lv_isub hx hb dX12_answerAt_71 ?_
    refine lv_iand hx hb dX12_answerAt_72 ?_
    refine lv_ishr hx hb dX12_answerAt_73 ?_
    refine lv_iconst (v := (1 : Int32)) hx hb dX12_answerAt_74 (by decide) ?_
    refine lv_iand hx hb dX12_answerAt_75 ?_
    refine lv_istore (lv' := [(4, .int ((firstTruth_ >>> ((u6 &&& (((1 : Int32) <<< (firstParts_ &&& 31)) - (1 : Int32))) &&& 31)) &&& (1 : Int32))), (0, .ref o), (3, .int u6)]) hx hb dX12_answerAt_76 hl (by decide) rfl (fun ls hl => ?_)
    refine lv_aload_n hx hb dX12_answerAt_78 rfl (lv_at hl 1 rfl) ?_
    refine x_getO X Z 0 40 (v := .int isPair_) rfl rfl lk_X12_answerAt_X12_isPair dX12_answerAt_79 ?_
    refine lv_if_eq (tgt := 101) hx hb dX12_answerAt_82 (by decide) (fun cnd => ?_) (fun cnd => ?_)
    · replace h := ifp h cnd
      refine lv_iload hx hb dX12_answerAt_101 (lv_at hl 0 rfl) ?_
      obtain rfl := Option.some.inj h
      exact K H locs ls _ dX12_answerAt_103 Z
    · replace h := ifn h cnd
      refine lv_iload hx hb dX12_answerAt_85 (lv_at hl 0 rfl) ?_
      refine lv_aload_n hx hb dX12_answerAt_87 rfl (lv_at hl 1 rfl) ?_
      refine x_getO X Z 0 39 (v := .int secondTruth_) rfl rfl lk_X12_answerAt_X12_secondTruth dX12_answerAt_88 ?_
      refine lv_iload_n hx hb dX12_answerAt_91 rfl (lv_at hl 2 rfl) ?_
      refine lv_iconst (v := (4 : Int32)) hx hb dX12_answerAt_92 (by decide) ?_
      refine lv_ishr hx hb dX12_answerAt_93 ?_
      refine lv_ishr hx hb dX12_answerAt_94 ?_
      refine lv_iconst (v := (1 : Int32)) hx hb dX12_answerAt_95 (by decide) ?_
      refine lv_iand hx hb dX12_answerAt_96 ?_
      refine lv_ixor hx hb dX12_answerAt_97 ?_
      refine lv_goto (tgt := 103) hx hb dX12_answerAt_98 (by decide) ?_
      obtain rfl := Option.some.inj h
      exact K H locs ls _ dX12_answerAt_103 Z
  · replace h := ifn h cnd
    refine lv_aload_n hx hb dX12_answerAt_4 rfl (lv_at hl 0 rfl) ?_
    refine lv_iload_n hx hb dX12_answerAt_5 rfl (lv_at hl 1 rfl) ?_
    refine lv_iconst (v := (0 : Int32)) hx hb dX12_answerAt_6 (by decide) ?_
    obtain ⟨u8, hc9, h⟩ := ob_some h
    refine x_runVi (RW' := (RW_X12_answerAt cy o d)) (wr := []) (isC := []) (isR := []) (isF := []) (rest := []) (As := [.int x1, .int (0 : Int32)]) (n := 2) X Z (c_X12_valueAt l D cy o d letters_ tests_ inputLength_ at_ signed_ newParts_ machineParts_ firstParts_ firstTruth_ secondTruth_ isPair_ states_ stateClasses_ elements_ cursor_ hasSnapshot_ isSaving_ machineLength_ codeA_ codeB_ x1 (0 : Int32) u8 hc9) gX12_answerAt_X12_valueAt rfl (by decide +kernel) ⟨Nat.le_of_ble_eq_true rfl, Nat.le_of_ble_eq_true rfl⟩ ⟨rfl, rfl⟩ ⟨Nat.le_of_ble_eq_true rfl, Nat.le_of_ble_eq_true rfl⟩ (x_rvO X Z 0 rfl rfl) ⟨rfl, rfl, (roC (Or.inr (mem_at 0 rfl)) (roC (Or.inr (mem_at 1 rfl)) (roC (Or.inr (mem_at 3 rfl)) (roC (Or.inr (mem_at 4 rfl)) roN)))), rfl, rfl, by decide⟩ ⟨rfl, rfl⟩ rfl hl.1 rfl (Nat.le_of_ble_eq_true rfl) dX12_answerAt_7 (fun H locs Z => ?_)
    obtain rfl := Option.some.inj h
    exact K H locs ls _ dX12_answerAt_10 Z
theorem c_X12_answerAt (l : Launch) (D : va_G) (cy : Nat → ClassId) (o : Nat) (d : Nat → Nat) (letters_ : Int32) (tests_ : Int32) (inputLength_ : Int32) (at_ : Int32) (signed_ : Int32) (newParts_ : Int32) (machineParts_ : Int32) (firstParts_ : Int32) (firstTruth_ : Int32) (secondTruth_ : Int32) (isPair_ : Int32) (states_ : Int32) (stateClasses_ : Int32) (elements_ : Int32) (cursor_ : Int32) (hasSnapshot_ : Int32) (isSaving_ : Int32) (machineLength_ : Nat → Int32) (machineValue_ : Nat → Int32) (codeA_ : Nat → Int64) (codeB_ : Nat → Int64)  (x1 : Int32) (x2 : Int32) (out : Int32) (h : f_X12_answerAt x1 x2 machineParts_ firstParts_ firstTruth_ secondTruth_ isPair_ machineLength_ machineValue_ codeA_ codeB_ = some out) : CtI l yX12_answerAt wsX12_answerAt rm_X12_answerAt D cy [.ref o, .int x1, .int x2] (RW_X12_answerAt cy o d) (RO_X12_answerAt cy o d letters_ tests_ inputLength_ at_ signed_ newParts_ machineParts_ firstParts_ firstTruth_ secondTruth_ isPair_ states_ stateClasses_ elements_ cursor_ hasSnapshot_ isSaving_ machineLength_ machineValue_ codeA_ codeB_) (RW_X12_answerAt cy o d) out :=
  mk_i (ty := .int) (by decide) rfl rfl (Nat.le_of_ble_eq_true rfl) (fun p e s m args below meth c A Q X K H locs ls Z hl => wt_X12_answerAt o d letters_ tests_ inputLength_ at_ signed_ newParts_ machineParts_ firstParts_ firstTruth_ secondTruth_ isPair_ states_ stateClasses_ elements_ cursor_ hasSnapshot_ isSaving_ machineLength_ machineValue_ codeA_ codeB_ x1 x2 out X h K H locs ls Z hl)
/-! SubwordCounterModel refine ()I -/
abbrev rm_X12_refine : Room := { frames := 1, cells := 0, slots := 0, locals := 26 }
def RW_X12_refine (cy : Nat → ClassId) (o : Nat) (d : Nat → Nat) (keyA_ : Nat → Int64) (keyB_ : Nat → Int64) (found_ : Nat → Int32) (classOf_ : Nat → Int32) (newClass_ : Nat → Int32) (memberOf_ : Nat → Int32) : va_W := [((d 43), aJ cy 8192 keyA_), ((d 44), aJ cy 8192 keyB_), ((d 45), aI cy 8192 found_), ((d 50), aI cy 2000 classOf_), ((d 51), aI cy 2000 newClass_), ((d 52), aI cy 2000 memberOf_)]
def RO_X12_refine (cy : Nat → ClassId) (o : Nat) (d : Nat → Nat) (letters_ : Int32) (tests_ : Int32) (inputLength_ : Int32) (at_ : Int32) (signed_ : Int32) (newParts_ : Int32) (machineParts_ : Int32) (firstParts_ : Int32) (firstTruth_ : Int32) (secondTruth_ : Int32) (isPair_ : Int32) (states_ : Int32) (stateClasses_ : Int32) (elements_ : Int32) (cursor_ : Int32) (hasSnapshot_ : Int32) (isSaving_ : Int32) (next_ : Nat → Int32) : va_W := [(o, ob 11 (oX12 d letters_ tests_ inputLength_ at_ signed_ newParts_ machineParts_ firstParts_ firstTruth_ secondTruth_ isPair_ states_ stateClasses_ elements_ cursor_ hasSnapshot_ isSaving_)), ((d 46), aI cy 6000 next_)]
theorem in_X12_refine_X12 : ∀ w ∈ u_ws RX12 TX12 68, w ∈ wsX12_refine := fun w h => (List.mem_cons_of_mem _ (List.mem_append_right _ h))
theorem lk_X12_refine_X12_states : Lk wsX12_refine RX12 266 11 49 := ⟨RX12, TX12, 68, rfl, by decide, in_X12_refine_X12, mem_at 1 rfl⟩
theorem lk_X12_refine_X12_classOf : Lk wsX12_refine RX12 129 11 50 := ⟨RX12, TX12, 68, rfl, by decide, in_X12_refine_X12, mem_at 4 rfl⟩
theorem lk_X12_refine_X12_newClass : Lk wsX12_refine RX12 132 11 51 := ⟨RX12, TX12, 68, rfl, by decide, in_X12_refine_X12, mem_at 8 rfl⟩
theorem lk_X12_refine_X12_letters : Lk wsX12_refine RX12 7 11 0 := ⟨RX12, TX12, 68, rfl, by decide, in_X12_refine_X12, mem_at 2 rfl⟩
theorem lk_X12_refine_X12_next : Lk wsX12_refine RX12 120 11 46 := ⟨RX12, TX12, 68, rfl, by decide, in_X12_refine_X12, mem_at 5 rfl⟩
theorem lk_X12_refine_X12_found : Lk wsX12_refine RX12 117 11 45 := ⟨RX12, TX12, 68, rfl, by decide, in_X12_refine_X12, mem_at 6 rfl⟩
theorem lk_X12_refine_X12_memberOf : Lk wsX12_refine RX12 135 11 52 := ⟨RX12, TX12, 68, rfl, by decide, in_X12_refine_X12, mem_at 7 rfl⟩
def b_X12_refine_130 (states_ : Int32) (newClass_ : Nat → Int32) (classOf_ : Nat → Int32) (x2 : Int32) : Option (((Nat → Int32) × Int32) ⊕ ((Nat → Int32))) :=
  if states_ ≤ x2 then
  (some (.inr classOf_))
  else
  (ldA newClass_ 2000 x2 (fun v2 =>
  stA classOf_ 2000 x2 v2 (fun classOf_5 =>
  some (.inl (classOf_5, (x2 + (1 : Int32)))))))
set_option maxHeartbeats 4000000 in
set_option maxRecDepth 100000 in
theorem wb_X12_refine_130 {p : Program} {l : Launch} {e : Env} {s : State} {m : MethodId} {args : Array Value} {below : List Frame} {meth : Method} {c : Code} {A : Nat → Prop} {Q : State → Prop} {D : va_G} {cy : Nat → ClassId} (o : Nat) (d : Nat → Nat) (letters_ : Int32) (tests_ : Int32) (inputLength_ : Int32) (at_ : Int32) (signed_ : Int32) (newParts_ : Int32) (machineParts_ : Int32) (firstParts_ : Int32) (firstTruth_ : Int32) (secondTruth_ : Int32) (isPair_ : Int32) (states_ : Int32) (stateClasses_ : Int32) (elements_ : Int32) (cursor_ : Int32) (hasSnapshot_ : Int32) (isSaving_ : Int32) (next_ : Nat → Int32) (keyA_ : Nat → Int64) (keyB_ : Nat → Int64) (found_ : Nat → Int32) (newClass_ : Nat → Int32) (memberOf_ : Nat → Int32) (x1 : Int32) (classOf_ : Nat → Int32) (x2 : Int32) (o1 : ((Nat → Int32) × Int32) ⊕ ((Nat → Int32))) (X : Cx p m c cX12_refine 6 s args wsX12_refine RX12 A D cy (RO_X12_refine cy o d letters_ tests_ inputLength_ at_ signed_ newParts_ machineParts_ firstParts_ firstTruth_ secondTruth_ isPair_ states_ stateClasses_ elements_ cursor_ hasSnapshot_ isSaving_ next_)) (h : b_X12_refine_130 states_ newClass_ classOf_ x2 = some o1) (K : Sum.elim (fun v : (Nat → Int32) × Int32 => ∀ (H : Heap) (locs : List Loc) (ls : Array Slot), St A D s (RW_X12_refine cy o d keyA_ keyB_ found_ v.1 newClass_ memberOf_) H locs → lv_has ls 6 [(0, .ref o), (1, .int x1), (2, .int v.2)] → W p l e rm_X12_refine s m args below meth c H locs 0 0 Q (F0 m 130 ls [])) (fun v : (Nat → Int32) => ∀ (H : Heap) (locs : List Loc) (ls : Array Slot), St A D s (RW_X12_refine cy o d keyA_ keyB_ found_ v newClass_ memberOf_) H locs → lv_has ls 6 [(1, .int x1)] → W p l e rm_X12_refine s m args below meth c H locs 0 0 Q (F0 m 156 ls [])) o1) : ∀ (H : Heap) (locs : List Loc) (ls : Array Slot), St A D s (RW_X12_refine cy o d keyA_ keyB_ found_ classOf_ newClass_ memberOf_) H locs → lv_has ls 6 [(0, .ref o), (1, .int x1), (2, .int x2)] → W p l e rm_X12_refine s m args below meth c H locs 0 0 Q (F0 m 130 ls []) := by
  intro H locs ls Z hl
  have hx := X.1.1
  have hb := X.1.2.1
  unfold b_X12_refine_130 at h
  refine lv_iload_n hx hb dX12_refine_130 rfl (lv_at hl 2 rfl) ?_
  refine lv_aload_n hx hb dX12_refine_131 rfl (lv_at hl 0 rfl) ?_
  refine x_getO X Z 0 49 (v := .int states_) rfl rfl lk_X12_refine_X12_states dX12_refine_132 ?_
  refine lv_icmp_ge (tgt := 156) hx hb dX12_refine_135 (by decide) (fun cnd => ?_) (fun cnd => ?_)
  · replace h := ifp h cnd
    obtain rfl := Option.some.inj h
    exact (sk_r K) H locs ls Z (lv_sub hl [1] rfl)
  · replace h := ifn h cnd
    refine lv_aload_n hx hb dX12_refine_138 rfl (lv_at hl 0 rfl) ?_
    refine x_getO X Z 0 50 (v := .ref (d 50)) rfl rfl lk_X12_refine_X12_classOf dX12_refine_139 ?_
    refine lv_iload_n hx hb dX12_refine_142 rfl (lv_at hl 2 rfl) ?_
    refine lv_aload_n hx hb dX12_refine_143 rfl (lv_at hl 0 rfl) ?_
    refine x_getO X Z 0 51 (v := .ref (d 51)) rfl rfl lk_X12_refine_X12_newClass dX12_refine_144 ?_
    refine lv_iload_n hx hb dX12_refine_147 rfl (lv_at hl 2 rfl) ?_
    obtain ⟨hin1, v2, hv3, h⟩ := ld_b h
    refine x_iald X Z 4 rfl hin1 hv3 dX12_refine_148 ?_
    obtain ⟨hin4, classOf_5, hv6, h⟩ := st_b h
    refine x_iast X Z 3 (RW_X12_refine cy o d keyA_ keyB_ found_ classOf_5 newClass_ memberOf_) rfl hin4 hv6 rfl dX12_refine_149 (fun H locs Z => ?_)
    refine lv_iinc (v := (x2 + (1 : Int32))) (lv' := [(2, .int (x2 + (1 : Int32))), (0, .ref o), (1, .int x1)]) hx hb dX12_refine_150 hl (k := 2) rfl rfl (by decide) rfl (fun ls hl => ?_)
    refine lv_goto (tgt := 130) hx hb dX12_refine_153 (by decide) ?_
    obtain rfl := Option.some.inj h
    exact sk_l K H locs ls Z (lv_sub hl [1, 2, 0] rfl)
set_option maxHeartbeats 4000000 in
set_option maxRecDepth 100000 in
theorem wl_X12_refine_130 {p : Program} {l : Launch} {e : Env} {s : State} {m : MethodId} {args : Array Value} {below : List Frame} {meth : Method} {c : Code} {A : Nat → Prop} {Q : State → Prop} {D : va_G} {cy : Nat → ClassId} (o : Nat) (d : Nat → Nat) (letters_ : Int32) (tests_ : Int32) (inputLength_ : Int32) (at_ : Int32) (signed_ : Int32) (newParts_ : Int32) (machineParts_ : Int32) (firstParts_ : Int32) (firstTruth_ : Int32) (secondTruth_ : Int32) (isPair_ : Int32) (states_ : Int32) (stateClasses_ : Int32) (elements_ : Int32) (cursor_ : Int32) (hasSnapshot_ : Int32) (isSaving_ : Int32) (next_ : Nat → Int32) (keyA_ : Nat → Int64) (keyB_ : Nat → Int64) (found_ : Nat → Int32) (newClass_ : Nat → Int32) (memberOf_ : Nat → Int32) (x1 : Int32) (n : Nat) (v : (Nat → Int32) × Int32) (x : (Nat → Int32)) (X : Cx p m c cX12_refine 6 s args wsX12_refine RX12 A D cy (RO_X12_refine cy o d letters_ tests_ inputLength_ at_ signed_ newParts_ machineParts_ firstParts_ firstTruth_ secondTruth_ isPair_ states_ stateClasses_ elements_ cursor_ hasSnapshot_ isSaving_ next_)) (h : loopN (fun v => b_X12_refine_130 states_ newClass_ v.1 v.2) n v = some x) (K : ∀ (H : Heap) (locs : List Loc) (ls : Array Slot), St A D s (RW_X12_refine cy o d keyA_ keyB_ found_ x newClass_ memberOf_) H locs → lv_has ls 6 [(1, .int x1)] → W p l e rm_X12_refine s m args below meth c H locs 0 0 Q (F0 m 156 ls [])) : ∀ (H : Heap) (locs : List Loc) (ls : Array Slot), St A D s (RW_X12_refine cy o d keyA_ keyB_ found_ v.1 newClass_ memberOf_) H locs → lv_has ls 6 [(0, .ref o), (1, .int x1), (2, .int v.2)] → W p l e rm_X12_refine s m args below meth c H locs 0 0 Q (F0 m 130 ls []) :=
  loop_gen (B := (fun v => b_X12_refine_130 states_ newClass_ v.1 v.2)) (Head := fun v : (Nat → Int32) × Int32 => ∀ (H : Heap) (locs : List Loc) (ls : Array Slot), St A D s (RW_X12_refine cy o d keyA_ keyB_ found_ v.1 newClass_ memberOf_) H locs → lv_has ls 6 [(0, .ref o), (1, .int x1), (2, .int v.2)] → W p l e rm_X12_refine s m args below meth c H locs 0 0 Q (F0 m 130 ls [])) (Exit := fun v : (Nat → Int32) => ∀ (H : Heap) (locs : List Loc) (ls : Array Slot), St A D s (RW_X12_refine cy o d keyA_ keyB_ found_ v newClass_ memberOf_) H locs → lv_has ls 6 [(1, .int x1)] → W p l e rm_X12_refine s m args below meth c H locs 0 0 Q (F0 m 156 ls [])) (fun v o9 hb1 K1 => wb_X12_refine_130 o d letters_ tests_ inputLength_ at_ signed_ newParts_ machineParts_ firstParts_ firstTruth_ secondTruth_ isPair_ states_ stateClasses_ elements_ cursor_ hasSnapshot_ isSaving_ next_ keyA_ keyB_ found_ newClass_ memberOf_ x1 v.1 v.2 o9 X hb1 K1) n v x h K
def b_X12_refine_21 (letters_ : Int32) (next_ : Nat → Int32) (classOf_ : Nat → Int32) (x2 : Int32)  (x3 : Int64) (x5 : Int32) : Option ((Int64 × Int32) ⊕ (Int64)) :=
  if letters_ ≤ x5 then
  (some (.inr x3))
  else
  (ldA next_ 6000 (((3 : Int32) * x2) + x5) (fun v8 =>
  ldA classOf_ 2000 v8 (fun v11 =>
  some (.inl (((x3 * (2048 : Int64)) + (v11.toInt64)), (x5 + (1 : Int32)))))))
set_option maxHeartbeats 4000000 in
set_option maxRecDepth 100000 in
theorem wb_X12_refine_21 {p : Program} {l : Launch} {e : Env} {s : State} {m : MethodId} {args : Array Value} {below : List Frame} {meth : Method} {c : Code} {A : Nat → Prop} {Q : State → Prop} {D : va_G} {cy : Nat → ClassId} (o : Nat) (d : Nat → Nat) (letters_ : Int32) (tests_ : Int32) (inputLength_ : Int32) (at_ : Int32) (signed_ : Int32) (newParts_ : Int32) (machineParts_ : Int32) (firstParts_ : Int32) (firstTruth_ : Int32) (secondTruth_ : Int32) (isPair_ : Int32) (states_ : Int32) (stateClasses_ : Int32) (elements_ : Int32) (cursor_ : Int32) (hasSnapshot_ : Int32) (isSaving_ : Int32) (next_ : Nat → Int32) (keyA_ : Nat → Int64) (keyB_ : Nat → Int64) (found_ : Nat → Int32) (classOf_ : Nat → Int32) (newClass_ : Nat → Int32) (memberOf_ : Nat → Int32) (x1 : Int32) (x2 : Int32)  (x3 : Int64) (x5 : Int32) (o1 : (Int64 × Int32) ⊕ (Int64)) (X : Cx p m c cX12_refine 6 s args wsX12_refine RX12 A D cy (RO_X12_refine cy o d letters_ tests_ inputLength_ at_ signed_ newParts_ machineParts_ firstParts_ firstTruth_ secondTruth_ isPair_ states_ stateClasses_ elements_ cursor_ hasSnapshot_ isSaving_ next_)) (h : b_X12_refine_21 letters_ next_ classOf_ x2 x3 x5 = some o1) (K : Sum.elim (fun v : Int64 × Int32 => ∀ (H : Heap) (locs : List Loc) (ls : Array Slot), St A D s (RW_X12_refine cy o d keyA_ keyB_ found_ classOf_ newClass_ memberOf_) H locs → lv_has ls 6 [(0, .ref o), (1, .int x1), (2, .int x2), (3, .long v.1), (5, .int v.2)] → W p l e rm_X12_refine s m args below meth c H locs 0 0 Q (F0 m 21 ls [])) (fun v : Int64 => ∀ (H : Heap) (locs : List Loc) (ls : Array Slot), St A D s (RW_X12_refine cy o d keyA_ keyB_ found_ classOf_ newClass_ memberOf_) H locs → lv_has ls 6 [(0, .ref o), (1, .int x1), (2, .int x2), (3, .long v)] → W p l e rm_X12_refine s m args below meth c H locs 0 0 Q (F0 m 60 ls [])) o1) : ∀ (H : Heap) (locs : List Loc) (ls : Array Slot), St A D s (RW_X12_refine cy o d keyA_ keyB_ found_ classOf_ newClass_ memberOf_) H locs → lv_has ls 6 [(0, .ref o), (1, .int x1), (2, .int x2), (3, .long x3), (5, .int x5)] → W p l e rm_X12_refine s m args below meth c H locs 0 0 Q (F0 m 21 ls []) := by
  intro H locs ls Z hl
  have hx := X.1.1
  have hb := X.1.2.1
  unfold b_X12_refine_21 at h
  refine lv_iload hx hb dX12_refine_21 (lv_at hl 4 rfl) ?_
  refine lv_aload_n hx hb dX12_refine_23 rfl (lv_at hl 0 rfl) ?_
  refine x_getO X Z 0 0 (v := .int letters_) rfl rfl lk_X12_refine_X12_letters dX12_refine_24 ?_
  refine lv_icmp_ge (tgt := 60) hx hb dX12_refine_27 (by decide) (fun cnd => ?_) (fun cnd => ?_)
  · replace h := ifp h cnd
    obtain rfl := Option.some.inj h
    exact (sk_r K) H locs ls Z (lv_sub hl [0, 1, 2, 3] rfl)
  · replace h := ifn h cnd
    refine lv_lload_n hx hb dX12_refine_30 rfl (lv_at hl 3 rfl) ?_
    refine lv_ldc2 (v := (2048 : Int64)) hx hb X.1.2.2.2.1 (X.1.2.2.2.2 _ (mem_at 3 rfl)) dX12_refine_31 ?_
    refine lv_lmul hx hb dX12_refine_34 ?_
    refine lv_aload_n hx hb dX12_refine_35 rfl (lv_at hl 0 rfl) ?_
    refine x_getO X Z 0 50 (v := .ref (d 50)) rfl rfl lk_X12_refine_X12_classOf dX12_refine_36 ?_
    refine lv_aload_n hx hb dX12_refine_39 rfl (lv_at hl 0 rfl) ?_
    refine x_getO X Z 0 46 (v := .ref (d 46)) rfl rfl lk_X12_refine_X12_next dX12_refine_40 ?_
    refine lv_iconst (v := (3 : Int32)) hx hb dX12_refine_43 (by decide) ?_
    refine lv_iload_n hx hb dX12_refine_44 rfl (lv_at hl 2 rfl) ?_
    refine lv_imul hx hb dX12_refine_45 ?_
    refine lv_iload hx hb dX12_refine_46 (lv_at hl 4 rfl) ?_
    refine lv_iadd hx hb dX12_refine_48 ?_
    obtain ⟨hin7, v8, hv9, h⟩ := ld_b h
    refine x_ialdO X Z 1 rfl hin7 hv9 dX12_refine_49 ?_
    obtain ⟨hin10, v11, hv12, h⟩ := ld_b h
    refine x_iald X Z 3 rfl hin10 hv12 dX12_refine_50 ?_
    refine lv_i2l (v := (v11.toInt64)) hx hb dX12_refine_51 rfl ?_
    refine lv_ladd hx hb dX12_refine_52 ?_
    refine lv_lstore_n (lv' := [(3, .long ((x3 * (2048 : Int64)) + (v11.toInt64))), (0, .ref o), (1, .int x1), (2, .int x2), (5, .int x5)]) hx hb dX12_refine_53 rfl hl (by decide) rfl (fun ls hl => ?_)
    refine lv_iinc (v := (x5 + (1 : Int32))) (lv' := [(5, .int (x5 + (1 : Int32))), (3, .long ((x3 * (2048 : Int64)) + (v11.toInt64))), (0, .ref o), (1, .int x1), (2, .int x2)]) hx hb dX12_refine_54 hl (k := 4) rfl rfl (by decide) rfl (fun ls hl => ?_)
    refine lv_goto (tgt := 21) hx hb dX12_refine_57 (by decide) ?_
    obtain rfl := Option.some.inj h
    exact sk_l K H locs ls Z (lv_sub hl [2, 3, 4, 1, 0] rfl)
set_option maxHeartbeats 4000000 in
set_option maxRecDepth 100000 in
theorem wl_X12_refine_21 {p : Program} {l : Launch} {e : Env} {s : State} {m : MethodId} {args : Array Value} {below : List Frame} {meth : Method} {c : Code} {A : Nat → Prop} {Q : State → Prop} {D : va_G} {cy : Nat → ClassId} (o : Nat) (d : Nat → Nat) (letters_ : Int32) (tests_ : Int32) (inputLength_ : Int32) (at_ : Int32) (signed_ : Int32) (newParts_ : Int32) (machineParts_ : Int32) (firstParts_ : Int32) (firstTruth_ : Int32) (secondTruth_ : Int32) (isPair_ : Int32) (states_ : Int32) (stateClasses_ : Int32) (elements_ : Int32) (cursor_ : Int32) (hasSnapshot_ : Int32) (isSaving_ : Int32) (next_ : Nat → Int32) (keyA_ : Nat → Int64) (keyB_ : Nat → Int64) (found_ : Nat → Int32) (classOf_ : Nat → Int32) (newClass_ : Nat → Int32) (memberOf_ : Nat → Int32) (x1 : Int32) (x2 : Int32) (n : Nat) (v : Int64 × Int32) (x : Int64) (X : Cx p m c cX12_refine 6 s args wsX12_refine RX12 A D cy (RO_X12_refine cy o d letters_ tests_ inputLength_ at_ signed_ newParts_ machineParts_ firstParts_ firstTruth_ secondTruth_ isPair_ states_ stateClasses_ elements_ cursor_ hasSnapshot_ isSaving_ next_)) (h : loopN (fun v => b_X12_refine_21 letters_ next_ classOf_ x2 v.1 v.2) n v = some x) (K : ∀ (H : Heap) (locs : List Loc) (ls : Array Slot), St A D s (RW_X12_refine cy o d keyA_ keyB_ found_ classOf_ newClass_ memberOf_) H locs → lv_has ls 6 [(0, .ref o), (1, .int x1), (2, .int x2), (3, .long x)] → W p l e rm_X12_refine s m args below meth c H locs 0 0 Q (F0 m 60 ls [])) : ∀ (H : Heap) (locs : List Loc) (ls : Array Slot), St A D s (RW_X12_refine cy o d keyA_ keyB_ found_ classOf_ newClass_ memberOf_) H locs → lv_has ls 6 [(0, .ref o), (1, .int x1), (2, .int x2), (3, .long v.1), (5, .int v.2)] → W p l e rm_X12_refine s m args below meth c H locs 0 0 Q (F0 m 21 ls []) :=
  loop_gen (B := (fun v => b_X12_refine_21 letters_ next_ classOf_ x2 v.1 v.2)) (Head := fun v : Int64 × Int32 => ∀ (H : Heap) (locs : List Loc) (ls : Array Slot), St A D s (RW_X12_refine cy o d keyA_ keyB_ found_ classOf_ newClass_ memberOf_) H locs → lv_has ls 6 [(0, .ref o), (1, .int x1), (2, .int x2), (3, .long v.1), (5, .int v.2)] → W p l e rm_X12_refine s m args below meth c H locs 0 0 Q (F0 m 21 ls [])) (Exit := fun v : Int64 => ∀ (H : Heap) (locs : List Loc) (ls : Array Slot), St A D s (RW_X12_refine cy o d keyA_ keyB_ found_ classOf_ newClass_ memberOf_) H locs → lv_has ls 6 [(0, .ref o), (1, .int x1), (2, .int x2), (3, .long v)] → W p l e rm_X12_refine s m args below meth c H locs 0 0 Q (F0 m 60 ls [])) (fun v o9 hb1 K1 => wb_X12_refine_21 o d letters_ tests_ inputLength_ at_ signed_ newParts_ machineParts_ firstParts_ firstTruth_ secondTruth_ isPair_ states_ stateClasses_ elements_ cursor_ hasSnapshot_ isSaving_ next_ keyA_ keyB_ found_ classOf_ newClass_ memberOf_ x1 x2 v.1 v.2 o9 X hb1 K1) n v x h K
def j_X12_refine_109 (keyA_ : Nat → Int64) (keyB_ : Nat → Int64) (found_ : Nat → Int32) (newClass_ : Nat → Int32) (memberOf_ : Nat → Int32) (x1 : Int32) (x2 : Int32) (x5 : Int32) : Option (((Nat → Int64) × (Nat → Int64) × (Nat → Int32) × (Nat → Int32) × (Nat → Int32) × Int32 × Int32) ⊕ ((Nat → Int64) × (Nat → Int64) × (Nat → Int32) × (Nat → Int32) × (Nat → Int32) × Int32)) :=
  ldA found_ 8192 x5 (fun v14 =>
  stA newClass_ 2000 x2 v14 (fun newClass_17 =>
  some (.inl (keyA_, keyB_, found_, newClass_17, memberOf_, x1, (x2 + (1 : Int32))))))
set_option maxHeartbeats 4000000 in
set_option maxRecDepth 100000 in
theorem jw_X12_refine_109 {p : Program} {l : Launch} {e : Env} {s : State} {m : MethodId} {args : Array Value} {below : List Frame} {meth : Method} {c : Code} {A : Nat → Prop} {Q : State → Prop} {D : va_G} {cy : Nat → ClassId} (o : Nat) (d : Nat → Nat) (letters_ : Int32) (tests_ : Int32) (inputLength_ : Int32) (at_ : Int32) (signed_ : Int32) (newParts_ : Int32) (machineParts_ : Int32) (firstParts_ : Int32) (firstTruth_ : Int32) (secondTruth_ : Int32) (isPair_ : Int32) (states_ : Int32) (stateClasses_ : Int32) (elements_ : Int32) (cursor_ : Int32) (hasSnapshot_ : Int32) (isSaving_ : Int32) (next_ : Nat → Int32) (keyA_ : Nat → Int64) (keyB_ : Nat → Int64) (found_ : Nat → Int32) (classOf_ : Nat → Int32) (newClass_ : Nat → Int32) (memberOf_ : Nat → Int32) (x1 : Int32) (x2 : Int32) (x5 : Int32) (o1 : ((Nat → Int64) × (Nat → Int64) × (Nat → Int32) × (Nat → Int32) × (Nat → Int32) × Int32 × Int32) ⊕ ((Nat → Int64) × (Nat → Int64) × (Nat → Int32) × (Nat → Int32) × (Nat → Int32) × Int32)) (X : Cx p m c cX12_refine 6 s args wsX12_refine RX12 A D cy (RO_X12_refine cy o d letters_ tests_ inputLength_ at_ signed_ newParts_ machineParts_ firstParts_ firstTruth_ secondTruth_ isPair_ states_ stateClasses_ elements_ cursor_ hasSnapshot_ isSaving_ next_)) (h : j_X12_refine_109 keyA_ keyB_ found_ newClass_ memberOf_ x1 x2 x5 = some o1) (K : Sum.elim (fun v : (Nat → Int64) × (Nat → Int64) × (Nat → Int32) × (Nat → Int32) × (Nat → Int32) × Int32 × Int32 => ∀ (H : Heap) (locs : List Loc) (ls : Array Slot), St A D s (RW_X12_refine cy o d v.1 v.2.1 v.2.2.1 classOf_ v.2.2.2.1 v.2.2.2.2.1) H locs → lv_has ls 6 [(0, .ref o), (1, .int v.2.2.2.2.2.1), (2, .int v.2.2.2.2.2.2)] → W p l e rm_X12_refine s m args below meth c H locs 0 0 Q (F0 m 8 ls [])) (fun v : (Nat → Int64) × (Nat → Int64) × (Nat → Int32) × (Nat → Int32) × (Nat → Int32) × Int32 => ∀ (H : Heap) (locs : List Loc) (ls : Array Slot), St A D s (RW_X12_refine cy o d v.1 v.2.1 v.2.2.1 classOf_ v.2.2.2.1 v.2.2.2.2.1) H locs → lv_has ls 6 [(0, .ref o), (1, .int v.2.2.2.2.2)] → W p l e rm_X12_refine s m args below meth c H locs 0 0 Q (F0 m 128 ls [])) o1) : ∀ (H : Heap) (locs : List Loc) (ls : Array Slot), St A D s (RW_X12_refine cy o d keyA_ keyB_ found_ classOf_ newClass_ memberOf_) H locs → lv_has ls 6 [(0, .ref o), (1, .int x1), (2, .int x2), (5, .int x5)] → W p l e rm_X12_refine s m args below meth c H locs 0 0 Q (F0 m 109 ls []) := by
  intro H locs ls Z hl
  have hx := X.1.1
  have hb := X.1.2.1
  unfold j_X12_refine_109 at h
  refine lv_aload_n hx hb dX12_refine_109 rfl (lv_at hl 0 rfl) ?_
  refine x_getO X Z 0 51 (v := .ref (d 51)) rfl rfl lk_X12_refine_X12_newClass dX12_refine_110 ?_
  refine lv_iload_n hx hb dX12_refine_113 rfl (lv_at hl 2 rfl) ?_
  refine lv_aload_n hx hb dX12_refine_114 rfl (lv_at hl 0 rfl) ?_
  refine x_getO X Z 0 45 (v := .ref (d 45)) rfl rfl lk_X12_refine_X12_found dX12_refine_115 ?_
  refine lv_iload hx hb dX12_refine_118 (lv_at hl 3 rfl) ?_
  obtain ⟨hin13, v14, hv15, h⟩ := ld_b h
  refine x_iald X Z 2 rfl hin13 hv15 dX12_refine_120 ?_
  obtain ⟨hin16, newClass_17, hv18, h⟩ := st_b h
  refine x_iast X Z 4 (RW_X12_refine cy o d keyA_ keyB_ found_ classOf_ newClass_17 memberOf_) rfl hin16 hv18 rfl dX12_refine_121 (fun H locs Z => ?_)
  refine lv_iinc (v := (x2 + (1 : Int32))) (lv' := [(2, .int (x2 + (1 : Int32))), (0, .ref o), (1, .int x1), (5, .int x5)]) hx hb dX12_refine_122 hl (k := 2) rfl rfl (by decide) rfl (fun ls hl => ?_)
  refine lv_goto (tgt := 8) hx hb dX12_refine_125 (by decide) ?_
  obtain rfl := Option.some.inj h
  exact sk_l K H locs ls Z (lv_sub hl [1, 2, 0] rfl)
def b_X12_refine_8 (letters_ : Int32) (states_ : Int32) (next_ : Nat → Int32) (classOf_ : Nat → Int32) (keyA_ : Nat → Int64) (keyB_ : Nat → Int64) (found_ : Nat → Int32) (newClass_ : Nat → Int32) (memberOf_ : Nat → Int32) (x1 : Int32) (x2 : Int32) : Option (((Nat → Int64) × (Nat → Int64) × (Nat → Int32) × (Nat → Int32) × (Nat → Int32) × Int32 × Int32) ⊕ ((Nat → Int64) × (Nat → Int64) × (Nat → Int32) × (Nat → Int32) × (Nat → Int32) × Int32)) :=
  if states_ ≤ x2 then
  (some (.inr (keyA_, keyB_, found_, newClass_, memberOf_, x1)))
  else
  ((loopN (fun v => b_X12_refine_21 letters_ next_ classOf_ x2 v.1 v.2) FU ((0 : Int64), (0 : Int32))).bind (fun u19 =>
  ldA classOf_ 2000 x2 (fun v22 =>
  (f_X12_slotOf u19 (v22.toInt64) keyA_ keyB_ found_).bind (fun u24 =>
  ldA found_ 8192 u24 (fun v27 =>
  if 0 ≤ v27 then
  (j_X12_refine_109 keyA_ keyB_ found_ newClass_ memberOf_ x1 x2 u24)
  else
  (ldA classOf_ 2000 x2 (fun v30 =>
  (f_X12_putKey u24 u19 (v30.toInt64) x1 keyA_ keyB_ found_).bind (fun u32 =>
  stA memberOf_ 2000 x1 x2 (fun memberOf_35 =>
  j_X12_refine_109 u32.1 u32.2.1 u32.2.2 newClass_ memberOf_35 (x1 + (1 : Int32)) x2 u24)))))))))
set_option maxHeartbeats 4000000 in
set_option maxRecDepth 100000 in
theorem wb_X12_refine_8 {p : Program} {l : Launch} {e : Env} {s : State} {m : MethodId} {args : Array Value} {below : List Frame} {meth : Method} {c : Code} {A : Nat → Prop} {Q : State → Prop} {D : va_G} {cy : Nat → ClassId} (o : Nat) (d : Nat → Nat) (letters_ : Int32) (tests_ : Int32) (inputLength_ : Int32) (at_ : Int32) (signed_ : Int32) (newParts_ : Int32) (machineParts_ : Int32) (firstParts_ : Int32) (firstTruth_ : Int32) (secondTruth_ : Int32) (isPair_ : Int32) (states_ : Int32) (stateClasses_ : Int32) (elements_ : Int32) (cursor_ : Int32) (hasSnapshot_ : Int32) (isSaving_ : Int32) (next_ : Nat → Int32) (classOf_ : Nat → Int32) (keyA_ : Nat → Int64) (keyB_ : Nat → Int64) (found_ : Nat → Int32) (newClass_ : Nat → Int32) (memberOf_ : Nat → Int32) (x1 : Int32) (x2 : Int32) (o1 : ((Nat → Int64) × (Nat → Int64) × (Nat → Int32) × (Nat → Int32) × (Nat → Int32) × Int32 × Int32) ⊕ ((Nat → Int64) × (Nat → Int64) × (Nat → Int32) × (Nat → Int32) × (Nat → Int32) × Int32)) (X : Cx p m c cX12_refine 6 s args wsX12_refine RX12 A D cy (RO_X12_refine cy o d letters_ tests_ inputLength_ at_ signed_ newParts_ machineParts_ firstParts_ firstTruth_ secondTruth_ isPair_ states_ stateClasses_ elements_ cursor_ hasSnapshot_ isSaving_ next_)) (h : b_X12_refine_8 letters_ states_ next_ classOf_ keyA_ keyB_ found_ newClass_ memberOf_ x1 x2 = some o1) (K : Sum.elim (fun v : (Nat → Int64) × (Nat → Int64) × (Nat → Int32) × (Nat → Int32) × (Nat → Int32) × Int32 × Int32 => ∀ (H : Heap) (locs : List Loc) (ls : Array Slot), St A D s (RW_X12_refine cy o d v.1 v.2.1 v.2.2.1 classOf_ v.2.2.2.1 v.2.2.2.2.1) H locs → lv_has ls 6 [(0, .ref o), (1, .int v.2.2.2.2.2.1), (2, .int v.2.2.2.2.2.2)] → W p l e rm_X12_refine s m args below meth c H locs 0 0 Q (F0 m 8 ls [])) (fun v : (Nat → Int64) × (Nat → Int64) × (Nat → Int32) × (Nat → Int32) × (Nat → Int32) × Int32 => ∀ (H : Heap) (locs : List Loc) (ls : Array Slot), St A D s (RW_X12_refine cy o d v.1 v.2.1 v.2.2.1 classOf_ v.2.2.2.1 v.2.2.2.2.1) H locs → lv_has ls 6 [(0, .ref o), (1, .int v.2.2.2.2.2)] → W p l e rm_X12_refine s m args below meth c H locs 0 0 Q (F0 m 128 ls [])) o1) : ∀ (H : Heap) (locs : List Loc) (ls : Array Slot), St A D s (RW_X12_refine cy o d keyA_ keyB_ found_ classOf_ newClass_ memberOf_) H locs → lv_has ls 6 [(0, .ref o), (1, .int x1), (2, .int x2)] → W p l e rm_X12_refine s m args below meth c H locs 0 0 Q (F0 m 8 ls []) := by
  intro H locs ls Z hl
  have hx := X.1.1
  have hb := X.1.2.1
  unfold b_X12_refine_8 at h
  refine lv_iload_n hx hb dX12_refine_8 rfl (lv_at hl 2 rfl) ?_
  refine lv_aload_n hx hb dX12_refine_9 rfl (lv_at hl 0 rfl) ?_
  refine x_getO X Z 0 49 (v := .int states_) rfl rfl lk_X12_refine_X12_states dX12_refine_10 ?_
  refine lv_icmp_ge (tgt := 128) hx hb dX12_refine_13 (by decide) (fun cnd => ?_) (fun cnd => ?_)
  · replace h := ifp h cnd
    obtain rfl := Option.some.inj h
    exact (sk_r K) H locs ls Z (lv_sub hl [0, 1] rfl)
  · replace h := ifn h cnd
    refine lv_lconst (v := (0 : Int64)) hx hb dX12_refine_16 (by decide) ?_
    refine lv_lstore_n (lv' := [(3, .long (0 : Int64)), (0, .ref o), (1, .int x1), (2, .int x2)]) hx hb dX12_refine_17 rfl hl (by decide) rfl (fun ls hl => ?_)
    refine lv_iconst (v := (0 : Int32)) hx hb dX12_refine_18 (by decide) ?_
    refine lv_istore (lv' := [(5, .int (0 : Int32)), (3, .long (0 : Int64)), (0, .ref o), (1, .int x1), (2, .int x2)]) hx hb dX12_refine_19 hl (by decide) rfl (fun ls hl => ?_)
    obtain ⟨u19, hL20, h⟩ := ob_some h
    refine wl_X12_refine_21 o d letters_ tests_ inputLength_ at_ signed_ newParts_ machineParts_ firstParts_ firstTruth_ secondTruth_ isPair_ states_ stateClasses_ elements_ cursor_ hasSnapshot_ isSaving_ next_ keyA_ keyB_ found_ classOf_ newClass_ memberOf_ x1 x2 FU ((0 : Int64), (0 : Int32)) u19 X hL20 (fun H locs ls Z hl => ?_) H locs ls Z (lv_sub hl [2, 3, 4, 1, 0] rfl)
    refine lv_aload_n hx hb dX12_refine_60 rfl (lv_at hl 0 rfl) ?_
    refine lv_lload_n hx hb dX12_refine_61 rfl (lv_at hl 3 rfl) ?_
    refine lv_aload_n hx hb dX12_refine_62 rfl (lv_at hl 0 rfl) ?_
    refine x_getO X Z 0 50 (v := .ref (d 50)) rfl rfl lk_X12_refine_X12_classOf dX12_refine_63 ?_
    refine lv_iload_n hx hb dX12_refine_66 rfl (lv_at hl 2 rfl) ?_
    obtain ⟨hin21, v22, hv23, h⟩ := ld_b h
    refine x_iald X Z 3 rfl hin21 hv23 dX12_refine_67 ?_
    refine lv_i2l (v := (v22.toInt64)) hx hb dX12_refine_68 rfl ?_
    obtain ⟨u24, hc25, h⟩ := ob_some h
    refine x_runVi (RW' := (RW_X12_refine cy o d keyA_ keyB_ found_ classOf_ newClass_ memberOf_)) (wr := [((d 43), aJ cy 8192 keyA_), ((d 44), aJ cy 8192 keyB_), ((d 45), aI cy 8192 found_), ((d 50), aI cy 2000 classOf_), ((d 51), aI cy 2000 newClass_), ((d 52), aI cy 2000 memberOf_)]) (isC := []) (isR := [0, 1, 2, 3, 4, 5]) (isF := [0, 1, 2, 3, 4, 5]) (rest := []) (As := [.long u19, .long (v22.toInt64)]) (n := 2) X Z (c_X12_slotOf l D cy o d letters_ tests_ inputLength_ at_ signed_ newParts_ machineParts_ firstParts_ firstTruth_ secondTruth_ isPair_ states_ stateClasses_ elements_ cursor_ hasSnapshot_ isSaving_ keyA_ keyB_ found_ u19 (v22.toInt64) u24 hc25) gX12_refine_X12_slotOf rfl (by decide +kernel) ⟨Nat.le_of_ble_eq_true rfl, Nat.le_of_ble_eq_true rfl⟩ ⟨rfl, rfl⟩ ⟨Nat.le_of_ble_eq_true rfl, Nat.le_of_ble_eq_true rfl⟩ (x_rvO X Z 0 rfl rfl) ⟨rfl, rfl, (roC (Or.inr (mem_at 0 rfl)) (roC (Or.inl (mem_at 0 rfl)) (roC (Or.inl (mem_at 1 rfl)) (roC (Or.inl (mem_at 2 rfl)) roN)))), rfl, rfl, by decide⟩ ⟨rfl, rfl⟩ rfl hl.1 rfl (Nat.le_of_ble_eq_true rfl) dX12_refine_69 (fun H locs Z => ?_)
    refine lv_istore (lv' := [(5, .int u24), (0, .ref o), (1, .int x1), (2, .int x2), (3, .long u19)]) hx hb dX12_refine_72 hl (by decide) rfl (fun ls hl => ?_)
    refine lv_aload_n hx hb dX12_refine_74 rfl (lv_at hl 1 rfl) ?_
    refine x_getO X Z 0 45 (v := .ref (d 45)) rfl rfl lk_X12_refine_X12_found dX12_refine_75 ?_
    refine lv_iload hx hb dX12_refine_78 (lv_at hl 0 rfl) ?_
    obtain ⟨hin26, v27, hv28, h⟩ := ld_b h
    refine x_iald X Z 2 rfl hin26 hv28 dX12_refine_80 ?_
    refine lv_if_ge (tgt := 109) hx hb dX12_refine_81 (by decide) (fun cnd => ?_) (fun cnd => ?_)
    · replace h := ifp h cnd
      exact jw_X12_refine_109 o d letters_ tests_ inputLength_ at_ signed_ newParts_ machineParts_ firstParts_ firstTruth_ secondTruth_ isPair_ states_ stateClasses_ elements_ cursor_ hasSnapshot_ isSaving_ next_ keyA_ keyB_ found_ classOf_ newClass_ memberOf_ x1 x2 u24 _ X h K H locs ls Z (lv_sub hl [1, 2, 3, 0] rfl)
    · replace h := ifn h cnd
      refine lv_aload_n hx hb dX12_refine_84 rfl (lv_at hl 1 rfl) ?_
      refine lv_iload hx hb dX12_refine_85 (lv_at hl 0 rfl) ?_
      refine lv_lload_n hx hb dX12_refine_87 rfl (lv_at hl 4 rfl) ?_
      refine lv_aload_n hx hb dX12_refine_88 rfl (lv_at hl 1 rfl) ?_
      refine x_getO X Z 0 50 (v := .ref (d 50)) rfl rfl lk_X12_refine_X12_classOf dX12_refine_89 ?_
      refine lv_iload_n hx hb dX12_refine_92 rfl (lv_at hl 3 rfl) ?_
      obtain ⟨hin29, v30, hv31, h⟩ := ld_b h
      refine x_iald X Z 3 rfl hin29 hv31 dX12_refine_93 ?_
      refine lv_i2l (v := (v30.toInt64)) hx hb dX12_refine_94 rfl ?_
      refine lv_iload_n hx hb dX12_refine_95 rfl (lv_at hl 2 rfl) ?_
      obtain ⟨u32, hc33, h⟩ := ob_some h
      refine x_runVv (RW' := (RW_X12_refine cy o d u32.1 u32.2.1 u32.2.2 classOf_ newClass_ memberOf_)) (wr := [((d 50), aI cy 2000 classOf_), ((d 51), aI cy 2000 newClass_), ((d 52), aI cy 2000 memberOf_)]) (isC := [0, 1, 2]) (isR := [3, 4, 5]) (isF := [3, 4, 5, 0, 1, 2]) (rest := []) (As := [.int u24, .long u19, .long (v30.toInt64), .int x1]) (n := 4) X Z (c_X12_putKey l D cy o d letters_ tests_ inputLength_ at_ signed_ newParts_ machineParts_ firstParts_ firstTruth_ secondTruth_ isPair_ states_ stateClasses_ elements_ cursor_ hasSnapshot_ isSaving_ keyA_ keyB_ found_ u24 u19 (v30.toInt64) x1 u32 hc33) gX12_refine_X12_putKey rfl (by decide +kernel) ⟨Nat.le_of_ble_eq_true rfl, Nat.le_of_ble_eq_true rfl⟩ ⟨rfl, rfl⟩ ⟨Nat.le_of_ble_eq_true rfl, Nat.le_of_ble_eq_true rfl⟩ (x_rvO X Z 0 rfl rfl) ⟨rfl, rfl, (roC (Or.inr (mem_at 0 rfl)) roN), rfl, rfl, by decide⟩ ⟨rfl, rfl⟩ rfl hl.1 rfl (Nat.le_of_ble_eq_true rfl) dX12_refine_96 (fun H locs Z => ?_)
      refine lv_aload_n hx hb dX12_refine_99 rfl (lv_at hl 1 rfl) ?_
      refine x_getO X Z 0 52 (v := .ref (d 52)) rfl rfl lk_X12_refine_X12_memberOf dX12_refine_100 ?_
      refine lv_iload_n hx hb dX12_refine_103 rfl (lv_at hl 2 rfl) ?_
      refine lv_iload_n hx hb dX12_refine_104 rfl (lv_at hl 3 rfl) ?_
      obtain ⟨hin34, memberOf_35, hv36, h⟩ := st_b h
      refine x_iast X Z 5 (RW_X12_refine cy o d u32.1 u32.2.1 u32.2.2 classOf_ newClass_ memberOf_35) rfl hin34 hv36 rfl dX12_refine_105 (fun H locs Z => ?_)
      refine lv_iinc (v := (x1 + (1 : Int32))) (lv' := [(1, .int (x1 + (1 : Int32))), (5, .int u24), (0, .ref o), (2, .int x2), (3, .long u19)]) hx hb dX12_refine_106 hl (k := 2) rfl rfl (by decide) rfl (fun ls hl => ?_)
      exact jw_X12_refine_109 o d letters_ tests_ inputLength_ at_ signed_ newParts_ machineParts_ firstParts_ firstTruth_ secondTruth_ isPair_ states_ stateClasses_ elements_ cursor_ hasSnapshot_ isSaving_ next_ u32.1 u32.2.1 u32.2.2 classOf_ newClass_ memberOf_35 (x1 + (1 : Int32)) x2 u24 _ X h K H locs ls Z (lv_sub hl [2, 0, 3, 1] rfl)
set_option maxHeartbeats 4000000 in
set_option maxRecDepth 100000 in
theorem wl_X12_refine_8 {p : Program} {l : Launch} {e : Env} {s : State} {m : MethodId} {args : Array Value} {below : List Frame} {meth : Method} {c : Code} {A : Nat → Prop} {Q : State → Prop} {D : va_G} {cy : Nat → ClassId} (o : Nat) (d : Nat → Nat) (letters_ : Int32) (tests_ : Int32) (inputLength_ : Int32) (at_ : Int32) (signed_ : Int32) (newParts_ : Int32) (machineParts_ : Int32) (firstParts_ : Int32) (firstTruth_ : Int32) (secondTruth_ : Int32) (isPair_ : Int32) (states_ : Int32) (stateClasses_ : Int32) (elements_ : Int32) (cursor_ : Int32) (hasSnapshot_ : Int32) (isSaving_ : Int32) (next_ : Nat → Int32) (classOf_ : Nat → Int32) (n : Nat) (v : (Nat → Int64) × (Nat → Int64) × (Nat → Int32) × (Nat → Int32) × (Nat → Int32) × Int32 × Int32) (x : (Nat → Int64) × (Nat → Int64) × (Nat → Int32) × (Nat → Int32) × (Nat → Int32) × Int32) (X : Cx p m c cX12_refine 6 s args wsX12_refine RX12 A D cy (RO_X12_refine cy o d letters_ tests_ inputLength_ at_ signed_ newParts_ machineParts_ firstParts_ firstTruth_ secondTruth_ isPair_ states_ stateClasses_ elements_ cursor_ hasSnapshot_ isSaving_ next_)) (h : loopN (fun v => b_X12_refine_8 letters_ states_ next_ classOf_ v.1 v.2.1 v.2.2.1 v.2.2.2.1 v.2.2.2.2.1 v.2.2.2.2.2.1 v.2.2.2.2.2.2) n v = some x) (K : ∀ (H : Heap) (locs : List Loc) (ls : Array Slot), St A D s (RW_X12_refine cy o d x.1 x.2.1 x.2.2.1 classOf_ x.2.2.2.1 x.2.2.2.2.1) H locs → lv_has ls 6 [(0, .ref o), (1, .int x.2.2.2.2.2)] → W p l e rm_X12_refine s m args below meth c H locs 0 0 Q (F0 m 128 ls [])) : ∀ (H : Heap) (locs : List Loc) (ls : Array Slot), St A D s (RW_X12_refine cy o d v.1 v.2.1 v.2.2.1 classOf_ v.2.2.2.1 v.2.2.2.2.1) H locs → lv_has ls 6 [(0, .ref o), (1, .int v.2.2.2.2.2.1), (2, .int v.2.2.2.2.2.2)] → W p l e rm_X12_refine s m args below meth c H locs 0 0 Q (F0 m 8 ls []) :=
  loop_gen (B := (fun v => b_X12_refine_8 letters_ states_ next_ classOf_ v.1 v.2.1 v.2.2.1 v.2.2.2.1 v.2.2.2.2.1 v.2.2.2.2.2.1 v.2.2.2.2.2.2)) (Head := fun v : (Nat → Int64) × (Nat → Int64) × (Nat → Int32) × (Nat → Int32) × (Nat → Int32) × Int32 × Int32 => ∀ (H : Heap) (locs : List Loc) (ls : Array Slot), St A D s (RW_X12_refine cy o d v.1 v.2.1 v.2.2.1 classOf_ v.2.2.2.1 v.2.2.2.2.1) H locs → lv_has ls 6 [(0, .ref o), (1, .int v.2.2.2.2.2.1), (2, .int v.2.2.2.2.2.2)] → W p l e rm_X12_refine s m args below meth c H locs 0 0 Q (F0 m 8 ls [])) (Exit := fun v : (Nat → Int64) × (Nat → Int64) × (Nat → Int32) × (Nat → Int32) × (Nat → Int32) × Int32 => ∀ (H : Heap) (locs : List Loc) (ls : Array Slot), St A D s (RW_X12_refine cy o d v.1 v.2.1 v.2.2.1 classOf_ v.2.2.2.1 v.2.2.2.2.1) H locs → lv_has ls 6 [(0, .ref o), (1, .int v.2.2.2.2.2)] → W p l e rm_X12_refine s m args below meth c H locs 0 0 Q (F0 m 128 ls [])) (fun v o9 hb1 K1 => wb_X12_refine_8 o d letters_ tests_ inputLength_ at_ signed_ newParts_ machineParts_ firstParts_ firstTruth_ secondTruth_ isPair_ states_ stateClasses_ elements_ cursor_ hasSnapshot_ isSaving_ next_ classOf_ v.1 v.2.1 v.2.2.1 v.2.2.2.1 v.2.2.2.2.1 v.2.2.2.2.2.1 v.2.2.2.2.2.2 o9 X hb1 K1) n v x h K
def f_X12_refine (letters_ : Int32) (states_ : Int32) (next_ : Nat → Int32) (keyA_ : Nat → Int64) (keyB_ : Nat → Int64) (found_ : Nat → Int32) (classOf_ : Nat → Int32) (newClass_ : Nat → Int32) (memberOf_ : Nat → Int32) : Option (Int32 × (Nat → Int64) × (Nat → Int64) × (Nat → Int32) × (Nat → Int32) × (Nat → Int32) × (Nat → Int32)) :=
  (f_X12_clearKeys found_).bind (fun u37 =>
  (loopN (fun v => b_X12_refine_8 letters_ states_ next_ classOf_ v.1 v.2.1 v.2.2.1 v.2.2.2.1 v.2.2.2.2.1 v.2.2.2.2.2.1 v.2.2.2.2.2.2) FU (keyA_, keyB_, u37, newClass_, memberOf_, (0 : Int32), (0 : Int32))).bind (fun u39 =>
  (loopN (fun v => b_X12_refine_130 states_ u39.2.2.2.1 v.1 v.2) FU (classOf_, (0 : Int32))).bind (fun u41 =>
  some (u39.2.2.2.2.2, u39.1, u39.2.1, u39.2.2.1, u41, u39.2.2.2.1, u39.2.2.2.2.1))))
set_option maxHeartbeats 4000000 in
set_option maxRecDepth 100000 in
theorem wt_X12_refine {p : Program} {l : Launch} {e : Env} {s : State} {m : MethodId} {args : Array Value} {below : List Frame} {meth : Method} {c : Code} {A : Nat → Prop} {Q : State → Prop} {D : va_G} {cy : Nat → ClassId} (o : Nat) (d : Nat → Nat) (letters_ : Int32) (tests_ : Int32) (inputLength_ : Int32) (at_ : Int32) (signed_ : Int32) (newParts_ : Int32) (machineParts_ : Int32) (firstParts_ : Int32) (firstTruth_ : Int32) (secondTruth_ : Int32) (isPair_ : Int32) (states_ : Int32) (stateClasses_ : Int32) (elements_ : Int32) (cursor_ : Int32) (hasSnapshot_ : Int32) (isSaving_ : Int32) (next_ : Nat → Int32) (keyA_ : Nat → Int64) (keyB_ : Nat → Int64) (found_ : Nat → Int32) (classOf_ : Nat → Int32) (newClass_ : Nat → Int32) (memberOf_ : Nat → Int32) (out : Int32 × (Nat → Int64) × (Nat → Int64) × (Nat → Int32) × (Nat → Int32) × (Nat → Int32) × (Nat → Int32)) (X : Cx p m c cX12_refine 6 s args wsX12_refine RX12 A D cy (RO_X12_refine cy o d letters_ tests_ inputLength_ at_ signed_ newParts_ machineParts_ firstParts_ firstTruth_ secondTruth_ isPair_ states_ stateClasses_ elements_ cursor_ hasSnapshot_ isSaving_ next_)) (h : f_X12_refine letters_ states_ next_ keyA_ keyB_ found_ classOf_ newClass_ memberOf_ = some out) (K : ∀ (H : Heap) (locs : List Loc) (ls : Array Slot) (pc : Nat), decode cX12_refine pc = .ok (.ireturn, 1) → St A D s (RW_X12_refine cy o d out.2.1 out.2.2.1 out.2.2.2.1 out.2.2.2.2.1 out.2.2.2.2.2.1 out.2.2.2.2.2.2) H locs → W p l e rm_X12_refine s m args below meth c H locs 0 0 Q (F0 m pc ls [.int out.1])) : ∀ (H : Heap) (locs : List Loc) (ls : Array Slot), St A D s (RW_X12_refine cy o d keyA_ keyB_ found_ classOf_ newClass_ memberOf_) H locs → lv_has ls 6 [(0, .ref o)] → W p l e rm_X12_refine s m args below meth c H locs 0 0 Q (F0 m 0 ls []) := by
  intro H locs ls Z hl
  have hx := X.1.1
  have hb := X.1.2.1
  unfold f_X12_refine at h
  refine lv_aload_n hx hb dX12_refine_0 rfl (lv_at hl 0 rfl) ?_
  obtain ⟨u37, hc38, h⟩ := ob_some h
  refine x_runVv (RW' := (RW_X12_refine cy o d keyA_ keyB_ u37 classOf_ newClass_ memberOf_)) (wr := [((d 43), aJ cy 8192 keyA_), ((d 44), aJ cy 8192 keyB_), ((d 50), aI cy 2000 classOf_), ((d 51), aI cy 2000 newClass_), ((d 52), aI cy 2000 memberOf_)]) (isC := [2]) (isR := [0, 1, 3, 4, 5]) (isF := [0, 1, 5, 2, 3, 4]) (rest := []) (As := []) (n := 0) X Z (c_X12_clearKeys l D cy o d letters_ tests_ inputLength_ at_ signed_ newParts_ machineParts_ firstParts_ firstTruth_ secondTruth_ isPair_ states_ stateClasses_ elements_ cursor_ hasSnapshot_ isSaving_ found_ u37 hc38) gX12_refine_X12_clearKeys rfl (by decide +kernel) ⟨Nat.le_of_ble_eq_true rfl, Nat.le_of_ble_eq_true rfl⟩ ⟨rfl, rfl⟩ ⟨Nat.le_of_ble_eq_true rfl, Nat.le_of_ble_eq_true rfl⟩ (x_rvO X Z 0 rfl rfl) ⟨rfl, rfl, (roC (Or.inr (mem_at 0 rfl)) roN), rfl, rfl, by decide⟩ ⟨rfl, rfl⟩ rfl hl.1 rfl (Nat.le_of_ble_eq_true rfl) dX12_refine_1 (fun H locs Z => ?_)
  refine lv_iconst (v := (0 : Int32)) hx hb dX12_refine_4 (by decide) ?_
  refine lv_istore_n (lv' := [(1, .int (0 : Int32)), (0, .ref o)]) hx hb dX12_refine_5 rfl hl (by decide) rfl (fun ls hl => ?_)
  refine lv_iconst (v := (0 : Int32)) hx hb dX12_refine_6 (by decide) ?_
  refine lv_istore_n (lv' := [(2, .int (0 : Int32)), (1, .int (0 : Int32)), (0, .ref o)]) hx hb dX12_refine_7 rfl hl (by decide) rfl (fun ls hl => ?_)
  obtain ⟨u39, hL40, h⟩ := ob_some h
  refine wl_X12_refine_8 o d letters_ tests_ inputLength_ at_ signed_ newParts_ machineParts_ firstParts_ firstTruth_ secondTruth_ isPair_ states_ stateClasses_ elements_ cursor_ hasSnapshot_ isSaving_ next_ classOf_ FU (keyA_, keyB_, u37, newClass_, memberOf_, (0 : Int32), (0 : Int32)) u39 X hL40 (fun H locs ls Z hl => ?_) H locs ls Z (lv_sub hl [2, 1, 0] rfl)
  refine lv_iconst (v := (0 : Int32)) hx hb dX12_refine_128 (by decide) ?_
  refine lv_istore_n (lv' := [(2, .int (0 : Int32)), (0, .ref o), (1, .int u39.2.2.2.2.2)]) hx hb dX12_refine_129 rfl hl (by decide) rfl (fun ls hl => ?_)
  obtain ⟨u41, hL42, h⟩ := ob_some h
  refine wl_X12_refine_130 o d letters_ tests_ inputLength_ at_ signed_ newParts_ machineParts_ firstParts_ firstTruth_ secondTruth_ isPair_ states_ stateClasses_ elements_ cursor_ hasSnapshot_ isSaving_ next_ u39.1 u39.2.1 u39.2.2.1 u39.2.2.2.1 u39.2.2.2.2.1 u39.2.2.2.2.2 FU (classOf_, (0 : Int32)) u41 X hL42 (fun H locs ls Z hl => ?_) H locs ls Z (lv_sub hl [1, 2, 0] rfl)
  refine lv_iload_n hx hb dX12_refine_156 rfl (lv_at hl 0 rfl) ?_
  obtain rfl := Option.some.inj h
  exact K H locs ls _ dX12_refine_157 Z
theorem c_X12_refine (l : Launch) (D : va_G) (cy : Nat → ClassId) (o : Nat) (d : Nat → Nat) (letters_ : Int32) (tests_ : Int32) (inputLength_ : Int32) (at_ : Int32) (signed_ : Int32) (newParts_ : Int32) (machineParts_ : Int32) (firstParts_ : Int32) (firstTruth_ : Int32) (secondTruth_ : Int32) (isPair_ : Int32) (states_ : Int32) (stateClasses_ : Int32) (elements_ : Int32) (cursor_ : Int32) (hasSnapshot_ : Int32) (isSaving_ : Int32) (next_ : Nat → Int32) (keyA_ : Nat → Int64) (keyB_ : Nat → Int64) (found_ : Nat → Int32) (classOf_ : Nat → Int32) (newClass_ : Nat → Int32) (memberOf_ : Nat → Int32) (out : Int32 × (Nat → Int64) × (Nat → Int64) × (Nat → Int32) × (Nat → Int32) × (Nat → Int32) × (Nat → Int32)) (h : f_X12_refine letters_ states_ next_ keyA_ keyB_ found_ classOf_ newClass_ memberOf_ = some out) : CtI l yX12_refine wsX12_refine rm_X12_refine D cy [.ref o] (RW_X12_refine cy o d keyA_ keyB_ found_ classOf_ newClass_ memberOf_) (RO_X12_refine cy o d letters_ tests_ inputLength_ at_ signed_ newParts_ machineParts_ firstParts_ firstTruth_ secondTruth_ isPair_ states_ stateClasses_ elements_ cursor_ hasSnapshot_ isSaving_ next_) (RW_X12_refine cy o d out.2.1 out.2.2.1 out.2.2.2.1 out.2.2.2.2.1 out.2.2.2.2.2.1 out.2.2.2.2.2.2) out.1 :=
  mk_i (ty := .int) (by decide) rfl rfl (Nat.le_of_ble_eq_true rfl) (fun p e s m args below meth c A Q X K H locs ls Z hl => wt_X12_refine o d letters_ tests_ inputLength_ at_ signed_ newParts_ machineParts_ firstParts_ firstTruth_ secondTruth_ isPair_ states_ stateClasses_ elements_ cursor_ hasSnapshot_ isSaving_ next_ keyA_ keyB_ found_ classOf_ newClass_ memberOf_ out X h K H locs ls Z hl)
