set_option linter.unusedVariables false
/-! SubwordCounterModel notLanguage (I)I -/
abbrev rm_X12_notLanguage : Room := { frames := 2, cells := 0, slots := 0, locals := 42 }
def RW_X12_notLanguage (cy : Nat → ClassId) (o : Nat) (d : Nat → Nat)  : va_W := []
def RO_X12_notLanguage (cy : Nat → ClassId) (o : Nat) (d : Nat → Nat) (letters_ : Int32) (tests_ : Int32) (inputLength_ : Int32) (at_ : Int32) (signed_ : Int32) (newParts_ : Int32) (machineParts_ : Int32) (firstParts_ : Int32) (firstTruth_ : Int32) (secondTruth_ : Int32) (isPair_ : Int32) (states_ : Int32) (stateClasses_ : Int32) (elements_ : Int32) (cursor_ : Int32) (hasSnapshot_ : Int32) (isSaving_ : Int32) (form_ : Nat → Int32) : va_W := [(o, ob 11 (oX12 d letters_ tests_ inputLength_ at_ signed_ newParts_ machineParts_ firstParts_ firstTruth_ secondTruth_ isPair_ states_ stateClasses_ elements_ cursor_ hasSnapshot_ isSaving_)), ((d 16), aI cy 4 form_)]
theorem in_X12_notLanguage_X12 : ∀ w ∈ u_ws RX12 TX12 68, w ∈ wsX12_notLanguage := fun w h => (List.mem_cons_of_mem _ (List.mem_append_right _ h))
theorem lk_X12_notLanguage_X12_form : Lk wsX12_notLanguage RX12 47 11 16 := ⟨RX12, TX12, 68, rfl, by decide, in_X12_notLanguage_X12, mem_at 1 rfl⟩
def f_X12_notLanguage (x1 : Int32) (form_ : Nat → Int32) : Option (Int32) :=
  (f_X12_isLanguage x1).bind (fun u1 =>
  if u1 = 0 then
  (some (-1 : Int32))
  else
  (ldA form_ 4 x1 (fun v4 =>
  if 0 ≤ v4 then
  (some (0 : Int32))
  else
  (some (-5 : Int32)))))
set_option maxHeartbeats 4000000 in
set_option maxRecDepth 100000 in
theorem wt_X12_notLanguage {p : Program} {l : Launch} {e : Env} {s : State} {m : MethodId} {args : Array Value} {below : List Frame} {meth : Method} {c : Code} {A : Nat → Prop} {Q : State → Prop} {D : va_G} {cy : Nat → ClassId} (o : Nat) (d : Nat → Nat) (letters_ : Int32) (tests_ : Int32) (inputLength_ : Int32) (at_ : Int32) (signed_ : Int32) (newParts_ : Int32) (machineParts_ : Int32) (firstParts_ : Int32) (firstTruth_ : Int32) (secondTruth_ : Int32) (isPair_ : Int32) (states_ : Int32) (stateClasses_ : Int32) (elements_ : Int32) (cursor_ : Int32) (hasSnapshot_ : Int32) (isSaving_ : Int32) (form_ : Nat → Int32)  (x1 : Int32) (out : Int32) (X : Cx p m c cX12_notLanguage 2 s args wsX12_notLanguage RX12 A D cy (RO_X12_notLanguage cy o d letters_ tests_ inputLength_ at_ signed_ newParts_ machineParts_ firstParts_ firstTruth_ secondTruth_ isPair_ states_ stateClasses_ elements_ cursor_ hasSnapshot_ isSaving_ form_)) (h : f_X12_notLanguage x1 form_ = some out) (K : ∀ (H : Heap) (locs : List Loc) (ls : Array Slot) (pc : Nat), decode cX12_notLanguage pc = .ok (.ireturn, 1) → St A D s (RW_X12_notLanguage cy o d) H locs → W p l e rm_X12_notLanguage s m args below meth c H locs 0 0 Q (F0 m pc ls [.int out])) : ∀ (H : Heap) (locs : List Loc) (ls : Array Slot), St A D s (RW_X12_notLanguage cy o d) H locs → lv_has ls 2 [(0, .ref o), (1, .int x1)] → W p l e rm_X12_notLanguage s m args below meth c H locs 0 0 Q (F0 m 0 ls []) := by
  intro H locs ls Z hl
  have hx := X.1.1
  have hb := X.1.2.1
  unfold f_X12_notLanguage at h
  refine lv_iload_n hx hb dX12_notLanguage_0 rfl (lv_at hl 1 rfl) ?_
  obtain ⟨u1, hc2, h⟩ := ob_some h
  refine x_runSi (RW' := (RW_X12_notLanguage cy o d)) (wr := []) (isC := []) (isR := []) (isF := []) (rest := []) (As := [.int x1]) (n := 1) X Z (c_X12_isLanguage l D cy x1 u1 hc2) gX12_notLanguage_X12_isLanguage rfl (by decide +kernel) ⟨Nat.le_of_ble_eq_true rfl, Nat.le_of_ble_eq_true rfl⟩ ⟨rfl, rfl⟩ ⟨Nat.le_of_ble_eq_true rfl, Nat.le_of_ble_eq_true rfl⟩ ⟨rfl, rfl, roN, rfl, rfl, by decide⟩ ⟨rfl, rfl⟩ rfl hl.1 rfl (Nat.le_of_ble_eq_true rfl) dX12_notLanguage_1 (fun H locs Z => ?_)
  refine lv_if_ne (tgt := 11) hx hb dX12_notLanguage_4 (by decide) (fun cnd => ?_) (fun cnd => ?_)
  · replace h := ifn h cnd
    refine lv_aload_n hx hb dX12_notLanguage_11 rfl (lv_at hl 0 rfl) ?_
    refine x_getO X Z 0 16 (v := .ref (d 16)) rfl rfl lk_X12_notLanguage_X12_form dX12_notLanguage_12 ?_
    refine lv_iload_n hx hb dX12_notLanguage_15 rfl (lv_at hl 1 rfl) ?_
    obtain ⟨hin3, v4, hv5, h⟩ := ld_b h
    refine x_ialdO X Z 1 rfl hin3 hv5 dX12_notLanguage_16 ?_
    refine lv_if_ge (tgt := 25) hx hb dX12_notLanguage_17 (by decide) (fun cnd => ?_) (fun cnd => ?_)
    · replace h := ifp h cnd
      refine lv_iconst (v := (0 : Int32)) hx hb dX12_notLanguage_25 (by decide) ?_
      obtain rfl := Option.some.inj h
      exact K H locs ls _ dX12_notLanguage_26 Z
    · replace h := ifn h cnd
      refine lv_bipush (v := (-5 : Int32)) hx hb dX12_notLanguage_20 (by decide) ?_
      refine lv_goto (tgt := 26) hx hb dX12_notLanguage_22 (by decide) ?_
      obtain rfl := Option.some.inj h
      exact K H locs ls _ dX12_notLanguage_26 Z
  · replace h := ifp h cnd
    refine lv_iconst (v := (-1 : Int32)) hx hb dX12_notLanguage_7 (by decide) ?_
    refine lv_goto (tgt := 26) hx hb dX12_notLanguage_8 (by decide) ?_
    obtain rfl := Option.some.inj h
    exact K H locs ls _ dX12_notLanguage_26 Z
theorem c_X12_notLanguage (l : Launch) (D : va_G) (cy : Nat → ClassId) (o : Nat) (d : Nat → Nat) (letters_ : Int32) (tests_ : Int32) (inputLength_ : Int32) (at_ : Int32) (signed_ : Int32) (newParts_ : Int32) (machineParts_ : Int32) (firstParts_ : Int32) (firstTruth_ : Int32) (secondTruth_ : Int32) (isPair_ : Int32) (states_ : Int32) (stateClasses_ : Int32) (elements_ : Int32) (cursor_ : Int32) (hasSnapshot_ : Int32) (isSaving_ : Int32) (form_ : Nat → Int32)  (x1 : Int32) (out : Int32) (h : f_X12_notLanguage x1 form_ = some out) : CtI l yX12_notLanguage wsX12_notLanguage rm_X12_notLanguage D cy [.ref o, .int x1] (RW_X12_notLanguage cy o d) (RO_X12_notLanguage cy o d letters_ tests_ inputLength_ at_ signed_ newParts_ machineParts_ firstParts_ firstTruth_ secondTruth_ isPair_ states_ stateClasses_ elements_ cursor_ hasSnapshot_ isSaving_ form_) (RW_X12_notLanguage cy o d) out :=
  mk_i (ty := .int) (by decide) rfl rfl (Nat.le_of_ble_eq_true rfl) (fun p e s m args below meth c A Q X K H locs ls Z hl => wt_X12_notLanguage o d letters_ tests_ inputLength_ at_ signed_ newParts_ machineParts_ firstParts_ firstTruth_ secondTruth_ isPair_ states_ stateClasses_ elements_ cursor_ hasSnapshot_ isSaving_ form_ x1 out X h K H locs ls Z hl)
/-! SubwordCounterModel languageStates (I)I -/
abbrev rm_X12_languageStates : Room := { frames := 4, cells := 0, slots := 0, locals := 103 }
def RW_X12_languageStates (cy : Nat → ClassId) (o : Nat) (d : Nat → Nat) (letters_ : Int32) (tests_ : Int32) (inputLength_ : Int32) (at_ : Int32) (signed_ : Int32) (newParts_ : Int32) (machineParts_ : Int32) (firstParts_ : Int32) (firstTruth_ : Int32) (secondTruth_ : Int32) (isPair_ : Int32) (states_ : Int32) (stateClasses_ : Int32) (elements_ : Int32) (cursor_ : Int32) (hasSnapshot_ : Int32) (isSaving_ : Int32) (machineKind_ : Nat → Int32) (machineBound_ : Nat → Int32) (machineLength_ : Nat → Int32) (machineValue_ : Nat → Int32) (machinePattern_ : Nat → Int32) (digit_ : Nat → Int32) (codeA_ : Nat → Int64) (codeB_ : Nat → Int64) (keyA_ : Nat → Int64) (keyB_ : Nat → Int64) (found_ : Nat → Int32) (next_ : Nat → Int32) (before_ : Nat → Int32) (by_ : Nat → Int32) (classOf_ : Nat → Int32) (newClass_ : Nat → Int32) (memberOf_ : Nat → Int32) : va_W := [(o, ob 11 (oX12 d letters_ tests_ inputLength_ at_ signed_ newParts_ machineParts_ firstParts_ firstTruth_ secondTruth_ isPair_ states_ stateClasses_ elements_ cursor_ hasSnapshot_ isSaving_)), ((d 30), aI cy 8 machineKind_), ((d 31), aI cy 8 machineBound_), ((d 32), aI cy 8 machineLength_), ((d 33), aI cy 8 machineValue_), ((d 34), aI cy 32 machinePattern_), ((d 35), aI cy 4 digit_), ((d 41), aJ cy 2000 codeA_), ((d 42), aJ cy 2000 codeB_), ((d 43), aJ cy 8192 keyA_), ((d 44), aJ cy 8192 keyB_), ((d 45), aI cy 8192 found_), ((d 46), aI cy 6000 next_), ((d 47), aI cy 2000 before_), ((d 48), aI cy 2000 by_), ((d 50), aI cy 2000 classOf_), ((d 51), aI cy 2000 newClass_), ((d 52), aI cy 2000 memberOf_)]
def RO_X12_languageStates (cy : Nat → ClassId) (o : Nat) (d : Nat → Nat) (form_ : Nat → Int32) (parts_ : Nat → Int32) (truth_ : Nat → Int32) (partKind_ : Nat → Int32) (partBound_ : Nat → Int32) (partLength_ : Nat → Int32) (partValue_ : Nat → Int32) (partPattern_ : Nat → Int32) : va_W := [((d 16), aI cy 4 form_), ((d 17), aI cy 4 parts_), ((d 18), aI cy 4 truth_), ((d 19), aI cy 16 partKind_), ((d 20), aI cy 16 partBound_), ((d 21), aI cy 16 partLength_), ((d 22), aI cy 16 partValue_), ((d 23), aI cy 64 partPattern_)]
theorem in_X12_languageStates_X12 : ∀ w ∈ u_ws RX12 TX12 68, w ∈ wsX12_languageStates := fun w h => (List.mem_cons_of_mem _ (List.mem_append_right _ h))
theorem lk_X12_languageStates_X12_stateClasses : Lk wsX12_languageStates RX12 310 11 53 := ⟨RX12, TX12, 68, rfl, by decide, in_X12_languageStates_X12, mem_at 1 rfl⟩
def f_X12_languageStates (x1 : Int32) (form_ : Nat → Int32) (parts_ : Nat → Int32) (truth_ : Nat → Int32) (partKind_ : Nat → Int32) (partBound_ : Nat → Int32) (partLength_ : Nat → Int32) (partValue_ : Nat → Int32) (partPattern_ : Nat → Int32) (letters_ : Int32) (secondTruth_ : Int32) (machineParts_ : Int32) (firstParts_ : Int32) (firstTruth_ : Int32) (isPair_ : Int32) (states_ : Int32) (stateClasses_ : Int32) (machineKind_ : Nat → Int32) (machineBound_ : Nat → Int32) (machineLength_ : Nat → Int32) (machineValue_ : Nat → Int32) (machinePattern_ : Nat → Int32) (digit_ : Nat → Int32) (codeA_ : Nat → Int64) (codeB_ : Nat → Int64) (keyA_ : Nat → Int64) (keyB_ : Nat → Int64) (found_ : Nat → Int32) (next_ : Nat → Int32) (before_ : Nat → Int32) (by_ : Nat → Int32) (classOf_ : Nat → Int32) (newClass_ : Nat → Int32) (memberOf_ : Nat → Int32) : Option (Int32 × Int32 × Int32 × Int32 × Int32 × Int32 × Int32 × (Nat → Int32) × (Nat → Int32) × (Nat → Int32) × (Nat → Int32) × (Nat → Int32) × (Nat → Int32) × (Nat → Int64) × (Nat → Int64) × (Nat → Int64) × (Nat → Int64) × (Nat → Int32) × (Nat → Int32) × (Nat → Int32) × (Nat → Int32) × (Nat → Int32) × (Nat → Int32) × (Nat → Int32)) :=
  (f_X12_notLanguage x1 form_).bind (fun u1 =>
  if 0 ≤ u1 then
  ((f_X12_buildsLanguage x1 parts_ truth_ partKind_ partBound_ partLength_ partValue_ partPattern_ letters_ machineParts_ firstParts_ firstTruth_ isPair_ states_ machineKind_ machineBound_ machineLength_ machineValue_ machinePattern_ digit_ codeA_ codeB_ keyA_ keyB_ found_ next_ before_ by_).bind (fun u3 =>
  if u3.1 = 0 then
  (some ((-4 : Int32), u3.2.1, u3.2.2.1, u3.2.2.2.1, u3.2.2.2.2.1, u3.2.2.2.2.2.1, stateClasses_, u3.2.2.2.2.2.2.1, u3.2.2.2.2.2.2.2.1, u3.2.2.2.2.2.2.2.2.1, u3.2.2.2.2.2.2.2.2.2.1, u3.2.2.2.2.2.2.2.2.2.2.1, u3.2.2.2.2.2.2.2.2.2.2.2.1, u3.2.2.2.2.2.2.2.2.2.2.2.2.1, u3.2.2.2.2.2.2.2.2.2.2.2.2.2.1, u3.2.2.2.2.2.2.2.2.2.2.2.2.2.2.1, u3.2.2.2.2.2.2.2.2.2.2.2.2.2.2.2.1, u3.2.2.2.2.2.2.2.2.2.2.2.2.2.2.2.2.1, u3.2.2.2.2.2.2.2.2.2.2.2.2.2.2.2.2.2.1, u3.2.2.2.2.2.2.2.2.2.2.2.2.2.2.2.2.2.2.1, u3.2.2.2.2.2.2.2.2.2.2.2.2.2.2.2.2.2.2.2, classOf_, newClass_, memberOf_))
  else
  ((f_X12_minimize (0 : Int32) u3.2.2.2.2.2.2.2.2.1 u3.2.2.2.2.2.2.2.2.2.1 u3.2.2.2.2.2.2.2.2.2.2.2.2.1 u3.2.2.2.2.2.2.2.2.2.2.2.2.2.1 u3.2.2.2.2.2.2.2.2.2.2.2.2.2.2.2.2.2.1 letters_ u3.2.1 u3.2.2.1 u3.2.2.2.1 secondTruth_ u3.2.2.2.2.1 u3.2.2.2.2.2.1 stateClasses_ u3.2.2.2.2.2.2.2.2.2.2.2.2.2.2.1 u3.2.2.2.2.2.2.2.2.2.2.2.2.2.2.2.1 u3.2.2.2.2.2.2.2.2.2.2.2.2.2.2.2.2.1 classOf_ newClass_ memberOf_).bind (fun u5 =>
  some (u5.1, u3.2.1, u3.2.2.1, u3.2.2.2.1, u3.2.2.2.2.1, u3.2.2.2.2.2.1, u5.1, u3.2.2.2.2.2.2.1, u3.2.2.2.2.2.2.2.1, u3.2.2.2.2.2.2.2.2.1, u3.2.2.2.2.2.2.2.2.2.1, u3.2.2.2.2.2.2.2.2.2.2.1, u3.2.2.2.2.2.2.2.2.2.2.2.1, u3.2.2.2.2.2.2.2.2.2.2.2.2.1, u3.2.2.2.2.2.2.2.2.2.2.2.2.2.1, u5.2.1, u5.2.2.1, u5.2.2.2.1, u3.2.2.2.2.2.2.2.2.2.2.2.2.2.2.2.2.2.1, u3.2.2.2.2.2.2.2.2.2.2.2.2.2.2.2.2.2.2.1, u3.2.2.2.2.2.2.2.2.2.2.2.2.2.2.2.2.2.2.2, u5.2.2.2.2.1, u5.2.2.2.2.2.1, u5.2.2.2.2.2.2)))))
  else
  (some (u1, machineParts_, firstParts_, firstTruth_, isPair_, states_, stateClasses_, machineKind_, machineBound_, machineLength_, machineValue_, machinePattern_, digit_, codeA_, codeB_, keyA_, keyB_, found_, next_, before_, by_, classOf_, newClass_, memberOf_)))
set_option maxHeartbeats 4000000 in
set_option maxRecDepth 100000 in
theorem wt_X12_languageStates {p : Program} {l : Launch} {e : Env} {s : State} {m : MethodId} {args : Array Value} {below : List Frame} {meth : Method} {c : Code} {A : Nat → Prop} {Q : State → Prop} {D : va_G} {cy : Nat → ClassId} (o : Nat) (d : Nat → Nat) (form_ : Nat → Int32) (parts_ : Nat → Int32) (truth_ : Nat → Int32) (partKind_ : Nat → Int32) (partBound_ : Nat → Int32) (partLength_ : Nat → Int32) (partValue_ : Nat → Int32) (partPattern_ : Nat → Int32) (letters_ : Int32) (tests_ : Int32) (inputLength_ : Int32) (at_ : Int32) (signed_ : Int32) (newParts_ : Int32) (machineParts_ : Int32) (firstParts_ : Int32) (firstTruth_ : Int32) (secondTruth_ : Int32) (isPair_ : Int32) (states_ : Int32) (stateClasses_ : Int32) (elements_ : Int32) (cursor_ : Int32) (hasSnapshot_ : Int32) (isSaving_ : Int32) (machineKind_ : Nat → Int32) (machineBound_ : Nat → Int32) (machineLength_ : Nat → Int32) (machineValue_ : Nat → Int32) (machinePattern_ : Nat → Int32) (digit_ : Nat → Int32) (codeA_ : Nat → Int64) (codeB_ : Nat → Int64) (keyA_ : Nat → Int64) (keyB_ : Nat → Int64) (found_ : Nat → Int32) (next_ : Nat → Int32) (before_ : Nat → Int32) (by_ : Nat → Int32) (classOf_ : Nat → Int32) (newClass_ : Nat → Int32) (memberOf_ : Nat → Int32) (x1 : Int32) (out : Int32 × Int32 × Int32 × Int32 × Int32 × Int32 × Int32 × (Nat → Int32) × (Nat → Int32) × (Nat → Int32) × (Nat → Int32) × (Nat → Int32) × (Nat → Int32) × (Nat → Int64) × (Nat → Int64) × (Nat → Int64) × (Nat → Int64) × (Nat → Int32) × (Nat → Int32) × (Nat → Int32) × (Nat → Int32) × (Nat → Int32) × (Nat → Int32) × (Nat → Int32)) (X : Cx p m c cX12_languageStates 3 s args wsX12_languageStates RX12 A D cy (RO_X12_languageStates cy o d form_ parts_ truth_ partKind_ partBound_ partLength_ partValue_ partPattern_)) (h : f_X12_languageStates x1 form_ parts_ truth_ partKind_ partBound_ partLength_ partValue_ partPattern_ letters_ secondTruth_ machineParts_ firstParts_ firstTruth_ isPair_ states_ stateClasses_ machineKind_ machineBound_ machineLength_ machineValue_ machinePattern_ digit_ codeA_ codeB_ keyA_ keyB_ found_ next_ before_ by_ classOf_ newClass_ memberOf_ = some out) (K : ∀ (H : Heap) (locs : List Loc) (ls : Array Slot) (pc : Nat), decode cX12_languageStates pc = .ok (.ireturn, 1) → St A D s (RW_X12_languageStates cy o d letters_ tests_ inputLength_ at_ signed_ newParts_ out.2.1 out.2.2.1 out.2.2.2.1 secondTruth_ out.2.2.2.2.1 out.2.2.2.2.2.1 out.2.2.2.2.2.2.1 elements_ cursor_ hasSnapshot_ isSaving_ out.2.2.2.2.2.2.2.1 out.2.2.2.2.2.2.2.2.1 out.2.2.2.2.2.2.2.2.2.1 out.2.2.2.2.2.2.2.2.2.2.1 out.2.2.2.2.2.2.2.2.2.2.2.1 out.2.2.2.2.2.2.2.2.2.2.2.2.1 out.2.2.2.2.2.2.2.2.2.2.2.2.2.1 out.2.2.2.2.2.2.2.2.2.2.2.2.2.2.1 out.2.2.2.2.2.2.2.2.2.2.2.2.2.2.2.1 out.2.2.2.2.2.2.2.2.2.2.2.2.2.2.2.2.1 out.2.2.2.2.2.2.2.2.2.2.2.2.2.2.2.2.2.1 out.2.2.2.2.2.2.2.2.2.2.2.2.2.2.2.2.2.2.1 out.2.2.2.2.2.2.2.2.2.2.2.2.2.2.2.2.2.2.2.1 out.2.2.2.2.2.2.2.2.2.2.2.2.2.2.2.2.2.2.2.2.1 out.2.2.2.2.2.2.2.2.2.2.2.2.2.2.2.2.2.2.2.2.2.1 out.2.2.2.2.2.2.2.2.2.2.2.2.2.2.2.2.2.2.2.2.2.2.1 out.2.2.2.2.2.2.2.2.2.2.2.2.2.2.2.2.2.2.2.2.2.2.2) H locs → W p l e rm_X12_languageStates s m args below meth c H locs 0 0 Q (F0 m pc ls [.int out.1])) : ∀ (H : Heap) (locs : List Loc) (ls : Array Slot), St A D s (RW_X12_languageStates cy o d letters_ tests_ inputLength_ at_ signed_ newParts_ machineParts_ firstParts_ firstTruth_ secondTruth_ isPair_ states_ stateClasses_ elements_ cursor_ hasSnapshot_ isSaving_ machineKind_ machineBound_ machineLength_ machineValue_ machinePattern_ digit_ codeA_ codeB_ keyA_ keyB_ found_ next_ before_ by_ classOf_ newClass_ memberOf_) H locs → lv_has ls 3 [(0, .ref o), (1, .int x1)] → W p l e rm_X12_languageStates s m args below meth c H locs 0 0 Q (F0 m 0 ls []) := by
  intro H locs ls Z hl
  have hx := X.1.1
  have hb := X.1.2.1
  unfold f_X12_languageStates at h
  refine lv_aload_n hx hb dX12_languageStates_0 rfl (lv_at hl 0 rfl) ?_
  refine lv_iload_n hx hb dX12_languageStates_1 rfl (lv_at hl 1 rfl) ?_
  obtain ⟨u1, hc2, h⟩ := ob_some h
  refine x_runVi (RW' := (RW_X12_languageStates cy o d letters_ tests_ inputLength_ at_ signed_ newParts_ machineParts_ firstParts_ firstTruth_ secondTruth_ isPair_ states_ stateClasses_ elements_ cursor_ hasSnapshot_ isSaving_ machineKind_ machineBound_ machineLength_ machineValue_ machinePattern_ digit_ codeA_ codeB_ keyA_ keyB_ found_ next_ before_ by_ classOf_ newClass_ memberOf_)) (wr := [(o, ob 11 (oX12 d letters_ tests_ inputLength_ at_ signed_ newParts_ machineParts_ firstParts_ firstTruth_ secondTruth_ isPair_ states_ stateClasses_ elements_ cursor_ hasSnapshot_ isSaving_)), ((d 30), aI cy 8 machineKind_), ((d 31), aI cy 8 machineBound_), ((d 32), aI cy 8 machineLength_), ((d 33), aI cy 8 machineValue_), ((d 34), aI cy 32 machinePattern_), ((d 35), aI cy 4 digit_), ((d 41), aJ cy 2000 codeA_), ((d 42), aJ cy 2000 codeB_), ((d 43), aJ cy 8192 keyA_), ((d 44), aJ cy 8192 keyB_), ((d 45), aI cy 8192 found_), ((d 46), aI cy 6000 next_), ((d 47), aI cy 2000 before_), ((d 48), aI cy 2000 by_), ((d 50), aI cy 2000 classOf_), ((d 51), aI cy 2000 newClass_), ((d 52), aI cy 2000 memberOf_)]) (isC := []) (isR := [0, 1, 2, 3, 4, 5, 6, 7, 8, 9, 10, 11, 12, 13, 14, 15, 16, 17]) (isF := [0, 1, 2, 3, 4, 5, 6, 7, 8, 9, 10, 11, 12, 13, 14, 15, 16, 17]) (rest := []) (As := [.int x1]) (n := 1) X Z (c_X12_notLanguage l D cy o d letters_ tests_ inputLength_ at_ signed_ newParts_ machineParts_ firstParts_ firstTruth_ secondTruth_ isPair_ states_ stateClasses_ elements_ cursor_ hasSnapshot_ isSaving_ form_ x1 u1 hc2) gX12_languageStates_X12_notLanguage rfl (by decide +kernel) ⟨Nat.le_of_ble_eq_true rfl, Nat.le_of_ble_eq_true rfl⟩ ⟨rfl, rfl⟩ ⟨Nat.le_of_ble_eq_true rfl, Nat.le_of_ble_eq_true rfl⟩ (x_rv X Z 0 rfl rfl) ⟨rfl, rfl, (roC (Or.inl (mem_at 0 rfl)) (roC (Or.inr (mem_at 0 rfl)) roN)), rfl, rfl, by decide⟩ ⟨rfl, rfl⟩ rfl hl.1 rfl (Nat.le_of_ble_eq_true rfl) dX12_languageStates_2 (fun H locs Z => ?_)
  refine lv_istore_n (lv' := [(2, .int u1), (0, .ref o), (1, .int x1)]) hx hb dX12_languageStates_5 rfl hl (by decide) rfl (fun ls hl => ?_)
  refine lv_iload_n hx hb dX12_languageStates_6 rfl (lv_at hl 0 rfl) ?_
  refine lv_if_ge (tgt := 12) hx hb dX12_languageStates_7 (by decide) (fun cnd => ?_) (fun cnd => ?_)
  · replace h := ifp h cnd
    refine lv_aload_n hx hb dX12_languageStates_12 rfl (lv_at hl 1 rfl) ?_
    refine lv_iload_n hx hb dX12_languageStates_13 rfl (lv_at hl 2 rfl) ?_
    obtain ⟨u3, hc4, h⟩ := ob_some h
    refine x_runVi (RW' := (RW_X12_languageStates cy o d letters_ tests_ inputLength_ at_ signed_ newParts_ u3.2.1 u3.2.2.1 u3.2.2.2.1 secondTruth_ u3.2.2.2.2.1 u3.2.2.2.2.2.1 stateClasses_ elements_ cursor_ hasSnapshot_ isSaving_ u3.2.2.2.2.2.2.1 u3.2.2.2.2.2.2.2.1 u3.2.2.2.2.2.2.2.2.1 u3.2.2.2.2.2.2.2.2.2.1 u3.2.2.2.2.2.2.2.2.2.2.1 u3.2.2.2.2.2.2.2.2.2.2.2.1 u3.2.2.2.2.2.2.2.2.2.2.2.2.1 u3.2.2.2.2.2.2.2.2.2.2.2.2.2.1 u3.2.2.2.2.2.2.2.2.2.2.2.2.2.2.1 u3.2.2.2.2.2.2.2.2.2.2.2.2.2.2.2.1 u3.2.2.2.2.2.2.2.2.2.2.2.2.2.2.2.2.1 u3.2.2.2.2.2.2.2.2.2.2.2.2.2.2.2.2.2.1 u3.2.2.2.2.2.2.2.2.2.2.2.2.2.2.2.2.2.2.1 u3.2.2.2.2.2.2.2.2.2.2.2.2.2.2.2.2.2.2.2 classOf_ newClass_ memberOf_)) (wr := [((d 50), aI cy 2000 classOf_), ((d 51), aI cy 2000 newClass_), ((d 52), aI cy 2000 memberOf_)]) (isC := [0, 1, 2, 3, 4, 5, 6, 7, 8, 9, 10, 11, 12, 13, 14]) (isR := [15, 16, 17]) (isF := [3, 4, 5, 6, 7, 8, 9, 10, 11, 12, 13, 14, 15, 16, 17, 0, 1, 2]) (rest := []) (As := [.int x1]) (n := 1) X Z (c_X12_buildsLanguage l D cy o d parts_ truth_ partKind_ partBound_ partLength_ partValue_ partPattern_ letters_ tests_ inputLength_ at_ signed_ newParts_ machineParts_ firstParts_ firstTruth_ secondTruth_ isPair_ states_ stateClasses_ elements_ cursor_ hasSnapshot_ isSaving_ machineKind_ machineBound_ machineLength_ machineValue_ machinePattern_ digit_ codeA_ codeB_ keyA_ keyB_ found_ next_ before_ by_ x1 u3 hc4) gX12_languageStates_X12_buildsLanguage rfl (by decide +kernel) ⟨Nat.le_of_ble_eq_true rfl, Nat.le_of_ble_eq_true rfl⟩ ⟨rfl, rfl⟩ ⟨Nat.le_of_ble_eq_true rfl, Nat.le_of_ble_eq_true rfl⟩ (x_rv X Z 0 rfl rfl) ⟨rfl, rfl, (roC (Or.inr (mem_at 1 rfl)) (roC (Or.inr (mem_at 2 rfl)) (roC (Or.inr (mem_at 3 rfl)) (roC (Or.inr (mem_at 4 rfl)) (roC (Or.inr (mem_at 5 rfl)) (roC (Or.inr (mem_at 6 rfl)) (roC (Or.inr (mem_at 7 rfl)) roN))))))), rfl, rfl, by decide⟩ ⟨rfl, rfl⟩ rfl hl.1 rfl (Nat.le_of_ble_eq_true rfl) dX12_languageStates_14 (fun H locs Z => ?_)
    refine lv_if_ne (tgt := 23) hx hb dX12_languageStates_17 (by decide) (fun cnd => ?_) (fun cnd => ?_)
    · replace h := ifn h cnd
      refine lv_aload_n hx hb dX12_languageStates_23 rfl (lv_at hl 1 rfl) ?_
      refine lv_iconst (v := (0 : Int32)) hx hb dX12_languageStates_24 (by decide) ?_
      obtain ⟨u5, hc6, h⟩ := ob_some h
      refine x_runVv (RW' := (RW_X12_languageStates cy o d letters_ tests_ inputLength_ at_ signed_ newParts_ u3.2.1 u3.2.2.1 u3.2.2.2.1 secondTruth_ u3.2.2.2.2.1 u3.2.2.2.2.2.1 u5.1 elements_ cursor_ hasSnapshot_ isSaving_ u3.2.2.2.2.2.2.1 u3.2.2.2.2.2.2.2.1 u3.2.2.2.2.2.2.2.2.1 u3.2.2.2.2.2.2.2.2.2.1 u3.2.2.2.2.2.2.2.2.2.2.1 u3.2.2.2.2.2.2.2.2.2.2.2.1 u3.2.2.2.2.2.2.2.2.2.2.2.2.1 u3.2.2.2.2.2.2.2.2.2.2.2.2.2.1 u5.2.1 u5.2.2.1 u5.2.2.2.1 u3.2.2.2.2.2.2.2.2.2.2.2.2.2.2.2.2.2.1 u3.2.2.2.2.2.2.2.2.2.2.2.2.2.2.2.2.2.2.1 u3.2.2.2.2.2.2.2.2.2.2.2.2.2.2.2.2.2.2.2 u5.2.2.2.2.1 u5.2.2.2.2.2.1 u5.2.2.2.2.2.2)) (wr := [((d 30), aI cy 8 u3.2.2.2.2.2.2.1), ((d 31), aI cy 8 u3.2.2.2.2.2.2.2.1), ((d 32), aI cy 8 u3.2.2.2.2.2.2.2.2.1), ((d 33), aI cy 8 u3.2.2.2.2.2.2.2.2.2.1), ((d 34), aI cy 32 u3.2.2.2.2.2.2.2.2.2.2.1), ((d 35), aI cy 4 u3.2.2.2.2.2.2.2.2.2.2.2.1), ((d 41), aJ cy 2000 u3.2.2.2.2.2.2.2.2.2.2.2.2.1), ((d 42), aJ cy 2000 u3.2.2.2.2.2.2.2.2.2.2.2.2.2.1), ((d 46), aI cy 6000 u3.2.2.2.2.2.2.2.2.2.2.2.2.2.2.2.2.2.1), ((d 47), aI cy 2000 u3.2.2.2.2.2.2.2.2.2.2.2.2.2.2.2.2.2.2.1), ((d 48), aI cy 2000 u3.2.2.2.2.2.2.2.2.2.2.2.2.2.2.2.2.2.2.2)]) (isC := [0, 9, 10, 11, 15, 16, 17]) (isR := [1, 2, 3, 4, 5, 6, 7, 8, 12, 13, 14]) (isF := [11, 0, 1, 2, 3, 4, 5, 6, 7, 12, 13, 14, 8, 9, 10, 15, 16, 17]) (rest := []) (As := [.int (0 : Int32)]) (n := 1) X Z (c_X12_minimize l D cy o d u3.2.2.2.2.2.2.2.2.1 u3.2.2.2.2.2.2.2.2.2.1 u3.2.2.2.2.2.2.2.2.2.2.2.2.1 u3.2.2.2.2.2.2.2.2.2.2.2.2.2.1 u3.2.2.2.2.2.2.2.2.2.2.2.2.2.2.2.2.2.1 letters_ tests_ inputLength_ at_ signed_ newParts_ u3.2.1 u3.2.2.1 u3.2.2.2.1 secondTruth_ u3.2.2.2.2.1 u3.2.2.2.2.2.1 stateClasses_ elements_ cursor_ hasSnapshot_ isSaving_ u3.2.2.2.2.2.2.2.2.2.2.2.2.2.2.1 u3.2.2.2.2.2.2.2.2.2.2.2.2.2.2.2.1 u3.2.2.2.2.2.2.2.2.2.2.2.2.2.2.2.2.1 classOf_ newClass_ memberOf_ (0 : Int32) u5 hc6) gX12_languageStates_X12_minimize rfl (by decide +kernel) ⟨Nat.le_of_ble_eq_true rfl, Nat.le_of_ble_eq_true rfl⟩ ⟨rfl, rfl⟩ ⟨Nat.le_of_ble_eq_true rfl, Nat.le_of_ble_eq_true rfl⟩ (x_rv X Z 0 rfl rfl) ⟨rfl, rfl, (roC (Or.inl (mem_at 2 rfl)) (roC (Or.inl (mem_at 3 rfl)) (roC (Or.inl (mem_at 6 rfl)) (roC (Or.inl (mem_at 7 rfl)) (roC (Or.inl (mem_at 8 rfl)) roN))))), rfl, rfl, by decide⟩ ⟨rfl, rfl⟩ rfl hl.1 rfl (Nat.le_of_ble_eq_true rfl) dX12_languageStates_25 (fun H locs Z => ?_)
      refine lv_aload_n hx hb dX12_languageStates_28 rfl (lv_at hl 1 rfl) ?_
      refine x_get X Z 0 53 (v := .int u5.1) rfl rfl lk_X12_languageStates_X12_stateClasses dX12_languageStates_29 ?_
      obtain rfl := Option.some.inj h
      exact K H locs ls _ dX12_languageStates_32 Z
    · replace h := ifp h cnd
      refine lv_bipush (v := (-4 : Int32)) hx hb dX12_languageStates_20 (by decide) ?_
      obtain rfl := Option.some.inj h
      exact K H locs ls _ dX12_languageStates_22 Z
  · replace h := ifn h cnd
    refine lv_iload_n hx hb dX12_languageStates_10 rfl (lv_at hl 0 rfl) ?_
    obtain rfl := Option.some.inj h
    exact K H locs ls _ dX12_languageStates_11 Z
theorem c_X12_languageStates (l : Launch) (D : va_G) (cy : Nat → ClassId) (o : Nat) (d : Nat → Nat) (form_ : Nat → Int32) (parts_ : Nat → Int32) (truth_ : Nat → Int32) (partKind_ : Nat → Int32) (partBound_ : Nat → Int32) (partLength_ : Nat → Int32) (partValue_ : Nat → Int32) (partPattern_ : Nat → Int32) (letters_ : Int32) (tests_ : Int32) (inputLength_ : Int32) (at_ : Int32) (signed_ : Int32) (newParts_ : Int32) (machineParts_ : Int32) (firstParts_ : Int32) (firstTruth_ : Int32) (secondTruth_ : Int32) (isPair_ : Int32) (states_ : Int32) (stateClasses_ : Int32) (elements_ : Int32) (cursor_ : Int32) (hasSnapshot_ : Int32) (isSaving_ : Int32) (machineKind_ : Nat → Int32) (machineBound_ : Nat → Int32) (machineLength_ : Nat → Int32) (machineValue_ : Nat → Int32) (machinePattern_ : Nat → Int32) (digit_ : Nat → Int32) (codeA_ : Nat → Int64) (codeB_ : Nat → Int64) (keyA_ : Nat → Int64) (keyB_ : Nat → Int64) (found_ : Nat → Int32) (next_ : Nat → Int32) (before_ : Nat → Int32) (by_ : Nat → Int32) (classOf_ : Nat → Int32) (newClass_ : Nat → Int32) (memberOf_ : Nat → Int32) (x1 : Int32) (out : Int32 × Int32 × Int32 × Int32 × Int32 × Int32 × Int32 × (Nat → Int32) × (Nat → Int32) × (Nat → Int32) × (Nat → Int32) × (Nat → Int32) × (Nat → Int32) × (Nat → Int64) × (Nat → Int64) × (Nat → Int64) × (Nat → Int64) × (Nat → Int32) × (Nat → Int32) × (Nat → Int32) × (Nat → Int32) × (Nat → Int32) × (Nat → Int32) × (Nat → Int32)) (h : f_X12_languageStates x1 form_ parts_ truth_ partKind_ partBound_ partLength_ partValue_ partPattern_ letters_ secondTruth_ machineParts_ firstParts_ firstTruth_ isPair_ states_ stateClasses_ machineKind_ machineBound_ machineLength_ machineValue_ machinePattern_ digit_ codeA_ codeB_ keyA_ keyB_ found_ next_ before_ by_ classOf_ newClass_ memberOf_ = some out) : CtI l yX12_languageStates wsX12_languageStates rm_X12_languageStates D cy [.ref o, .int x1] (RW_X12_languageStates cy o d letters_ tests_ inputLength_ at_ signed_ newParts_ machineParts_ firstParts_ firstTruth_ secondTruth_ isPair_ states_ stateClasses_ elements_ cursor_ hasSnapshot_ isSaving_ machineKind_ machineBound_ machineLength_ machineValue_ machinePattern_ digit_ codeA_ codeB_ keyA_ keyB_ found_ next_ before_ by_ classOf_ newClass_ memberOf_) (RO_X12_languageStates cy o d form_ parts_ truth_ partKind_ partBound_ partLength_ partValue_ partPattern_) (RW_X12_languageStates cy o d letters_ tests_ inputLength_ at_ signed_ newParts_ out.2.1 out.2.2.1 out.2.2.2.1 secondTruth_ out.2.2.2.2.1 out.2.2.2.2.2.1 out.2.2.2.2.2.2.1 elements_ cursor_ hasSnapshot_ isSaving_ out.2.2.2.2.2.2.2.1 out.2.2.2.2.2.2.2.2.1 out.2.2.2.2.2.2.2.2.2.1 out.2.2.2.2.2.2.2.2.2.2.1 out.2.2.2.2.2.2.2.2.2.2.2.1 out.2.2.2.2.2.2.2.2.2.2.2.2.1 out.2.2.2.2.2.2.2.2.2.2.2.2.2.1 out.2.2.2.2.2.2.2.2.2.2.2.2.2.2.1 out.2.2.2.2.2.2.2.2.2.2.2.2.2.2.2.1 out.2.2.2.2.2.2.2.2.2.2.2.2.2.2.2.2.1 out.2.2.2.2.2.2.2.2.2.2.2.2.2.2.2.2.2.1 out.2.2.2.2.2.2.2.2.2.2.2.2.2.2.2.2.2.2.1 out.2.2.2.2.2.2.2.2.2.2.2.2.2.2.2.2.2.2.2.1 out.2.2.2.2.2.2.2.2.2.2.2.2.2.2.2.2.2.2.2.2.1 out.2.2.2.2.2.2.2.2.2.2.2.2.2.2.2.2.2.2.2.2.2.1 out.2.2.2.2.2.2.2.2.2.2.2.2.2.2.2.2.2.2.2.2.2.2.1 out.2.2.2.2.2.2.2.2.2.2.2.2.2.2.2.2.2.2.2.2.2.2.2) out.1 :=
  mk_i (ty := .int) (by decide) rfl rfl (Nat.le_of_ble_eq_true rfl) (fun p e s m args below meth c A Q X K H locs ls Z hl => wt_X12_languageStates o d form_ parts_ truth_ partKind_ partBound_ partLength_ partValue_ partPattern_ letters_ tests_ inputLength_ at_ signed_ newParts_ machineParts_ firstParts_ firstTruth_ secondTruth_ isPair_ states_ stateClasses_ elements_ cursor_ hasSnapshot_ isSaving_ machineKind_ machineBound_ machineLength_ machineValue_ machinePattern_ digit_ codeA_ codeB_ keyA_ keyB_ found_ next_ before_ by_ classOf_ newClass_ memberOf_ x1 out X h K H locs ls Z hl)
/-! SubwordCounterModel countAll (I)V -/
abbrev rm_X12_countAll : Room := { frames := 3, cells := 0, slots := 0, locals := 73 }
def RW_X12_countAll (cy : Nat → ClassId) (o : Nat) (d : Nat → Nat) (ways_ : Nat → Int64) (newWays_ : Nat → Int64) (counted_ : Nat → Int64) : va_W := [((d 57), aJ cy 2000 ways_), ((d 58), aJ cy 2000 newWays_), ((d 59), aJ cy 21 counted_)]
def RO_X12_countAll (cy : Nat → ClassId) (o : Nat) (d : Nat → Nat) (letters_ : Int32) (tests_ : Int32) (inputLength_ : Int32) (at_ : Int32) (signed_ : Int32) (newParts_ : Int32) (machineParts_ : Int32) (firstParts_ : Int32) (firstTruth_ : Int32) (secondTruth_ : Int32) (isPair_ : Int32) (states_ : Int32) (stateClasses_ : Int32) (elements_ : Int32) (cursor_ : Int32) (hasSnapshot_ : Int32) (isSaving_ : Int32) (machineLength_ : Nat → Int32) (machineValue_ : Nat → Int32) (codeA_ : Nat → Int64) (codeB_ : Nat → Int64) (next_ : Nat → Int32) : va_W := [(o, ob 11 (oX12 d letters_ tests_ inputLength_ at_ signed_ newParts_ machineParts_ firstParts_ firstTruth_ secondTruth_ isPair_ states_ stateClasses_ elements_ cursor_ hasSnapshot_ isSaving_)), ((d 32), aI cy 8 machineLength_), ((d 33), aI cy 8 machineValue_), ((d 41), aJ cy 2000 codeA_), ((d 42), aJ cy 2000 codeB_), ((d 46), aI cy 6000 next_)]
theorem in_X12_countAll_X12 : ∀ w ∈ u_ws RX12 TX12 68, w ∈ wsX12_countAll := fun w h => (List.mem_cons_of_mem _ (List.mem_append_right _ h))
theorem lk_X12_countAll_X12_states : Lk wsX12_countAll RX12 266 11 49 := ⟨RX12, TX12, 68, rfl, by decide, in_X12_countAll_X12, mem_at 1 rfl⟩
theorem lk_X12_countAll_X12_ways : Lk wsX12_countAll RX12 145 11 57 := ⟨RX12, TX12, 68, rfl, by decide, in_X12_countAll_X12, mem_at 2 rfl⟩
theorem lk_X12_countAll_X12_newWays : Lk wsX12_countAll RX12 148 11 58 := ⟨RX12, TX12, 68, rfl, by decide, in_X12_countAll_X12, mem_at 4 rfl⟩
theorem lk_X12_countAll_X12_letters : Lk wsX12_countAll RX12 7 11 0 := ⟨RX12, TX12, 68, rfl, by decide, in_X12_countAll_X12, mem_at 5 rfl⟩
theorem lk_X12_countAll_X12_next : Lk wsX12_countAll RX12 120 11 46 := ⟨RX12, TX12, 68, rfl, by decide, in_X12_countAll_X12, mem_at 6 rfl⟩
theorem lk_X12_countAll_X12_counted : Lk wsX12_countAll RX12 151 11 59 := ⟨RX12, TX12, 68, rfl, by decide, in_X12_countAll_X12, mem_at 3 rfl⟩
def b_X12_countAll_158 (states_ : Int32) (newWays_ : Nat → Int64) (ways_ : Nat → Int64) (x3 : Int32) : Option (((Nat → Int64) × Int32) ⊕ ((Nat → Int64))) :=
  if states_ ≤ x3 then
  (some (.inr ways_))
  else
  (ldA newWays_ 2000 x3 (fun v2 =>
  stA ways_ 2000 x3 v2 (fun ways_5 =>
  some (.inl (ways_5, (x3 + (1 : Int32)))))))
set_option maxHeartbeats 4000000 in
set_option maxRecDepth 100000 in
theorem wb_X12_countAll_158 {p : Program} {l : Launch} {e : Env} {s : State} {m : MethodId} {args : Array Value} {below : List Frame} {meth : Method} {c : Code} {A : Nat → Prop} {Q : State → Prop} {D : va_G} {cy : Nat → ClassId} (o : Nat) (d : Nat → Nat) (letters_ : Int32) (tests_ : Int32) (inputLength_ : Int32) (at_ : Int32) (signed_ : Int32) (newParts_ : Int32) (machineParts_ : Int32) (firstParts_ : Int32) (firstTruth_ : Int32) (secondTruth_ : Int32) (isPair_ : Int32) (states_ : Int32) (stateClasses_ : Int32) (elements_ : Int32) (cursor_ : Int32) (hasSnapshot_ : Int32) (isSaving_ : Int32) (machineLength_ : Nat → Int32) (machineValue_ : Nat → Int32) (codeA_ : Nat → Int64) (codeB_ : Nat → Int64) (next_ : Nat → Int32) (newWays_ : Nat → Int64) (counted_ : Nat → Int64) (x1 : Int32) (x2 : Int32) (ways_ : Nat → Int64) (x3 : Int32) (o1 : ((Nat → Int64) × Int32) ⊕ ((Nat → Int64))) (X : Cx p m c cX12_countAll 5 s args wsX12_countAll RX12 A D cy (RO_X12_countAll cy o d letters_ tests_ inputLength_ at_ signed_ newParts_ machineParts_ firstParts_ firstTruth_ secondTruth_ isPair_ states_ stateClasses_ elements_ cursor_ hasSnapshot_ isSaving_ machineLength_ machineValue_ codeA_ codeB_ next_)) (h : b_X12_countAll_158 states_ newWays_ ways_ x3 = some o1) (K : Sum.elim (fun v : (Nat → Int64) × Int32 => ∀ (H : Heap) (locs : List Loc) (ls : Array Slot), St A D s (RW_X12_countAll cy o d v.1 newWays_ counted_) H locs → lv_has ls 5 [(0, .ref o), (1, .int x1), (2, .int x2), (3, .int v.2)] → W p l e rm_X12_countAll s m args below meth c H locs 0 0 Q (F0 m 158 ls [])) (fun v : (Nat → Int64) => ∀ (H : Heap) (locs : List Loc) (ls : Array Slot), St A D s (RW_X12_countAll cy o d v newWays_ counted_) H locs → lv_has ls 5 [(0, .ref o), (1, .int x1), (2, .int x2)] → W p l e rm_X12_countAll s m args below meth c H locs 0 0 Q (F0 m 184 ls [])) o1) : ∀ (H : Heap) (locs : List Loc) (ls : Array Slot), St A D s (RW_X12_countAll cy o d ways_ newWays_ counted_) H locs → lv_has ls 5 [(0, .ref o), (1, .int x1), (2, .int x2), (3, .int x3)] → W p l e rm_X12_countAll s m args below meth c H locs 0 0 Q (F0 m 158 ls []) := by
  intro H locs ls Z hl
  have hx := X.1.1
  have hb := X.1.2.1
  unfold b_X12_countAll_158 at h
  refine lv_iload_n hx hb dX12_countAll_158 rfl (lv_at hl 3 rfl) ?_
  refine lv_aload_n hx hb dX12_countAll_159 rfl (lv_at hl 0 rfl) ?_
  refine x_getO X Z 0 49 (v := .int states_) rfl rfl lk_X12_countAll_X12_states dX12_countAll_160 ?_
  refine lv_icmp_ge (tgt := 184) hx hb dX12_countAll_163 (by decide) (fun cnd => ?_) (fun cnd => ?_)
  · replace h := ifp h cnd
    obtain rfl := Option.some.inj h
    exact (sk_r K) H locs ls Z (lv_sub hl [0, 1, 2] rfl)
  · replace h := ifn h cnd
    refine lv_aload_n hx hb dX12_countAll_166 rfl (lv_at hl 0 rfl) ?_
    refine x_getO X Z 0 57 (v := .ref (d 57)) rfl rfl lk_X12_countAll_X12_ways dX12_countAll_167 ?_
    refine lv_iload_n hx hb dX12_countAll_170 rfl (lv_at hl 3 rfl) ?_
    refine lv_aload_n hx hb dX12_countAll_171 rfl (lv_at hl 0 rfl) ?_
    refine x_getO X Z 0 58 (v := .ref (d 58)) rfl rfl lk_X12_countAll_X12_newWays dX12_countAll_172 ?_
    refine lv_iload_n hx hb dX12_countAll_175 rfl (lv_at hl 3 rfl) ?_
    obtain ⟨hin1, v2, hv3, h⟩ := ld_b h
    refine x_lald X Z 1 rfl hin1 hv3 dX12_countAll_176 ?_
    obtain ⟨hin4, ways_5, hv6, h⟩ := st_b h
    refine x_last X Z 0 (RW_X12_countAll cy o d ways_5 newWays_ counted_) rfl hin4 hv6 rfl dX12_countAll_177 (fun H locs Z => ?_)
    refine lv_iinc (v := (x3 + (1 : Int32))) (lv' := [(3, .int (x3 + (1 : Int32))), (0, .ref o), (1, .int x1), (2, .int x2)]) hx hb dX12_countAll_178 hl (k := 3) rfl rfl (by decide) rfl (fun ls hl => ?_)
    refine lv_goto (tgt := 158) hx hb dX12_countAll_181 (by decide) ?_
    obtain rfl := Option.some.inj h
    exact sk_l K H locs ls Z (lv_sub hl [1, 2, 3, 0] rfl)
set_option maxHeartbeats 4000000 in
set_option maxRecDepth 100000 in
theorem wl_X12_countAll_158 {p : Program} {l : Launch} {e : Env} {s : State} {m : MethodId} {args : Array Value} {below : List Frame} {meth : Method} {c : Code} {A : Nat → Prop} {Q : State → Prop} {D : va_G} {cy : Nat → ClassId} (o : Nat) (d : Nat → Nat) (letters_ : Int32) (tests_ : Int32) (inputLength_ : Int32) (at_ : Int32) (signed_ : Int32) (newParts_ : Int32) (machineParts_ : Int32) (firstParts_ : Int32) (firstTruth_ : Int32) (secondTruth_ : Int32) (isPair_ : Int32) (states_ : Int32) (stateClasses_ : Int32) (elements_ : Int32) (cursor_ : Int32) (hasSnapshot_ : Int32) (isSaving_ : Int32) (machineLength_ : Nat → Int32) (machineValue_ : Nat → Int32) (codeA_ : Nat → Int64) (codeB_ : Nat → Int64) (next_ : Nat → Int32) (newWays_ : Nat → Int64) (counted_ : Nat → Int64) (x1 : Int32) (x2 : Int32) (n : Nat) (v : (Nat → Int64) × Int32) (x : (Nat → Int64)) (X : Cx p m c cX12_countAll 5 s args wsX12_countAll RX12 A D cy (RO_X12_countAll cy o d letters_ tests_ inputLength_ at_ signed_ newParts_ machineParts_ firstParts_ firstTruth_ secondTruth_ isPair_ states_ stateClasses_ elements_ cursor_ hasSnapshot_ isSaving_ machineLength_ machineValue_ codeA_ codeB_ next_)) (h : loopN (fun v => b_X12_countAll_158 states_ newWays_ v.1 v.2) n v = some x) (K : ∀ (H : Heap) (locs : List Loc) (ls : Array Slot), St A D s (RW_X12_countAll cy o d x newWays_ counted_) H locs → lv_has ls 5 [(0, .ref o), (1, .int x1), (2, .int x2)] → W p l e rm_X12_countAll s m args below meth c H locs 0 0 Q (F0 m 184 ls [])) : ∀ (H : Heap) (locs : List Loc) (ls : Array Slot), St A D s (RW_X12_countAll cy o d v.1 newWays_ counted_) H locs → lv_has ls 5 [(0, .ref o), (1, .int x1), (2, .int x2), (3, .int v.2)] → W p l e rm_X12_countAll s m args below meth c H locs 0 0 Q (F0 m 158 ls []) :=
  loop_gen (B := (fun v => b_X12_countAll_158 states_ newWays_ v.1 v.2)) (Head := fun v : (Nat → Int64) × Int32 => ∀ (H : Heap) (locs : List Loc) (ls : Array Slot), St A D s (RW_X12_countAll cy o d v.1 newWays_ counted_) H locs → lv_has ls 5 [(0, .ref o), (1, .int x1), (2, .int x2), (3, .int v.2)] → W p l e rm_X12_countAll s m args below meth c H locs 0 0 Q (F0 m 158 ls [])) (Exit := fun v : (Nat → Int64) => ∀ (H : Heap) (locs : List Loc) (ls : Array Slot), St A D s (RW_X12_countAll cy o d v newWays_ counted_) H locs → lv_has ls 5 [(0, .ref o), (1, .int x1), (2, .int x2)] → W p l e rm_X12_countAll s m args below meth c H locs 0 0 Q (F0 m 184 ls [])) (fun v o9 hb1 K1 => wb_X12_countAll_158 o d letters_ tests_ inputLength_ at_ signed_ newParts_ machineParts_ firstParts_ firstTruth_ secondTruth_ isPair_ states_ stateClasses_ elements_ cursor_ hasSnapshot_ isSaving_ machineLength_ machineValue_ codeA_ codeB_ next_ newWays_ counted_ x1 x2 v.1 v.2 o9 X hb1 K1) n v x h K
def b_X12_countAll_110 (letters_ : Int32) (next_ : Nat → Int32) (ways_ : Nat → Int64) (x3 : Int32) (newWays_ : Nat → Int64) (x4 : Int32) : Option (((Nat → Int64) × Int32) ⊕ ((Nat → Int64))) :=
  if letters_ ≤ x4 then
  (some (.inr newWays_))
  else
  (ldA next_ 6000 (((3 : Int32) * x3) + x4) (fun v8 =>
  ldA newWays_ 2000 v8 (fun v11 =>
  ldA ways_ 2000 x3 (fun v14 =>
  stA newWays_ 2000 v8 (v11 + v14) (fun newWays_17 =>
  some (.inl (newWays_17, (x4 + (1 : Int32)))))))))
set_option maxHeartbeats 4000000 in
set_option maxRecDepth 100000 in
theorem wb_X12_countAll_110 {p : Program} {l : Launch} {e : Env} {s : State} {m : MethodId} {args : Array Value} {below : List Frame} {meth : Method} {c : Code} {A : Nat → Prop} {Q : State → Prop} {D : va_G} {cy : Nat → ClassId} (o : Nat) (d : Nat → Nat) (letters_ : Int32) (tests_ : Int32) (inputLength_ : Int32) (at_ : Int32) (signed_ : Int32) (newParts_ : Int32) (machineParts_ : Int32) (firstParts_ : Int32) (firstTruth_ : Int32) (secondTruth_ : Int32) (isPair_ : Int32) (states_ : Int32) (stateClasses_ : Int32) (elements_ : Int32) (cursor_ : Int32) (hasSnapshot_ : Int32) (isSaving_ : Int32) (machineLength_ : Nat → Int32) (machineValue_ : Nat → Int32) (codeA_ : Nat → Int64) (codeB_ : Nat → Int64) (next_ : Nat → Int32) (ways_ : Nat → Int64) (counted_ : Nat → Int64) (x1 : Int32) (x2 : Int32) (x3 : Int32) (newWays_ : Nat → Int64) (x4 : Int32) (o1 : ((Nat → Int64) × Int32) ⊕ ((Nat → Int64))) (X : Cx p m c cX12_countAll 5 s args wsX12_countAll RX12 A D cy (RO_X12_countAll cy o d letters_ tests_ inputLength_ at_ signed_ newParts_ machineParts_ firstParts_ firstTruth_ secondTruth_ isPair_ states_ stateClasses_ elements_ cursor_ hasSnapshot_ isSaving_ machineLength_ machineValue_ codeA_ codeB_ next_)) (h : b_X12_countAll_110 letters_ next_ ways_ x3 newWays_ x4 = some o1) (K : Sum.elim (fun v : (Nat → Int64) × Int32 => ∀ (H : Heap) (locs : List Loc) (ls : Array Slot), St A D s (RW_X12_countAll cy o d ways_ v.1 counted_) H locs → lv_has ls 5 [(0, .ref o), (1, .int x1), (2, .int x2), (3, .int x3), (4, .int v.2)] → W p l e rm_X12_countAll s m args below meth c H locs 0 0 Q (F0 m 110 ls [])) (fun v : (Nat → Int64) => ∀ (H : Heap) (locs : List Loc) (ls : Array Slot), St A D s (RW_X12_countAll cy o d ways_ v counted_) H locs → lv_has ls 5 [(0, .ref o), (1, .int x1), (2, .int x2), (3, .int x3)] → W p l e rm_X12_countAll s m args below meth c H locs 0 0 Q (F0 m 150 ls [])) o1) : ∀ (H : Heap) (locs : List Loc) (ls : Array Slot), St A D s (RW_X12_countAll cy o d ways_ newWays_ counted_) H locs → lv_has ls 5 [(0, .ref o), (1, .int x1), (2, .int x2), (3, .int x3), (4, .int x4)] → W p l e rm_X12_countAll s m args below meth c H locs 0 0 Q (F0 m 110 ls []) := by
  intro H locs ls Z hl
  have hx := X.1.1
  have hb := X.1.2.1
  unfold b_X12_countAll_110 at h
  refine lv_iload hx hb dX12_countAll_110 (lv_at hl 4 rfl) ?_
  refine lv_aload_n hx hb dX12_countAll_112 rfl (lv_at hl 0 rfl) ?_
  refine x_getO X Z 0 0 (v := .int letters_) rfl rfl lk_X12_countAll_X12_letters dX12_countAll_113 ?_
  refine lv_icmp_ge (tgt := 150) hx hb dX12_countAll_116 (by decide) (fun cnd => ?_) (fun cnd => ?_)
  · replace h := ifp h cnd
    obtain rfl := Option.some.inj h
    exact (sk_r K) H locs ls Z (lv_sub hl [0, 1, 2, 3] rfl)
  · replace h := ifn h cnd
    refine lv_aload_n hx hb dX12_countAll_119 rfl (lv_at hl 0 rfl) ?_
    refine x_getO X Z 0 58 (v := .ref (d 58)) rfl rfl lk_X12_countAll_X12_newWays dX12_countAll_120 ?_
    refine lv_aload_n hx hb dX12_countAll_123 rfl (lv_at hl 0 rfl) ?_
    refine x_getO X Z 0 46 (v := .ref (d 46)) rfl rfl lk_X12_countAll_X12_next dX12_countAll_124 ?_
    refine lv_iconst (v := (3 : Int32)) hx hb dX12_countAll_127 (by decide) ?_
    refine lv_iload_n hx hb dX12_countAll_128 rfl (lv_at hl 3 rfl) ?_
    refine lv_imul hx hb dX12_countAll_129 ?_
    refine lv_iload hx hb dX12_countAll_130 (lv_at hl 4 rfl) ?_
    refine lv_iadd hx hb dX12_countAll_132 ?_
    obtain ⟨hin7, v8, hv9, h⟩ := ld_b h
    refine x_ialdO X Z 5 rfl hin7 hv9 dX12_countAll_133 ?_
    refine lv_dup2_11 hx hb dX12_countAll_134 rfl rfl ?_
    obtain ⟨hin10, v11, hv12, h⟩ := ld_b h
    refine x_lald X Z 1 rfl hin10 hv12 dX12_countAll_135 ?_
    refine lv_aload_n hx hb dX12_countAll_136 rfl (lv_at hl 0 rfl) ?_
    refine x_getO X Z 0 57 (v := .ref (d 57)) rfl rfl lk_X12_countAll_X12_ways dX12_countAll_137 ?_
    refine lv_iload_n hx hb dX12_countAll_140 rfl (lv_at hl 3 rfl) ?_
    obtain ⟨hin13, v14, hv15, h⟩ := ld_b h
    refine x_lald X Z 0 rfl hin13 hv15 dX12_countAll_141 ?_
    refine lv_ladd hx hb dX12_countAll_142 ?_
    obtain ⟨hin16, newWays_17, hv18, h⟩ := st_b h
    refine x_last X Z 1 (RW_X12_countAll cy o d ways_ newWays_17 counted_) rfl hin16 hv18 rfl dX12_countAll_143 (fun H locs Z => ?_)
    refine lv_iinc (v := (x4 + (1 : Int32))) (lv' := [(4, .int (x4 + (1 : Int32))), (0, .ref o), (1, .int x1), (2, .int x2), (3, .int x3)]) hx hb dX12_countAll_144 hl (k := 4) rfl rfl (by decide) rfl (fun ls hl => ?_)
    refine lv_goto (tgt := 110) hx hb dX12_countAll_147 (by decide) ?_
    obtain rfl := Option.some.inj h
    exact sk_l K H locs ls Z (lv_sub hl [1, 2, 3, 4, 0] rfl)
set_option maxHeartbeats 4000000 in
set_option maxRecDepth 100000 in
theorem wl_X12_countAll_110 {p : Program} {l : Launch} {e : Env} {s : State} {m : MethodId} {args : Array Value} {below : List Frame} {meth : Method} {c : Code} {A : Nat → Prop} {Q : State → Prop} {D : va_G} {cy : Nat → ClassId} (o : Nat) (d : Nat → Nat) (letters_ : Int32) (tests_ : Int32) (inputLength_ : Int32) (at_ : Int32) (signed_ : Int32) (newParts_ : Int32) (machineParts_ : Int32) (firstParts_ : Int32) (firstTruth_ : Int32) (secondTruth_ : Int32) (isPair_ : Int32) (states_ : Int32) (stateClasses_ : Int32) (elements_ : Int32) (cursor_ : Int32) (hasSnapshot_ : Int32) (isSaving_ : Int32) (machineLength_ : Nat → Int32) (machineValue_ : Nat → Int32) (codeA_ : Nat → Int64) (codeB_ : Nat → Int64) (next_ : Nat → Int32) (ways_ : Nat → Int64) (counted_ : Nat → Int64) (x1 : Int32) (x2 : Int32) (x3 : Int32) (n : Nat) (v : (Nat → Int64) × Int32) (x : (Nat → Int64)) (X : Cx p m c cX12_countAll 5 s args wsX12_countAll RX12 A D cy (RO_X12_countAll cy o d letters_ tests_ inputLength_ at_ signed_ newParts_ machineParts_ firstParts_ firstTruth_ secondTruth_ isPair_ states_ stateClasses_ elements_ cursor_ hasSnapshot_ isSaving_ machineLength_ machineValue_ codeA_ codeB_ next_)) (h : loopN (fun v => b_X12_countAll_110 letters_ next_ ways_ x3 v.1 v.2) n v = some x) (K : ∀ (H : Heap) (locs : List Loc) (ls : Array Slot), St A D s (RW_X12_countAll cy o d ways_ x counted_) H locs → lv_has ls 5 [(0, .ref o), (1, .int x1), (2, .int x2), (3, .int x3)] → W p l e rm_X12_countAll s m args below meth c H locs 0 0 Q (F0 m 150 ls [])) : ∀ (H : Heap) (locs : List Loc) (ls : Array Slot), St A D s (RW_X12_countAll cy o d ways_ v.1 counted_) H locs → lv_has ls 5 [(0, .ref o), (1, .int x1), (2, .int x2), (3, .int x3), (4, .int v.2)] → W p l e rm_X12_countAll s m args below meth c H locs 0 0 Q (F0 m 110 ls []) :=
  loop_gen (B := (fun v => b_X12_countAll_110 letters_ next_ ways_ x3 v.1 v.2)) (Head := fun v : (Nat → Int64) × Int32 => ∀ (H : Heap) (locs : List Loc) (ls : Array Slot), St A D s (RW_X12_countAll cy o d ways_ v.1 counted_) H locs → lv_has ls 5 [(0, .ref o), (1, .int x1), (2, .int x2), (3, .int x3), (4, .int v.2)] → W p l e rm_X12_countAll s m args below meth c H locs 0 0 Q (F0 m 110 ls [])) (Exit := fun v : (Nat → Int64) => ∀ (H : Heap) (locs : List Loc) (ls : Array Slot), St A D s (RW_X12_countAll cy o d ways_ v counted_) H locs → lv_has ls 5 [(0, .ref o), (1, .int x1), (2, .int x2), (3, .int x3)] → W p l e rm_X12_countAll s m args below meth c H locs 0 0 Q (F0 m 150 ls [])) (fun v o9 hb1 K1 => wb_X12_countAll_110 o d letters_ tests_ inputLength_ at_ signed_ newParts_ machineParts_ firstParts_ firstTruth_ secondTruth_ isPair_ states_ stateClasses_ elements_ cursor_ hasSnapshot_ isSaving_ machineLength_ machineValue_ codeA_ codeB_ next_ ways_ counted_ x1 x2 x3 v.1 v.2 o9 X hb1 K1) n v x h K
def b_X12_countAll_99 (letters_ : Int32) (states_ : Int32) (next_ : Nat → Int32) (ways_ : Nat → Int64) (newWays_ : Nat → Int64) (x3 : Int32) : Option (((Nat → Int64) × Int32) ⊕ ((Nat → Int64))) :=
  if states_ ≤ x3 then
  (some (.inr newWays_))
  else
  ((loopN (fun v => b_X12_countAll_110 letters_ next_ ways_ x3 v.1 v.2) FU (newWays_, (0 : Int32))).bind (fun u19 =>
  some (.inl (u19, (x3 + (1 : Int32))))))
set_option maxHeartbeats 4000000 in
set_option maxRecDepth 100000 in
theorem wb_X12_countAll_99 {p : Program} {l : Launch} {e : Env} {s : State} {m : MethodId} {args : Array Value} {below : List Frame} {meth : Method} {c : Code} {A : Nat → Prop} {Q : State → Prop} {D : va_G} {cy : Nat → ClassId} (o : Nat) (d : Nat → Nat) (letters_ : Int32) (tests_ : Int32) (inputLength_ : Int32) (at_ : Int32) (signed_ : Int32) (newParts_ : Int32) (machineParts_ : Int32) (firstParts_ : Int32) (firstTruth_ : Int32) (secondTruth_ : Int32) (isPair_ : Int32) (states_ : Int32) (stateClasses_ : Int32) (elements_ : Int32) (cursor_ : Int32) (hasSnapshot_ : Int32) (isSaving_ : Int32) (machineLength_ : Nat → Int32) (machineValue_ : Nat → Int32) (codeA_ : Nat → Int64) (codeB_ : Nat → Int64) (next_ : Nat → Int32) (ways_ : Nat → Int64) (counted_ : Nat → Int64) (x1 : Int32) (x2 : Int32) (newWays_ : Nat → Int64) (x3 : Int32) (o1 : ((Nat → Int64) × Int32) ⊕ ((Nat → Int64))) (X : Cx p m c cX12_countAll 5 s args wsX12_countAll RX12 A D cy (RO_X12_countAll cy o d letters_ tests_ inputLength_ at_ signed_ newParts_ machineParts_ firstParts_ firstTruth_ secondTruth_ isPair_ states_ stateClasses_ elements_ cursor_ hasSnapshot_ isSaving_ machineLength_ machineValue_ codeA_ codeB_ next_)) (h : b_X12_countAll_99 letters_ states_ next_ ways_ newWays_ x3 = some o1) (K : Sum.elim (fun v : (Nat → Int64) × Int32 => ∀ (H : Heap) (locs : List Loc) (ls : Array Slot), St A D s (RW_X12_countAll cy o d ways_ v.1 counted_) H locs → lv_has ls 5 [(0, .ref o), (1, .int x1), (2, .int x2), (3, .int v.2)] → W p l e rm_X12_countAll s m args below meth c H locs 0 0 Q (F0 m 99 ls [])) (fun v : (Nat → Int64) => ∀ (H : Heap) (locs : List Loc) (ls : Array Slot), St A D s (RW_X12_countAll cy o d ways_ v counted_) H locs → lv_has ls 5 [(0, .ref o), (1, .int x1), (2, .int x2)] → W p l e rm_X12_countAll s m args below meth c H locs 0 0 Q (F0 m 156 ls [])) o1) : ∀ (H : Heap) (locs : List Loc) (ls : Array Slot), St A D s (RW_X12_countAll cy o d ways_ newWays_ counted_) H locs → lv_has ls 5 [(0, .ref o), (1, .int x1), (2, .int x2), (3, .int x3)] → W p l e rm_X12_countAll s m args below meth c H locs 0 0 Q (F0 m 99 ls []) := by
  intro H locs ls Z hl
  have hx := X.1.1
  have hb := X.1.2.1
  unfold b_X12_countAll_99 at h
  refine lv_iload_n hx hb dX12_countAll_99 rfl (lv_at hl 3 rfl) ?_
  refine lv_aload_n hx hb dX12_countAll_100 rfl (lv_at hl 0 rfl) ?_
  refine x_getO X Z 0 49 (v := .int states_) rfl rfl lk_X12_countAll_X12_states dX12_countAll_101 ?_
  refine lv_icmp_ge (tgt := 156) hx hb dX12_countAll_104 (by decide) (fun cnd => ?_) (fun cnd => ?_)
  · replace h := ifp h cnd
    obtain rfl := Option.some.inj h
    exact (sk_r K) H locs ls Z (lv_sub hl [0, 1, 2] rfl)
  · replace h := ifn h cnd
    refine lv_iconst (v := (0 : Int32)) hx hb dX12_countAll_107 (by decide) ?_
    refine lv_istore (lv' := [(4, .int (0 : Int32)), (0, .ref o), (1, .int x1), (2, .int x2), (3, .int x3)]) hx hb dX12_countAll_108 hl (by decide) rfl (fun ls hl => ?_)
    obtain ⟨u19, hL20, h⟩ := ob_some h
    refine wl_X12_countAll_110 o d letters_ tests_ inputLength_ at_ signed_ newParts_ machineParts_ firstParts_ firstTruth_ secondTruth_ isPair_ states_ stateClasses_ elements_ cursor_ hasSnapshot_ isSaving_ machineLength_ machineValue_ codeA_ codeB_ next_ ways_ counted_ x1 x2 x3 FU (newWays_, (0 : Int32)) u19 X hL20 (fun H locs ls Z hl => ?_) H locs ls Z (lv_sub hl [1, 2, 3, 4, 0] rfl)
    refine lv_iinc (v := (x3 + (1 : Int32))) (lv' := [(3, .int (x3 + (1 : Int32))), (0, .ref o), (1, .int x1), (2, .int x2)]) hx hb dX12_countAll_150 hl (k := 3) rfl rfl (by decide) rfl (fun ls hl => ?_)
    refine lv_goto (tgt := 99) hx hb dX12_countAll_153 (by decide) ?_
    obtain rfl := Option.some.inj h
    exact sk_l K H locs ls Z (lv_sub hl [1, 2, 3, 0] rfl)
set_option maxHeartbeats 4000000 in
set_option maxRecDepth 100000 in
theorem wl_X12_countAll_99 {p : Program} {l : Launch} {e : Env} {s : State} {m : MethodId} {args : Array Value} {below : List Frame} {meth : Method} {c : Code} {A : Nat → Prop} {Q : State → Prop} {D : va_G} {cy : Nat → ClassId} (o : Nat) (d : Nat → Nat) (letters_ : Int32) (tests_ : Int32) (inputLength_ : Int32) (at_ : Int32) (signed_ : Int32) (newParts_ : Int32) (machineParts_ : Int32) (firstParts_ : Int32) (firstTruth_ : Int32) (secondTruth_ : Int32) (isPair_ : Int32) (states_ : Int32) (stateClasses_ : Int32) (elements_ : Int32) (cursor_ : Int32) (hasSnapshot_ : Int32) (isSaving_ : Int32) (machineLength_ : Nat → Int32) (machineValue_ : Nat → Int32) (codeA_ : Nat → Int64) (codeB_ : Nat → Int64) (next_ : Nat → Int32) (ways_ : Nat → Int64) (counted_ : Nat → Int64) (x1 : Int32) (x2 : Int32) (n : Nat) (v : (Nat → Int64) × Int32) (x : (Nat → Int64)) (X : Cx p m c cX12_countAll 5 s args wsX12_countAll RX12 A D cy (RO_X12_countAll cy o d letters_ tests_ inputLength_ at_ signed_ newParts_ machineParts_ firstParts_ firstTruth_ secondTruth_ isPair_ states_ stateClasses_ elements_ cursor_ hasSnapshot_ isSaving_ machineLength_ machineValue_ codeA_ codeB_ next_)) (h : loopN (fun v => b_X12_countAll_99 letters_ states_ next_ ways_ v.1 v.2) n v = some x) (K : ∀ (H : Heap) (locs : List Loc) (ls : Array Slot), St A D s (RW_X12_countAll cy o d ways_ x counted_) H locs → lv_has ls 5 [(0, .ref o), (1, .int x1), (2, .int x2)] → W p l e rm_X12_countAll s m args below meth c H locs 0 0 Q (F0 m 156 ls [])) : ∀ (H : Heap) (locs : List Loc) (ls : Array Slot), St A D s (RW_X12_countAll cy o d ways_ v.1 counted_) H locs → lv_has ls 5 [(0, .ref o), (1, .int x1), (2, .int x2), (3, .int v.2)] → W p l e rm_X12_countAll s m args below meth c H locs 0 0 Q (F0 m 99 ls []) :=
  loop_gen (B := (fun v => b_X12_countAll_99 letters_ states_ next_ ways_ v.1 v.2)) (Head := fun v : (Nat → Int64) × Int32 => ∀ (H : Heap) (locs : List Loc) (ls : Array Slot), St A D s (RW_X12_countAll cy o d ways_ v.1 counted_) H locs → lv_has ls 5 [(0, .ref o), (1, .int x1), (2, .int x2), (3, .int v.2)] → W p l e rm_X12_countAll s m args below meth c H locs 0 0 Q (F0 m 99 ls [])) (Exit := fun v : (Nat → Int64) => ∀ (H : Heap) (locs : List Loc) (ls : Array Slot), St A D s (RW_X12_countAll cy o d ways_ v counted_) H locs → lv_has ls 5 [(0, .ref o), (1, .int x1), (2, .int x2)] → W p l e rm_X12_countAll s m args below meth c H locs 0 0 Q (F0 m 156 ls [])) (fun v o9 hb1 K1 => wb_X12_countAll_99 o d letters_ tests_ inputLength_ at_ signed_ newParts_ machineParts_ firstParts_ firstTruth_ secondTruth_ isPair_ states_ stateClasses_ elements_ cursor_ hasSnapshot_ isSaving_ machineLength_ machineValue_ codeA_ codeB_ next_ ways_ counted_ x1 x2 v.1 v.2 o9 X hb1 K1) n v x h K
def j_X12_countAll_82 (newWays_ : Nat → Int64) (counted_ : Nat → Int64) (x3 : Int32) (t0 : Int64) (t1 : Int64) (t2 : Int32) : Option (((Nat → Int64) × (Nat → Int64) × Int32) ⊕ ((Nat → Int64) × (Nat → Int64))) :=
  stA counted_ 21 t2 (t1 + t0) (fun counted_22 =>
  stA newWays_ 2000 x3 (0 : Int64) (fun newWays_25 =>
  some (.inl (newWays_25, counted_22, (x3 + (1 : Int32))))))
set_option maxHeartbeats 4000000 in
set_option maxRecDepth 100000 in
theorem jw_X12_countAll_82 {p : Program} {l : Launch} {e : Env} {s : State} {m : MethodId} {args : Array Value} {below : List Frame} {meth : Method} {c : Code} {A : Nat → Prop} {Q : State → Prop} {D : va_G} {cy : Nat → ClassId} (o : Nat) (d : Nat → Nat) (letters_ : Int32) (tests_ : Int32) (inputLength_ : Int32) (at_ : Int32) (signed_ : Int32) (newParts_ : Int32) (machineParts_ : Int32) (firstParts_ : Int32) (firstTruth_ : Int32) (secondTruth_ : Int32) (isPair_ : Int32) (states_ : Int32) (stateClasses_ : Int32) (elements_ : Int32) (cursor_ : Int32) (hasSnapshot_ : Int32) (isSaving_ : Int32) (machineLength_ : Nat → Int32) (machineValue_ : Nat → Int32) (codeA_ : Nat → Int64) (codeB_ : Nat → Int64) (next_ : Nat → Int32) (ways_ : Nat → Int64) (newWays_ : Nat → Int64) (counted_ : Nat → Int64) (x1 : Int32) (x2 : Int32) (x3 : Int32) (t0 : Int64) (t1 : Int64) (t2 : Int32) (o1 : ((Nat → Int64) × (Nat → Int64) × Int32) ⊕ ((Nat → Int64) × (Nat → Int64))) (X : Cx p m c cX12_countAll 5 s args wsX12_countAll RX12 A D cy (RO_X12_countAll cy o d letters_ tests_ inputLength_ at_ signed_ newParts_ machineParts_ firstParts_ firstTruth_ secondTruth_ isPair_ states_ stateClasses_ elements_ cursor_ hasSnapshot_ isSaving_ machineLength_ machineValue_ codeA_ codeB_ next_)) (h : j_X12_countAll_82 newWays_ counted_ x3 t0 t1 t2 = some o1) (K : Sum.elim (fun v : (Nat → Int64) × (Nat → Int64) × Int32 => ∀ (H : Heap) (locs : List Loc) (ls : Array Slot), St A D s (RW_X12_countAll cy o d ways_ v.1 v.2.1) H locs → lv_has ls 5 [(0, .ref o), (1, .int x1), (2, .int x2), (3, .int v.2.2)] → W p l e rm_X12_countAll s m args below meth c H locs 0 0 Q (F0 m 47 ls [])) (fun v : (Nat → Int64) × (Nat → Int64) => ∀ (H : Heap) (locs : List Loc) (ls : Array Slot), St A D s (RW_X12_countAll cy o d ways_ v.1 v.2) H locs → lv_has ls 5 [(0, .ref o), (1, .int x1), (2, .int x2)] → W p l e rm_X12_countAll s m args below meth c H locs 0 0 Q (F0 m 97 ls [])) o1) : ∀ (H : Heap) (locs : List Loc) (ls : Array Slot), St A D s (RW_X12_countAll cy o d ways_ newWays_ counted_) H locs → lv_has ls 5 [(0, .ref o), (1, .int x1), (2, .int x2), (3, .int x3)] → W p l e rm_X12_countAll s m args below meth c H locs 0 0 Q (F0 m 82 ls [.long t0, .long t1, .int t2, .ref (d 59)]) := by
  intro H locs ls Z hl
  have hx := X.1.1
  have hb := X.1.2.1
  unfold j_X12_countAll_82 at h
  refine lv_ladd hx hb dX12_countAll_82 ?_
  obtain ⟨hin21, counted_22, hv23, h⟩ := st_b h
  refine x_last X Z 2 (RW_X12_countAll cy o d ways_ newWays_ counted_22) rfl hin21 hv23 rfl dX12_countAll_83 (fun H locs Z => ?_)
  refine lv_aload_n hx hb dX12_countAll_84 rfl (lv_at hl 0 rfl) ?_
  refine x_getO X Z 0 58 (v := .ref (d 58)) rfl rfl lk_X12_countAll_X12_newWays dX12_countAll_85 ?_
  refine lv_iload_n hx hb dX12_countAll_88 rfl (lv_at hl 3 rfl) ?_
  refine lv_lconst (v := (0 : Int64)) hx hb dX12_countAll_89 (by decide) ?_
  obtain ⟨hin24, newWays_25, hv26, h⟩ := st_b h
  refine x_last X Z 1 (RW_X12_countAll cy o d ways_ newWays_25 counted_22) rfl hin24 hv26 rfl dX12_countAll_90 (fun H locs Z => ?_)
  refine lv_iinc (v := (x3 + (1 : Int32))) (lv' := [(3, .int (x3 + (1 : Int32))), (0, .ref o), (1, .int x1), (2, .int x2)]) hx hb dX12_countAll_91 hl (k := 3) rfl rfl (by decide) rfl (fun ls hl => ?_)
  refine lv_goto (tgt := 47) hx hb dX12_countAll_94 (by decide) ?_
  obtain rfl := Option.some.inj h
  exact sk_l K H locs ls Z (lv_sub hl [1, 2, 3, 0] rfl)
def b_X12_countAll_47 (machineParts_ : Int32) (firstParts_ : Int32) (firstTruth_ : Int32) (secondTruth_ : Int32) (isPair_ : Int32) (states_ : Int32) (machineLength_ : Nat → Int32) (machineValue_ : Nat → Int32) (codeA_ : Nat → Int64) (codeB_ : Nat → Int64) (ways_ : Nat → Int64) (x2 : Int32) (newWays_ : Nat → Int64) (counted_ : Nat → Int64) (x3 : Int32) : Option (((Nat → Int64) × (Nat → Int64) × Int32) ⊕ ((Nat → Int64) × (Nat → Int64))) :=
  if states_ ≤ x3 then
  (some (.inr (newWays_, counted_)))
  else
  (ldA counted_ 21 x2 (fun v28 =>
  (f_X12_answerAt x3 (0 : Int32) machineParts_ firstParts_ firstTruth_ secondTruth_ isPair_ machineLength_ machineValue_ codeA_ codeB_).bind (fun u30 =>
  if u30 = (1 : Int32) then
  (ldA ways_ 2000 x3 (fun v33 =>
  j_X12_countAll_82 newWays_ counted_ x3 v33 v28 x2))
  else
  (j_X12_countAll_82 newWays_ counted_ x3 (0 : Int64) v28 x2))))
set_option maxHeartbeats 4000000 in
set_option maxRecDepth 100000 in
theorem wb_X12_countAll_47 {p : Program} {l : Launch} {e : Env} {s : State} {m : MethodId} {args : Array Value} {below : List Frame} {meth : Method} {c : Code} {A : Nat → Prop} {Q : State → Prop} {D : va_G} {cy : Nat → ClassId} (o : Nat) (d : Nat → Nat) (letters_ : Int32) (tests_ : Int32) (inputLength_ : Int32) (at_ : Int32) (signed_ : Int32) (newParts_ : Int32) (machineParts_ : Int32) (firstParts_ : Int32) (firstTruth_ : Int32) (secondTruth_ : Int32) (isPair_ : Int32) (states_ : Int32) (stateClasses_ : Int32) (elements_ : Int32) (cursor_ : Int32) (hasSnapshot_ : Int32) (isSaving_ : Int32) (machineLength_ : Nat → Int32) (machineValue_ : Nat → Int32) (codeA_ : Nat → Int64) (codeB_ : Nat → Int64) (next_ : Nat → Int32) (ways_ : Nat → Int64) (x1 : Int32) (x2 : Int32) (newWays_ : Nat → Int64) (counted_ : Nat → Int64) (x3 : Int32) (o1 : ((Nat → Int64) × (Nat → Int64) × Int32) ⊕ ((Nat → Int64) × (Nat → Int64))) (X : Cx p m c cX12_countAll 5 s args wsX12_countAll RX12 A D cy (RO_X12_countAll cy o d letters_ tests_ inputLength_ at_ signed_ newParts_ machineParts_ firstParts_ firstTruth_ secondTruth_ isPair_ states_ stateClasses_ elements_ cursor_ hasSnapshot_ isSaving_ machineLength_ machineValue_ codeA_ codeB_ next_)) (h : b_X12_countAll_47 machineParts_ firstParts_ firstTruth_ secondTruth_ isPair_ states_ machineLength_ machineValue_ codeA_ codeB_ ways_ x2 newWays_ counted_ x3 = some o1) (K : Sum.elim (fun v : (Nat → Int64) × (Nat → Int64) × Int32 => ∀ (H : Heap) (locs : List Loc) (ls : Array Slot), St A D s (RW_X12_countAll cy o d ways_ v.1 v.2.1) H locs → lv_has ls 5 [(0, .ref o), (1, .int x1), (2, .int x2), (3, .int v.2.2)] → W p l e rm_X12_countAll s m args below meth c H locs 0 0 Q (F0 m 47 ls [])) (fun v : (Nat → Int64) × (Nat → Int64) => ∀ (H : Heap) (locs : List Loc) (ls : Array Slot), St A D s (RW_X12_countAll cy o d ways_ v.1 v.2) H locs → lv_has ls 5 [(0, .ref o), (1, .int x1), (2, .int x2)] → W p l e rm_X12_countAll s m args below meth c H locs 0 0 Q (F0 m 97 ls [])) o1) : ∀ (H : Heap) (locs : List Loc) (ls : Array Slot), St A D s (RW_X12_countAll cy o d ways_ newWays_ counted_) H locs → lv_has ls 5 [(0, .ref o), (1, .int x1), (2, .int x2), (3, .int x3)] → W p l e rm_X12_countAll s m args below meth c H locs 0 0 Q (F0 m 47 ls []) := by
  intro H locs ls Z hl
  have hx := X.1.1
  have hb := X.1.2.1
  unfold b_X12_countAll_47 at h
  refine lv_iload_n hx hb dX12_countAll_47 rfl (lv_at hl 3 rfl) ?_
  refine lv_aload_n hx hb dX12_countAll_48 rfl (lv_at hl 0 rfl) ?_
  refine x_getO X Z 0 49 (v := .int states_) rfl rfl lk_X12_countAll_X12_states dX12_countAll_49 ?_
  refine lv_icmp_ge (tgt := 97) hx hb dX12_countAll_52 (by decide) (fun cnd => ?_) (fun cnd => ?_)
  · replace h := ifp h cnd
    obtain rfl := Option.some.inj h
    exact (sk_r K) H locs ls Z (lv_sub hl [0, 1, 2] rfl)
  · replace h := ifn h cnd
    refine lv_aload_n hx hb dX12_countAll_55 rfl (lv_at hl 0 rfl) ?_
    refine x_getO X Z 0 59 (v := .ref (d 59)) rfl rfl lk_X12_countAll_X12_counted dX12_countAll_56 ?_
    refine lv_iload_n hx hb dX12_countAll_59 rfl (lv_at hl 2 rfl) ?_
    refine lv_dup2_11 hx hb dX12_countAll_60 rfl rfl ?_
    obtain ⟨hin27, v28, hv29, h⟩ := ld_b h
    refine x_lald X Z 2 rfl hin27 hv29 dX12_countAll_61 ?_
    refine lv_aload_n hx hb dX12_countAll_62 rfl (lv_at hl 0 rfl) ?_
    refine lv_iload_n hx hb dX12_countAll_63 rfl (lv_at hl 3 rfl) ?_
    refine lv_iconst (v := (0 : Int32)) hx hb dX12_countAll_64 (by decide) ?_
    obtain ⟨u30, hc31, h⟩ := ob_some h
    refine x_runVi (RW' := (RW_X12_countAll cy o d ways_ newWays_ counted_)) (wr := [((d 57), aJ cy 2000 ways_), ((d 58), aJ cy 2000 newWays_), ((d 59), aJ cy 21 counted_)]) (isC := []) (isR := [0, 1, 2]) (isF := [0, 1, 2]) (rest := [.long v28, .int x2, .ref (d 59)]) (As := [.int x3, .int (0 : Int32)]) (n := 2) X Z (c_X12_answerAt l D cy o d letters_ tests_ inputLength_ at_ signed_ newParts_ machineParts_ firstParts_ firstTruth_ secondTruth_ isPair_ states_ stateClasses_ elements_ cursor_ hasSnapshot_ isSaving_ machineLength_ machineValue_ codeA_ codeB_ x3 (0 : Int32) u30 hc31) gX12_countAll_X12_answerAt rfl (by decide +kernel) ⟨Nat.le_of_ble_eq_true rfl, Nat.le_of_ble_eq_true rfl⟩ ⟨rfl, rfl⟩ ⟨Nat.le_of_ble_eq_true rfl, Nat.le_of_ble_eq_true rfl⟩ (x_rvO X Z 0 rfl rfl) ⟨rfl, rfl, (roC (Or.inr (mem_at 0 rfl)) (roC (Or.inr (mem_at 1 rfl)) (roC (Or.inr (mem_at 2 rfl)) (roC (Or.inr (mem_at 3 rfl)) (roC (Or.inr (mem_at 4 rfl)) roN))))), rfl, rfl, by decide⟩ ⟨rfl, rfl⟩ rfl hl.1 rfl (Nat.le_of_ble_eq_true rfl) dX12_countAll_65 (fun H locs Z => ?_)
    refine lv_iconst (v := (1 : Int32)) hx hb dX12_countAll_68 (by decide) ?_
    refine lv_icmp_ne (tgt := 81) hx hb dX12_countAll_69 (by decide) (fun cnd => ?_) (fun cnd => ?_)
    · replace h := ifn h cnd
      refine lv_lconst (v := (0 : Int64)) hx hb dX12_countAll_81 (by decide) ?_
      exact jw_X12_countAll_82 o d letters_ tests_ inputLength_ at_ signed_ newParts_ machineParts_ firstParts_ firstTruth_ secondTruth_ isPair_ states_ stateClasses_ elements_ cursor_ hasSnapshot_ isSaving_ machineLength_ machineValue_ codeA_ codeB_ next_ ways_ newWays_ counted_ x1 x2 x3 (0 : Int64) v28 x2 _ X h K H locs ls Z (lv_sub hl [0, 1, 2, 3] rfl)
    · replace h := ifp h cnd
      refine lv_aload_n hx hb dX12_countAll_72 rfl (lv_at hl 0 rfl) ?_
      refine x_getO X Z 0 57 (v := .ref (d 57)) rfl rfl lk_X12_countAll_X12_ways dX12_countAll_73 ?_
      refine lv_iload_n hx hb dX12_countAll_76 rfl (lv_at hl 3 rfl) ?_
      obtain ⟨hin32, v33, hv34, h⟩ := ld_b h
      refine x_lald X Z 0 rfl hin32 hv34 dX12_countAll_77 ?_
      refine lv_goto (tgt := 82) hx hb dX12_countAll_78 (by decide) ?_
      exact jw_X12_countAll_82 o d letters_ tests_ inputLength_ at_ signed_ newParts_ machineParts_ firstParts_ firstTruth_ secondTruth_ isPair_ states_ stateClasses_ elements_ cursor_ hasSnapshot_ isSaving_ machineLength_ machineValue_ codeA_ codeB_ next_ ways_ newWays_ counted_ x1 x2 x3 v33 v28 x2 _ X h K H locs ls Z (lv_sub hl [0, 1, 2, 3] rfl)
set_option maxHeartbeats 4000000 in
set_option maxRecDepth 100000 in
theorem wl_X12_countAll_47 {p : Program} {l : Launch} {e : Env} {s : State} {m : MethodId} {args : Array Value} {below : List Frame} {meth : Method} {c : Code} {A : Nat → Prop} {Q : State → Prop} {D : va_G} {cy : Nat → ClassId} (o : Nat) (d : Nat → Nat) (letters_ : Int32) (tests_ : Int32) (inputLength_ : Int32) (at_ : Int32) (signed_ : Int32) (newParts_ : Int32) (machineParts_ : Int32) (firstParts_ : Int32) (firstTruth_ : Int32) (secondTruth_ : Int32) (isPair_ : Int32) (states_ : Int32) (stateClasses_ : Int32) (elements_ : Int32) (cursor_ : Int32) (hasSnapshot_ : Int32) (isSaving_ : Int32) (machineLength_ : Nat → Int32) (machineValue_ : Nat → Int32) (codeA_ : Nat → Int64) (codeB_ : Nat → Int64) (next_ : Nat → Int32) (ways_ : Nat → Int64) (x1 : Int32) (x2 : Int32) (n : Nat) (v : (Nat → Int64) × (Nat → Int64) × Int32) (x : (Nat → Int64) × (Nat → Int64)) (X : Cx p m c cX12_countAll 5 s args wsX12_countAll RX12 A D cy (RO_X12_countAll cy o d letters_ tests_ inputLength_ at_ signed_ newParts_ machineParts_ firstParts_ firstTruth_ secondTruth_ isPair_ states_ stateClasses_ elements_ cursor_ hasSnapshot_ isSaving_ machineLength_ machineValue_ codeA_ codeB_ next_)) (h : loopN (fun v => b_X12_countAll_47 machineParts_ firstParts_ firstTruth_ secondTruth_ isPair_ states_ machineLength_ machineValue_ codeA_ codeB_ ways_ x2 v.1 v.2.1 v.2.2) n v = some x) (K : ∀ (H : Heap) (locs : List Loc) (ls : Array Slot), St A D s (RW_X12_countAll cy o d ways_ x.1 x.2) H locs → lv_has ls 5 [(0, .ref o), (1, .int x1), (2, .int x2)] → W p l e rm_X12_countAll s m args below meth c H locs 0 0 Q (F0 m 97 ls [])) : ∀ (H : Heap) (locs : List Loc) (ls : Array Slot), St A D s (RW_X12_countAll cy o d ways_ v.1 v.2.1) H locs → lv_has ls 5 [(0, .ref o), (1, .int x1), (2, .int x2), (3, .int v.2.2)] → W p l e rm_X12_countAll s m args below meth c H locs 0 0 Q (F0 m 47 ls []) :=
  loop_gen (B := (fun v => b_X12_countAll_47 machineParts_ firstParts_ firstTruth_ secondTruth_ isPair_ states_ machineLength_ machineValue_ codeA_ codeB_ ways_ x2 v.1 v.2.1 v.2.2)) (Head := fun v : (Nat → Int64) × (Nat → Int64) × Int32 => ∀ (H : Heap) (locs : List Loc) (ls : Array Slot), St A D s (RW_X12_countAll cy o d ways_ v.1 v.2.1) H locs → lv_has ls 5 [(0, .ref o), (1, .int x1), (2, .int x2), (3, .int v.2.2)] → W p l e rm_X12_countAll s m args below meth c H locs 0 0 Q (F0 m 47 ls [])) (Exit := fun v : (Nat → Int64) × (Nat → Int64) => ∀ (H : Heap) (locs : List Loc) (ls : Array Slot), St A D s (RW_X12_countAll cy o d ways_ v.1 v.2) H locs → lv_has ls 5 [(0, .ref o), (1, .int x1), (2, .int x2)] → W p l e rm_X12_countAll s m args below meth c H locs 0 0 Q (F0 m 97 ls [])) (fun v o9 hb1 K1 => wb_X12_countAll_47 o d letters_ tests_ inputLength_ at_ signed_ newParts_ machineParts_ firstParts_ firstTruth_ secondTruth_ isPair_ states_ stateClasses_ elements_ cursor_ hasSnapshot_ isSaving_ machineLength_ machineValue_ codeA_ codeB_ next_ ways_ x1 x2 v.1 v.2.1 v.2.2 o9 X hb1 K1) n v x h K
def b_X12_countAll_33 (letters_ : Int32) (machineParts_ : Int32) (firstParts_ : Int32) (firstTruth_ : Int32) (secondTruth_ : Int32) (isPair_ : Int32) (states_ : Int32) (machineLength_ : Nat → Int32) (machineValue_ : Nat → Int32) (codeA_ : Nat → Int64) (codeB_ : Nat → Int64) (next_ : Nat → Int32) (x1 : Int32) (ways_ : Nat → Int64) (newWays_ : Nat → Int64) (counted_ : Nat → Int64) (x2 : Int32) : Option (((Nat → Int64) × (Nat → Int64) × (Nat → Int64) × Int32) ⊕ ((Nat → Int64) × (Nat → Int64) × (Nat → Int64))) :=
  if x1 < x2 then
  (some (.inr (ways_, newWays_, counted_)))
  else
  (stA counted_ 21 x2 (0 : Int64) (fun counted_36 =>
  (loopN (fun v => b_X12_countAll_47 machineParts_ firstParts_ firstTruth_ secondTruth_ isPair_ states_ machineLength_ machineValue_ codeA_ codeB_ ways_ x2 v.1 v.2.1 v.2.2) FU (newWays_, counted_36, (0 : Int32))).bind (fun u38 =>
  (loopN (fun v => b_X12_countAll_99 letters_ states_ next_ ways_ v.1 v.2) FU (u38.1, (0 : Int32))).bind (fun u40 =>
  (loopN (fun v => b_X12_countAll_158 states_ u40 v.1 v.2) FU (ways_, (0 : Int32))).bind (fun u42 =>
  some (.inl (u42, u40, u38.2, (x2 + (1 : Int32)))))))))
set_option maxHeartbeats 4000000 in
set_option maxRecDepth 100000 in
theorem wb_X12_countAll_33 {p : Program} {l : Launch} {e : Env} {s : State} {m : MethodId} {args : Array Value} {below : List Frame} {meth : Method} {c : Code} {A : Nat → Prop} {Q : State → Prop} {D : va_G} {cy : Nat → ClassId} (o : Nat) (d : Nat → Nat) (letters_ : Int32) (tests_ : Int32) (inputLength_ : Int32) (at_ : Int32) (signed_ : Int32) (newParts_ : Int32) (machineParts_ : Int32) (firstParts_ : Int32) (firstTruth_ : Int32) (secondTruth_ : Int32) (isPair_ : Int32) (states_ : Int32) (stateClasses_ : Int32) (elements_ : Int32) (cursor_ : Int32) (hasSnapshot_ : Int32) (isSaving_ : Int32) (machineLength_ : Nat → Int32) (machineValue_ : Nat → Int32) (codeA_ : Nat → Int64) (codeB_ : Nat → Int64) (next_ : Nat → Int32)  (x1 : Int32) (ways_ : Nat → Int64) (newWays_ : Nat → Int64) (counted_ : Nat → Int64) (x2 : Int32) (o1 : ((Nat → Int64) × (Nat → Int64) × (Nat → Int64) × Int32) ⊕ ((Nat → Int64) × (Nat → Int64) × (Nat → Int64))) (X : Cx p m c cX12_countAll 5 s args wsX12_countAll RX12 A D cy (RO_X12_countAll cy o d letters_ tests_ inputLength_ at_ signed_ newParts_ machineParts_ firstParts_ firstTruth_ secondTruth_ isPair_ states_ stateClasses_ elements_ cursor_ hasSnapshot_ isSaving_ machineLength_ machineValue_ codeA_ codeB_ next_)) (h : b_X12_countAll_33 letters_ machineParts_ firstParts_ firstTruth_ secondTruth_ isPair_ states_ machineLength_ machineValue_ codeA_ codeB_ next_ x1 ways_ newWays_ counted_ x2 = some o1) (K : Sum.elim (fun v : (Nat → Int64) × (Nat → Int64) × (Nat → Int64) × Int32 => ∀ (H : Heap) (locs : List Loc) (ls : Array Slot), St A D s (RW_X12_countAll cy o d v.1 v.2.1 v.2.2.1) H locs → lv_has ls 5 [(0, .ref o), (1, .int x1), (2, .int v.2.2.2)] → W p l e rm_X12_countAll s m args below meth c H locs 0 0 Q (F0 m 33 ls [])) (fun v : (Nat → Int64) × (Nat → Int64) × (Nat → Int64) => ∀ (H : Heap) (locs : List Loc) (ls : Array Slot), St A D s (RW_X12_countAll cy o d v.1 v.2.1 v.2.2) H locs → lv_has ls 5 [] → W p l e rm_X12_countAll s m args below meth c H locs 0 0 Q (F0 m 190 ls [])) o1) : ∀ (H : Heap) (locs : List Loc) (ls : Array Slot), St A D s (RW_X12_countAll cy o d ways_ newWays_ counted_) H locs → lv_has ls 5 [(0, .ref o), (1, .int x1), (2, .int x2)] → W p l e rm_X12_countAll s m args below meth c H locs 0 0 Q (F0 m 33 ls []) := by
  intro H locs ls Z hl
  have hx := X.1.1
  have hb := X.1.2.1
  unfold b_X12_countAll_33 at h
  refine lv_iload_n hx hb dX12_countAll_33 rfl (lv_at hl 2 rfl) ?_
  refine lv_iload_n hx hb dX12_countAll_34 rfl (lv_at hl 1 rfl) ?_
  refine lv_icmp_gt (tgt := 190) hx hb dX12_countAll_35 (by decide) (fun cnd => ?_) (fun cnd => ?_)
  · replace h := ifp h cnd
    obtain rfl := Option.some.inj h
    exact (sk_r K) H locs ls Z (lv_sub hl [] rfl)
  · replace h := ifn h cnd
    refine lv_aload_n hx hb dX12_countAll_38 rfl (lv_at hl 0 rfl) ?_
    refine x_getO X Z 0 59 (v := .ref (d 59)) rfl rfl lk_X12_countAll_X12_counted dX12_countAll_39 ?_
    refine lv_iload_n hx hb dX12_countAll_42 rfl (lv_at hl 2 rfl) ?_
    refine lv_lconst (v := (0 : Int64)) hx hb dX12_countAll_43 (by decide) ?_
    obtain ⟨hin35, counted_36, hv37, h⟩ := st_b h
    refine x_last X Z 2 (RW_X12_countAll cy o d ways_ newWays_ counted_36) rfl hin35 hv37 rfl dX12_countAll_44 (fun H locs Z => ?_)
    refine lv_iconst (v := (0 : Int32)) hx hb dX12_countAll_45 (by decide) ?_
    refine lv_istore_n (lv' := [(3, .int (0 : Int32)), (0, .ref o), (1, .int x1), (2, .int x2)]) hx hb dX12_countAll_46 rfl hl (by decide) rfl (fun ls hl => ?_)
    obtain ⟨u38, hL39, h⟩ := ob_some h
    refine wl_X12_countAll_47 o d letters_ tests_ inputLength_ at_ signed_ newParts_ machineParts_ firstParts_ firstTruth_ secondTruth_ isPair_ states_ stateClasses_ elements_ cursor_ hasSnapshot_ isSaving_ machineLength_ machineValue_ codeA_ codeB_ next_ ways_ x1 x2 FU (newWays_, counted_36, (0 : Int32)) u38 X hL39 (fun H locs ls Z hl => ?_) H locs ls Z (lv_sub hl [1, 2, 3, 0] rfl)
    refine lv_iconst (v := (0 : Int32)) hx hb dX12_countAll_97 (by decide) ?_
    refine lv_istore_n (lv' := [(3, .int (0 : Int32)), (0, .ref o), (1, .int x1), (2, .int x2)]) hx hb dX12_countAll_98 rfl hl (by decide) rfl (fun ls hl => ?_)
    obtain ⟨u40, hL41, h⟩ := ob_some h
    refine wl_X12_countAll_99 o d letters_ tests_ inputLength_ at_ signed_ newParts_ machineParts_ firstParts_ firstTruth_ secondTruth_ isPair_ states_ stateClasses_ elements_ cursor_ hasSnapshot_ isSaving_ machineLength_ machineValue_ codeA_ codeB_ next_ ways_ u38.2 x1 x2 FU (u38.1, (0 : Int32)) u40 X hL41 (fun H locs ls Z hl => ?_) H locs ls Z (lv_sub hl [1, 2, 3, 0] rfl)
    refine lv_iconst (v := (0 : Int32)) hx hb dX12_countAll_156 (by decide) ?_
    refine lv_istore_n (lv' := [(3, .int (0 : Int32)), (0, .ref o), (1, .int x1), (2, .int x2)]) hx hb dX12_countAll_157 rfl hl (by decide) rfl (fun ls hl => ?_)
    obtain ⟨u42, hL43, h⟩ := ob_some h
    refine wl_X12_countAll_158 o d letters_ tests_ inputLength_ at_ signed_ newParts_ machineParts_ firstParts_ firstTruth_ secondTruth_ isPair_ states_ stateClasses_ elements_ cursor_ hasSnapshot_ isSaving_ machineLength_ machineValue_ codeA_ codeB_ next_ u40 u38.2 x1 x2 FU (ways_, (0 : Int32)) u42 X hL43 (fun H locs ls Z hl => ?_) H locs ls Z (lv_sub hl [1, 2, 3, 0] rfl)
    refine lv_iinc (v := (x2 + (1 : Int32))) (lv' := [(2, .int (x2 + (1 : Int32))), (0, .ref o), (1, .int x1)]) hx hb dX12_countAll_184 hl (k := 2) rfl rfl (by decide) rfl (fun ls hl => ?_)
    refine lv_goto (tgt := 33) hx hb dX12_countAll_187 (by decide) ?_
    obtain rfl := Option.some.inj h
    exact sk_l K H locs ls Z (lv_sub hl [1, 2, 0] rfl)
set_option maxHeartbeats 4000000 in
set_option maxRecDepth 100000 in
theorem wl_X12_countAll_33 {p : Program} {l : Launch} {e : Env} {s : State} {m : MethodId} {args : Array Value} {below : List Frame} {meth : Method} {c : Code} {A : Nat → Prop} {Q : State → Prop} {D : va_G} {cy : Nat → ClassId} (o : Nat) (d : Nat → Nat) (letters_ : Int32) (tests_ : Int32) (inputLength_ : Int32) (at_ : Int32) (signed_ : Int32) (newParts_ : Int32) (machineParts_ : Int32) (firstParts_ : Int32) (firstTruth_ : Int32) (secondTruth_ : Int32) (isPair_ : Int32) (states_ : Int32) (stateClasses_ : Int32) (elements_ : Int32) (cursor_ : Int32) (hasSnapshot_ : Int32) (isSaving_ : Int32) (machineLength_ : Nat → Int32) (machineValue_ : Nat → Int32) (codeA_ : Nat → Int64) (codeB_ : Nat → Int64) (next_ : Nat → Int32)  (x1 : Int32) (n : Nat) (v : (Nat → Int64) × (Nat → Int64) × (Nat → Int64) × Int32) (x : (Nat → Int64) × (Nat → Int64) × (Nat → Int64)) (X : Cx p m c cX12_countAll 5 s args wsX12_countAll RX12 A D cy (RO_X12_countAll cy o d letters_ tests_ inputLength_ at_ signed_ newParts_ machineParts_ firstParts_ firstTruth_ secondTruth_ isPair_ states_ stateClasses_ elements_ cursor_ hasSnapshot_ isSaving_ machineLength_ machineValue_ codeA_ codeB_ next_)) (h : loopN (fun v => b_X12_countAll_33 letters_ machineParts_ firstParts_ firstTruth_ secondTruth_ isPair_ states_ machineLength_ machineValue_ codeA_ codeB_ next_ x1 v.1 v.2.1 v.2.2.1 v.2.2.2) n v = some x) (K : ∀ (H : Heap) (locs : List Loc) (ls : Array Slot), St A D s (RW_X12_countAll cy o d x.1 x.2.1 x.2.2) H locs → lv_has ls 5 [] → W p l e rm_X12_countAll s m args below meth c H locs 0 0 Q (F0 m 190 ls [])) : ∀ (H : Heap) (locs : List Loc) (ls : Array Slot), St A D s (RW_X12_countAll cy o d v.1 v.2.1 v.2.2.1) H locs → lv_has ls 5 [(0, .ref o), (1, .int x1), (2, .int v.2.2.2)] → W p l e rm_X12_countAll s m args below meth c H locs 0 0 Q (F0 m 33 ls []) :=
  loop_gen (B := (fun v => b_X12_countAll_33 letters_ machineParts_ firstParts_ firstTruth_ secondTruth_ isPair_ states_ machineLength_ machineValue_ codeA_ codeB_ next_ x1 v.1 v.2.1 v.2.2.1 v.2.2.2)) (Head := fun v : (Nat → Int64) × (Nat → Int64) × (Nat → Int64) × Int32 => ∀ (H : Heap) (locs : List Loc) (ls : Array Slot), St A D s (RW_X12_countAll cy o d v.1 v.2.1 v.2.2.1) H locs → lv_has ls 5 [(0, .ref o), (1, .int x1), (2, .int v.2.2.2)] → W p l e rm_X12_countAll s m args below meth c H locs 0 0 Q (F0 m 33 ls [])) (Exit := fun v : (Nat → Int64) × (Nat → Int64) × (Nat → Int64) => ∀ (H : Heap) (locs : List Loc) (ls : Array Slot), St A D s (RW_X12_countAll cy o d v.1 v.2.1 v.2.2) H locs → lv_has ls 5 [] → W p l e rm_X12_countAll s m args below meth c H locs 0 0 Q (F0 m 190 ls [])) (fun v o9 hb1 K1 => wb_X12_countAll_33 o d letters_ tests_ inputLength_ at_ signed_ newParts_ machineParts_ firstParts_ firstTruth_ secondTruth_ isPair_ states_ stateClasses_ elements_ cursor_ hasSnapshot_ isSaving_ machineLength_ machineValue_ codeA_ codeB_ next_ x1 v.1 v.2.1 v.2.2.1 v.2.2.2 o9 X hb1 K1) n v x h K
def b_X12_countAll_2 (states_ : Int32) (ways_ : Nat → Int64) (x2 : Int32) : Option (((Nat → Int64) × Int32) ⊕ ((Nat → Int64))) :=
  if states_ ≤ x2 then
  (some (.inr ways_))
  else
  (if x2 = 0 then
  (stA ways_ 2000 x2 (1 : Int64) (fun ways_48 =>
  some (.inl (ways_48, (x2 + (1 : Int32))))))
  else
  (stA ways_ 2000 x2 (0 : Int64) (fun ways_45 =>
  some (.inl (ways_45, (x2 + (1 : Int32)))))))
set_option maxHeartbeats 4000000 in
set_option maxRecDepth 100000 in
theorem wb_X12_countAll_2 {p : Program} {l : Launch} {e : Env} {s : State} {m : MethodId} {args : Array Value} {below : List Frame} {meth : Method} {c : Code} {A : Nat → Prop} {Q : State → Prop} {D : va_G} {cy : Nat → ClassId} (o : Nat) (d : Nat → Nat) (letters_ : Int32) (tests_ : Int32) (inputLength_ : Int32) (at_ : Int32) (signed_ : Int32) (newParts_ : Int32) (machineParts_ : Int32) (firstParts_ : Int32) (firstTruth_ : Int32) (secondTruth_ : Int32) (isPair_ : Int32) (states_ : Int32) (stateClasses_ : Int32) (elements_ : Int32) (cursor_ : Int32) (hasSnapshot_ : Int32) (isSaving_ : Int32) (machineLength_ : Nat → Int32) (machineValue_ : Nat → Int32) (codeA_ : Nat → Int64) (codeB_ : Nat → Int64) (next_ : Nat → Int32) (newWays_ : Nat → Int64) (counted_ : Nat → Int64) (x1 : Int32) (ways_ : Nat → Int64) (x2 : Int32) (o1 : ((Nat → Int64) × Int32) ⊕ ((Nat → Int64))) (X : Cx p m c cX12_countAll 5 s args wsX12_countAll RX12 A D cy (RO_X12_countAll cy o d letters_ tests_ inputLength_ at_ signed_ newParts_ machineParts_ firstParts_ firstTruth_ secondTruth_ isPair_ states_ stateClasses_ elements_ cursor_ hasSnapshot_ isSaving_ machineLength_ machineValue_ codeA_ codeB_ next_)) (h : b_X12_countAll_2 states_ ways_ x2 = some o1) (K : Sum.elim (fun v : (Nat → Int64) × Int32 => ∀ (H : Heap) (locs : List Loc) (ls : Array Slot), St A D s (RW_X12_countAll cy o d v.1 newWays_ counted_) H locs → lv_has ls 5 [(0, .ref o), (1, .int x1), (2, .int v.2)] → W p l e rm_X12_countAll s m args below meth c H locs 0 0 Q (F0 m 2 ls [])) (fun v : (Nat → Int64) => ∀ (H : Heap) (locs : List Loc) (ls : Array Slot), St A D s (RW_X12_countAll cy o d v newWays_ counted_) H locs → lv_has ls 5 [(0, .ref o), (1, .int x1)] → W p l e rm_X12_countAll s m args below meth c H locs 0 0 Q (F0 m 31 ls [])) o1) : ∀ (H : Heap) (locs : List Loc) (ls : Array Slot), St A D s (RW_X12_countAll cy o d ways_ newWays_ counted_) H locs → lv_has ls 5 [(0, .ref o), (1, .int x1), (2, .int x2)] → W p l e rm_X12_countAll s m args below meth c H locs 0 0 Q (F0 m 2 ls []) := by
  intro H locs ls Z hl
  have hx := X.1.1
  have hb := X.1.2.1
  unfold b_X12_countAll_2 at h
  refine lv_iload_n hx hb dX12_countAll_2 rfl (lv_at hl 2 rfl) ?_
  refine lv_aload_n hx hb dX12_countAll_3 rfl (lv_at hl 0 rfl) ?_
  refine x_getO X Z 0 49 (v := .int states_) rfl rfl lk_X12_countAll_X12_states dX12_countAll_4 ?_
  refine lv_icmp_ge (tgt := 31) hx hb dX12_countAll_7 (by decide) (fun cnd => ?_) (fun cnd => ?_)
  · replace h := ifp h cnd
    obtain rfl := Option.some.inj h
    exact (sk_r K) H locs ls Z (lv_sub hl [0, 1] rfl)
  · replace h := ifn h cnd
    refine lv_aload_n hx hb dX12_countAll_10 rfl (lv_at hl 0 rfl) ?_
    refine x_getO X Z 0 57 (v := .ref (d 57)) rfl rfl lk_X12_countAll_X12_ways dX12_countAll_11 ?_
    refine lv_iload_n hx hb dX12_countAll_14 rfl (lv_at hl 2 rfl) ?_
    refine lv_iload_n hx hb dX12_countAll_15 rfl (lv_at hl 2 rfl) ?_
    refine lv_if_ne (tgt := 23) hx hb dX12_countAll_16 (by decide) (fun cnd => ?_) (fun cnd => ?_)
    · replace h := ifn h cnd
      refine lv_lconst (v := (0 : Int64)) hx hb dX12_countAll_23 (by decide) ?_
      obtain ⟨hin44, ways_45, hv46, h⟩ := st_b h
      refine x_last X Z 0 (RW_X12_countAll cy o d ways_45 newWays_ counted_) rfl hin44 hv46 rfl dX12_countAll_24 (fun H locs Z => ?_)
      refine lv_iinc (v := (x2 + (1 : Int32))) (lv' := [(2, .int (x2 + (1 : Int32))), (0, .ref o), (1, .int x1)]) hx hb dX12_countAll_25 hl (k := 2) rfl rfl (by decide) rfl (fun ls hl => ?_)
      refine lv_goto (tgt := 2) hx hb dX12_countAll_28 (by decide) ?_
      obtain rfl := Option.some.inj h
      exact sk_l K H locs ls Z (lv_sub hl [1, 2, 0] rfl)
    · replace h := ifp h cnd
      refine lv_lconst (v := (1 : Int64)) hx hb dX12_countAll_19 (by decide) ?_
      refine lv_goto (tgt := 24) hx hb dX12_countAll_20 (by decide) ?_
      obtain ⟨hin47, ways_48, hv49, h⟩ := st_b h
      refine x_last X Z 0 (RW_X12_countAll cy o d ways_48 newWays_ counted_) rfl hin47 hv49 rfl dX12_countAll_24 (fun H locs Z => ?_)
      refine lv_iinc (v := (x2 + (1 : Int32))) (lv' := [(2, .int (x2 + (1 : Int32))), (0, .ref o), (1, .int x1)]) hx hb dX12_countAll_25 hl (k := 2) rfl rfl (by decide) rfl (fun ls hl => ?_)
      refine lv_goto (tgt := 2) hx hb dX12_countAll_28 (by decide) ?_
      obtain rfl := Option.some.inj h
      exact sk_l K H locs ls Z (lv_sub hl [1, 2, 0] rfl)
set_option maxHeartbeats 4000000 in
set_option maxRecDepth 100000 in
theorem wl_X12_countAll_2 {p : Program} {l : Launch} {e : Env} {s : State} {m : MethodId} {args : Array Value} {below : List Frame} {meth : Method} {c : Code} {A : Nat → Prop} {Q : State → Prop} {D : va_G} {cy : Nat → ClassId} (o : Nat) (d : Nat → Nat) (letters_ : Int32) (tests_ : Int32) (inputLength_ : Int32) (at_ : Int32) (signed_ : Int32) (newParts_ : Int32) (machineParts_ : Int32) (firstParts_ : Int32) (firstTruth_ : Int32) (secondTruth_ : Int32) (isPair_ : Int32) (states_ : Int32) (stateClasses_ : Int32) (elements_ : Int32) (cursor_ : Int32) (hasSnapshot_ : Int32) (isSaving_ : Int32) (machineLength_ : Nat → Int32) (machineValue_ : Nat → Int32) (codeA_ : Nat → Int64) (codeB_ : Nat → Int64) (next_ : Nat → Int32) (newWays_ : Nat → Int64) (counted_ : Nat → Int64) (x1 : Int32) (n : Nat) (v : (Nat → Int64) × Int32) (x : (Nat → Int64)) (X : Cx p m c cX12_countAll 5 s args wsX12_countAll RX12 A D cy (RO_X12_countAll cy o d letters_ tests_ inputLength_ at_ signed_ newParts_ machineParts_ firstParts_ firstTruth_ secondTruth_ isPair_ states_ stateClasses_ elements_ cursor_ hasSnapshot_ isSaving_ machineLength_ machineValue_ codeA_ codeB_ next_)) (h : loopN (fun v => b_X12_countAll_2 states_ v.1 v.2) n v = some x) (K : ∀ (H : Heap) (locs : List Loc) (ls : Array Slot), St A D s (RW_X12_countAll cy o d x newWays_ counted_) H locs → lv_has ls 5 [(0, .ref o), (1, .int x1)] → W p l e rm_X12_countAll s m args below meth c H locs 0 0 Q (F0 m 31 ls [])) : ∀ (H : Heap) (locs : List Loc) (ls : Array Slot), St A D s (RW_X12_countAll cy o d v.1 newWays_ counted_) H locs → lv_has ls 5 [(0, .ref o), (1, .int x1), (2, .int v.2)] → W p l e rm_X12_countAll s m args below meth c H locs 0 0 Q (F0 m 2 ls []) :=
  loop_gen (B := (fun v => b_X12_countAll_2 states_ v.1 v.2)) (Head := fun v : (Nat → Int64) × Int32 => ∀ (H : Heap) (locs : List Loc) (ls : Array Slot), St A D s (RW_X12_countAll cy o d v.1 newWays_ counted_) H locs → lv_has ls 5 [(0, .ref o), (1, .int x1), (2, .int v.2)] → W p l e rm_X12_countAll s m args below meth c H locs 0 0 Q (F0 m 2 ls [])) (Exit := fun v : (Nat → Int64) => ∀ (H : Heap) (locs : List Loc) (ls : Array Slot), St A D s (RW_X12_countAll cy o d v newWays_ counted_) H locs → lv_has ls 5 [(0, .ref o), (1, .int x1)] → W p l e rm_X12_countAll s m args below meth c H locs 0 0 Q (F0 m 31 ls [])) (fun v o9 hb1 K1 => wb_X12_countAll_2 o d letters_ tests_ inputLength_ at_ signed_ newParts_ machineParts_ firstParts_ firstTruth_ secondTruth_ isPair_ states_ stateClasses_ elements_ cursor_ hasSnapshot_ isSaving_ machineLength_ machineValue_ codeA_ codeB_ next_ newWays_ counted_ x1 v.1 v.2 o9 X hb1 K1) n v x h K
def f_X12_countAll (x1 : Int32) (letters_ : Int32) (machineParts_ : Int32) (firstParts_ : Int32) (firstTruth_ : Int32) (secondTruth_ : Int32) (isPair_ : Int32) (states_ : Int32) (machineLength_ : Nat → Int32) (machineValue_ : Nat → Int32) (codeA_ : Nat → Int64) (codeB_ : Nat → Int64) (next_ : Nat → Int32) (ways_ : Nat → Int64) (newWays_ : Nat → Int64) (counted_ : Nat → Int64) : Option ((Nat → Int64) × (Nat → Int64) × (Nat → Int64)) :=
  (loopN (fun v => b_X12_countAll_2 states_ v.1 v.2) FU (ways_, (0 : Int32))).bind (fun u50 =>
  (loopN (fun v => b_X12_countAll_33 letters_ machineParts_ firstParts_ firstTruth_ secondTruth_ isPair_ states_ machineLength_ machineValue_ codeA_ codeB_ next_ x1 v.1 v.2.1 v.2.2.1 v.2.2.2) FU (u50, newWays_, counted_, (0 : Int32))).bind (fun u52 =>
  some (u52.1, u52.2.1, u52.2.2)))
set_option maxHeartbeats 4000000 in
set_option maxRecDepth 100000 in
theorem wt_X12_countAll {p : Program} {l : Launch} {e : Env} {s : State} {m : MethodId} {args : Array Value} {below : List Frame} {meth : Method} {c : Code} {A : Nat → Prop} {Q : State → Prop} {D : va_G} {cy : Nat → ClassId} (o : Nat) (d : Nat → Nat) (letters_ : Int32) (tests_ : Int32) (inputLength_ : Int32) (at_ : Int32) (signed_ : Int32) (newParts_ : Int32) (machineParts_ : Int32) (firstParts_ : Int32) (firstTruth_ : Int32) (secondTruth_ : Int32) (isPair_ : Int32) (states_ : Int32) (stateClasses_ : Int32) (elements_ : Int32) (cursor_ : Int32) (hasSnapshot_ : Int32) (isSaving_ : Int32) (machineLength_ : Nat → Int32) (machineValue_ : Nat → Int32) (codeA_ : Nat → Int64) (codeB_ : Nat → Int64) (next_ : Nat → Int32) (ways_ : Nat → Int64) (newWays_ : Nat → Int64) (counted_ : Nat → Int64) (x1 : Int32) (out : (Nat → Int64) × (Nat → Int64) × (Nat → Int64)) (X : Cx p m c cX12_countAll 5 s args wsX12_countAll RX12 A D cy (RO_X12_countAll cy o d letters_ tests_ inputLength_ at_ signed_ newParts_ machineParts_ firstParts_ firstTruth_ secondTruth_ isPair_ states_ stateClasses_ elements_ cursor_ hasSnapshot_ isSaving_ machineLength_ machineValue_ codeA_ codeB_ next_)) (h : f_X12_countAll x1 letters_ machineParts_ firstParts_ firstTruth_ secondTruth_ isPair_ states_ machineLength_ machineValue_ codeA_ codeB_ next_ ways_ newWays_ counted_ = some out) (K : ∀ (H : Heap) (locs : List Loc) (ls : Array Slot) (pc : Nat), decode cX12_countAll pc = .ok (.return_, 1) → St A D s (RW_X12_countAll cy o d out.1 out.2.1 out.2.2) H locs → W p l e rm_X12_countAll s m args below meth c H locs 0 0 Q (F0 m pc ls [])) : ∀ (H : Heap) (locs : List Loc) (ls : Array Slot), St A D s (RW_X12_countAll cy o d ways_ newWays_ counted_) H locs → lv_has ls 5 [(0, .ref o), (1, .int x1)] → W p l e rm_X12_countAll s m args below meth c H locs 0 0 Q (F0 m 0 ls []) := by
  intro H locs ls Z hl
  have hx := X.1.1
  have hb := X.1.2.1
  unfold f_X12_countAll at h
  refine lv_iconst (v := (0 : Int32)) hx hb dX12_countAll_0 (by decide) ?_
  refine lv_istore_n (lv' := [(2, .int (0 : Int32)), (0, .ref o), (1, .int x1)]) hx hb dX12_countAll_1 rfl hl (by decide) rfl (fun ls hl => ?_)
  obtain ⟨u50, hL51, h⟩ := ob_some h
  refine wl_X12_countAll_2 o d letters_ tests_ inputLength_ at_ signed_ newParts_ machineParts_ firstParts_ firstTruth_ secondTruth_ isPair_ states_ stateClasses_ elements_ cursor_ hasSnapshot_ isSaving_ machineLength_ machineValue_ codeA_ codeB_ next_ newWays_ counted_ x1 FU (ways_, (0 : Int32)) u50 X hL51 (fun H locs ls Z hl => ?_) H locs ls Z (lv_sub hl [1, 2, 0] rfl)
  refine lv_iconst (v := (0 : Int32)) hx hb dX12_countAll_31 (by decide) ?_
  refine lv_istore_n (lv' := [(2, .int (0 : Int32)), (0, .ref o), (1, .int x1)]) hx hb dX12_countAll_32 rfl hl (by decide) rfl (fun ls hl => ?_)
  obtain ⟨u52, hL53, h⟩ := ob_some h
  refine wl_X12_countAll_33 o d letters_ tests_ inputLength_ at_ signed_ newParts_ machineParts_ firstParts_ firstTruth_ secondTruth_ isPair_ states_ stateClasses_ elements_ cursor_ hasSnapshot_ isSaving_ machineLength_ machineValue_ codeA_ codeB_ next_ x1 FU (u50, newWays_, counted_, (0 : Int32)) u52 X hL53 (fun H locs ls Z hl => ?_) H locs ls Z (lv_sub hl [1, 2, 0] rfl)
  obtain rfl := Option.some.inj h
  exact K H locs ls _ dX12_countAll_190 Z
theorem c_X12_countAll (l : Launch) (D : va_G) (cy : Nat → ClassId) (o : Nat) (d : Nat → Nat) (letters_ : Int32) (tests_ : Int32) (inputLength_ : Int32) (at_ : Int32) (signed_ : Int32) (newParts_ : Int32) (machineParts_ : Int32) (firstParts_ : Int32) (firstTruth_ : Int32) (secondTruth_ : Int32) (isPair_ : Int32) (states_ : Int32) (stateClasses_ : Int32) (elements_ : Int32) (cursor_ : Int32) (hasSnapshot_ : Int32) (isSaving_ : Int32) (machineLength_ : Nat → Int32) (machineValue_ : Nat → Int32) (codeA_ : Nat → Int64) (codeB_ : Nat → Int64) (next_ : Nat → Int32) (ways_ : Nat → Int64) (newWays_ : Nat → Int64) (counted_ : Nat → Int64) (x1 : Int32) (out : (Nat → Int64) × (Nat → Int64) × (Nat → Int64)) (h : f_X12_countAll x1 letters_ machineParts_ firstParts_ firstTruth_ secondTruth_ isPair_ states_ machineLength_ machineValue_ codeA_ codeB_ next_ ways_ newWays_ counted_ = some out) : CtV l yX12_countAll wsX12_countAll rm_X12_countAll D cy [.ref o, .int x1] (RW_X12_countAll cy o d ways_ newWays_ counted_) (RO_X12_countAll cy o d letters_ tests_ inputLength_ at_ signed_ newParts_ machineParts_ firstParts_ firstTruth_ secondTruth_ isPair_ states_ stateClasses_ elements_ cursor_ hasSnapshot_ isSaving_ machineLength_ machineValue_ codeA_ codeB_ next_) (RW_X12_countAll cy o d out.1 out.2.1 out.2.2) :=
  mk_v (by decide) rfl (Nat.le_of_ble_eq_true rfl) (fun p e s m args below meth c A Q X K H locs ls Z hl => wt_X12_countAll o d letters_ tests_ inputLength_ at_ signed_ newParts_ machineParts_ firstParts_ firstTruth_ secondTruth_ isPair_ states_ stateClasses_ elements_ cursor_ hasSnapshot_ isSaving_ machineLength_ machineValue_ codeA_ codeB_ next_ ways_ newWays_ counted_ x1 out X h K H locs ls Z hl)
/-! SubwordCounterModel countWords (II)J -/
abbrev rm_X12_countWords : Room := { frames := 4, cells := 0, slots := 0, locals := 103 }
def RW_X12_countWords (cy : Nat → ClassId) (o : Nat) (d : Nat → Nat) (letters_ : Int32) (tests_ : Int32) (inputLength_ : Int32) (at_ : Int32) (signed_ : Int32) (newParts_ : Int32) (machineParts_ : Int32) (firstParts_ : Int32) (firstTruth_ : Int32) (secondTruth_ : Int32) (isPair_ : Int32) (states_ : Int32) (stateClasses_ : Int32) (elements_ : Int32) (cursor_ : Int32) (hasSnapshot_ : Int32) (isSaving_ : Int32) (machineKind_ : Nat → Int32) (machineBound_ : Nat → Int32) (machineLength_ : Nat → Int32) (machineValue_ : Nat → Int32) (machinePattern_ : Nat → Int32) (digit_ : Nat → Int32) (codeA_ : Nat → Int64) (codeB_ : Nat → Int64) (keyA_ : Nat → Int64) (keyB_ : Nat → Int64) (found_ : Nat → Int32) (next_ : Nat → Int32) (before_ : Nat → Int32) (by_ : Nat → Int32) (ways_ : Nat → Int64) (newWays_ : Nat → Int64) (counted_ : Nat → Int64) : va_W := [(o, ob 11 (oX12 d letters_ tests_ inputLength_ at_ signed_ newParts_ machineParts_ firstParts_ firstTruth_ secondTruth_ isPair_ states_ stateClasses_ elements_ cursor_ hasSnapshot_ isSaving_)), ((d 30), aI cy 8 machineKind_), ((d 31), aI cy 8 machineBound_), ((d 32), aI cy 8 machineLength_), ((d 33), aI cy 8 machineValue_), ((d 34), aI cy 32 machinePattern_), ((d 35), aI cy 4 digit_), ((d 41), aJ cy 2000 codeA_), ((d 42), aJ cy 2000 codeB_), ((d 43), aJ cy 8192 keyA_), ((d 44), aJ cy 8192 keyB_), ((d 45), aI cy 8192 found_), ((d 46), aI cy 6000 next_), ((d 47), aI cy 2000 before_), ((d 48), aI cy 2000 by_), ((d 57), aJ cy 2000 ways_), ((d 58), aJ cy 2000 newWays_), ((d 59), aJ cy 21 counted_)]
def RO_X12_countWords (cy : Nat → ClassId) (o : Nat) (d : Nat → Nat) (form_ : Nat → Int32) (parts_ : Nat → Int32) (truth_ : Nat → Int32) (partKind_ : Nat → Int32) (partBound_ : Nat → Int32) (partLength_ : Nat → Int32) (partValue_ : Nat → Int32) (partPattern_ : Nat → Int32) : va_W := [((d 16), aI cy 4 form_), ((d 17), aI cy 4 parts_), ((d 18), aI cy 4 truth_), ((d 19), aI cy 16 partKind_), ((d 20), aI cy 16 partBound_), ((d 21), aI cy 16 partLength_), ((d 22), aI cy 16 partValue_), ((d 23), aI cy 64 partPattern_)]
theorem in_X12_countWords_X12 : ∀ w ∈ u_ws RX12 TX12 68, w ∈ wsX12_countWords := fun w h => (List.mem_cons_of_mem _ (List.mem_append_right _ h))
theorem lk_X12_countWords_X12_form : Lk wsX12_countWords RX12 47 11 16 := ⟨RX12, TX12, 68, rfl, by decide, in_X12_countWords_X12, mem_at 2 rfl⟩
theorem lk_X12_countWords_X12_counted : Lk wsX12_countWords RX12 151 11 59 := ⟨RX12, TX12, 68, rfl, by decide, in_X12_countWords_X12, mem_at 5 rfl⟩
def f_X12_countWords (x1 : Int32) (x2 : Int32) (form_ : Nat → Int32) (parts_ : Nat → Int32) (truth_ : Nat → Int32) (partKind_ : Nat → Int32) (partBound_ : Nat → Int32) (partLength_ : Nat → Int32) (partValue_ : Nat → Int32) (partPattern_ : Nat → Int32) (letters_ : Int32) (secondTruth_ : Int32) (machineParts_ : Int32) (firstParts_ : Int32) (firstTruth_ : Int32) (isPair_ : Int32) (states_ : Int32) (machineKind_ : Nat → Int32) (machineBound_ : Nat → Int32) (machineLength_ : Nat → Int32) (machineValue_ : Nat → Int32) (machinePattern_ : Nat → Int32) (digit_ : Nat → Int32) (codeA_ : Nat → Int64) (codeB_ : Nat → Int64) (keyA_ : Nat → Int64) (keyB_ : Nat → Int64) (found_ : Nat → Int32) (next_ : Nat → Int32) (before_ : Nat → Int32) (by_ : Nat → Int32) (ways_ : Nat → Int64) (newWays_ : Nat → Int64) (counted_ : Nat → Int64) : Option (Int64 × Int32 × Int32 × Int32 × Int32 × Int32 × (Nat → Int32) × (Nat → Int32) × (Nat → Int32) × (Nat → Int32) × (Nat → Int32) × (Nat → Int32) × (Nat → Int64) × (Nat → Int64) × (Nat → Int64) × (Nat → Int64) × (Nat → Int32) × (Nat → Int32) × (Nat → Int32) × (Nat → Int32) × (Nat → Int64) × (Nat → Int64) × (Nat → Int64)) :=
  (f_X12_isLanguage x1).bind (fun u1 =>
  if u1 = 0 then
  (some ((-1 : Int64), machineParts_, firstParts_, firstTruth_, isPair_, states_, machineKind_, machineBound_, machineLength_, machineValue_, machinePattern_, digit_, codeA_, codeB_, keyA_, keyB_, found_, next_, before_, by_, ways_, newWays_, counted_))
  else
  ((f_X12_isBetween x2 (0 : Int32) (20 : Int32)).bind (fun u3 =>
  if u3 = 0 then
  (some ((-1 : Int64), machineParts_, firstParts_, firstTruth_, isPair_, states_, machineKind_, machineBound_, machineLength_, machineValue_, machinePattern_, digit_, codeA_, codeB_, keyA_, keyB_, found_, next_, before_, by_, ways_, newWays_, counted_))
  else
  (ldA form_ 4 x1 (fun v6 =>
  if 0 ≤ v6 then
  ((f_X12_buildsLanguage x1 parts_ truth_ partKind_ partBound_ partLength_ partValue_ partPattern_ letters_ machineParts_ firstParts_ firstTruth_ isPair_ states_ machineKind_ machineBound_ machineLength_ machineValue_ machinePattern_ digit_ codeA_ codeB_ keyA_ keyB_ found_ next_ before_ by_).bind (fun u8 =>
  if u8.1 = 0 then
  (some ((-4 : Int64), u8.2.1, u8.2.2.1, u8.2.2.2.1, u8.2.2.2.2.1, u8.2.2.2.2.2.1, u8.2.2.2.2.2.2.1, u8.2.2.2.2.2.2.2.1, u8.2.2.2.2.2.2.2.2.1, u8.2.2.2.2.2.2.2.2.2.1, u8.2.2.2.2.2.2.2.2.2.2.1, u8.2.2.2.2.2.2.2.2.2.2.2.1, u8.2.2.2.2.2.2.2.2.2.2.2.2.1, u8.2.2.2.2.2.2.2.2.2.2.2.2.2.1, u8.2.2.2.2.2.2.2.2.2.2.2.2.2.2.1, u8.2.2.2.2.2.2.2.2.2.2.2.2.2.2.2.1, u8.2.2.2.2.2.2.2.2.2.2.2.2.2.2.2.2.1, u8.2.2.2.2.2.2.2.2.2.2.2.2.2.2.2.2.2.1, u8.2.2.2.2.2.2.2.2.2.2.2.2.2.2.2.2.2.2.1, u8.2.2.2.2.2.2.2.2.2.2.2.2.2.2.2.2.2.2.2, ways_, newWays_, counted_))
  else
  ((f_X12_countAll x2 letters_ u8.2.1 u8.2.2.1 u8.2.2.2.1 secondTruth_ u8.2.2.2.2.1 u8.2.2.2.2.2.1 u8.2.2.2.2.2.2.2.2.1 u8.2.2.2.2.2.2.2.2.2.1 u8.2.2.2.2.2.2.2.2.2.2.2.2.1 u8.2.2.2.2.2.2.2.2.2.2.2.2.2.1 u8.2.2.2.2.2.2.2.2.2.2.2.2.2.2.2.2.2.1 ways_ newWays_ counted_).bind (fun u10 =>
  ldA u10.2.2 21 x2 (fun v13 =>
  some (v13, u8.2.1, u8.2.2.1, u8.2.2.2.1, u8.2.2.2.2.1, u8.2.2.2.2.2.1, u8.2.2.2.2.2.2.1, u8.2.2.2.2.2.2.2.1, u8.2.2.2.2.2.2.2.2.1, u8.2.2.2.2.2.2.2.2.2.1, u8.2.2.2.2.2.2.2.2.2.2.1, u8.2.2.2.2.2.2.2.2.2.2.2.1, u8.2.2.2.2.2.2.2.2.2.2.2.2.1, u8.2.2.2.2.2.2.2.2.2.2.2.2.2.1, u8.2.2.2.2.2.2.2.2.2.2.2.2.2.2.1, u8.2.2.2.2.2.2.2.2.2.2.2.2.2.2.2.1, u8.2.2.2.2.2.2.2.2.2.2.2.2.2.2.2.2.1, u8.2.2.2.2.2.2.2.2.2.2.2.2.2.2.2.2.2.1, u8.2.2.2.2.2.2.2.2.2.2.2.2.2.2.2.2.2.2.1, u8.2.2.2.2.2.2.2.2.2.2.2.2.2.2.2.2.2.2.2, u10.1, u10.2.1, u10.2.2))))))
  else
  (some ((-5 : Int64), machineParts_, firstParts_, firstTruth_, isPair_, states_, machineKind_, machineBound_, machineLength_, machineValue_, machinePattern_, digit_, codeA_, codeB_, keyA_, keyB_, found_, next_, before_, by_, ways_, newWays_, counted_)))))))
set_option maxHeartbeats 4000000 in
set_option maxRecDepth 100000 in
theorem wt_X12_countWords {p : Program} {l : Launch} {e : Env} {s : State} {m : MethodId} {args : Array Value} {below : List Frame} {meth : Method} {c : Code} {A : Nat → Prop} {Q : State → Prop} {D : va_G} {cy : Nat → ClassId} (o : Nat) (d : Nat → Nat) (form_ : Nat → Int32) (parts_ : Nat → Int32) (truth_ : Nat → Int32) (partKind_ : Nat → Int32) (partBound_ : Nat → Int32) (partLength_ : Nat → Int32) (partValue_ : Nat → Int32) (partPattern_ : Nat → Int32) (letters_ : Int32) (tests_ : Int32) (inputLength_ : Int32) (at_ : Int32) (signed_ : Int32) (newParts_ : Int32) (machineParts_ : Int32) (firstParts_ : Int32) (firstTruth_ : Int32) (secondTruth_ : Int32) (isPair_ : Int32) (states_ : Int32) (stateClasses_ : Int32) (elements_ : Int32) (cursor_ : Int32) (hasSnapshot_ : Int32) (isSaving_ : Int32) (machineKind_ : Nat → Int32) (machineBound_ : Nat → Int32) (machineLength_ : Nat → Int32) (machineValue_ : Nat → Int32) (machinePattern_ : Nat → Int32) (digit_ : Nat → Int32) (codeA_ : Nat → Int64) (codeB_ : Nat → Int64) (keyA_ : Nat → Int64) (keyB_ : Nat → Int64) (found_ : Nat → Int32) (next_ : Nat → Int32) (before_ : Nat → Int32) (by_ : Nat → Int32) (ways_ : Nat → Int64) (newWays_ : Nat → Int64) (counted_ : Nat → Int64) (x1 : Int32) (x2 : Int32) (out : Int64 × Int32 × Int32 × Int32 × Int32 × Int32 × (Nat → Int32) × (Nat → Int32) × (Nat → Int32) × (Nat → Int32) × (Nat → Int32) × (Nat → Int32) × (Nat → Int64) × (Nat → Int64) × (Nat → Int64) × (Nat → Int64) × (Nat → Int32) × (Nat → Int32) × (Nat → Int32) × (Nat → Int32) × (Nat → Int64) × (Nat → Int64) × (Nat → Int64)) (X : Cx p m c cX12_countWords 3 s args wsX12_countWords RX12 A D cy (RO_X12_countWords cy o d form_ parts_ truth_ partKind_ partBound_ partLength_ partValue_ partPattern_)) (h : f_X12_countWords x1 x2 form_ parts_ truth_ partKind_ partBound_ partLength_ partValue_ partPattern_ letters_ secondTruth_ machineParts_ firstParts_ firstTruth_ isPair_ states_ machineKind_ machineBound_ machineLength_ machineValue_ machinePattern_ digit_ codeA_ codeB_ keyA_ keyB_ found_ next_ before_ by_ ways_ newWays_ counted_ = some out) (K : ∀ (H : Heap) (locs : List Loc) (ls : Array Slot) (pc : Nat), decode cX12_countWords pc = .ok (.lreturn, 1) → St A D s (RW_X12_countWords cy o d letters_ tests_ inputLength_ at_ signed_ newParts_ out.2.1 out.2.2.1 out.2.2.2.1 secondTruth_ out.2.2.2.2.1 out.2.2.2.2.2.1 stateClasses_ elements_ cursor_ hasSnapshot_ isSaving_ out.2.2.2.2.2.2.1 out.2.2.2.2.2.2.2.1 out.2.2.2.2.2.2.2.2.1 out.2.2.2.2.2.2.2.2.2.1 out.2.2.2.2.2.2.2.2.2.2.1 out.2.2.2.2.2.2.2.2.2.2.2.1 out.2.2.2.2.2.2.2.2.2.2.2.2.1 out.2.2.2.2.2.2.2.2.2.2.2.2.2.1 out.2.2.2.2.2.2.2.2.2.2.2.2.2.2.1 out.2.2.2.2.2.2.2.2.2.2.2.2.2.2.2.1 out.2.2.2.2.2.2.2.2.2.2.2.2.2.2.2.2.1 out.2.2.2.2.2.2.2.2.2.2.2.2.2.2.2.2.2.1 out.2.2.2.2.2.2.2.2.2.2.2.2.2.2.2.2.2.2.1 out.2.2.2.2.2.2.2.2.2.2.2.2.2.2.2.2.2.2.2.1 out.2.2.2.2.2.2.2.2.2.2.2.2.2.2.2.2.2.2.2.2.1 out.2.2.2.2.2.2.2.2.2.2.2.2.2.2.2.2.2.2.2.2.2.1 out.2.2.2.2.2.2.2.2.2.2.2.2.2.2.2.2.2.2.2.2.2.2) H locs → W p l e rm_X12_countWords s m args below meth c H locs 0 0 Q (F0 m pc ls [.long out.1])) : ∀ (H : Heap) (locs : List Loc) (ls : Array Slot), St A D s (RW_X12_countWords cy o d letters_ tests_ inputLength_ at_ signed_ newParts_ machineParts_ firstParts_ firstTruth_ secondTruth_ isPair_ states_ stateClasses_ elements_ cursor_ hasSnapshot_ isSaving_ machineKind_ machineBound_ machineLength_ machineValue_ machinePattern_ digit_ codeA_ codeB_ keyA_ keyB_ found_ next_ before_ by_ ways_ newWays_ counted_) H locs → lv_has ls 3 [(0, .ref o), (1, .int x1), (2, .int x2)] → W p l e rm_X12_countWords s m args below meth c H locs 0 0 Q (F0 m 0 ls []) := by
  intro H locs ls Z hl
  have hx := X.1.1
  have hb := X.1.2.1
  unfold f_X12_countWords at h
  refine lv_iload_n hx hb dX12_countWords_0 rfl (lv_at hl 1 rfl) ?_
  obtain ⟨u1, hc2, h⟩ := ob_some h
  refine x_runSi (RW' := (RW_X12_countWords cy o d letters_ tests_ inputLength_ at_ signed_ newParts_ machineParts_ firstParts_ firstTruth_ secondTruth_ isPair_ states_ stateClasses_ elements_ cursor_ hasSnapshot_ isSaving_ machineKind_ machineBound_ machineLength_ machineValue_ machinePattern_ digit_ codeA_ codeB_ keyA_ keyB_ found_ next_ before_ by_ ways_ newWays_ counted_)) (wr := [(o, ob 11 (oX12 d letters_ tests_ inputLength_ at_ signed_ newParts_ machineParts_ firstParts_ firstTruth_ secondTruth_ isPair_ states_ stateClasses_ elements_ cursor_ hasSnapshot_ isSaving_)), ((d 30), aI cy 8 machineKind_), ((d 31), aI cy 8 machineBound_), ((d 32), aI cy 8 machineLength_), ((d 33), aI cy 8 machineValue_), ((d 34), aI cy 32 machinePattern_), ((d 35), aI cy 4 digit_), ((d 41), aJ cy 2000 codeA_), ((d 42), aJ cy 2000 codeB_), ((d 43), aJ cy 8192 keyA_), ((d 44), aJ cy 8192 keyB_), ((d 45), aI cy 8192 found_), ((d 46), aI cy 6000 next_), ((d 47), aI cy 2000 before_), ((d 48), aI cy 2000 by_), ((d 57), aJ cy 2000 ways_), ((d 58), aJ cy 2000 newWays_), ((d 59), aJ cy 21 counted_)]) (isC := []) (isR := [0, 1, 2, 3, 4, 5, 6, 7, 8, 9, 10, 11, 12, 13, 14, 15, 16, 17]) (isF := [0, 1, 2, 3, 4, 5, 6, 7, 8, 9, 10, 11, 12, 13, 14, 15, 16, 17]) (rest := []) (As := [.int x1]) (n := 1) X Z (c_X12_isLanguage l D cy x1 u1 hc2) gX12_countWords_X12_isLanguage rfl (by decide +kernel) ⟨Nat.le_of_ble_eq_true rfl, Nat.le_of_ble_eq_true rfl⟩ ⟨rfl, rfl⟩ ⟨Nat.le_of_ble_eq_true rfl, Nat.le_of_ble_eq_true rfl⟩ ⟨rfl, rfl, roN, rfl, rfl, by decide⟩ ⟨rfl, rfl⟩ rfl hl.1 rfl (Nat.le_of_ble_eq_true rfl) dX12_countWords_1 (fun H locs Z => ?_)
  refine lv_if_eq (tgt := 17) hx hb dX12_countWords_4 (by decide) (fun cnd => ?_) (fun cnd => ?_)
  · replace h := ifp h cnd
    refine lv_ldc2 (v := (-1 : Int64)) hx hb X.1.2.2.2.1 (X.1.2.2.2.2 _ (mem_at 1 rfl)) dX12_countWords_17 ?_
    obtain rfl := Option.some.inj h
    exact K H locs ls _ dX12_countWords_20 Z
  · replace h := ifn h cnd
    refine lv_iload_n hx hb dX12_countWords_7 rfl (lv_at hl 2 rfl) ?_
    refine lv_iconst (v := (0 : Int32)) hx hb dX12_countWords_8 (by decide) ?_
    refine lv_bipush (v := (20 : Int32)) hx hb dX12_countWords_9 (by decide) ?_
    obtain ⟨u3, hc4, h⟩ := ob_some h
    refine x_runSi (RW' := (RW_X12_countWords cy o d letters_ tests_ inputLength_ at_ signed_ newParts_ machineParts_ firstParts_ firstTruth_ secondTruth_ isPair_ states_ stateClasses_ elements_ cursor_ hasSnapshot_ isSaving_ machineKind_ machineBound_ machineLength_ machineValue_ machinePattern_ digit_ codeA_ codeB_ keyA_ keyB_ found_ next_ before_ by_ ways_ newWays_ counted_)) (wr := [(o, ob 11 (oX12 d letters_ tests_ inputLength_ at_ signed_ newParts_ machineParts_ firstParts_ firstTruth_ secondTruth_ isPair_ states_ stateClasses_ elements_ cursor_ hasSnapshot_ isSaving_)), ((d 30), aI cy 8 machineKind_), ((d 31), aI cy 8 machineBound_), ((d 32), aI cy 8 machineLength_), ((d 33), aI cy 8 machineValue_), ((d 34), aI cy 32 machinePattern_), ((d 35), aI cy 4 digit_), ((d 41), aJ cy 2000 codeA_), ((d 42), aJ cy 2000 codeB_), ((d 43), aJ cy 8192 keyA_), ((d 44), aJ cy 8192 keyB_), ((d 45), aI cy 8192 found_), ((d 46), aI cy 6000 next_), ((d 47), aI cy 2000 before_), ((d 48), aI cy 2000 by_), ((d 57), aJ cy 2000 ways_), ((d 58), aJ cy 2000 newWays_), ((d 59), aJ cy 21 counted_)]) (isC := []) (isR := [0, 1, 2, 3, 4, 5, 6, 7, 8, 9, 10, 11, 12, 13, 14, 15, 16, 17]) (isF := [0, 1, 2, 3, 4, 5, 6, 7, 8, 9, 10, 11, 12, 13, 14, 15, 16, 17]) (rest := []) (As := [.int x2, .int (0 : Int32), .int (20 : Int32)]) (n := 3) X Z (c_X12_isBetween l D cy x2 (0 : Int32) (20 : Int32) u3 hc4) gX12_countWords_X12_isBetween rfl (by decide +kernel) ⟨Nat.le_of_ble_eq_true rfl, Nat.le_of_ble_eq_true rfl⟩ ⟨rfl, rfl⟩ ⟨Nat.le_of_ble_eq_true rfl, Nat.le_of_ble_eq_true rfl⟩ ⟨rfl, rfl, roN, rfl, rfl, by decide⟩ ⟨rfl, rfl⟩ rfl hl.1 rfl (Nat.le_of_ble_eq_true rfl) dX12_countWords_11 (fun H locs Z => ?_)
    refine lv_if_ne (tgt := 21) hx hb dX12_countWords_14 (by decide) (fun cnd => ?_) (fun cnd => ?_)
    · replace h := ifn h cnd
      refine lv_aload_n hx hb dX12_countWords_21 rfl (lv_at hl 0 rfl) ?_
      refine x_get X Z 0 16 (v := .ref (d 16)) rfl rfl lk_X12_countWords_X12_form dX12_countWords_22 ?_
      refine lv_iload_n hx hb dX12_countWords_25 rfl (lv_at hl 1 rfl) ?_
      obtain ⟨hin5, v6, hv7, h⟩ := ld_b h
      refine x_ialdO X Z 0 rfl hin5 hv7 dX12_countWords_26 ?_
      refine lv_if_ge (tgt := 34) hx hb dX12_countWords_27 (by decide) (fun cnd => ?_) (fun cnd => ?_)
      · replace h := ifp h cnd
        refine lv_aload_n hx hb dX12_countWords_34 rfl (lv_at hl 0 rfl) ?_
        refine lv_iload_n hx hb dX12_countWords_35 rfl (lv_at hl 1 rfl) ?_
        obtain ⟨u8, hc9, h⟩ := ob_some h
        refine x_runVi (RW' := (RW_X12_countWords cy o d letters_ tests_ inputLength_ at_ signed_ newParts_ u8.2.1 u8.2.2.1 u8.2.2.2.1 secondTruth_ u8.2.2.2.2.1 u8.2.2.2.2.2.1 stateClasses_ elements_ cursor_ hasSnapshot_ isSaving_ u8.2.2.2.2.2.2.1 u8.2.2.2.2.2.2.2.1 u8.2.2.2.2.2.2.2.2.1 u8.2.2.2.2.2.2.2.2.2.1 u8.2.2.2.2.2.2.2.2.2.2.1 u8.2.2.2.2.2.2.2.2.2.2.2.1 u8.2.2.2.2.2.2.2.2.2.2.2.2.1 u8.2.2.2.2.2.2.2.2.2.2.2.2.2.1 u8.2.2.2.2.2.2.2.2.2.2.2.2.2.2.1 u8.2.2.2.2.2.2.2.2.2.2.2.2.2.2.2.1 u8.2.2.2.2.2.2.2.2.2.2.2.2.2.2.2.2.1 u8.2.2.2.2.2.2.2.2.2.2.2.2.2.2.2.2.2.1 u8.2.2.2.2.2.2.2.2.2.2.2.2.2.2.2.2.2.2.1 u8.2.2.2.2.2.2.2.2.2.2.2.2.2.2.2.2.2.2.2 ways_ newWays_ counted_)) (wr := [((d 57), aJ cy 2000 ways_), ((d 58), aJ cy 2000 newWays_), ((d 59), aJ cy 21 counted_)]) (isC := [0, 1, 2, 3, 4, 5, 6, 7, 8, 9, 10, 11, 12, 13, 14]) (isR := [15, 16, 17]) (isF := [3, 4, 5, 6, 7, 8, 9, 10, 11, 12, 13, 14, 15, 16, 17, 0, 1, 2]) (rest := []) (As := [.int x1]) (n := 1) X Z (c_X12_buildsLanguage l D cy o d parts_ truth_ partKind_ partBound_ partLength_ partValue_ partPattern_ letters_ tests_ inputLength_ at_ signed_ newParts_ machineParts_ firstParts_ firstTruth_ secondTruth_ isPair_ states_ stateClasses_ elements_ cursor_ hasSnapshot_ isSaving_ machineKind_ machineBound_ machineLength_ machineValue_ machinePattern_ digit_ codeA_ codeB_ keyA_ keyB_ found_ next_ before_ by_ x1 u8 hc9) gX12_countWords_X12_buildsLanguage rfl (by decide +kernel) ⟨Nat.le_of_ble_eq_true rfl, Nat.le_of_ble_eq_true rfl⟩ ⟨rfl, rfl⟩ ⟨Nat.le_of_ble_eq_true rfl, Nat.le_of_ble_eq_true rfl⟩ (x_rv X Z 0 rfl rfl) ⟨rfl, rfl, (roC (Or.inr (mem_at 1 rfl)) (roC (Or.inr (mem_at 2 rfl)) (roC (Or.inr (mem_at 3 rfl)) (roC (Or.inr (mem_at 4 rfl)) (roC (Or.inr (mem_at 5 rfl)) (roC (Or.inr (mem_at 6 rfl)) (roC (Or.inr (mem_at 7 rfl)) roN))))))), rfl, rfl, by decide⟩ ⟨rfl, rfl⟩ rfl hl.1 rfl (Nat.le_of_ble_eq_true rfl) dX12_countWords_36 (fun H locs Z => ?_)
        refine lv_if_ne (tgt := 46) hx hb dX12_countWords_39 (by decide) (fun cnd => ?_) (fun cnd => ?_)
        · replace h := ifn h cnd
          refine lv_aload_n hx hb dX12_countWords_46 rfl (lv_at hl 0 rfl) ?_
          refine lv_iload_n hx hb dX12_countWords_47 rfl (lv_at hl 2 rfl) ?_
          obtain ⟨u10, hc11, h⟩ := ob_some h
          refine x_runVv (RW' := (RW_X12_countWords cy o d letters_ tests_ inputLength_ at_ signed_ newParts_ u8.2.1 u8.2.2.1 u8.2.2.2.1 secondTruth_ u8.2.2.2.2.1 u8.2.2.2.2.2.1 stateClasses_ elements_ cursor_ hasSnapshot_ isSaving_ u8.2.2.2.2.2.2.1 u8.2.2.2.2.2.2.2.1 u8.2.2.2.2.2.2.2.2.1 u8.2.2.2.2.2.2.2.2.2.1 u8.2.2.2.2.2.2.2.2.2.2.1 u8.2.2.2.2.2.2.2.2.2.2.2.1 u8.2.2.2.2.2.2.2.2.2.2.2.2.1 u8.2.2.2.2.2.2.2.2.2.2.2.2.2.1 u8.2.2.2.2.2.2.2.2.2.2.2.2.2.2.1 u8.2.2.2.2.2.2.2.2.2.2.2.2.2.2.2.1 u8.2.2.2.2.2.2.2.2.2.2.2.2.2.2.2.2.1 u8.2.2.2.2.2.2.2.2.2.2.2.2.2.2.2.2.2.1 u8.2.2.2.2.2.2.2.2.2.2.2.2.2.2.2.2.2.2.1 u8.2.2.2.2.2.2.2.2.2.2.2.2.2.2.2.2.2.2.2 u10.1 u10.2.1 u10.2.2)) (wr := [(o, ob 11 (oX12 d letters_ tests_ inputLength_ at_ signed_ newParts_ u8.2.1 u8.2.2.1 u8.2.2.2.1 secondTruth_ u8.2.2.2.2.1 u8.2.2.2.2.2.1 stateClasses_ elements_ cursor_ hasSnapshot_ isSaving_)), ((d 30), aI cy 8 u8.2.2.2.2.2.2.1), ((d 31), aI cy 8 u8.2.2.2.2.2.2.2.1), ((d 32), aI cy 8 u8.2.2.2.2.2.2.2.2.1), ((d 33), aI cy 8 u8.2.2.2.2.2.2.2.2.2.1), ((d 34), aI cy 32 u8.2.2.2.2.2.2.2.2.2.2.1), ((d 35), aI cy 4 u8.2.2.2.2.2.2.2.2.2.2.2.1), ((d 41), aJ cy 2000 u8.2.2.2.2.2.2.2.2.2.2.2.2.1), ((d 42), aJ cy 2000 u8.2.2.2.2.2.2.2.2.2.2.2.2.2.1), ((d 43), aJ cy 8192 u8.2.2.2.2.2.2.2.2.2.2.2.2.2.2.1), ((d 44), aJ cy 8192 u8.2.2.2.2.2.2.2.2.2.2.2.2.2.2.2.1), ((d 45), aI cy 8192 u8.2.2.2.2.2.2.2.2.2.2.2.2.2.2.2.2.1), ((d 46), aI cy 6000 u8.2.2.2.2.2.2.2.2.2.2.2.2.2.2.2.2.2.1), ((d 47), aI cy 2000 u8.2.2.2.2.2.2.2.2.2.2.2.2.2.2.2.2.2.2.1), ((d 48), aI cy 2000 u8.2.2.2.2.2.2.2.2.2.2.2.2.2.2.2.2.2.2.2)]) (isC := [15, 16, 17]) (isR := [0, 1, 2, 3, 4, 5, 6, 7, 8, 9, 10, 11, 12, 13, 14]) (isF := [0, 1, 2, 3, 4, 5, 6, 7, 8, 9, 10, 11, 12, 13, 14, 15, 16, 17]) (rest := []) (As := [.int x2]) (n := 1) X Z (c_X12_countAll l D cy o d letters_ tests_ inputLength_ at_ signed_ newParts_ u8.2.1 u8.2.2.1 u8.2.2.2.1 secondTruth_ u8.2.2.2.2.1 u8.2.2.2.2.2.1 stateClasses_ elements_ cursor_ hasSnapshot_ isSaving_ u8.2.2.2.2.2.2.2.2.1 u8.2.2.2.2.2.2.2.2.2.1 u8.2.2.2.2.2.2.2.2.2.2.2.2.1 u8.2.2.2.2.2.2.2.2.2.2.2.2.2.1 u8.2.2.2.2.2.2.2.2.2.2.2.2.2.2.2.2.2.1 ways_ newWays_ counted_ x2 u10 hc11) gX12_countWords_X12_countAll rfl (by decide +kernel) ⟨Nat.le_of_ble_eq_true rfl, Nat.le_of_ble_eq_true rfl⟩ ⟨rfl, rfl⟩ ⟨Nat.le_of_ble_eq_true rfl, Nat.le_of_ble_eq_true rfl⟩ (x_rv X Z 0 rfl rfl) ⟨rfl, rfl, (roC (Or.inl (mem_at 0 rfl)) (roC (Or.inl (mem_at 3 rfl)) (roC (Or.inl (mem_at 4 rfl)) (roC (Or.inl (mem_at 7 rfl)) (roC (Or.inl (mem_at 8 rfl)) (roC (Or.inl (mem_at 12 rfl)) roN)))))), rfl, rfl, by decide⟩ ⟨rfl, rfl⟩ rfl hl.1 rfl (Nat.le_of_ble_eq_true rfl) dX12_countWords_48 (fun H locs Z => ?_)
          refine lv_aload_n hx hb dX12_countWords_51 rfl (lv_at hl 0 rfl) ?_
          refine x_get X Z 0 59 (v := .ref (d 59)) rfl rfl lk_X12_countWords_X12_counted dX12_countWords_52 ?_
          refine lv_iload_n hx hb dX12_countWords_55 rfl (lv_at hl 2 rfl) ?_
          obtain ⟨hin12, v13, hv14, h⟩ := ld_b h
          refine x_lald X Z 17 rfl hin12 hv14 dX12_countWords_56 ?_
          obtain rfl := Option.some.inj h
          exact K H locs ls _ dX12_countWords_57 Z
        · replace h := ifp h cnd
          refine lv_ldc2 (v := (-4 : Int64)) hx hb X.1.2.2.2.1 (X.1.2.2.2.2 _ (mem_at 4 rfl)) dX12_countWords_42 ?_
          obtain rfl := Option.some.inj h
          exact K H locs ls _ dX12_countWords_45 Z
      · replace h := ifn h cnd
        refine lv_ldc2 (v := (-5 : Int64)) hx hb X.1.2.2.2.1 (X.1.2.2.2.2 _ (mem_at 3 rfl)) dX12_countWords_30 ?_
        obtain rfl := Option.some.inj h
        exact K H locs ls _ dX12_countWords_33 Z
    · replace h := ifp h cnd
      refine lv_ldc2 (v := (-1 : Int64)) hx hb X.1.2.2.2.1 (X.1.2.2.2.2 _ (mem_at 1 rfl)) dX12_countWords_17 ?_
      obtain rfl := Option.some.inj h
      exact K H locs ls _ dX12_countWords_20 Z
theorem c_X12_countWords (l : Launch) (D : va_G) (cy : Nat → ClassId) (o : Nat) (d : Nat → Nat) (form_ : Nat → Int32) (parts_ : Nat → Int32) (truth_ : Nat → Int32) (partKind_ : Nat → Int32) (partBound_ : Nat → Int32) (partLength_ : Nat → Int32) (partValue_ : Nat → Int32) (partPattern_ : Nat → Int32) (letters_ : Int32) (tests_ : Int32) (inputLength_ : Int32) (at_ : Int32) (signed_ : Int32) (newParts_ : Int32) (machineParts_ : Int32) (firstParts_ : Int32) (firstTruth_ : Int32) (secondTruth_ : Int32) (isPair_ : Int32) (states_ : Int32) (stateClasses_ : Int32) (elements_ : Int32) (cursor_ : Int32) (hasSnapshot_ : Int32) (isSaving_ : Int32) (machineKind_ : Nat → Int32) (machineBound_ : Nat → Int32) (machineLength_ : Nat → Int32) (machineValue_ : Nat → Int32) (machinePattern_ : Nat → Int32) (digit_ : Nat → Int32) (codeA_ : Nat → Int64) (codeB_ : Nat → Int64) (keyA_ : Nat → Int64) (keyB_ : Nat → Int64) (found_ : Nat → Int32) (next_ : Nat → Int32) (before_ : Nat → Int32) (by_ : Nat → Int32) (ways_ : Nat → Int64) (newWays_ : Nat → Int64) (counted_ : Nat → Int64) (x1 : Int32) (x2 : Int32) (out : Int64 × Int32 × Int32 × Int32 × Int32 × Int32 × (Nat → Int32) × (Nat → Int32) × (Nat → Int32) × (Nat → Int32) × (Nat → Int32) × (Nat → Int32) × (Nat → Int64) × (Nat → Int64) × (Nat → Int64) × (Nat → Int64) × (Nat → Int32) × (Nat → Int32) × (Nat → Int32) × (Nat → Int32) × (Nat → Int64) × (Nat → Int64) × (Nat → Int64)) (h : f_X12_countWords x1 x2 form_ parts_ truth_ partKind_ partBound_ partLength_ partValue_ partPattern_ letters_ secondTruth_ machineParts_ firstParts_ firstTruth_ isPair_ states_ machineKind_ machineBound_ machineLength_ machineValue_ machinePattern_ digit_ codeA_ codeB_ keyA_ keyB_ found_ next_ before_ by_ ways_ newWays_ counted_ = some out) : CtL l yX12_countWords wsX12_countWords rm_X12_countWords D cy [.ref o, .int x1, .int x2] (RW_X12_countWords cy o d letters_ tests_ inputLength_ at_ signed_ newParts_ machineParts_ firstParts_ firstTruth_ secondTruth_ isPair_ states_ stateClasses_ elements_ cursor_ hasSnapshot_ isSaving_ machineKind_ machineBound_ machineLength_ machineValue_ machinePattern_ digit_ codeA_ codeB_ keyA_ keyB_ found_ next_ before_ by_ ways_ newWays_ counted_) (RO_X12_countWords cy o d form_ parts_ truth_ partKind_ partBound_ partLength_ partValue_ partPattern_) (RW_X12_countWords cy o d letters_ tests_ inputLength_ at_ signed_ newParts_ out.2.1 out.2.2.1 out.2.2.2.1 secondTruth_ out.2.2.2.2.1 out.2.2.2.2.2.1 stateClasses_ elements_ cursor_ hasSnapshot_ isSaving_ out.2.2.2.2.2.2.1 out.2.2.2.2.2.2.2.1 out.2.2.2.2.2.2.2.2.1 out.2.2.2.2.2.2.2.2.2.1 out.2.2.2.2.2.2.2.2.2.2.1 out.2.2.2.2.2.2.2.2.2.2.2.1 out.2.2.2.2.2.2.2.2.2.2.2.2.1 out.2.2.2.2.2.2.2.2.2.2.2.2.2.1 out.2.2.2.2.2.2.2.2.2.2.2.2.2.2.1 out.2.2.2.2.2.2.2.2.2.2.2.2.2.2.2.1 out.2.2.2.2.2.2.2.2.2.2.2.2.2.2.2.2.1 out.2.2.2.2.2.2.2.2.2.2.2.2.2.2.2.2.2.1 out.2.2.2.2.2.2.2.2.2.2.2.2.2.2.2.2.2.2.1 out.2.2.2.2.2.2.2.2.2.2.2.2.2.2.2.2.2.2.2.1 out.2.2.2.2.2.2.2.2.2.2.2.2.2.2.2.2.2.2.2.2.1 out.2.2.2.2.2.2.2.2.2.2.2.2.2.2.2.2.2.2.2.2.2.1 out.2.2.2.2.2.2.2.2.2.2.2.2.2.2.2.2.2.2.2.2.2.2) out.1 :=
  mk_l (by decide) rfl (Nat.le_of_ble_eq_true rfl) (fun p e s m args below meth c A Q X K H locs ls Z hl => wt_X12_countWords o d form_ parts_ truth_ partKind_ partBound_ partLength_ partValue_ partPattern_ letters_ tests_ inputLength_ at_ signed_ newParts_ machineParts_ firstParts_ firstTruth_ secondTruth_ isPair_ states_ stateClasses_ elements_ cursor_ hasSnapshot_ isSaving_ machineKind_ machineBound_ machineLength_ machineValue_ machinePattern_ digit_ codeA_ codeB_ keyA_ keyB_ found_ next_ before_ by_ ways_ newWays_ counted_ x1 x2 out X h K H locs ls Z hl)
/-! SubwordCounterModel firstInto (I)I -/
abbrev rm_X12_firstInto : Room := { frames := 3, cells := 0, slots := 0, locals := 73 }
def RW_X12_firstInto (cy : Nat → ClassId) (o : Nat) (d : Nat → Nat) (wordLength_ : Nat → Int32) (word_ : Nat → Int32) : va_W := [((d 1), aI cy 3 wordLength_), ((d 2), aI cy 36 word_)]
def RO_X12_firstInto (cy : Nat → ClassId) (o : Nat) (d : Nat → Nat) (letters_ : Int32) (tests_ : Int32) (inputLength_ : Int32) (at_ : Int32) (signed_ : Int32) (newParts_ : Int32) (machineParts_ : Int32) (firstParts_ : Int32) (firstTruth_ : Int32) (secondTruth_ : Int32) (isPair_ : Int32) (states_ : Int32) (stateClasses_ : Int32) (elements_ : Int32) (cursor_ : Int32) (hasSnapshot_ : Int32) (isSaving_ : Int32) (machineLength_ : Nat → Int32) (machineValue_ : Nat → Int32) (codeA_ : Nat → Int64) (codeB_ : Nat → Int64) (before_ : Nat → Int32) (by_ : Nat → Int32) : va_W := [(o, ob 11 (oX12 d letters_ tests_ inputLength_ at_ signed_ newParts_ machineParts_ firstParts_ firstTruth_ secondTruth_ isPair_ states_ stateClasses_ elements_ cursor_ hasSnapshot_ isSaving_)), ((d 32), aI cy 8 machineLength_), ((d 33), aI cy 8 machineValue_), ((d 41), aJ cy 2000 codeA_), ((d 42), aJ cy 2000 codeB_), ((d 47), aI cy 2000 before_), ((d 48), aI cy 2000 by_)]
theorem in_X12_firstInto_X12 : ∀ w ∈ u_ws RX12 TX12 68, w ∈ wsX12_firstInto := fun w h => (List.mem_cons_of_mem _ (List.mem_append_right _ h))
theorem lk_X12_firstInto_X12_before : Lk wsX12_firstInto RX12 123 11 47 := ⟨RX12, TX12, 68, rfl, by decide, in_X12_firstInto_X12, mem_at 2 rfl⟩
theorem lk_X12_firstInto_X12_word : Lk wsX12_firstInto RX12 17 11 2 := ⟨RX12, TX12, 68, rfl, by decide, in_X12_firstInto_X12, mem_at 4 rfl⟩
theorem lk_X12_firstInto_X12_by : Lk wsX12_firstInto RX12 126 11 48 := ⟨RX12, TX12, 68, rfl, by decide, in_X12_firstInto_X12, mem_at 5 rfl⟩
theorem lk_X12_firstInto_X12_states : Lk wsX12_firstInto RX12 266 11 49 := ⟨RX12, TX12, 68, rfl, by decide, in_X12_firstInto_X12, mem_at 1 rfl⟩
theorem lk_X12_firstInto_X12_wordLength : Lk wsX12_firstInto RX12 13 11 1 := ⟨RX12, TX12, 68, rfl, by decide, in_X12_firstInto_X12, mem_at 3 rfl⟩
def b_X12_firstInto_73 (before_ : Nat → Int32) (by_ : Nat → Int32) (x1 : Int32) (word_ : Nat → Int32) (x4 : Int32) (x5 : Int32) : Option (((Nat → Int32) × Int32 × Int32) ⊕ ((Nat → Int32))) :=
  ldA before_ 2000 x5 (fun v2 =>
  if v2 < 0 then
  (some (.inr word_))
  else
  (ldA by_ 2000 x5 (fun v5 =>
  stA word_ 36 (((12 : Int32) * x1) + (x4 + (-1 : Int32))) v5 (fun word_8 =>
  ldA before_ 2000 x5 (fun v11 =>
  some (.inl (word_8, (x4 + (-1 : Int32)), v11)))))))
set_option maxHeartbeats 4000000 in
set_option maxRecDepth 100000 in
theorem wb_X12_firstInto_73 {p : Program} {l : Launch} {e : Env} {s : State} {m : MethodId} {args : Array Value} {below : List Frame} {meth : Method} {c : Code} {A : Nat → Prop} {Q : State → Prop} {D : va_G} {cy : Nat → ClassId} (o : Nat) (d : Nat → Nat) (letters_ : Int32) (tests_ : Int32) (inputLength_ : Int32) (at_ : Int32) (signed_ : Int32) (newParts_ : Int32) (machineParts_ : Int32) (firstParts_ : Int32) (firstTruth_ : Int32) (secondTruth_ : Int32) (isPair_ : Int32) (states_ : Int32) (stateClasses_ : Int32) (elements_ : Int32) (cursor_ : Int32) (hasSnapshot_ : Int32) (isSaving_ : Int32) (machineLength_ : Nat → Int32) (machineValue_ : Nat → Int32) (codeA_ : Nat → Int64) (codeB_ : Nat → Int64) (before_ : Nat → Int32) (by_ : Nat → Int32) (wordLength_ : Nat → Int32) (x1 : Int32) (x3 : Int32) (word_ : Nat → Int32) (x4 : Int32) (x5 : Int32) (o1 : ((Nat → Int32) × Int32 × Int32) ⊕ ((Nat → Int32))) (X : Cx p m c cX12_firstInto 6 s args wsX12_firstInto RX12 A D cy (RO_X12_firstInto cy o d letters_ tests_ inputLength_ at_ signed_ newParts_ machineParts_ firstParts_ firstTruth_ secondTruth_ isPair_ states_ stateClasses_ elements_ cursor_ hasSnapshot_ isSaving_ machineLength_ machineValue_ codeA_ codeB_ before_ by_)) (h : b_X12_firstInto_73 before_ by_ x1 word_ x4 x5 = some o1) (K : Sum.elim (fun v : (Nat → Int32) × Int32 × Int32 => ∀ (H : Heap) (locs : List Loc) (ls : Array Slot), St A D s (RW_X12_firstInto cy o d wordLength_ v.1) H locs → lv_has ls 6 [(0, .ref o), (1, .int x1), (3, .int x3), (4, .int v.2.1), (5, .int v.2.2)] → W p l e rm_X12_firstInto s m args below meth c H locs 0 0 Q (F0 m 73 ls [])) (fun v : (Nat → Int32) => ∀ (H : Heap) (locs : List Loc) (ls : Array Slot), St A D s (RW_X12_firstInto cy o d wordLength_ v) H locs → lv_has ls 6 [(3, .int x3)] → W p l e rm_X12_firstInto s m args below meth c H locs 0 0 Q (F0 m 117 ls [])) o1) : ∀ (H : Heap) (locs : List Loc) (ls : Array Slot), St A D s (RW_X12_firstInto cy o d wordLength_ word_) H locs → lv_has ls 6 [(0, .ref o), (1, .int x1), (3, .int x3), (4, .int x4), (5, .int x5)] → W p l e rm_X12_firstInto s m args below meth c H locs 0 0 Q (F0 m 73 ls []) := by
  intro H locs ls Z hl
  have hx := X.1.1
  have hb := X.1.2.1
  unfold b_X12_firstInto_73 at h
  refine lv_aload_n hx hb dX12_firstInto_73 rfl (lv_at hl 0 rfl) ?_
  refine x_getO X Z 0 47 (v := .ref (d 47)) rfl rfl lk_X12_firstInto_X12_before dX12_firstInto_74 ?_
  refine lv_iload hx hb dX12_firstInto_77 (lv_at hl 4 rfl) ?_
  obtain ⟨hin1, v2, hv3, h⟩ := ld_b h
  refine x_ialdO X Z 5 rfl hin1 hv3 dX12_firstInto_79 ?_
  refine lv_if_lt (tgt := 117) hx hb dX12_firstInto_80 (by decide) (fun cnd => ?_) (fun cnd => ?_)
  · replace h := ifp h cnd
    obtain rfl := Option.some.inj h
    exact (sk_r K) H locs ls Z (lv_sub hl [2] rfl)
  · replace h := ifn h cnd
    refine lv_iinc (v := (x4 + (-1 : Int32))) (lv' := [(4, .int (x4 + (-1 : Int32))), (0, .ref o), (1, .int x1), (3, .int x3), (5, .int x5)]) hx hb dX12_firstInto_83 hl (k := 3) rfl rfl (by decide) rfl (fun ls hl => ?_)
    refine lv_aload_n hx hb dX12_firstInto_86 rfl (lv_at hl 1 rfl) ?_
    refine x_getO X Z 0 2 (v := .ref (d 2)) rfl rfl lk_X12_firstInto_X12_word dX12_firstInto_87 ?_
    refine lv_bipush (v := (12 : Int32)) hx hb dX12_firstInto_90 (by decide) ?_
    refine lv_iload_n hx hb dX12_firstInto_92 rfl (lv_at hl 2 rfl) ?_
    refine lv_imul hx hb dX12_firstInto_93 ?_
    refine lv_iload hx hb dX12_firstInto_94 (lv_at hl 0 rfl) ?_
    refine lv_iadd hx hb dX12_firstInto_96 ?_
    refine lv_aload_n hx hb dX12_firstInto_97 rfl (lv_at hl 1 rfl) ?_
    refine x_getO X Z 0 48 (v := .ref (d 48)) rfl rfl lk_X12_firstInto_X12_by dX12_firstInto_98 ?_
    refine lv_iload hx hb dX12_firstInto_101 (lv_at hl 4 rfl) ?_
    obtain ⟨hin4, v5, hv6, h⟩ := ld_b h
    refine x_ialdO X Z 6 rfl hin4 hv6 dX12_firstInto_103 ?_
    obtain ⟨hin7, word_8, hv9, h⟩ := st_b h
    refine x_iast X Z 1 (RW_X12_firstInto cy o d wordLength_ word_8) rfl hin7 hv9 rfl dX12_firstInto_104 (fun H locs Z => ?_)
    refine lv_aload_n hx hb dX12_firstInto_105 rfl (lv_at hl 1 rfl) ?_
    refine x_getO X Z 0 47 (v := .ref (d 47)) rfl rfl lk_X12_firstInto_X12_before dX12_firstInto_106 ?_
    refine lv_iload hx hb dX12_firstInto_109 (lv_at hl 4 rfl) ?_
    obtain ⟨hin10, v11, hv12, h⟩ := ld_b h
    refine x_ialdO X Z 5 rfl hin10 hv12 dX12_firstInto_111 ?_
    refine lv_istore (lv' := [(5, .int v11), (4, .int (x4 + (-1 : Int32))), (0, .ref o), (1, .int x1), (3, .int x3)]) hx hb dX12_firstInto_112 hl (by decide) rfl (fun ls hl => ?_)
    refine lv_goto (tgt := 73) hx hb dX12_firstInto_114 (by decide) ?_
    obtain rfl := Option.some.inj h
    exact sk_l K H locs ls Z (lv_sub hl [2, 3, 4, 1, 0] rfl)
set_option maxHeartbeats 4000000 in
set_option maxRecDepth 100000 in
theorem wl_X12_firstInto_73 {p : Program} {l : Launch} {e : Env} {s : State} {m : MethodId} {args : Array Value} {below : List Frame} {meth : Method} {c : Code} {A : Nat → Prop} {Q : State → Prop} {D : va_G} {cy : Nat → ClassId} (o : Nat) (d : Nat → Nat) (letters_ : Int32) (tests_ : Int32) (inputLength_ : Int32) (at_ : Int32) (signed_ : Int32) (newParts_ : Int32) (machineParts_ : Int32) (firstParts_ : Int32) (firstTruth_ : Int32) (secondTruth_ : Int32) (isPair_ : Int32) (states_ : Int32) (stateClasses_ : Int32) (elements_ : Int32) (cursor_ : Int32) (hasSnapshot_ : Int32) (isSaving_ : Int32) (machineLength_ : Nat → Int32) (machineValue_ : Nat → Int32) (codeA_ : Nat → Int64) (codeB_ : Nat → Int64) (before_ : Nat → Int32) (by_ : Nat → Int32) (wordLength_ : Nat → Int32) (x1 : Int32) (x3 : Int32) (n : Nat) (v : (Nat → Int32) × Int32 × Int32) (x : (Nat → Int32)) (X : Cx p m c cX12_firstInto 6 s args wsX12_firstInto RX12 A D cy (RO_X12_firstInto cy o d letters_ tests_ inputLength_ at_ signed_ newParts_ machineParts_ firstParts_ firstTruth_ secondTruth_ isPair_ states_ stateClasses_ elements_ cursor_ hasSnapshot_ isSaving_ machineLength_ machineValue_ codeA_ codeB_ before_ by_)) (h : loopN (fun v => b_X12_firstInto_73 before_ by_ x1 v.1 v.2.1 v.2.2) n v = some x) (K : ∀ (H : Heap) (locs : List Loc) (ls : Array Slot), St A D s (RW_X12_firstInto cy o d wordLength_ x) H locs → lv_has ls 6 [(3, .int x3)] → W p l e rm_X12_firstInto s m args below meth c H locs 0 0 Q (F0 m 117 ls [])) : ∀ (H : Heap) (locs : List Loc) (ls : Array Slot), St A D s (RW_X12_firstInto cy o d wordLength_ v.1) H locs → lv_has ls 6 [(0, .ref o), (1, .int x1), (3, .int x3), (4, .int v.2.1), (5, .int v.2.2)] → W p l e rm_X12_firstInto s m args below meth c H locs 0 0 Q (F0 m 73 ls []) :=
  loop_gen (B := (fun v => b_X12_firstInto_73 before_ by_ x1 v.1 v.2.1 v.2.2)) (Head := fun v : (Nat → Int32) × Int32 × Int32 => ∀ (H : Heap) (locs : List Loc) (ls : Array Slot), St A D s (RW_X12_firstInto cy o d wordLength_ v.1) H locs → lv_has ls 6 [(0, .ref o), (1, .int x1), (3, .int x3), (4, .int v.2.1), (5, .int v.2.2)] → W p l e rm_X12_firstInto s m args below meth c H locs 0 0 Q (F0 m 73 ls [])) (Exit := fun v : (Nat → Int32) => ∀ (H : Heap) (locs : List Loc) (ls : Array Slot), St A D s (RW_X12_firstInto cy o d wordLength_ v) H locs → lv_has ls 6 [(3, .int x3)] → W p l e rm_X12_firstInto s m args below meth c H locs 0 0 Q (F0 m 117 ls [])) (fun v o9 hb1 K1 => wb_X12_firstInto_73 o d letters_ tests_ inputLength_ at_ signed_ newParts_ machineParts_ firstParts_ firstTruth_ secondTruth_ isPair_ states_ stateClasses_ elements_ cursor_ hasSnapshot_ isSaving_ machineLength_ machineValue_ codeA_ codeB_ before_ by_ wordLength_ x1 x3 v.1 v.2.1 v.2.2 o9 X hb1 K1) n v x h K
def b_X12_firstInto_27 (before_ : Nat → Int32)  (x3 : Int32) (x4 : Int32) : Option ((Int32 × Int32) ⊕ (Int32)) :=
  ldA before_ 2000 x4 (fun v14 =>
  if v14 < 0 then
  (some (.inr x3))
  else
  (ldA before_ 2000 x4 (fun v17 =>
  some (.inl ((x3 + (1 : Int32)), v17)))))
set_option maxHeartbeats 4000000 in
set_option maxRecDepth 100000 in
theorem wb_X12_firstInto_27 {p : Program} {l : Launch} {e : Env} {s : State} {m : MethodId} {args : Array Value} {below : List Frame} {meth : Method} {c : Code} {A : Nat → Prop} {Q : State → Prop} {D : va_G} {cy : Nat → ClassId} (o : Nat) (d : Nat → Nat) (letters_ : Int32) (tests_ : Int32) (inputLength_ : Int32) (at_ : Int32) (signed_ : Int32) (newParts_ : Int32) (machineParts_ : Int32) (firstParts_ : Int32) (firstTruth_ : Int32) (secondTruth_ : Int32) (isPair_ : Int32) (states_ : Int32) (stateClasses_ : Int32) (elements_ : Int32) (cursor_ : Int32) (hasSnapshot_ : Int32) (isSaving_ : Int32) (machineLength_ : Nat → Int32) (machineValue_ : Nat → Int32) (codeA_ : Nat → Int64) (codeB_ : Nat → Int64) (before_ : Nat → Int32) (by_ : Nat → Int32) (wordLength_ : Nat → Int32) (word_ : Nat → Int32) (x1 : Int32) (x2 : Int32)  (x3 : Int32) (x4 : Int32) (o1 : (Int32 × Int32) ⊕ (Int32)) (X : Cx p m c cX12_firstInto 6 s args wsX12_firstInto RX12 A D cy (RO_X12_firstInto cy o d letters_ tests_ inputLength_ at_ signed_ newParts_ machineParts_ firstParts_ firstTruth_ secondTruth_ isPair_ states_ stateClasses_ elements_ cursor_ hasSnapshot_ isSaving_ machineLength_ machineValue_ codeA_ codeB_ before_ by_)) (h : b_X12_firstInto_27 before_ x3 x4 = some o1) (K : Sum.elim (fun v : Int32 × Int32 => ∀ (H : Heap) (locs : List Loc) (ls : Array Slot), St A D s (RW_X12_firstInto cy o d wordLength_ word_) H locs → lv_has ls 6 [(0, .ref o), (1, .int x1), (2, .int x2), (3, .int v.1), (4, .int v.2)] → W p l e rm_X12_firstInto s m args below meth c H locs 0 0 Q (F0 m 27 ls [])) (fun v : Int32 => ∀ (H : Heap) (locs : List Loc) (ls : Array Slot), St A D s (RW_X12_firstInto cy o d wordLength_ word_) H locs → lv_has ls 6 [(0, .ref o), (1, .int x1), (2, .int x2), (3, .int v)] → W p l e rm_X12_firstInto s m args below meth c H locs 0 0 Q (F0 m 52 ls [])) o1) : ∀ (H : Heap) (locs : List Loc) (ls : Array Slot), St A D s (RW_X12_firstInto cy o d wordLength_ word_) H locs → lv_has ls 6 [(0, .ref o), (1, .int x1), (2, .int x2), (3, .int x3), (4, .int x4)] → W p l e rm_X12_firstInto s m args below meth c H locs 0 0 Q (F0 m 27 ls []) := by
  intro H locs ls Z hl
  have hx := X.1.1
  have hb := X.1.2.1
  unfold b_X12_firstInto_27 at h
  refine lv_aload_n hx hb dX12_firstInto_27 rfl (lv_at hl 0 rfl) ?_
  refine x_getO X Z 0 47 (v := .ref (d 47)) rfl rfl lk_X12_firstInto_X12_before dX12_firstInto_28 ?_
  refine lv_iload hx hb dX12_firstInto_31 (lv_at hl 4 rfl) ?_
  obtain ⟨hin13, v14, hv15, h⟩ := ld_b h
  refine x_ialdO X Z 5 rfl hin13 hv15 dX12_firstInto_33 ?_
  refine lv_if_lt (tgt := 52) hx hb dX12_firstInto_34 (by decide) (fun cnd => ?_) (fun cnd => ?_)
  · replace h := ifp h cnd
    obtain rfl := Option.some.inj h
    exact (sk_r K) H locs ls Z (lv_sub hl [0, 1, 2, 3] rfl)
  · replace h := ifn h cnd
    refine lv_iinc (v := (x3 + (1 : Int32))) (lv' := [(3, .int (x3 + (1 : Int32))), (0, .ref o), (1, .int x1), (2, .int x2), (4, .int x4)]) hx hb dX12_firstInto_37 hl (k := 3) rfl rfl (by decide) rfl (fun ls hl => ?_)
    refine lv_aload_n hx hb dX12_firstInto_40 rfl (lv_at hl 1 rfl) ?_
    refine x_getO X Z 0 47 (v := .ref (d 47)) rfl rfl lk_X12_firstInto_X12_before dX12_firstInto_41 ?_
    refine lv_iload hx hb dX12_firstInto_44 (lv_at hl 4 rfl) ?_
    obtain ⟨hin16, v17, hv18, h⟩ := ld_b h
    refine x_ialdO X Z 5 rfl hin16 hv18 dX12_firstInto_46 ?_
    refine lv_istore (lv' := [(4, .int v17), (3, .int (x3 + (1 : Int32))), (0, .ref o), (1, .int x1), (2, .int x2)]) hx hb dX12_firstInto_47 hl (by decide) rfl (fun ls hl => ?_)
    refine lv_goto (tgt := 27) hx hb dX12_firstInto_49 (by decide) ?_
    obtain rfl := Option.some.inj h
    exact sk_l K H locs ls Z (lv_sub hl [2, 3, 4, 1, 0] rfl)
set_option maxHeartbeats 4000000 in
set_option maxRecDepth 100000 in
theorem wl_X12_firstInto_27 {p : Program} {l : Launch} {e : Env} {s : State} {m : MethodId} {args : Array Value} {below : List Frame} {meth : Method} {c : Code} {A : Nat → Prop} {Q : State → Prop} {D : va_G} {cy : Nat → ClassId} (o : Nat) (d : Nat → Nat) (letters_ : Int32) (tests_ : Int32) (inputLength_ : Int32) (at_ : Int32) (signed_ : Int32) (newParts_ : Int32) (machineParts_ : Int32) (firstParts_ : Int32) (firstTruth_ : Int32) (secondTruth_ : Int32) (isPair_ : Int32) (states_ : Int32) (stateClasses_ : Int32) (elements_ : Int32) (cursor_ : Int32) (hasSnapshot_ : Int32) (isSaving_ : Int32) (machineLength_ : Nat → Int32) (machineValue_ : Nat → Int32) (codeA_ : Nat → Int64) (codeB_ : Nat → Int64) (before_ : Nat → Int32) (by_ : Nat → Int32) (wordLength_ : Nat → Int32) (word_ : Nat → Int32) (x1 : Int32) (x2 : Int32) (n : Nat) (v : Int32 × Int32) (x : Int32) (X : Cx p m c cX12_firstInto 6 s args wsX12_firstInto RX12 A D cy (RO_X12_firstInto cy o d letters_ tests_ inputLength_ at_ signed_ newParts_ machineParts_ firstParts_ firstTruth_ secondTruth_ isPair_ states_ stateClasses_ elements_ cursor_ hasSnapshot_ isSaving_ machineLength_ machineValue_ codeA_ codeB_ before_ by_)) (h : loopN (fun v => b_X12_firstInto_27 before_ v.1 v.2) n v = some x) (K : ∀ (H : Heap) (locs : List Loc) (ls : Array Slot), St A D s (RW_X12_firstInto cy o d wordLength_ word_) H locs → lv_has ls 6 [(0, .ref o), (1, .int x1), (2, .int x2), (3, .int x)] → W p l e rm_X12_firstInto s m args below meth c H locs 0 0 Q (F0 m 52 ls [])) : ∀ (H : Heap) (locs : List Loc) (ls : Array Slot), St A D s (RW_X12_firstInto cy o d wordLength_ word_) H locs → lv_has ls 6 [(0, .ref o), (1, .int x1), (2, .int x2), (3, .int v.1), (4, .int v.2)] → W p l e rm_X12_firstInto s m args below meth c H locs 0 0 Q (F0 m 27 ls []) :=
  loop_gen (B := (fun v => b_X12_firstInto_27 before_ v.1 v.2)) (Head := fun v : Int32 × Int32 => ∀ (H : Heap) (locs : List Loc) (ls : Array Slot), St A D s (RW_X12_firstInto cy o d wordLength_ word_) H locs → lv_has ls 6 [(0, .ref o), (1, .int x1), (2, .int x2), (3, .int v.1), (4, .int v.2)] → W p l e rm_X12_firstInto s m args below meth c H locs 0 0 Q (F0 m 27 ls [])) (Exit := fun v : Int32 => ∀ (H : Heap) (locs : List Loc) (ls : Array Slot), St A D s (RW_X12_firstInto cy o d wordLength_ word_) H locs → lv_has ls 6 [(0, .ref o), (1, .int x1), (2, .int x2), (3, .int v)] → W p l e rm_X12_firstInto s m args below meth c H locs 0 0 Q (F0 m 52 ls [])) (fun v o9 hb1 K1 => wb_X12_firstInto_27 o d letters_ tests_ inputLength_ at_ signed_ newParts_ machineParts_ firstParts_ firstTruth_ secondTruth_ isPair_ states_ stateClasses_ elements_ cursor_ hasSnapshot_ isSaving_ machineLength_ machineValue_ codeA_ codeB_ before_ by_ wordLength_ word_ x1 x2 v.1 v.2 o9 X hb1 K1) n v x h K
def b_X12_firstInto_2 (machineParts_ : Int32) (firstParts_ : Int32) (firstTruth_ : Int32) (secondTruth_ : Int32) (isPair_ : Int32) (states_ : Int32) (machineLength_ : Nat → Int32) (machineValue_ : Nat → Int32) (codeA_ : Nat → Int64) (codeB_ : Nat → Int64)  (x2 : Int32) : Option ((Int32) ⊕ ((Int32) ⊕ (Unit))) :=
  if states_ ≤ x2 then
  (some (.inr (.inr ())))
  else
  ((f_X12_answerAt x2 (0 : Int32) machineParts_ firstParts_ firstTruth_ secondTruth_ isPair_ machineLength_ machineValue_ codeA_ codeB_).bind (fun u19 =>
  if u19 = 0 then
  (some (.inl (x2 + (1 : Int32))))
  else
  (some (.inr (.inl x2)))))
set_option maxHeartbeats 4000000 in
set_option maxRecDepth 100000 in
theorem wb_X12_firstInto_2 {p : Program} {l : Launch} {e : Env} {s : State} {m : MethodId} {args : Array Value} {below : List Frame} {meth : Method} {c : Code} {A : Nat → Prop} {Q : State → Prop} {D : va_G} {cy : Nat → ClassId} (o : Nat) (d : Nat → Nat) (letters_ : Int32) (tests_ : Int32) (inputLength_ : Int32) (at_ : Int32) (signed_ : Int32) (newParts_ : Int32) (machineParts_ : Int32) (firstParts_ : Int32) (firstTruth_ : Int32) (secondTruth_ : Int32) (isPair_ : Int32) (states_ : Int32) (stateClasses_ : Int32) (elements_ : Int32) (cursor_ : Int32) (hasSnapshot_ : Int32) (isSaving_ : Int32) (machineLength_ : Nat → Int32) (machineValue_ : Nat → Int32) (codeA_ : Nat → Int64) (codeB_ : Nat → Int64) (before_ : Nat → Int32) (by_ : Nat → Int32) (wordLength_ : Nat → Int32) (word_ : Nat → Int32) (x1 : Int32)  (x2 : Int32) (o1 : (Int32) ⊕ ((Int32) ⊕ (Unit))) (X : Cx p m c cX12_firstInto 6 s args wsX12_firstInto RX12 A D cy (RO_X12_firstInto cy o d letters_ tests_ inputLength_ at_ signed_ newParts_ machineParts_ firstParts_ firstTruth_ secondTruth_ isPair_ states_ stateClasses_ elements_ cursor_ hasSnapshot_ isSaving_ machineLength_ machineValue_ codeA_ codeB_ before_ by_)) (h : b_X12_firstInto_2 machineParts_ firstParts_ firstTruth_ secondTruth_ isPair_ states_ machineLength_ machineValue_ codeA_ codeB_ x2 = some o1) (K : Sum.elim (fun v : Int32 => ∀ (H : Heap) (locs : List Loc) (ls : Array Slot), St A D s (RW_X12_firstInto cy o d wordLength_ word_) H locs → lv_has ls 6 [(0, .ref o), (1, .int x1), (2, .int v)] → W p l e rm_X12_firstInto s m args below meth c H locs 0 0 Q (F0 m 2 ls [])) (fun v : (Int32) ⊕ (Unit) => Sum.elim (fun w : Int32 => ∀ (H : Heap) (locs : List Loc) (ls : Array Slot), St A D s (RW_X12_firstInto cy o d wordLength_ word_) H locs → lv_has ls 6 [(0, .ref o), (1, .int x1), (2, .int w)] → W p l e rm_X12_firstInto s m args below meth c H locs 0 0 Q (F0 m 22 ls [])) (fun w => ∀ (H : Heap) (locs : List Loc) (ls : Array Slot), St A D s (RW_X12_firstInto cy o d wordLength_ word_) H locs → lv_has ls 6 [] → W p l e rm_X12_firstInto s m args below meth c H locs 0 0 Q (F0 m 125 ls [])) v) o1) : ∀ (H : Heap) (locs : List Loc) (ls : Array Slot), St A D s (RW_X12_firstInto cy o d wordLength_ word_) H locs → lv_has ls 6 [(0, .ref o), (1, .int x1), (2, .int x2)] → W p l e rm_X12_firstInto s m args below meth c H locs 0 0 Q (F0 m 2 ls []) := by
  intro H locs ls Z hl
  have hx := X.1.1
  have hb := X.1.2.1
  unfold b_X12_firstInto_2 at h
  refine lv_iload_n hx hb dX12_firstInto_2 rfl (lv_at hl 2 rfl) ?_
  refine lv_aload_n hx hb dX12_firstInto_3 rfl (lv_at hl 0 rfl) ?_
  refine x_getO X Z 0 49 (v := .int states_) rfl rfl lk_X12_firstInto_X12_states dX12_firstInto_4 ?_
  refine lv_icmp_ge (tgt := 125) hx hb dX12_firstInto_7 (by decide) (fun cnd => ?_) (fun cnd => ?_)
  · replace h := ifp h cnd
    obtain rfl := Option.some.inj h
    exact (sk_r (sk_r K)) H locs ls Z (lv_sub hl [] rfl)
  · replace h := ifn h cnd
    refine lv_aload_n hx hb dX12_firstInto_10 rfl (lv_at hl 0 rfl) ?_
    refine lv_iload_n hx hb dX12_firstInto_11 rfl (lv_at hl 2 rfl) ?_
    refine lv_iconst (v := (0 : Int32)) hx hb dX12_firstInto_12 (by decide) ?_
    obtain ⟨u19, hc20, h⟩ := ob_some h
    refine x_runVi (RW' := (RW_X12_firstInto cy o d wordLength_ word_)) (wr := [((d 1), aI cy 3 wordLength_), ((d 2), aI cy 36 word_)]) (isC := []) (isR := [0, 1]) (isF := [0, 1]) (rest := []) (As := [.int x2, .int (0 : Int32)]) (n := 2) X Z (c_X12_answerAt l D cy o d letters_ tests_ inputLength_ at_ signed_ newParts_ machineParts_ firstParts_ firstTruth_ secondTruth_ isPair_ states_ stateClasses_ elements_ cursor_ hasSnapshot_ isSaving_ machineLength_ machineValue_ codeA_ codeB_ x2 (0 : Int32) u19 hc20) gX12_firstInto_X12_answerAt rfl (by decide +kernel) ⟨Nat.le_of_ble_eq_true rfl, Nat.le_of_ble_eq_true rfl⟩ ⟨rfl, rfl⟩ ⟨Nat.le_of_ble_eq_true rfl, Nat.le_of_ble_eq_true rfl⟩ (x_rvO X Z 0 rfl rfl) ⟨rfl, rfl, (roC (Or.inr (mem_at 0 rfl)) (roC (Or.inr (mem_at 1 rfl)) (roC (Or.inr (mem_at 2 rfl)) (roC (Or.inr (mem_at 3 rfl)) (roC (Or.inr (mem_at 4 rfl)) roN))))), rfl, rfl, by decide⟩ ⟨rfl, rfl⟩ rfl hl.1 rfl (Nat.le_of_ble_eq_true rfl) dX12_firstInto_13 (fun H locs Z => ?_)
    refine lv_if_ne (tgt := 22) hx hb dX12_firstInto_16 (by decide) (fun cnd => ?_) (fun cnd => ?_)
    · replace h := ifn h cnd
      obtain rfl := Option.some.inj h
      exact (sk_l (sk_r K)) H locs ls Z (lv_sub hl [0, 1, 2] rfl)
    · replace h := ifp h cnd
      refine lv_goto (tgt := 119) hx hb dX12_firstInto_19 (by decide) ?_
      refine lv_iinc (v := (x2 + (1 : Int32))) (lv' := [(2, .int (x2 + (1 : Int32))), (0, .ref o), (1, .int x1)]) hx hb dX12_firstInto_119 hl (k := 2) rfl rfl (by decide) rfl (fun ls hl => ?_)
      refine lv_goto (tgt := 2) hx hb dX12_firstInto_122 (by decide) ?_
      obtain rfl := Option.some.inj h
      exact sk_l K H locs ls Z (lv_sub hl [1, 2, 0] rfl)
set_option maxHeartbeats 4000000 in
set_option maxRecDepth 100000 in
theorem wl_X12_firstInto_2 {p : Program} {l : Launch} {e : Env} {s : State} {m : MethodId} {args : Array Value} {below : List Frame} {meth : Method} {c : Code} {A : Nat → Prop} {Q : State → Prop} {D : va_G} {cy : Nat → ClassId} (o : Nat) (d : Nat → Nat) (letters_ : Int32) (tests_ : Int32) (inputLength_ : Int32) (at_ : Int32) (signed_ : Int32) (newParts_ : Int32) (machineParts_ : Int32) (firstParts_ : Int32) (firstTruth_ : Int32) (secondTruth_ : Int32) (isPair_ : Int32) (states_ : Int32) (stateClasses_ : Int32) (elements_ : Int32) (cursor_ : Int32) (hasSnapshot_ : Int32) (isSaving_ : Int32) (machineLength_ : Nat → Int32) (machineValue_ : Nat → Int32) (codeA_ : Nat → Int64) (codeB_ : Nat → Int64) (before_ : Nat → Int32) (by_ : Nat → Int32) (wordLength_ : Nat → Int32) (word_ : Nat → Int32) (x1 : Int32) (n : Nat) (v : Int32) (x : (Int32) ⊕ (Unit)) (X : Cx p m c cX12_firstInto 6 s args wsX12_firstInto RX12 A D cy (RO_X12_firstInto cy o d letters_ tests_ inputLength_ at_ signed_ newParts_ machineParts_ firstParts_ firstTruth_ secondTruth_ isPair_ states_ stateClasses_ elements_ cursor_ hasSnapshot_ isSaving_ machineLength_ machineValue_ codeA_ codeB_ before_ by_)) (h : loopN (fun v => b_X12_firstInto_2 machineParts_ firstParts_ firstTruth_ secondTruth_ isPair_ states_ machineLength_ machineValue_ codeA_ codeB_ v) n v = some x) (K : Sum.elim (fun w : Int32 => ∀ (H : Heap) (locs : List Loc) (ls : Array Slot), St A D s (RW_X12_firstInto cy o d wordLength_ word_) H locs → lv_has ls 6 [(0, .ref o), (1, .int x1), (2, .int w)] → W p l e rm_X12_firstInto s m args below meth c H locs 0 0 Q (F0 m 22 ls [])) (fun w => ∀ (H : Heap) (locs : List Loc) (ls : Array Slot), St A D s (RW_X12_firstInto cy o d wordLength_ word_) H locs → lv_has ls 6 [] → W p l e rm_X12_firstInto s m args below meth c H locs 0 0 Q (F0 m 125 ls [])) x) : ∀ (H : Heap) (locs : List Loc) (ls : Array Slot), St A D s (RW_X12_firstInto cy o d wordLength_ word_) H locs → lv_has ls 6 [(0, .ref o), (1, .int x1), (2, .int v)] → W p l e rm_X12_firstInto s m args below meth c H locs 0 0 Q (F0 m 2 ls []) :=
  loop_gen (B := (fun v => b_X12_firstInto_2 machineParts_ firstParts_ firstTruth_ secondTruth_ isPair_ states_ machineLength_ machineValue_ codeA_ codeB_ v)) (Head := fun v : Int32 => ∀ (H : Heap) (locs : List Loc) (ls : Array Slot), St A D s (RW_X12_firstInto cy o d wordLength_ word_) H locs → lv_has ls 6 [(0, .ref o), (1, .int x1), (2, .int v)] → W p l e rm_X12_firstInto s m args below meth c H locs 0 0 Q (F0 m 2 ls [])) (Exit := fun v : (Int32) ⊕ (Unit) => Sum.elim (fun w : Int32 => ∀ (H : Heap) (locs : List Loc) (ls : Array Slot), St A D s (RW_X12_firstInto cy o d wordLength_ word_) H locs → lv_has ls 6 [(0, .ref o), (1, .int x1), (2, .int w)] → W p l e rm_X12_firstInto s m args below meth c H locs 0 0 Q (F0 m 22 ls [])) (fun w => ∀ (H : Heap) (locs : List Loc) (ls : Array Slot), St A D s (RW_X12_firstInto cy o d wordLength_ word_) H locs → lv_has ls 6 [] → W p l e rm_X12_firstInto s m args below meth c H locs 0 0 Q (F0 m 125 ls [])) v) (fun v o9 hb1 K1 => wb_X12_firstInto_2 o d letters_ tests_ inputLength_ at_ signed_ newParts_ machineParts_ firstParts_ firstTruth_ secondTruth_ isPair_ states_ stateClasses_ elements_ cursor_ hasSnapshot_ isSaving_ machineLength_ machineValue_ codeA_ codeB_ before_ by_ wordLength_ word_ x1 v o9 X hb1 K1) n v x h K
def f_X12_firstInto (x1 : Int32) (machineParts_ : Int32) (firstParts_ : Int32) (firstTruth_ : Int32) (secondTruth_ : Int32) (isPair_ : Int32) (states_ : Int32) (machineLength_ : Nat → Int32) (machineValue_ : Nat → Int32) (codeA_ : Nat → Int64) (codeB_ : Nat → Int64) (before_ : Nat → Int32) (by_ : Nat → Int32) (wordLength_ : Nat → Int32) (word_ : Nat → Int32) : Option (Int32 × (Nat → Int32) × (Nat → Int32)) :=
  (loopN (fun v => b_X12_firstInto_2 machineParts_ firstParts_ firstTruth_ secondTruth_ isPair_ states_ machineLength_ machineValue_ codeA_ codeB_ v) FU (0 : Int32)).bind (fun u21 =>
  Sum.elim (fun u21 =>
  (loopN (fun v => b_X12_firstInto_27 before_ v.1 v.2) FU ((0 : Int32), u21)).bind (fun u23 =>
  if u23 ≤ (12 : Int32) then
  (stA wordLength_ 3 x1 u23 (fun wordLength_26 =>
  (loopN (fun v => b_X12_firstInto_73 before_ by_ x1 v.1 v.2.1 v.2.2) FU (word_, u23, u21)).bind (fun u28 =>
  some (u23, wordLength_26, u28))))
  else
  (some (u23, wordLength_, word_)))) (fun u21 =>
  some ((-2 : Int32), wordLength_, word_)) u21)
set_option maxHeartbeats 4000000 in
set_option maxRecDepth 100000 in
theorem wt_X12_firstInto {p : Program} {l : Launch} {e : Env} {s : State} {m : MethodId} {args : Array Value} {below : List Frame} {meth : Method} {c : Code} {A : Nat → Prop} {Q : State → Prop} {D : va_G} {cy : Nat → ClassId} (o : Nat) (d : Nat → Nat) (letters_ : Int32) (tests_ : Int32) (inputLength_ : Int32) (at_ : Int32) (signed_ : Int32) (newParts_ : Int32) (machineParts_ : Int32) (firstParts_ : Int32) (firstTruth_ : Int32) (secondTruth_ : Int32) (isPair_ : Int32) (states_ : Int32) (stateClasses_ : Int32) (elements_ : Int32) (cursor_ : Int32) (hasSnapshot_ : Int32) (isSaving_ : Int32) (machineLength_ : Nat → Int32) (machineValue_ : Nat → Int32) (codeA_ : Nat → Int64) (codeB_ : Nat → Int64) (before_ : Nat → Int32) (by_ : Nat → Int32) (wordLength_ : Nat → Int32) (word_ : Nat → Int32) (x1 : Int32) (out : Int32 × (Nat → Int32) × (Nat → Int32)) (X : Cx p m c cX12_firstInto 6 s args wsX12_firstInto RX12 A D cy (RO_X12_firstInto cy o d letters_ tests_ inputLength_ at_ signed_ newParts_ machineParts_ firstParts_ firstTruth_ secondTruth_ isPair_ states_ stateClasses_ elements_ cursor_ hasSnapshot_ isSaving_ machineLength_ machineValue_ codeA_ codeB_ before_ by_)) (h : f_X12_firstInto x1 machineParts_ firstParts_ firstTruth_ secondTruth_ isPair_ states_ machineLength_ machineValue_ codeA_ codeB_ before_ by_ wordLength_ word_ = some out) (K : ∀ (H : Heap) (locs : List Loc) (ls : Array Slot) (pc : Nat), decode cX12_firstInto pc = .ok (.ireturn, 1) → St A D s (RW_X12_firstInto cy o d out.2.1 out.2.2) H locs → W p l e rm_X12_firstInto s m args below meth c H locs 0 0 Q (F0 m pc ls [.int out.1])) : ∀ (H : Heap) (locs : List Loc) (ls : Array Slot), St A D s (RW_X12_firstInto cy o d wordLength_ word_) H locs → lv_has ls 6 [(0, .ref o), (1, .int x1)] → W p l e rm_X12_firstInto s m args below meth c H locs 0 0 Q (F0 m 0 ls []) := by
  intro H locs ls Z hl
  have hx := X.1.1
  have hb := X.1.2.1
  unfold f_X12_firstInto at h
  refine lv_iconst (v := (0 : Int32)) hx hb dX12_firstInto_0 (by decide) ?_
  refine lv_istore_n (lv' := [(2, .int (0 : Int32)), (0, .ref o), (1, .int x1)]) hx hb dX12_firstInto_1 rfl hl (by decide) rfl (fun ls hl => ?_)
  obtain ⟨u21, hL22, h⟩ := ob_some h
  rcases u21 with u21 | u21
  · replace h := se_l h
    refine wl_X12_firstInto_2 o d letters_ tests_ inputLength_ at_ signed_ newParts_ machineParts_ firstParts_ firstTruth_ secondTruth_ isPair_ states_ stateClasses_ elements_ cursor_ hasSnapshot_ isSaving_ machineLength_ machineValue_ codeA_ codeB_ before_ by_ wordLength_ word_ x1 FU (0 : Int32) (.inl u21) X hL22 (sk_li (fun H locs ls Z hl => ?_)) H locs ls Z (lv_sub hl [1, 2, 0] rfl)
    refine lv_iconst (v := (0 : Int32)) hx hb dX12_firstInto_22 (by decide) ?_
    refine lv_istore_n (lv' := [(3, .int (0 : Int32)), (0, .ref o), (1, .int x1), (2, .int u21)]) hx hb dX12_firstInto_23 rfl hl (by decide) rfl (fun ls hl => ?_)
    refine lv_iload_n hx hb dX12_firstInto_24 rfl (lv_at hl 3 rfl) ?_
    refine lv_istore (lv' := [(4, .int u21), (3, .int (0 : Int32)), (0, .ref o), (1, .int x1), (2, .int u21)]) hx hb dX12_firstInto_25 hl (by decide) rfl (fun ls hl => ?_)
    obtain ⟨u23, hL24, h⟩ := ob_some h
    refine wl_X12_firstInto_27 o d letters_ tests_ inputLength_ at_ signed_ newParts_ machineParts_ firstParts_ firstTruth_ secondTruth_ isPair_ states_ stateClasses_ elements_ cursor_ hasSnapshot_ isSaving_ machineLength_ machineValue_ codeA_ codeB_ before_ by_ wordLength_ word_ x1 u21 FU ((0 : Int32), u21) u23 X hL24 (fun H locs ls Z hl => ?_) H locs ls Z (lv_sub hl [2, 3, 4, 1, 0] rfl)
    refine lv_iload_n hx hb dX12_firstInto_52 rfl (lv_at hl 3 rfl) ?_
    refine lv_bipush (v := (12 : Int32)) hx hb dX12_firstInto_53 (by decide) ?_
    refine lv_icmp_le (tgt := 60) hx hb dX12_firstInto_55 (by decide) (fun cnd => ?_) (fun cnd => ?_)
    · replace h := ifp h cnd
      refine lv_aload_n hx hb dX12_firstInto_60 rfl (lv_at hl 0 rfl) ?_
      refine x_getO X Z 0 1 (v := .ref (d 1)) rfl rfl lk_X12_firstInto_X12_wordLength dX12_firstInto_61 ?_
      refine lv_iload_n hx hb dX12_firstInto_64 rfl (lv_at hl 1 rfl) ?_
      refine lv_iload_n hx hb dX12_firstInto_65 rfl (lv_at hl 3 rfl) ?_
      obtain ⟨hin25, wordLength_26, hv27, h⟩ := st_b h
      refine x_iast X Z 0 (RW_X12_firstInto cy o d wordLength_26 word_) rfl hin25 hv27 rfl dX12_firstInto_66 (fun H locs Z => ?_)
      refine lv_iload_n hx hb dX12_firstInto_67 rfl (lv_at hl 3 rfl) ?_
      refine lv_istore (lv' := [(4, .int u23), (0, .ref o), (1, .int x1), (2, .int u21), (3, .int u23)]) hx hb dX12_firstInto_68 hl (by decide) rfl (fun ls hl => ?_)
      refine lv_iload_n hx hb dX12_firstInto_70 rfl (lv_at hl 3 rfl) ?_
      refine lv_istore (lv' := [(5, .int u21), (4, .int u23), (0, .ref o), (1, .int x1), (2, .int u21), (3, .int u23)]) hx hb dX12_firstInto_71 hl (by decide) rfl (fun ls hl => ?_)
      obtain ⟨u28, hL29, h⟩ := ob_some h
      refine wl_X12_firstInto_73 o d letters_ tests_ inputLength_ at_ signed_ newParts_ machineParts_ firstParts_ firstTruth_ secondTruth_ isPair_ states_ stateClasses_ elements_ cursor_ hasSnapshot_ isSaving_ machineLength_ machineValue_ codeA_ codeB_ before_ by_ wordLength_26 x1 u23 FU (word_, u23, u21) u28 X hL29 (fun H locs ls Z hl => ?_) H locs ls Z (lv_sub hl [2, 3, 5, 1, 0] rfl)
      refine lv_iload_n hx hb dX12_firstInto_117 rfl (lv_at hl 0 rfl) ?_
      obtain rfl := Option.some.inj h
      exact K H locs ls _ dX12_firstInto_118 Z
    · replace h := ifn h cnd
      refine lv_iload_n hx hb dX12_firstInto_58 rfl (lv_at hl 3 rfl) ?_
      obtain rfl := Option.some.inj h
      exact K H locs ls _ dX12_firstInto_59 Z
  · replace h := se_r h
    refine wl_X12_firstInto_2 o d letters_ tests_ inputLength_ at_ signed_ newParts_ machineParts_ firstParts_ firstTruth_ secondTruth_ isPair_ states_ stateClasses_ elements_ cursor_ hasSnapshot_ isSaving_ machineLength_ machineValue_ codeA_ codeB_ before_ by_ wordLength_ word_ x1 FU (0 : Int32) (.inr u21) X hL22 (sk_ri (fun H locs ls Z hl => ?_)) H locs ls Z (lv_sub hl [1, 2, 0] rfl)
    refine lv_bipush (v := (-2 : Int32)) hx hb dX12_firstInto_125 (by decide) ?_
    obtain rfl := Option.some.inj h
    exact K H locs ls _ dX12_firstInto_127 Z
theorem c_X12_firstInto (l : Launch) (D : va_G) (cy : Nat → ClassId) (o : Nat) (d : Nat → Nat) (letters_ : Int32) (tests_ : Int32) (inputLength_ : Int32) (at_ : Int32) (signed_ : Int32) (newParts_ : Int32) (machineParts_ : Int32) (firstParts_ : Int32) (firstTruth_ : Int32) (secondTruth_ : Int32) (isPair_ : Int32) (states_ : Int32) (stateClasses_ : Int32) (elements_ : Int32) (cursor_ : Int32) (hasSnapshot_ : Int32) (isSaving_ : Int32) (machineLength_ : Nat → Int32) (machineValue_ : Nat → Int32) (codeA_ : Nat → Int64) (codeB_ : Nat → Int64) (before_ : Nat → Int32) (by_ : Nat → Int32) (wordLength_ : Nat → Int32) (word_ : Nat → Int32) (x1 : Int32) (out : Int32 × (Nat → Int32) × (Nat → Int32)) (h : f_X12_firstInto x1 machineParts_ firstParts_ firstTruth_ secondTruth_ isPair_ states_ machineLength_ machineValue_ codeA_ codeB_ before_ by_ wordLength_ word_ = some out) : CtI l yX12_firstInto wsX12_firstInto rm_X12_firstInto D cy [.ref o, .int x1] (RW_X12_firstInto cy o d wordLength_ word_) (RO_X12_firstInto cy o d letters_ tests_ inputLength_ at_ signed_ newParts_ machineParts_ firstParts_ firstTruth_ secondTruth_ isPair_ states_ stateClasses_ elements_ cursor_ hasSnapshot_ isSaving_ machineLength_ machineValue_ codeA_ codeB_ before_ by_) (RW_X12_firstInto cy o d out.2.1 out.2.2) out.1 :=
  mk_i (ty := .int) (by decide) rfl rfl (Nat.le_of_ble_eq_true rfl) (fun p e s m args below meth c A Q X K H locs ls Z hl => wt_X12_firstInto o d letters_ tests_ inputLength_ at_ signed_ newParts_ machineParts_ firstParts_ firstTruth_ secondTruth_ isPair_ states_ stateClasses_ elements_ cursor_ hasSnapshot_ isSaving_ machineLength_ machineValue_ codeA_ codeB_ before_ by_ wordLength_ word_ x1 out X h K H locs ls Z hl)
/-! SubwordCounterModel firstWord (II)I -/
abbrev rm_X12_firstWord : Room := { frames := 4, cells := 0, slots := 0, locals := 103 }
def RW_X12_firstWord (cy : Nat → ClassId) (o : Nat) (d : Nat → Nat) (letters_ : Int32) (tests_ : Int32) (inputLength_ : Int32) (at_ : Int32) (signed_ : Int32) (newParts_ : Int32) (machineParts_ : Int32) (firstParts_ : Int32) (firstTruth_ : Int32) (secondTruth_ : Int32) (isPair_ : Int32) (states_ : Int32) (stateClasses_ : Int32) (elements_ : Int32) (cursor_ : Int32) (hasSnapshot_ : Int32) (isSaving_ : Int32) (wordLength_ : Nat → Int32) (word_ : Nat → Int32) (machineKind_ : Nat → Int32) (machineBound_ : Nat → Int32) (machineLength_ : Nat → Int32) (machineValue_ : Nat → Int32) (machinePattern_ : Nat → Int32) (digit_ : Nat → Int32) (codeA_ : Nat → Int64) (codeB_ : Nat → Int64) (keyA_ : Nat → Int64) (keyB_ : Nat → Int64) (found_ : Nat → Int32) (next_ : Nat → Int32) (before_ : Nat → Int32) (by_ : Nat → Int32) : va_W := [(o, ob 11 (oX12 d letters_ tests_ inputLength_ at_ signed_ newParts_ machineParts_ firstParts_ firstTruth_ secondTruth_ isPair_ states_ stateClasses_ elements_ cursor_ hasSnapshot_ isSaving_)), ((d 1), aI cy 3 wordLength_), ((d 2), aI cy 36 word_), ((d 30), aI cy 8 machineKind_), ((d 31), aI cy 8 machineBound_), ((d 32), aI cy 8 machineLength_), ((d 33), aI cy 8 machineValue_), ((d 34), aI cy 32 machinePattern_), ((d 35), aI cy 4 digit_), ((d 41), aJ cy 2000 codeA_), ((d 42), aJ cy 2000 codeB_), ((d 43), aJ cy 8192 keyA_), ((d 44), aJ cy 8192 keyB_), ((d 45), aI cy 8192 found_), ((d 46), aI cy 6000 next_), ((d 47), aI cy 2000 before_), ((d 48), aI cy 2000 by_)]
def RO_X12_firstWord (cy : Nat → ClassId) (o : Nat) (d : Nat → Nat) (form_ : Nat → Int32) (parts_ : Nat → Int32) (truth_ : Nat → Int32) (partKind_ : Nat → Int32) (partBound_ : Nat → Int32) (partLength_ : Nat → Int32) (partValue_ : Nat → Int32) (partPattern_ : Nat → Int32) : va_W := [((d 16), aI cy 4 form_), ((d 17), aI cy 4 parts_), ((d 18), aI cy 4 truth_), ((d 19), aI cy 16 partKind_), ((d 20), aI cy 16 partBound_), ((d 21), aI cy 16 partLength_), ((d 22), aI cy 16 partValue_), ((d 23), aI cy 64 partPattern_)]
theorem in_X12_firstWord_X12 : ∀ w ∈ u_ws RX12 TX12 68, w ∈ wsX12_firstWord := fun w h => (List.mem_cons_of_mem _ (List.mem_append_right _ h))
theorem lk_X12_firstWord_X12_form : Lk wsX12_firstWord RX12 47 11 16 := ⟨RX12, TX12, 68, rfl, by decide, in_X12_firstWord_X12, mem_at 1 rfl⟩
def f_X12_firstWord (x1 : Int32) (x2 : Int32) (form_ : Nat → Int32) (parts_ : Nat → Int32) (truth_ : Nat → Int32) (partKind_ : Nat → Int32) (partBound_ : Nat → Int32) (partLength_ : Nat → Int32) (partValue_ : Nat → Int32) (partPattern_ : Nat → Int32) (letters_ : Int32) (secondTruth_ : Int32) (machineParts_ : Int32) (firstParts_ : Int32) (firstTruth_ : Int32) (isPair_ : Int32) (states_ : Int32) (wordLength_ : Nat → Int32) (word_ : Nat → Int32) (machineKind_ : Nat → Int32) (machineBound_ : Nat → Int32) (machineLength_ : Nat → Int32) (machineValue_ : Nat → Int32) (machinePattern_ : Nat → Int32) (digit_ : Nat → Int32) (codeA_ : Nat → Int64) (codeB_ : Nat → Int64) (keyA_ : Nat → Int64) (keyB_ : Nat → Int64) (found_ : Nat → Int32) (next_ : Nat → Int32) (before_ : Nat → Int32) (by_ : Nat → Int32) : Option (Int32 × Int32 × Int32 × Int32 × Int32 × Int32 × (Nat → Int32) × (Nat → Int32) × (Nat → Int32) × (Nat → Int32) × (Nat → Int32) × (Nat → Int32) × (Nat → Int32) × (Nat → Int32) × (Nat → Int64) × (Nat → Int64) × (Nat → Int64) × (Nat → Int64) × (Nat → Int32) × (Nat → Int32) × (Nat → Int32) × (Nat → Int32)) :=
  (f_X12_isLanguage x1).bind (fun u1 =>
  if u1 = 0 then
  (some ((-1 : Int32), machineParts_, firstParts_, firstTruth_, isPair_, states_, wordLength_, word_, machineKind_, machineBound_, machineLength_, machineValue_, machinePattern_, digit_, codeA_, codeB_, keyA_, keyB_, found_, next_, before_, by_))
  else
  ((f_X12_isWord x2).bind (fun u3 =>
  if u3 = 0 then
  (some ((-1 : Int32), machineParts_, firstParts_, firstTruth_, isPair_, states_, wordLength_, word_, machineKind_, machineBound_, machineLength_, machineValue_, machinePattern_, digit_, codeA_, codeB_, keyA_, keyB_, found_, next_, before_, by_))
  else
  (ldA form_ 4 x1 (fun v6 =>
  if 0 ≤ v6 then
  ((f_X12_buildsLanguage x1 parts_ truth_ partKind_ partBound_ partLength_ partValue_ partPattern_ letters_ machineParts_ firstParts_ firstTruth_ isPair_ states_ machineKind_ machineBound_ machineLength_ machineValue_ machinePattern_ digit_ codeA_ codeB_ keyA_ keyB_ found_ next_ before_ by_).bind (fun u8 =>
  if u8.1 = 0 then
  (some ((-4 : Int32), u8.2.1, u8.2.2.1, u8.2.2.2.1, u8.2.2.2.2.1, u8.2.2.2.2.2.1, wordLength_, word_, u8.2.2.2.2.2.2.1, u8.2.2.2.2.2.2.2.1, u8.2.2.2.2.2.2.2.2.1, u8.2.2.2.2.2.2.2.2.2.1, u8.2.2.2.2.2.2.2.2.2.2.1, u8.2.2.2.2.2.2.2.2.2.2.2.1, u8.2.2.2.2.2.2.2.2.2.2.2.2.1, u8.2.2.2.2.2.2.2.2.2.2.2.2.2.1, u8.2.2.2.2.2.2.2.2.2.2.2.2.2.2.1, u8.2.2.2.2.2.2.2.2.2.2.2.2.2.2.2.1, u8.2.2.2.2.2.2.2.2.2.2.2.2.2.2.2.2.1, u8.2.2.2.2.2.2.2.2.2.2.2.2.2.2.2.2.2.1, u8.2.2.2.2.2.2.2.2.2.2.2.2.2.2.2.2.2.2.1, u8.2.2.2.2.2.2.2.2.2.2.2.2.2.2.2.2.2.2.2))
  else
  ((f_X12_firstInto x2 u8.2.1 u8.2.2.1 u8.2.2.2.1 secondTruth_ u8.2.2.2.2.1 u8.2.2.2.2.2.1 u8.2.2.2.2.2.2.2.2.1 u8.2.2.2.2.2.2.2.2.2.1 u8.2.2.2.2.2.2.2.2.2.2.2.2.1 u8.2.2.2.2.2.2.2.2.2.2.2.2.2.1 u8.2.2.2.2.2.2.2.2.2.2.2.2.2.2.2.2.2.2.1 u8.2.2.2.2.2.2.2.2.2.2.2.2.2.2.2.2.2.2.2 wordLength_ word_).bind (fun u10 =>
  some (u10.1, u8.2.1, u8.2.2.1, u8.2.2.2.1, u8.2.2.2.2.1, u8.2.2.2.2.2.1, u10.2.1, u10.2.2, u8.2.2.2.2.2.2.1, u8.2.2.2.2.2.2.2.1, u8.2.2.2.2.2.2.2.2.1, u8.2.2.2.2.2.2.2.2.2.1, u8.2.2.2.2.2.2.2.2.2.2.1, u8.2.2.2.2.2.2.2.2.2.2.2.1, u8.2.2.2.2.2.2.2.2.2.2.2.2.1, u8.2.2.2.2.2.2.2.2.2.2.2.2.2.1, u8.2.2.2.2.2.2.2.2.2.2.2.2.2.2.1, u8.2.2.2.2.2.2.2.2.2.2.2.2.2.2.2.1, u8.2.2.2.2.2.2.2.2.2.2.2.2.2.2.2.2.1, u8.2.2.2.2.2.2.2.2.2.2.2.2.2.2.2.2.2.1, u8.2.2.2.2.2.2.2.2.2.2.2.2.2.2.2.2.2.2.1, u8.2.2.2.2.2.2.2.2.2.2.2.2.2.2.2.2.2.2.2)))))
  else
  (some ((-5 : Int32), machineParts_, firstParts_, firstTruth_, isPair_, states_, wordLength_, word_, machineKind_, machineBound_, machineLength_, machineValue_, machinePattern_, digit_, codeA_, codeB_, keyA_, keyB_, found_, next_, before_, by_)))))))
set_option maxHeartbeats 4000000 in
set_option maxRecDepth 100000 in
theorem wt_X12_firstWord {p : Program} {l : Launch} {e : Env} {s : State} {m : MethodId} {args : Array Value} {below : List Frame} {meth : Method} {c : Code} {A : Nat → Prop} {Q : State → Prop} {D : va_G} {cy : Nat → ClassId} (o : Nat) (d : Nat → Nat) (form_ : Nat → Int32) (parts_ : Nat → Int32) (truth_ : Nat → Int32) (partKind_ : Nat → Int32) (partBound_ : Nat → Int32) (partLength_ : Nat → Int32) (partValue_ : Nat → Int32) (partPattern_ : Nat → Int32) (letters_ : Int32) (tests_ : Int32) (inputLength_ : Int32) (at_ : Int32) (signed_ : Int32) (newParts_ : Int32) (machineParts_ : Int32) (firstParts_ : Int32) (firstTruth_ : Int32) (secondTruth_ : Int32) (isPair_ : Int32) (states_ : Int32) (stateClasses_ : Int32) (elements_ : Int32) (cursor_ : Int32) (hasSnapshot_ : Int32) (isSaving_ : Int32) (wordLength_ : Nat → Int32) (word_ : Nat → Int32) (machineKind_ : Nat → Int32) (machineBound_ : Nat → Int32) (machineLength_ : Nat → Int32) (machineValue_ : Nat → Int32) (machinePattern_ : Nat → Int32) (digit_ : Nat → Int32) (codeA_ : Nat → Int64) (codeB_ : Nat → Int64) (keyA_ : Nat → Int64) (keyB_ : Nat → Int64) (found_ : Nat → Int32) (next_ : Nat → Int32) (before_ : Nat → Int32) (by_ : Nat → Int32) (x1 : Int32) (x2 : Int32) (out : Int32 × Int32 × Int32 × Int32 × Int32 × Int32 × (Nat → Int32) × (Nat → Int32) × (Nat → Int32) × (Nat → Int32) × (Nat → Int32) × (Nat → Int32) × (Nat → Int32) × (Nat → Int32) × (Nat → Int64) × (Nat → Int64) × (Nat → Int64) × (Nat → Int64) × (Nat → Int32) × (Nat → Int32) × (Nat → Int32) × (Nat → Int32)) (X : Cx p m c cX12_firstWord 3 s args wsX12_firstWord RX12 A D cy (RO_X12_firstWord cy o d form_ parts_ truth_ partKind_ partBound_ partLength_ partValue_ partPattern_)) (h : f_X12_firstWord x1 x2 form_ parts_ truth_ partKind_ partBound_ partLength_ partValue_ partPattern_ letters_ secondTruth_ machineParts_ firstParts_ firstTruth_ isPair_ states_ wordLength_ word_ machineKind_ machineBound_ machineLength_ machineValue_ machinePattern_ digit_ codeA_ codeB_ keyA_ keyB_ found_ next_ before_ by_ = some out) (K : ∀ (H : Heap) (locs : List Loc) (ls : Array Slot) (pc : Nat), decode cX12_firstWord pc = .ok (.ireturn, 1) → St A D s (RW_X12_firstWord cy o d letters_ tests_ inputLength_ at_ signed_ newParts_ out.2.1 out.2.2.1 out.2.2.2.1 secondTruth_ out.2.2.2.2.1 out.2.2.2.2.2.1 stateClasses_ elements_ cursor_ hasSnapshot_ isSaving_ out.2.2.2.2.2.2.1 out.2.2.2.2.2.2.2.1 out.2.2.2.2.2.2.2.2.1 out.2.2.2.2.2.2.2.2.2.1 out.2.2.2.2.2.2.2.2.2.2.1 out.2.2.2.2.2.2.2.2.2.2.2.1 out.2.2.2.2.2.2.2.2.2.2.2.2.1 out.2.2.2.2.2.2.2.2.2.2.2.2.2.1 out.2.2.2.2.2.2.2.2.2.2.2.2.2.2.1 out.2.2.2.2.2.2.2.2.2.2.2.2.2.2.2.1 out.2.2.2.2.2.2.2.2.2.2.2.2.2.2.2.2.1 out.2.2.2.2.2.2.2.2.2.2.2.2.2.2.2.2.2.1 out.2.2.2.2.2.2.2.2.2.2.2.2.2.2.2.2.2.2.1 out.2.2.2.2.2.2.2.2.2.2.2.2.2.2.2.2.2.2.2.1 out.2.2.2.2.2.2.2.2.2.2.2.2.2.2.2.2.2.2.2.2.1 out.2.2.2.2.2.2.2.2.2.2.2.2.2.2.2.2.2.2.2.2.2) H locs → W p l e rm_X12_firstWord s m args below meth c H locs 0 0 Q (F0 m pc ls [.int out.1])) : ∀ (H : Heap) (locs : List Loc) (ls : Array Slot), St A D s (RW_X12_firstWord cy o d letters_ tests_ inputLength_ at_ signed_ newParts_ machineParts_ firstParts_ firstTruth_ secondTruth_ isPair_ states_ stateClasses_ elements_ cursor_ hasSnapshot_ isSaving_ wordLength_ word_ machineKind_ machineBound_ machineLength_ machineValue_ machinePattern_ digit_ codeA_ codeB_ keyA_ keyB_ found_ next_ before_ by_) H locs → lv_has ls 3 [(0, .ref o), (1, .int x1), (2, .int x2)] → W p l e rm_X12_firstWord s m args below meth c H locs 0 0 Q (F0 m 0 ls []) := by
  intro H locs ls Z hl
  have hx := X.1.1
  have hb := X.1.2.1
  unfold f_X12_firstWord at h
  refine lv_iload_n hx hb dX12_firstWord_0 rfl (lv_at hl 1 rfl) ?_
  obtain ⟨u1, hc2, h⟩ := ob_some h
  refine x_runSi (RW' := (RW_X12_firstWord cy o d letters_ tests_ inputLength_ at_ signed_ newParts_ machineParts_ firstParts_ firstTruth_ secondTruth_ isPair_ states_ stateClasses_ elements_ cursor_ hasSnapshot_ isSaving_ wordLength_ word_ machineKind_ machineBound_ machineLength_ machineValue_ machinePattern_ digit_ codeA_ codeB_ keyA_ keyB_ found_ next_ before_ by_)) (wr := [(o, ob 11 (oX12 d letters_ tests_ inputLength_ at_ signed_ newParts_ machineParts_ firstParts_ firstTruth_ secondTruth_ isPair_ states_ stateClasses_ elements_ cursor_ hasSnapshot_ isSaving_)), ((d 1), aI cy 3 wordLength_), ((d 2), aI cy 36 word_), ((d 30), aI cy 8 machineKind_), ((d 31), aI cy 8 machineBound_), ((d 32), aI cy 8 machineLength_), ((d 33), aI cy 8 machineValue_), ((d 34), aI cy 32 machinePattern_), ((d 35), aI cy 4 digit_), ((d 41), aJ cy 2000 codeA_), ((d 42), aJ cy 2000 codeB_), ((d 43), aJ cy 8192 keyA_), ((d 44), aJ cy 8192 keyB_), ((d 45), aI cy 8192 found_), ((d 46), aI cy 6000 next_), ((d 47), aI cy 2000 before_), ((d 48), aI cy 2000 by_)]) (isC := []) (isR := [0, 1, 2, 3, 4, 5, 6, 7, 8, 9, 10, 11, 12, 13, 14, 15, 16]) (isF := [0, 1, 2, 3, 4, 5, 6, 7, 8, 9, 10, 11, 12, 13, 14, 15, 16]) (rest := []) (As := [.int x1]) (n := 1) X Z (c_X12_isLanguage l D cy x1 u1 hc2) gX12_firstWord_X12_isLanguage rfl (by decide +kernel) ⟨Nat.le_of_ble_eq_true rfl, Nat.le_of_ble_eq_true rfl⟩ ⟨rfl, rfl⟩ ⟨Nat.le_of_ble_eq_true rfl, Nat.le_of_ble_eq_true rfl⟩ ⟨rfl, rfl, roN, rfl, rfl, by decide⟩ ⟨rfl, rfl⟩ rfl hl.1 rfl (Nat.le_of_ble_eq_true rfl) dX12_firstWord_1 (fun H locs Z => ?_)
  refine lv_if_eq (tgt := 14) hx hb dX12_firstWord_4 (by decide) (fun cnd => ?_) (fun cnd => ?_)
  · replace h := ifp h cnd
    refine lv_iconst (v := (-1 : Int32)) hx hb dX12_firstWord_14 (by decide) ?_
    obtain rfl := Option.some.inj h
    exact K H locs ls _ dX12_firstWord_15 Z
  · replace h := ifn h cnd
    refine lv_iload_n hx hb dX12_firstWord_7 rfl (lv_at hl 2 rfl) ?_
    obtain ⟨u3, hc4, h⟩ := ob_some h
    refine x_runSi (RW' := (RW_X12_firstWord cy o d letters_ tests_ inputLength_ at_ signed_ newParts_ machineParts_ firstParts_ firstTruth_ secondTruth_ isPair_ states_ stateClasses_ elements_ cursor_ hasSnapshot_ isSaving_ wordLength_ word_ machineKind_ machineBound_ machineLength_ machineValue_ machinePattern_ digit_ codeA_ codeB_ keyA_ keyB_ found_ next_ before_ by_)) (wr := [(o, ob 11 (oX12 d letters_ tests_ inputLength_ at_ signed_ newParts_ machineParts_ firstParts_ firstTruth_ secondTruth_ isPair_ states_ stateClasses_ elements_ cursor_ hasSnapshot_ isSaving_)), ((d 1), aI cy 3 wordLength_), ((d 2), aI cy 36 word_), ((d 30), aI cy 8 machineKind_), ((d 31), aI cy 8 machineBound_), ((d 32), aI cy 8 machineLength_), ((d 33), aI cy 8 machineValue_), ((d 34), aI cy 32 machinePattern_), ((d 35), aI cy 4 digit_), ((d 41), aJ cy 2000 codeA_), ((d 42), aJ cy 2000 codeB_), ((d 43), aJ cy 8192 keyA_), ((d 44), aJ cy 8192 keyB_), ((d 45), aI cy 8192 found_), ((d 46), aI cy 6000 next_), ((d 47), aI cy 2000 before_), ((d 48), aI cy 2000 by_)]) (isC := []) (isR := [0, 1, 2, 3, 4, 5, 6, 7, 8, 9, 10, 11, 12, 13, 14, 15, 16]) (isF := [0, 1, 2, 3, 4, 5, 6, 7, 8, 9, 10, 11, 12, 13, 14, 15, 16]) (rest := []) (As := [.int x2]) (n := 1) X Z (c_X12_isWord l D cy x2 u3 hc4) gX12_firstWord_X12_isWord rfl (by decide +kernel) ⟨Nat.le_of_ble_eq_true rfl, Nat.le_of_ble_eq_true rfl⟩ ⟨rfl, rfl⟩ ⟨Nat.le_of_ble_eq_true rfl, Nat.le_of_ble_eq_true rfl⟩ ⟨rfl, rfl, roN, rfl, rfl, by decide⟩ ⟨rfl, rfl⟩ rfl hl.1 rfl (Nat.le_of_ble_eq_true rfl) dX12_firstWord_8 (fun H locs Z => ?_)
    refine lv_if_ne (tgt := 16) hx hb dX12_firstWord_11 (by decide) (fun cnd => ?_) (fun cnd => ?_)
    · replace h := ifn h cnd
      refine lv_aload_n hx hb dX12_firstWord_16 rfl (lv_at hl 0 rfl) ?_
      refine x_get X Z 0 16 (v := .ref (d 16)) rfl rfl lk_X12_firstWord_X12_form dX12_firstWord_17 ?_
      refine lv_iload_n hx hb dX12_firstWord_20 rfl (lv_at hl 1 rfl) ?_
      obtain ⟨hin5, v6, hv7, h⟩ := ld_b h
      refine x_ialdO X Z 0 rfl hin5 hv7 dX12_firstWord_21 ?_
      refine lv_if_ge (tgt := 28) hx hb dX12_firstWord_22 (by decide) (fun cnd => ?_) (fun cnd => ?_)
      · replace h := ifp h cnd
        refine lv_aload_n hx hb dX12_firstWord_28 rfl (lv_at hl 0 rfl) ?_
        refine lv_iload_n hx hb dX12_firstWord_29 rfl (lv_at hl 1 rfl) ?_
        obtain ⟨u8, hc9, h⟩ := ob_some h
        refine x_runVi (RW' := (RW_X12_firstWord cy o d letters_ tests_ inputLength_ at_ signed_ newParts_ u8.2.1 u8.2.2.1 u8.2.2.2.1 secondTruth_ u8.2.2.2.2.1 u8.2.2.2.2.2.1 stateClasses_ elements_ cursor_ hasSnapshot_ isSaving_ wordLength_ word_ u8.2.2.2.2.2.2.1 u8.2.2.2.2.2.2.2.1 u8.2.2.2.2.2.2.2.2.1 u8.2.2.2.2.2.2.2.2.2.1 u8.2.2.2.2.2.2.2.2.2.2.1 u8.2.2.2.2.2.2.2.2.2.2.2.1 u8.2.2.2.2.2.2.2.2.2.2.2.2.1 u8.2.2.2.2.2.2.2.2.2.2.2.2.2.1 u8.2.2.2.2.2.2.2.2.2.2.2.2.2.2.1 u8.2.2.2.2.2.2.2.2.2.2.2.2.2.2.2.1 u8.2.2.2.2.2.2.2.2.2.2.2.2.2.2.2.2.1 u8.2.2.2.2.2.2.2.2.2.2.2.2.2.2.2.2.2.1 u8.2.2.2.2.2.2.2.2.2.2.2.2.2.2.2.2.2.2.1 u8.2.2.2.2.2.2.2.2.2.2.2.2.2.2.2.2.2.2.2)) (wr := [((d 1), aI cy 3 wordLength_), ((d 2), aI cy 36 word_)]) (isC := [0, 3, 4, 5, 6, 7, 8, 9, 10, 11, 12, 13, 14, 15, 16]) (isR := [1, 2]) (isF := [2, 0, 1, 3, 4, 5, 6, 7, 8, 9, 10, 11, 12, 13, 14, 15, 16]) (rest := []) (As := [.int x1]) (n := 1) X Z (c_X12_buildsLanguage l D cy o d parts_ truth_ partKind_ partBound_ partLength_ partValue_ partPattern_ letters_ tests_ inputLength_ at_ signed_ newParts_ machineParts_ firstParts_ firstTruth_ secondTruth_ isPair_ states_ stateClasses_ elements_ cursor_ hasSnapshot_ isSaving_ machineKind_ machineBound_ machineLength_ machineValue_ machinePattern_ digit_ codeA_ codeB_ keyA_ keyB_ found_ next_ before_ by_ x1 u8 hc9) gX12_firstWord_X12_buildsLanguage rfl (by decide +kernel) ⟨Nat.le_of_ble_eq_true rfl, Nat.le_of_ble_eq_true rfl⟩ ⟨rfl, rfl⟩ ⟨Nat.le_of_ble_eq_true rfl, Nat.le_of_ble_eq_true rfl⟩ (x_rv X Z 0 rfl rfl) ⟨rfl, rfl, (roC (Or.inr (mem_at 1 rfl)) (roC (Or.inr (mem_at 2 rfl)) (roC (Or.inr (mem_at 3 rfl)) (roC (Or.inr (mem_at 4 rfl)) (roC (Or.inr (mem_at 5 rfl)) (roC (Or.inr (mem_at 6 rfl)) (roC (Or.inr (mem_at 7 rfl)) roN))))))), rfl, rfl, by decide⟩ ⟨rfl, rfl⟩ rfl hl.1 rfl (Nat.le_of_ble_eq_true rfl) dX12_firstWord_30 (fun H locs Z => ?_)
        refine lv_if_eq (tgt := 44) hx hb dX12_firstWord_33 (by decide) (fun cnd => ?_) (fun cnd => ?_)
        · replace h := ifp h cnd
          refine lv_bipush (v := (-4 : Int32)) hx hb dX12_firstWord_44 (by decide) ?_
          obtain rfl := Option.some.inj h
          exact K H locs ls _ dX12_firstWord_46 Z
        · replace h := ifn h cnd
          refine lv_aload_n hx hb dX12_firstWord_36 rfl (lv_at hl 0 rfl) ?_
          refine lv_iload_n hx hb dX12_firstWord_37 rfl (lv_at hl 2 rfl) ?_
          obtain ⟨u10, hc11, h⟩ := ob_some h
          refine x_runVi (RW' := (RW_X12_firstWord cy o d letters_ tests_ inputLength_ at_ signed_ newParts_ u8.2.1 u8.2.2.1 u8.2.2.2.1 secondTruth_ u8.2.2.2.2.1 u8.2.2.2.2.2.1 stateClasses_ elements_ cursor_ hasSnapshot_ isSaving_ u10.2.1 u10.2.2 u8.2.2.2.2.2.2.1 u8.2.2.2.2.2.2.2.1 u8.2.2.2.2.2.2.2.2.1 u8.2.2.2.2.2.2.2.2.2.1 u8.2.2.2.2.2.2.2.2.2.2.1 u8.2.2.2.2.2.2.2.2.2.2.2.1 u8.2.2.2.2.2.2.2.2.2.2.2.2.1 u8.2.2.2.2.2.2.2.2.2.2.2.2.2.1 u8.2.2.2.2.2.2.2.2.2.2.2.2.2.2.1 u8.2.2.2.2.2.2.2.2.2.2.2.2.2.2.2.1 u8.2.2.2.2.2.2.2.2.2.2.2.2.2.2.2.2.1 u8.2.2.2.2.2.2.2.2.2.2.2.2.2.2.2.2.2.1 u8.2.2.2.2.2.2.2.2.2.2.2.2.2.2.2.2.2.2.1 u8.2.2.2.2.2.2.2.2.2.2.2.2.2.2.2.2.2.2.2)) (wr := [(o, ob 11 (oX12 d letters_ tests_ inputLength_ at_ signed_ newParts_ u8.2.1 u8.2.2.1 u8.2.2.2.1 secondTruth_ u8.2.2.2.2.1 u8.2.2.2.2.2.1 stateClasses_ elements_ cursor_ hasSnapshot_ isSaving_)), ((d 30), aI cy 8 u8.2.2.2.2.2.2.1), ((d 31), aI cy 8 u8.2.2.2.2.2.2.2.1), ((d 32), aI cy 8 u8.2.2.2.2.2.2.2.2.1), ((d 33), aI cy 8 u8.2.2.2.2.2.2.2.2.2.1), ((d 34), aI cy 32 u8.2.2.2.2.2.2.2.2.2.2.1), ((d 35), aI cy 4 u8.2.2.2.2.2.2.2.2.2.2.2.1), ((d 41), aJ cy 2000 u8.2.2.2.2.2.2.2.2.2.2.2.2.1), ((d 42), aJ cy 2000 u8.2.2.2.2.2.2.2.2.2.2.2.2.2.1), ((d 43), aJ cy 8192 u8.2.2.2.2.2.2.2.2.2.2.2.2.2.2.1), ((d 44), aJ cy 8192 u8.2.2.2.2.2.2.2.2.2.2.2.2.2.2.2.1), ((d 45), aI cy 8192 u8.2.2.2.2.2.2.2.2.2.2.2.2.2.2.2.2.1), ((d 46), aI cy 6000 u8.2.2.2.2.2.2.2.2.2.2.2.2.2.2.2.2.2.1), ((d 47), aI cy 2000 u8.2.2.2.2.2.2.2.2.2.2.2.2.2.2.2.2.2.2.1), ((d 48), aI cy 2000 u8.2.2.2.2.2.2.2.2.2.2.2.2.2.2.2.2.2.2.2)]) (isC := [1, 2]) (isR := [0, 3, 4, 5, 6, 7, 8, 9, 10, 11, 12, 13, 14, 15, 16]) (isF := [0, 15, 16, 1, 2, 3, 4, 5, 6, 7, 8, 9, 10, 11, 12, 13, 14]) (rest := []) (As := [.int x2]) (n := 1) X Z (c_X12_firstInto l D cy o d letters_ tests_ inputLength_ at_ signed_ newParts_ u8.2.1 u8.2.2.1 u8.2.2.2.1 secondTruth_ u8.2.2.2.2.1 u8.2.2.2.2.2.1 stateClasses_ elements_ cursor_ hasSnapshot_ isSaving_ u8.2.2.2.2.2.2.2.2.1 u8.2.2.2.2.2.2.2.2.2.1 u8.2.2.2.2.2.2.2.2.2.2.2.2.1 u8.2.2.2.2.2.2.2.2.2.2.2.2.2.1 u8.2.2.2.2.2.2.2.2.2.2.2.2.2.2.2.2.2.2.1 u8.2.2.2.2.2.2.2.2.2.2.2.2.2.2.2.2.2.2.2 wordLength_ word_ x2 u10 hc11) gX12_firstWord_X12_firstInto rfl (by decide +kernel) ⟨Nat.le_of_ble_eq_true rfl, Nat.le_of_ble_eq_true rfl⟩ ⟨rfl, rfl⟩ ⟨Nat.le_of_ble_eq_true rfl, Nat.le_of_ble_eq_true rfl⟩ (x_rv X Z 0 rfl rfl) ⟨rfl, rfl, (roC (Or.inl (mem_at 0 rfl)) (roC (Or.inl (mem_at 3 rfl)) (roC (Or.inl (mem_at 4 rfl)) (roC (Or.inl (mem_at 7 rfl)) (roC (Or.inl (mem_at 8 rfl)) (roC (Or.inl (mem_at 13 rfl)) (roC (Or.inl (mem_at 14 rfl)) roN))))))), rfl, rfl, by decide⟩ ⟨rfl, rfl⟩ rfl hl.1 rfl (Nat.le_of_ble_eq_true rfl) dX12_firstWord_38 (fun H locs Z => ?_)
          refine lv_goto (tgt := 46) hx hb dX12_firstWord_41 (by decide) ?_
          obtain rfl := Option.some.inj h
          exact K H locs ls _ dX12_firstWord_46 Z
      · replace h := ifn h cnd
        refine lv_bipush (v := (-5 : Int32)) hx hb dX12_firstWord_25 (by decide) ?_
        obtain rfl := Option.some.inj h
        exact K H locs ls _ dX12_firstWord_27 Z
    · replace h := ifp h cnd
      refine lv_iconst (v := (-1 : Int32)) hx hb dX12_firstWord_14 (by decide) ?_
      obtain rfl := Option.some.inj h
      exact K H locs ls _ dX12_firstWord_15 Z
theorem c_X12_firstWord (l : Launch) (D : va_G) (cy : Nat → ClassId) (o : Nat) (d : Nat → Nat) (form_ : Nat → Int32) (parts_ : Nat → Int32) (truth_ : Nat → Int32) (partKind_ : Nat → Int32) (partBound_ : Nat → Int32) (partLength_ : Nat → Int32) (partValue_ : Nat → Int32) (partPattern_ : Nat → Int32) (letters_ : Int32) (tests_ : Int32) (inputLength_ : Int32) (at_ : Int32) (signed_ : Int32) (newParts_ : Int32) (machineParts_ : Int32) (firstParts_ : Int32) (firstTruth_ : Int32) (secondTruth_ : Int32) (isPair_ : Int32) (states_ : Int32) (stateClasses_ : Int32) (elements_ : Int32) (cursor_ : Int32) (hasSnapshot_ : Int32) (isSaving_ : Int32) (wordLength_ : Nat → Int32) (word_ : Nat → Int32) (machineKind_ : Nat → Int32) (machineBound_ : Nat → Int32) (machineLength_ : Nat → Int32) (machineValue_ : Nat → Int32) (machinePattern_ : Nat → Int32) (digit_ : Nat → Int32) (codeA_ : Nat → Int64) (codeB_ : Nat → Int64) (keyA_ : Nat → Int64) (keyB_ : Nat → Int64) (found_ : Nat → Int32) (next_ : Nat → Int32) (before_ : Nat → Int32) (by_ : Nat → Int32) (x1 : Int32) (x2 : Int32) (out : Int32 × Int32 × Int32 × Int32 × Int32 × Int32 × (Nat → Int32) × (Nat → Int32) × (Nat → Int32) × (Nat → Int32) × (Nat → Int32) × (Nat → Int32) × (Nat → Int32) × (Nat → Int32) × (Nat → Int64) × (Nat → Int64) × (Nat → Int64) × (Nat → Int64) × (Nat → Int32) × (Nat → Int32) × (Nat → Int32) × (Nat → Int32)) (h : f_X12_firstWord x1 x2 form_ parts_ truth_ partKind_ partBound_ partLength_ partValue_ partPattern_ letters_ secondTruth_ machineParts_ firstParts_ firstTruth_ isPair_ states_ wordLength_ word_ machineKind_ machineBound_ machineLength_ machineValue_ machinePattern_ digit_ codeA_ codeB_ keyA_ keyB_ found_ next_ before_ by_ = some out) : CtI l yX12_firstWord wsX12_firstWord rm_X12_firstWord D cy [.ref o, .int x1, .int x2] (RW_X12_firstWord cy o d letters_ tests_ inputLength_ at_ signed_ newParts_ machineParts_ firstParts_ firstTruth_ secondTruth_ isPair_ states_ stateClasses_ elements_ cursor_ hasSnapshot_ isSaving_ wordLength_ word_ machineKind_ machineBound_ machineLength_ machineValue_ machinePattern_ digit_ codeA_ codeB_ keyA_ keyB_ found_ next_ before_ by_) (RO_X12_firstWord cy o d form_ parts_ truth_ partKind_ partBound_ partLength_ partValue_ partPattern_) (RW_X12_firstWord cy o d letters_ tests_ inputLength_ at_ signed_ newParts_ out.2.1 out.2.2.1 out.2.2.2.1 secondTruth_ out.2.2.2.2.1 out.2.2.2.2.2.1 stateClasses_ elements_ cursor_ hasSnapshot_ isSaving_ out.2.2.2.2.2.2.1 out.2.2.2.2.2.2.2.1 out.2.2.2.2.2.2.2.2.1 out.2.2.2.2.2.2.2.2.2.1 out.2.2.2.2.2.2.2.2.2.2.1 out.2.2.2.2.2.2.2.2.2.2.2.1 out.2.2.2.2.2.2.2.2.2.2.2.2.1 out.2.2.2.2.2.2.2.2.2.2.2.2.2.1 out.2.2.2.2.2.2.2.2.2.2.2.2.2.2.1 out.2.2.2.2.2.2.2.2.2.2.2.2.2.2.2.1 out.2.2.2.2.2.2.2.2.2.2.2.2.2.2.2.2.1 out.2.2.2.2.2.2.2.2.2.2.2.2.2.2.2.2.2.1 out.2.2.2.2.2.2.2.2.2.2.2.2.2.2.2.2.2.2.1 out.2.2.2.2.2.2.2.2.2.2.2.2.2.2.2.2.2.2.2.1 out.2.2.2.2.2.2.2.2.2.2.2.2.2.2.2.2.2.2.2.2.1 out.2.2.2.2.2.2.2.2.2.2.2.2.2.2.2.2.2.2.2.2.2) out.1 :=
  mk_i (ty := .int) (by decide) rfl rfl (Nat.le_of_ble_eq_true rfl) (fun p e s m args below meth c A Q X K H locs ls Z hl => wt_X12_firstWord o d form_ parts_ truth_ partKind_ partBound_ partLength_ partValue_ partPattern_ letters_ tests_ inputLength_ at_ signed_ newParts_ machineParts_ firstParts_ firstTruth_ secondTruth_ isPair_ states_ stateClasses_ elements_ cursor_ hasSnapshot_ isSaving_ wordLength_ word_ machineKind_ machineBound_ machineLength_ machineValue_ machinePattern_ digit_ codeA_ codeB_ keyA_ keyB_ found_ next_ before_ by_ x1 x2 out X h K H locs ls Z hl)
/-! SubwordCounterModel firstDifference (III)I -/
abbrev rm_X12_firstDifference : Room := { frames := 4, cells := 0, slots := 0, locals := 98 }
def RW_X12_firstDifference (cy : Nat → ClassId) (o : Nat) (d : Nat → Nat) (letters_ : Int32) (tests_ : Int32) (inputLength_ : Int32) (at_ : Int32) (signed_ : Int32) (newParts_ : Int32) (machineParts_ : Int32) (firstParts_ : Int32) (firstTruth_ : Int32) (secondTruth_ : Int32) (isPair_ : Int32) (states_ : Int32) (stateClasses_ : Int32) (elements_ : Int32) (cursor_ : Int32) (hasSnapshot_ : Int32) (isSaving_ : Int32) (wordLength_ : Nat → Int32) (word_ : Nat → Int32) (machineKind_ : Nat → Int32) (machineBound_ : Nat → Int32) (machineLength_ : Nat → Int32) (machineValue_ : Nat → Int32) (machinePattern_ : Nat → Int32) (digit_ : Nat → Int32) (codeA_ : Nat → Int64) (codeB_ : Nat → Int64) (keyA_ : Nat → Int64) (keyB_ : Nat → Int64) (found_ : Nat → Int32) (next_ : Nat → Int32) (before_ : Nat → Int32) (by_ : Nat → Int32) : va_W := [(o, ob 11 (oX12 d letters_ tests_ inputLength_ at_ signed_ newParts_ machineParts_ firstParts_ firstTruth_ secondTruth_ isPair_ states_ stateClasses_ elements_ cursor_ hasSnapshot_ isSaving_)), ((d 1), aI cy 3 wordLength_), ((d 2), aI cy 36 word_), ((d 30), aI cy 8 machineKind_), ((d 31), aI cy 8 machineBound_), ((d 32), aI cy 8 machineLength_), ((d 33), aI cy 8 machineValue_), ((d 34), aI cy 32 machinePattern_), ((d 35), aI cy 4 digit_), ((d 41), aJ cy 2000 codeA_), ((d 42), aJ cy 2000 codeB_), ((d 43), aJ cy 8192 keyA_), ((d 44), aJ cy 8192 keyB_), ((d 45), aI cy 8192 found_), ((d 46), aI cy 6000 next_), ((d 47), aI cy 2000 before_), ((d 48), aI cy 2000 by_)]
def RO_X12_firstDifference (cy : Nat → ClassId) (o : Nat) (d : Nat → Nat) (form_ : Nat → Int32) (parts_ : Nat → Int32) (truth_ : Nat → Int32) (partKind_ : Nat → Int32) (partBound_ : Nat → Int32) (partLength_ : Nat → Int32) (partValue_ : Nat → Int32) (partPattern_ : Nat → Int32) : va_W := [((d 16), aI cy 4 form_), ((d 17), aI cy 4 parts_), ((d 18), aI cy 4 truth_), ((d 19), aI cy 16 partKind_), ((d 20), aI cy 16 partBound_), ((d 21), aI cy 16 partLength_), ((d 22), aI cy 16 partValue_), ((d 23), aI cy 64 partPattern_)]
theorem in_X12_firstDifference_X12 : ∀ w ∈ u_ws RX12 TX12 68, w ∈ wsX12_firstDifference := fun w h => (List.mem_cons_of_mem _ (List.mem_append_right _ h))
theorem lk_X12_firstDifference_X12_machineParts : Lk wsX12_firstDifference RX12 244 11 36 := ⟨RX12, TX12, 68, rfl, by decide, in_X12_firstDifference_X12, mem_at 2 rfl⟩
theorem lk_X12_firstDifference_X12_partPattern : Lk wsX12_firstDifference RX12 68 11 23 := ⟨RX12, TX12, 68, rfl, by decide, in_X12_firstDifference_X12, mem_at 7 rfl⟩
theorem lk_X12_firstDifference_X12_form : Lk wsX12_firstDifference RX12 47 11 16 := ⟨RX12, TX12, 68, rfl, by decide, in_X12_firstDifference_X12, mem_at 1 rfl⟩
theorem lp_X12_firstDifference_X12_machineParts : Lp wsX12_firstDifference RX12 244 11 36 .int := ⟨RX12, TX12, 68, tyX12, rfl, by decide, in_X12_firstDifference_X12, mem_at 2 rfl, tyX12_ok, nmX12, rfl, by decide +kernel⟩
theorem lp_X12_firstDifference_X12_isPair : Lp wsX12_firstDifference RX12 297 11 40 .boolean := ⟨RX12, TX12, 68, tyX12, rfl, by decide, in_X12_firstDifference_X12, mem_at 3 rfl, tyX12_ok, nmX12, rfl, by decide +kernel⟩
theorem lp_X12_firstDifference_X12_firstParts : Lp wsX12_firstDifference RX12 294 11 37 .int := ⟨RX12, TX12, 68, tyX12, rfl, by decide, in_X12_firstDifference_X12, mem_at 4 rfl, tyX12_ok, nmX12, rfl, by decide +kernel⟩
theorem lk_X12_firstDifference_X12_truth : Lk wsX12_firstDifference RX12 53 11 18 := ⟨RX12, TX12, 68, rfl, by decide, in_X12_firstDifference_X12, mem_at 5 rfl⟩
theorem lp_X12_firstDifference_X12_firstTruth : Lp wsX12_firstDifference RX12 291 11 38 .int := ⟨RX12, TX12, 68, tyX12, rfl, by decide, in_X12_firstDifference_X12, mem_at 6 rfl, tyX12_ok, nmX12, rfl, by decide +kernel⟩
theorem lp_X12_firstDifference_X12_secondTruth : Lp wsX12_firstDifference RX12 301 11 39 .int := ⟨RX12, TX12, 68, tyX12, rfl, by decide, in_X12_firstDifference_X12, mem_at 8 rfl, tyX12_ok, nmX12, rfl, by decide +kernel⟩
def b_X12_firstDifference_77 (partPattern_ : Nat → Int32) (machineParts_ : Int32) (machineKind_ : Nat → Int32) (machineBound_ : Nat → Int32) (machineLength_ : Nat → Int32) (machineValue_ : Nat → Int32) (machinePattern_ : Nat → Int32) : Option ((Int32 × (Nat → Int32) × (Nat → Int32) × (Nat → Int32) × (Nat → Int32) × (Nat → Int32)) ⊕ (Int32 × (Nat → Int32) × (Nat → Int32) × (Nat → Int32) × (Nat → Int32) × (Nat → Int32))) :=
  if (4 : Int32) ≤ machineParts_ then
  (some (.inr (machineParts_, machineKind_, machineBound_, machineLength_, machineValue_, machinePattern_)))
  else
  ((f_X12_addPart (1 : Int32) (1 : Int32) (0 : Int32) (-1 : Int32) (0 : Int32) 64 partPattern_ machineParts_ machineKind_ machineBound_ machineLength_ machineValue_ machinePattern_).bind (fun u1 =>
  some (.inl (u1.1, u1.2.1, u1.2.2.1, u1.2.2.2.1, u1.2.2.2.2.1, u1.2.2.2.2.2))))
set_option maxHeartbeats 4000000 in
set_option maxRecDepth 100000 in
theorem wb_X12_firstDifference_77 {p : Program} {l : Launch} {e : Env} {s : State} {m : MethodId} {args : Array Value} {below : List Frame} {meth : Method} {c : Code} {A : Nat → Prop} {Q : State → Prop} {D : va_G} {cy : Nat → ClassId} (o : Nat) (d : Nat → Nat) (form_ : Nat → Int32) (parts_ : Nat → Int32) (truth_ : Nat → Int32) (partKind_ : Nat → Int32) (partBound_ : Nat → Int32) (partLength_ : Nat → Int32) (partValue_ : Nat → Int32) (partPattern_ : Nat → Int32) (letters_ : Int32) (tests_ : Int32) (inputLength_ : Int32) (at_ : Int32) (signed_ : Int32) (newParts_ : Int32) (firstParts_ : Int32) (firstTruth_ : Int32) (secondTruth_ : Int32) (isPair_ : Int32) (states_ : Int32) (stateClasses_ : Int32) (elements_ : Int32) (cursor_ : Int32) (hasSnapshot_ : Int32) (isSaving_ : Int32) (wordLength_ : Nat → Int32) (word_ : Nat → Int32) (digit_ : Nat → Int32) (codeA_ : Nat → Int64) (codeB_ : Nat → Int64) (keyA_ : Nat → Int64) (keyB_ : Nat → Int64) (found_ : Nat → Int32) (next_ : Nat → Int32) (before_ : Nat → Int32) (by_ : Nat → Int32) (x2 : Int32) (x3 : Int32) (machineParts_ : Int32) (machineKind_ : Nat → Int32) (machineBound_ : Nat → Int32) (machineLength_ : Nat → Int32) (machineValue_ : Nat → Int32) (machinePattern_ : Nat → Int32) (o1 : (Int32 × (Nat → Int32) × (Nat → Int32) × (Nat → Int32) × (Nat → Int32) × (Nat → Int32)) ⊕ (Int32 × (Nat → Int32) × (Nat → Int32) × (Nat → Int32) × (Nat → Int32) × (Nat → Int32))) (X : Cx p m c cX12_firstDifference 4 s args wsX12_firstDifference RX12 A D cy (RO_X12_firstDifference cy o d form_ parts_ truth_ partKind_ partBound_ partLength_ partValue_ partPattern_)) (h : b_X12_firstDifference_77 partPattern_ machineParts_ machineKind_ machineBound_ machineLength_ machineValue_ machinePattern_ = some o1) (K : Sum.elim (fun v : Int32 × (Nat → Int32) × (Nat → Int32) × (Nat → Int32) × (Nat → Int32) × (Nat → Int32) => ∀ (H : Heap) (locs : List Loc) (ls : Array Slot), St A D s (RW_X12_firstDifference cy o d letters_ tests_ inputLength_ at_ signed_ newParts_ v.1 firstParts_ firstTruth_ secondTruth_ isPair_ states_ stateClasses_ elements_ cursor_ hasSnapshot_ isSaving_ wordLength_ word_ v.2.1 v.2.2.1 v.2.2.2.1 v.2.2.2.2.1 v.2.2.2.2.2 digit_ codeA_ codeB_ keyA_ keyB_ found_ next_ before_ by_) H locs → lv_has ls 4 [(0, .ref o), (2, .int x2), (3, .int x3)] → W p l e rm_X12_firstDifference s m args below meth c H locs 0 0 Q (F0 m 77 ls [])) (fun v : Int32 × (Nat → Int32) × (Nat → Int32) × (Nat → Int32) × (Nat → Int32) × (Nat → Int32) => ∀ (H : Heap) (locs : List Loc) (ls : Array Slot), St A D s (RW_X12_firstDifference cy o d letters_ tests_ inputLength_ at_ signed_ newParts_ v.1 firstParts_ firstTruth_ secondTruth_ isPair_ states_ stateClasses_ elements_ cursor_ hasSnapshot_ isSaving_ wordLength_ word_ v.2.1 v.2.2.1 v.2.2.2.1 v.2.2.2.2.1 v.2.2.2.2.2 digit_ codeA_ codeB_ keyA_ keyB_ found_ next_ before_ by_) H locs → lv_has ls 4 [(0, .ref o), (2, .int x2), (3, .int x3)] → W p l e rm_X12_firstDifference s m args below meth c H locs 0 0 Q (F0 m 101 ls [])) o1) : ∀ (H : Heap) (locs : List Loc) (ls : Array Slot), St A D s (RW_X12_firstDifference cy o d letters_ tests_ inputLength_ at_ signed_ newParts_ machineParts_ firstParts_ firstTruth_ secondTruth_ isPair_ states_ stateClasses_ elements_ cursor_ hasSnapshot_ isSaving_ wordLength_ word_ machineKind_ machineBound_ machineLength_ machineValue_ machinePattern_ digit_ codeA_ codeB_ keyA_ keyB_ found_ next_ before_ by_) H locs → lv_has ls 4 [(0, .ref o), (2, .int x2), (3, .int x3)] → W p l e rm_X12_firstDifference s m args below meth c H locs 0 0 Q (F0 m 77 ls []) := by
  intro H locs ls Z hl
  have hx := X.1.1
  have hb := X.1.2.1
  unfold b_X12_firstDifference_77 at h
  refine lv_aload_n hx hb dX12_firstDifference_77 rfl (lv_at hl 0 rfl) ?_
  refine x_get X Z 0 36 (v := .int machineParts_) rfl rfl lk_X12_firstDifference_X12_machineParts dX12_firstDifference_78 ?_
  refine lv_iconst (v := (4 : Int32)) hx hb dX12_firstDifference_81 (by decide) ?_
  refine lv_icmp_ge (tgt := 101) hx hb dX12_firstDifference_82 (by decide) (fun cnd => ?_) (fun cnd => ?_)
  · replace h := ifp h cnd
    obtain rfl := Option.some.inj h
    exact (sk_r K) H locs ls Z (lv_sub hl [0, 1, 2] rfl)
  · replace h := ifn h cnd
    refine lv_aload_n hx hb dX12_firstDifference_85 rfl (lv_at hl 0 rfl) ?_
    refine lv_iconst (v := (1 : Int32)) hx hb dX12_firstDifference_86 (by decide) ?_
    refine lv_iconst (v := (1 : Int32)) hx hb dX12_firstDifference_87 (by decide) ?_
    refine lv_iconst (v := (0 : Int32)) hx hb dX12_firstDifference_88 (by decide) ?_
    refine lv_iconst (v := (-1 : Int32)) hx hb dX12_firstDifference_89 (by decide) ?_
    refine lv_aload_n hx hb dX12_firstDifference_90 rfl (lv_at hl 0 rfl) ?_
    refine x_get X Z 0 23 (v := .ref (d 23)) rfl rfl lk_X12_firstDifference_X12_partPattern dX12_firstDifference_91 ?_
    refine lv_iconst (v := (0 : Int32)) hx hb dX12_firstDifference_94 (by decide) ?_
    obtain ⟨u1, hc2, h⟩ := ob_some h
    refine x_runVv (RW' := (RW_X12_firstDifference cy o d letters_ tests_ inputLength_ at_ signed_ newParts_ u1.1 firstParts_ firstTruth_ secondTruth_ isPair_ states_ stateClasses_ elements_ cursor_ hasSnapshot_ isSaving_ wordLength_ word_ u1.2.1 u1.2.2.1 u1.2.2.2.1 u1.2.2.2.2.1 u1.2.2.2.2.2 digit_ codeA_ codeB_ keyA_ keyB_ found_ next_ before_ by_)) (wr := [((d 1), aI cy 3 wordLength_), ((d 2), aI cy 36 word_), ((d 35), aI cy 4 digit_), ((d 41), aJ cy 2000 codeA_), ((d 42), aJ cy 2000 codeB_), ((d 43), aJ cy 8192 keyA_), ((d 44), aJ cy 8192 keyB_), ((d 45), aI cy 8192 found_), ((d 46), aI cy 6000 next_), ((d 47), aI cy 2000 before_), ((d 48), aI cy 2000 by_)]) (isC := [0, 3, 4, 5, 6, 7]) (isR := [1, 2, 8, 9, 10, 11, 12, 13, 14, 15, 16]) (isF := [11, 0, 1, 12, 13, 14, 15, 16, 2, 3, 4, 5, 6, 7, 8, 9, 10]) (rest := []) (As := [.int (1 : Int32), .int (1 : Int32), .int (0 : Int32), .int (-1 : Int32), .ref (d 23), .int (0 : Int32)]) (n := 6) X Z (c_X12_addPart l D cy o (d 23) 64 d partPattern_ letters_ tests_ inputLength_ at_ signed_ newParts_ machineParts_ firstParts_ firstTruth_ secondTruth_ isPair_ states_ stateClasses_ elements_ cursor_ hasSnapshot_ isSaving_ machineKind_ machineBound_ machineLength_ machineValue_ machinePattern_ (1 : Int32) (1 : Int32) (0 : Int32) (-1 : Int32) (0 : Int32) u1 hc2) gX12_firstDifference_X12_addPart rfl (by decide +kernel) ⟨Nat.le_of_ble_eq_true rfl, Nat.le_of_ble_eq_true rfl⟩ ⟨rfl, rfl⟩ ⟨Nat.le_of_ble_eq_true rfl, Nat.le_of_ble_eq_true rfl⟩ (x_rv X Z 0 rfl rfl) ⟨rfl, rfl, (roC (Or.inr (mem_at 7 rfl)) roN), rfl, rfl, by decide⟩ ⟨rfl, rfl⟩ rfl hl.1 rfl (Nat.le_of_ble_eq_true rfl) dX12_firstDifference_95 (fun H locs Z => ?_)
    refine lv_goto (tgt := 77) hx hb dX12_firstDifference_98 (by decide) ?_
    obtain rfl := Option.some.inj h
    exact sk_l K H locs ls Z (lv_sub hl [0, 1, 2] rfl)
set_option maxHeartbeats 4000000 in
set_option maxRecDepth 100000 in
theorem wl_X12_firstDifference_77 {p : Program} {l : Launch} {e : Env} {s : State} {m : MethodId} {args : Array Value} {below : List Frame} {meth : Method} {c : Code} {A : Nat → Prop} {Q : State → Prop} {D : va_G} {cy : Nat → ClassId} (o : Nat) (d : Nat → Nat) (form_ : Nat → Int32) (parts_ : Nat → Int32) (truth_ : Nat → Int32) (partKind_ : Nat → Int32) (partBound_ : Nat → Int32) (partLength_ : Nat → Int32) (partValue_ : Nat → Int32) (partPattern_ : Nat → Int32) (letters_ : Int32) (tests_ : Int32) (inputLength_ : Int32) (at_ : Int32) (signed_ : Int32) (newParts_ : Int32) (firstParts_ : Int32) (firstTruth_ : Int32) (secondTruth_ : Int32) (isPair_ : Int32) (states_ : Int32) (stateClasses_ : Int32) (elements_ : Int32) (cursor_ : Int32) (hasSnapshot_ : Int32) (isSaving_ : Int32) (wordLength_ : Nat → Int32) (word_ : Nat → Int32) (digit_ : Nat → Int32) (codeA_ : Nat → Int64) (codeB_ : Nat → Int64) (keyA_ : Nat → Int64) (keyB_ : Nat → Int64) (found_ : Nat → Int32) (next_ : Nat → Int32) (before_ : Nat → Int32) (by_ : Nat → Int32) (x2 : Int32) (x3 : Int32) (n : Nat) (v : Int32 × (Nat → Int32) × (Nat → Int32) × (Nat → Int32) × (Nat → Int32) × (Nat → Int32)) (x : Int32 × (Nat → Int32) × (Nat → Int32) × (Nat → Int32) × (Nat → Int32) × (Nat → Int32)) (X : Cx p m c cX12_firstDifference 4 s args wsX12_firstDifference RX12 A D cy (RO_X12_firstDifference cy o d form_ parts_ truth_ partKind_ partBound_ partLength_ partValue_ partPattern_)) (h : loopN (fun v => b_X12_firstDifference_77 partPattern_ v.1 v.2.1 v.2.2.1 v.2.2.2.1 v.2.2.2.2.1 v.2.2.2.2.2) n v = some x) (K : ∀ (H : Heap) (locs : List Loc) (ls : Array Slot), St A D s (RW_X12_firstDifference cy o d letters_ tests_ inputLength_ at_ signed_ newParts_ x.1 firstParts_ firstTruth_ secondTruth_ isPair_ states_ stateClasses_ elements_ cursor_ hasSnapshot_ isSaving_ wordLength_ word_ x.2.1 x.2.2.1 x.2.2.2.1 x.2.2.2.2.1 x.2.2.2.2.2 digit_ codeA_ codeB_ keyA_ keyB_ found_ next_ before_ by_) H locs → lv_has ls 4 [(0, .ref o), (2, .int x2), (3, .int x3)] → W p l e rm_X12_firstDifference s m args below meth c H locs 0 0 Q (F0 m 101 ls [])) : ∀ (H : Heap) (locs : List Loc) (ls : Array Slot), St A D s (RW_X12_firstDifference cy o d letters_ tests_ inputLength_ at_ signed_ newParts_ v.1 firstParts_ firstTruth_ secondTruth_ isPair_ states_ stateClasses_ elements_ cursor_ hasSnapshot_ isSaving_ wordLength_ word_ v.2.1 v.2.2.1 v.2.2.2.1 v.2.2.2.2.1 v.2.2.2.2.2 digit_ codeA_ codeB_ keyA_ keyB_ found_ next_ before_ by_) H locs → lv_has ls 4 [(0, .ref o), (2, .int x2), (3, .int x3)] → W p l e rm_X12_firstDifference s m args below meth c H locs 0 0 Q (F0 m 77 ls []) :=
  loop_gen (B := (fun v => b_X12_firstDifference_77 partPattern_ v.1 v.2.1 v.2.2.1 v.2.2.2.1 v.2.2.2.2.1 v.2.2.2.2.2)) (Head := fun v : Int32 × (Nat → Int32) × (Nat → Int32) × (Nat → Int32) × (Nat → Int32) × (Nat → Int32) => ∀ (H : Heap) (locs : List Loc) (ls : Array Slot), St A D s (RW_X12_firstDifference cy o d letters_ tests_ inputLength_ at_ signed_ newParts_ v.1 firstParts_ firstTruth_ secondTruth_ isPair_ states_ stateClasses_ elements_ cursor_ hasSnapshot_ isSaving_ wordLength_ word_ v.2.1 v.2.2.1 v.2.2.2.1 v.2.2.2.2.1 v.2.2.2.2.2 digit_ codeA_ codeB_ keyA_ keyB_ found_ next_ before_ by_) H locs → lv_has ls 4 [(0, .ref o), (2, .int x2), (3, .int x3)] → W p l e rm_X12_firstDifference s m args below meth c H locs 0 0 Q (F0 m 77 ls [])) (Exit := fun v : Int32 × (Nat → Int32) × (Nat → Int32) × (Nat → Int32) × (Nat → Int32) × (Nat → Int32) => ∀ (H : Heap) (locs : List Loc) (ls : Array Slot), St A D s (RW_X12_firstDifference cy o d letters_ tests_ inputLength_ at_ signed_ newParts_ v.1 firstParts_ firstTruth_ secondTruth_ isPair_ states_ stateClasses_ elements_ cursor_ hasSnapshot_ isSaving_ wordLength_ word_ v.2.1 v.2.2.1 v.2.2.2.1 v.2.2.2.2.1 v.2.2.2.2.2 digit_ codeA_ codeB_ keyA_ keyB_ found_ next_ before_ by_) H locs → lv_has ls 4 [(0, .ref o), (2, .int x2), (3, .int x3)] → W p l e rm_X12_firstDifference s m args below meth c H locs 0 0 Q (F0 m 101 ls [])) (fun v o9 hb1 K1 => wb_X12_firstDifference_77 o d form_ parts_ truth_ partKind_ partBound_ partLength_ partValue_ partPattern_ letters_ tests_ inputLength_ at_ signed_ newParts_ firstParts_ firstTruth_ secondTruth_ isPair_ states_ stateClasses_ elements_ cursor_ hasSnapshot_ isSaving_ wordLength_ word_ digit_ codeA_ codeB_ keyA_ keyB_ found_ next_ before_ by_ x2 x3 v.1 v.2.1 v.2.2.1 v.2.2.2.1 v.2.2.2.2.1 v.2.2.2.2.2 o9 X hb1 K1) n v x h K
def f_X12_firstDifference (x1 : Int32) (x2 : Int32) (x3 : Int32) (form_ : Nat → Int32) (parts_ : Nat → Int32) (truth_ : Nat → Int32) (partKind_ : Nat → Int32) (partBound_ : Nat → Int32) (partLength_ : Nat → Int32) (partValue_ : Nat → Int32) (partPattern_ : Nat → Int32) (letters_ : Int32) (machineParts_ : Int32) (firstParts_ : Int32) (firstTruth_ : Int32) (secondTruth_ : Int32) (isPair_ : Int32) (states_ : Int32) (wordLength_ : Nat → Int32) (word_ : Nat → Int32) (machineKind_ : Nat → Int32) (machineBound_ : Nat → Int32) (machineLength_ : Nat → Int32) (machineValue_ : Nat → Int32) (machinePattern_ : Nat → Int32) (digit_ : Nat → Int32) (codeA_ : Nat → Int64) (codeB_ : Nat → Int64) (keyA_ : Nat → Int64) (keyB_ : Nat → Int64) (found_ : Nat → Int32) (next_ : Nat → Int32) (before_ : Nat → Int32) (by_ : Nat → Int32) : Option (Int32 × Int32 × Int32 × Int32 × Int32 × Int32 × Int32 × (Nat → Int32) × (Nat → Int32) × (Nat → Int32) × (Nat → Int32) × (Nat → Int32) × (Nat → Int32) × (Nat → Int32) × (Nat → Int32) × (Nat → Int64) × (Nat → Int64) × (Nat → Int64) × (Nat → Int64) × (Nat → Int32) × (Nat → Int32) × (Nat → Int32) × (Nat → Int32)) :=
  (f_X12_isLanguage x1).bind (fun u3 =>
  if u3 = 0 then
  (some ((-1 : Int32), machineParts_, firstParts_, firstTruth_, secondTruth_, isPair_, states_, wordLength_, word_, machineKind_, machineBound_, machineLength_, machineValue_, machinePattern_, digit_, codeA_, codeB_, keyA_, keyB_, found_, next_, before_, by_))
  else
  ((f_X12_isLanguage x2).bind (fun u5 =>
  if u5 = 0 then
  (some ((-1 : Int32), machineParts_, firstParts_, firstTruth_, secondTruth_, isPair_, states_, wordLength_, word_, machineKind_, machineBound_, machineLength_, machineValue_, machinePattern_, digit_, codeA_, codeB_, keyA_, keyB_, found_, next_, before_, by_))
  else
  ((f_X12_isWord x3).bind (fun u7 =>
  if u7 = 0 then
  (some ((-1 : Int32), machineParts_, firstParts_, firstTruth_, secondTruth_, isPair_, states_, wordLength_, word_, machineKind_, machineBound_, machineLength_, machineValue_, machinePattern_, digit_, codeA_, codeB_, keyA_, keyB_, found_, next_, before_, by_))
  else
  (ldA form_ 4 x1 (fun v10 =>
  if v10 < 0 then
  (some ((-5 : Int32), machineParts_, firstParts_, firstTruth_, secondTruth_, isPair_, states_, wordLength_, word_, machineKind_, machineBound_, machineLength_, machineValue_, machinePattern_, digit_, codeA_, codeB_, keyA_, keyB_, found_, next_, before_, by_))
  else
  (ldA form_ 4 x2 (fun v13 =>
  if 0 ≤ v13 then
  ((f_X12_addLanguage x1 parts_ partKind_ partBound_ partLength_ partValue_ partPattern_ (0 : Int32) machineKind_ machineBound_ machineLength_ machineValue_ machinePattern_).bind (fun u15 =>
  ldA truth_ 4 x1 (fun v18 =>
  (loopN (fun v => b_X12_firstDifference_77 partPattern_ v.1 v.2.1 v.2.2.1 v.2.2.2.1 v.2.2.2.2.1 v.2.2.2.2.2) FU (u15.1, u15.2.1, u15.2.2.1, u15.2.2.2.1, u15.2.2.2.2.1, u15.2.2.2.2.2)).bind (fun u20 =>
  (f_X12_addLanguage x2 parts_ partKind_ partBound_ partLength_ partValue_ partPattern_ u20.1 u20.2.1 u20.2.2.1 u20.2.2.2.1 u20.2.2.2.2.1 u20.2.2.2.2.2).bind (fun u22 =>
  ldA truth_ 4 x2 (fun v25 =>
  (f_X12_builds u22.2.1 u22.2.2.1 u22.2.2.2.1 u22.2.2.2.2.2 letters_ u22.1 states_ digit_ codeA_ codeB_ keyA_ keyB_ found_ next_ before_ by_).bind (fun u27 =>
  if u27.1 = 0 then
  (some ((-4 : Int32), u22.1, u15.1, v18, v25, (1 : Int32), u27.2.1, wordLength_, word_, u22.2.1, u22.2.2.1, u22.2.2.2.1, u22.2.2.2.2.1, u22.2.2.2.2.2, u27.2.2.1, u27.2.2.2.1, u27.2.2.2.2.1, u27.2.2.2.2.2.1, u27.2.2.2.2.2.2.1, u27.2.2.2.2.2.2.2.1, u27.2.2.2.2.2.2.2.2.1, u27.2.2.2.2.2.2.2.2.2.1, u27.2.2.2.2.2.2.2.2.2.2))
  else
  ((f_X12_firstInto x3 u22.1 u15.1 v18 v25 (1 : Int32) u27.2.1 u22.2.2.2.1 u22.2.2.2.2.1 u27.2.2.2.1 u27.2.2.2.2.1 u27.2.2.2.2.2.2.2.2.2.1 u27.2.2.2.2.2.2.2.2.2.2 wordLength_ word_).bind (fun u29 =>
  some (u29.1, u22.1, u15.1, v18, v25, (1 : Int32), u27.2.1, u29.2.1, u29.2.2, u22.2.1, u22.2.2.1, u22.2.2.2.1, u22.2.2.2.2.1, u22.2.2.2.2.2, u27.2.2.1, u27.2.2.2.1, u27.2.2.2.2.1, u27.2.2.2.2.2.1, u27.2.2.2.2.2.2.1, u27.2.2.2.2.2.2.2.1, u27.2.2.2.2.2.2.2.2.1, u27.2.2.2.2.2.2.2.2.2.1, u27.2.2.2.2.2.2.2.2.2.2))))))))))
  else
  (some ((-5 : Int32), machineParts_, firstParts_, firstTruth_, secondTruth_, isPair_, states_, wordLength_, word_, machineKind_, machineBound_, machineLength_, machineValue_, machinePattern_, digit_, codeA_, codeB_, keyA_, keyB_, found_, next_, before_, by_)))))))))))
set_option maxHeartbeats 4000000 in
set_option maxRecDepth 100000 in
theorem wt_X12_firstDifference {p : Program} {l : Launch} {e : Env} {s : State} {m : MethodId} {args : Array Value} {below : List Frame} {meth : Method} {c : Code} {A : Nat → Prop} {Q : State → Prop} {D : va_G} {cy : Nat → ClassId} (o : Nat) (d : Nat → Nat) (form_ : Nat → Int32) (parts_ : Nat → Int32) (truth_ : Nat → Int32) (partKind_ : Nat → Int32) (partBound_ : Nat → Int32) (partLength_ : Nat → Int32) (partValue_ : Nat → Int32) (partPattern_ : Nat → Int32) (letters_ : Int32) (tests_ : Int32) (inputLength_ : Int32) (at_ : Int32) (signed_ : Int32) (newParts_ : Int32) (machineParts_ : Int32) (firstParts_ : Int32) (firstTruth_ : Int32) (secondTruth_ : Int32) (isPair_ : Int32) (states_ : Int32) (stateClasses_ : Int32) (elements_ : Int32) (cursor_ : Int32) (hasSnapshot_ : Int32) (isSaving_ : Int32) (wordLength_ : Nat → Int32) (word_ : Nat → Int32) (machineKind_ : Nat → Int32) (machineBound_ : Nat → Int32) (machineLength_ : Nat → Int32) (machineValue_ : Nat → Int32) (machinePattern_ : Nat → Int32) (digit_ : Nat → Int32) (codeA_ : Nat → Int64) (codeB_ : Nat → Int64) (keyA_ : Nat → Int64) (keyB_ : Nat → Int64) (found_ : Nat → Int32) (next_ : Nat → Int32) (before_ : Nat → Int32) (by_ : Nat → Int32) (x1 : Int32) (x2 : Int32) (x3 : Int32) (out : Int32 × Int32 × Int32 × Int32 × Int32 × Int32 × Int32 × (Nat → Int32) × (Nat → Int32) × (Nat → Int32) × (Nat → Int32) × (Nat → Int32) × (Nat → Int32) × (Nat → Int32) × (Nat → Int32) × (Nat → Int64) × (Nat → Int64) × (Nat → Int64) × (Nat → Int64) × (Nat → Int32) × (Nat → Int32) × (Nat → Int32) × (Nat → Int32)) (X : Cx p m c cX12_firstDifference 4 s args wsX12_firstDifference RX12 A D cy (RO_X12_firstDifference cy o d form_ parts_ truth_ partKind_ partBound_ partLength_ partValue_ partPattern_)) (h : f_X12_firstDifference x1 x2 x3 form_ parts_ truth_ partKind_ partBound_ partLength_ partValue_ partPattern_ letters_ machineParts_ firstParts_ firstTruth_ secondTruth_ isPair_ states_ wordLength_ word_ machineKind_ machineBound_ machineLength_ machineValue_ machinePattern_ digit_ codeA_ codeB_ keyA_ keyB_ found_ next_ before_ by_ = some out) (K : ∀ (H : Heap) (locs : List Loc) (ls : Array Slot) (pc : Nat), decode cX12_firstDifference pc = .ok (.ireturn, 1) → St A D s (RW_X12_firstDifference cy o d letters_ tests_ inputLength_ at_ signed_ newParts_ out.2.1 out.2.2.1 out.2.2.2.1 out.2.2.2.2.1 out.2.2.2.2.2.1 out.2.2.2.2.2.2.1 stateClasses_ elements_ cursor_ hasSnapshot_ isSaving_ out.2.2.2.2.2.2.2.1 out.2.2.2.2.2.2.2.2.1 out.2.2.2.2.2.2.2.2.2.1 out.2.2.2.2.2.2.2.2.2.2.1 out.2.2.2.2.2.2.2.2.2.2.2.1 out.2.2.2.2.2.2.2.2.2.2.2.2.1 out.2.2.2.2.2.2.2.2.2.2.2.2.2.1 out.2.2.2.2.2.2.2.2.2.2.2.2.2.2.1 out.2.2.2.2.2.2.2.2.2.2.2.2.2.2.2.1 out.2.2.2.2.2.2.2.2.2.2.2.2.2.2.2.2.1 out.2.2.2.2.2.2.2.2.2.2.2.2.2.2.2.2.2.1 out.2.2.2.2.2.2.2.2.2.2.2.2.2.2.2.2.2.2.1 out.2.2.2.2.2.2.2.2.2.2.2.2.2.2.2.2.2.2.2.1 out.2.2.2.2.2.2.2.2.2.2.2.2.2.2.2.2.2.2.2.2.1 out.2.2.2.2.2.2.2.2.2.2.2.2.2.2.2.2.2.2.2.2.2.1 out.2.2.2.2.2.2.2.2.2.2.2.2.2.2.2.2.2.2.2.2.2.2) H locs → W p l e rm_X12_firstDifference s m args below meth c H locs 0 0 Q (F0 m pc ls [.int out.1])) : ∀ (H : Heap) (locs : List Loc) (ls : Array Slot), St A D s (RW_X12_firstDifference cy o d letters_ tests_ inputLength_ at_ signed_ newParts_ machineParts_ firstParts_ firstTruth_ secondTruth_ isPair_ states_ stateClasses_ elements_ cursor_ hasSnapshot_ isSaving_ wordLength_ word_ machineKind_ machineBound_ machineLength_ machineValue_ machinePattern_ digit_ codeA_ codeB_ keyA_ keyB_ found_ next_ before_ by_) H locs → lv_has ls 4 [(0, .ref o), (1, .int x1), (2, .int x2), (3, .int x3)] → W p l e rm_X12_firstDifference s m args below meth c H locs 0 0 Q (F0 m 0 ls []) := by
  intro H locs ls Z hl
  have hx := X.1.1
  have hb := X.1.2.1
  unfold f_X12_firstDifference at h
  refine lv_iload_n hx hb dX12_firstDifference_0 rfl (lv_at hl 1 rfl) ?_
  obtain ⟨u3, hc4, h⟩ := ob_some h
  refine x_runSi (RW' := (RW_X12_firstDifference cy o d letters_ tests_ inputLength_ at_ signed_ newParts_ machineParts_ firstParts_ firstTruth_ secondTruth_ isPair_ states_ stateClasses_ elements_ cursor_ hasSnapshot_ isSaving_ wordLength_ word_ machineKind_ machineBound_ machineLength_ machineValue_ machinePattern_ digit_ codeA_ codeB_ keyA_ keyB_ found_ next_ before_ by_)) (wr := [(o, ob 11 (oX12 d letters_ tests_ inputLength_ at_ signed_ newParts_ machineParts_ firstParts_ firstTruth_ secondTruth_ isPair_ states_ stateClasses_ elements_ cursor_ hasSnapshot_ isSaving_)), ((d 1), aI cy 3 wordLength_), ((d 2), aI cy 36 word_), ((d 30), aI cy 8 machineKind_), ((d 31), aI cy 8 machineBound_), ((d 32), aI cy 8 machineLength_), ((d 33), aI cy 8 machineValue_), ((d 34), aI cy 32 machinePattern_), ((d 35), aI cy 4 digit_), ((d 41), aJ cy 2000 codeA_), ((d 42), aJ cy 2000 codeB_), ((d 43), aJ cy 8192 keyA_), ((d 44), aJ cy 8192 keyB_), ((d 45), aI cy 8192 found_), ((d 46), aI cy 6000 next_), ((d 47), aI cy 2000 before_), ((d 48), aI cy 2000 by_)]) (isC := []) (isR := [0, 1, 2, 3, 4, 5, 6, 7, 8, 9, 10, 11, 12, 13, 14, 15, 16]) (isF := [0, 1, 2, 3, 4, 5, 6, 7, 8, 9, 10, 11, 12, 13, 14, 15, 16]) (rest := []) (As := [.int x1]) (n := 1) X Z (c_X12_isLanguage l D cy x1 u3 hc4) gX12_firstDifference_X12_isLanguage rfl (by decide +kernel) ⟨Nat.le_of_ble_eq_true rfl, Nat.le_of_ble_eq_true rfl⟩ ⟨rfl, rfl⟩ ⟨Nat.le_of_ble_eq_true rfl, Nat.le_of_ble_eq_true rfl⟩ ⟨rfl, rfl, roN, rfl, rfl, by decide⟩ ⟨rfl, rfl⟩ rfl hl.1 rfl (Nat.le_of_ble_eq_true rfl) dX12_firstDifference_1 (fun H locs Z => ?_)
  refine lv_if_eq (tgt := 21) hx hb dX12_firstDifference_4 (by decide) (fun cnd => ?_) (fun cnd => ?_)
  · replace h := ifp h cnd
    refine lv_iconst (v := (-1 : Int32)) hx hb dX12_firstDifference_21 (by decide) ?_
    obtain rfl := Option.some.inj h
    exact K H locs ls _ dX12_firstDifference_22 Z
  · replace h := ifn h cnd
    refine lv_iload_n hx hb dX12_firstDifference_7 rfl (lv_at hl 2 rfl) ?_
    obtain ⟨u5, hc6, h⟩ := ob_some h
    refine x_runSi (RW' := (RW_X12_firstDifference cy o d letters_ tests_ inputLength_ at_ signed_ newParts_ machineParts_ firstParts_ firstTruth_ secondTruth_ isPair_ states_ stateClasses_ elements_ cursor_ hasSnapshot_ isSaving_ wordLength_ word_ machineKind_ machineBound_ machineLength_ machineValue_ machinePattern_ digit_ codeA_ codeB_ keyA_ keyB_ found_ next_ before_ by_)) (wr := [(o, ob 11 (oX12 d letters_ tests_ inputLength_ at_ signed_ newParts_ machineParts_ firstParts_ firstTruth_ secondTruth_ isPair_ states_ stateClasses_ elements_ cursor_ hasSnapshot_ isSaving_)), ((d 1), aI cy 3 wordLength_), ((d 2), aI cy 36 word_), ((d 30), aI cy 8 machineKind_), ((d 31), aI cy 8 machineBound_), ((d 32), aI cy 8 machineLength_), ((d 33), aI cy 8 machineValue_), ((d 34), aI cy 32 machinePattern_), ((d 35), aI cy 4 digit_), ((d 41), aJ cy 2000 codeA_), ((d 42), aJ cy 2000 codeB_), ((d 43), aJ cy 8192 keyA_), ((d 44), aJ cy 8192 keyB_), ((d 45), aI cy 8192 found_), ((d 46), aI cy 6000 next_), ((d 47), aI cy 2000 before_), ((d 48), aI cy 2000 by_)]) (isC := []) (isR := [0, 1, 2, 3, 4, 5, 6, 7, 8, 9, 10, 11, 12, 13, 14, 15, 16]) (isF := [0, 1, 2, 3, 4, 5, 6, 7, 8, 9, 10, 11, 12, 13, 14, 15, 16]) (rest := []) (As := [.int x2]) (n := 1) X Z (c_X12_isLanguage l D cy x2 u5 hc6) gX12_firstDifference_X12_isLanguage rfl (by decide +kernel) ⟨Nat.le_of_ble_eq_true rfl, Nat.le_of_ble_eq_true rfl⟩ ⟨rfl, rfl⟩ ⟨Nat.le_of_ble_eq_true rfl, Nat.le_of_ble_eq_true rfl⟩ ⟨rfl, rfl, roN, rfl, rfl, by decide⟩ ⟨rfl, rfl⟩ rfl hl.1 rfl (Nat.le_of_ble_eq_true rfl) dX12_firstDifference_8 (fun H locs Z => ?_)
    refine lv_if_eq (tgt := 21) hx hb dX12_firstDifference_11 (by decide) (fun cnd => ?_) (fun cnd => ?_)
    · replace h := ifp h cnd
      refine lv_iconst (v := (-1 : Int32)) hx hb dX12_firstDifference_21 (by decide) ?_
      obtain rfl := Option.some.inj h
      exact K H locs ls _ dX12_firstDifference_22 Z
    · replace h := ifn h cnd
      refine lv_iload_n hx hb dX12_firstDifference_14 rfl (lv_at hl 3 rfl) ?_
      obtain ⟨u7, hc8, h⟩ := ob_some h
      refine x_runSi (RW' := (RW_X12_firstDifference cy o d letters_ tests_ inputLength_ at_ signed_ newParts_ machineParts_ firstParts_ firstTruth_ secondTruth_ isPair_ states_ stateClasses_ elements_ cursor_ hasSnapshot_ isSaving_ wordLength_ word_ machineKind_ machineBound_ machineLength_ machineValue_ machinePattern_ digit_ codeA_ codeB_ keyA_ keyB_ found_ next_ before_ by_)) (wr := [(o, ob 11 (oX12 d letters_ tests_ inputLength_ at_ signed_ newParts_ machineParts_ firstParts_ firstTruth_ secondTruth_ isPair_ states_ stateClasses_ elements_ cursor_ hasSnapshot_ isSaving_)), ((d 1), aI cy 3 wordLength_), ((d 2), aI cy 36 word_), ((d 30), aI cy 8 machineKind_), ((d 31), aI cy 8 machineBound_), ((d 32), aI cy 8 machineLength_), ((d 33), aI cy 8 machineValue_), ((d 34), aI cy 32 machinePattern_), ((d 35), aI cy 4 digit_), ((d 41), aJ cy 2000 codeA_), ((d 42), aJ cy 2000 codeB_), ((d 43), aJ cy 8192 keyA_), ((d 44), aJ cy 8192 keyB_), ((d 45), aI cy 8192 found_), ((d 46), aI cy 6000 next_), ((d 47), aI cy 2000 before_), ((d 48), aI cy 2000 by_)]) (isC := []) (isR := [0, 1, 2, 3, 4, 5, 6, 7, 8, 9, 10, 11, 12, 13, 14, 15, 16]) (isF := [0, 1, 2, 3, 4, 5, 6, 7, 8, 9, 10, 11, 12, 13, 14, 15, 16]) (rest := []) (As := [.int x3]) (n := 1) X Z (c_X12_isWord l D cy x3 u7 hc8) gX12_firstDifference_X12_isWord rfl (by decide +kernel) ⟨Nat.le_of_ble_eq_true rfl, Nat.le_of_ble_eq_true rfl⟩ ⟨rfl, rfl⟩ ⟨Nat.le_of_ble_eq_true rfl, Nat.le_of_ble_eq_true rfl⟩ ⟨rfl, rfl, roN, rfl, rfl, by decide⟩ ⟨rfl, rfl⟩ rfl hl.1 rfl (Nat.le_of_ble_eq_true rfl) dX12_firstDifference_15 (fun H locs Z => ?_)
      refine lv_if_ne (tgt := 23) hx hb dX12_firstDifference_18 (by decide) (fun cnd => ?_) (fun cnd => ?_)
      · replace h := ifn h cnd
        refine lv_aload_n hx hb dX12_firstDifference_23 rfl (lv_at hl 0 rfl) ?_
        refine x_get X Z 0 16 (v := .ref (d 16)) rfl rfl lk_X12_firstDifference_X12_form dX12_firstDifference_24 ?_
        refine lv_iload_n hx hb dX12_firstDifference_27 rfl (lv_at hl 1 rfl) ?_
        obtain ⟨hin9, v10, hv11, h⟩ := ld_b h
        refine x_ialdO X Z 0 rfl hin9 hv11 dX12_firstDifference_28 ?_
        refine lv_if_lt (tgt := 41) hx hb dX12_firstDifference_29 (by decide) (fun cnd => ?_) (fun cnd => ?_)
        · replace h := ifp h cnd
          refine lv_bipush (v := (-5 : Int32)) hx hb dX12_firstDifference_41 (by decide) ?_
          obtain rfl := Option.some.inj h
          exact K H locs ls _ dX12_firstDifference_43 Z
        · replace h := ifn h cnd
          refine lv_aload_n hx hb dX12_firstDifference_32 rfl (lv_at hl 0 rfl) ?_
          refine x_get X Z 0 16 (v := .ref (d 16)) rfl rfl lk_X12_firstDifference_X12_form dX12_firstDifference_33 ?_
          refine lv_iload_n hx hb dX12_firstDifference_36 rfl (lv_at hl 2 rfl) ?_
          obtain ⟨hin12, v13, hv14, h⟩ := ld_b h
          refine x_ialdO X Z 0 rfl hin12 hv14 dX12_firstDifference_37 ?_
          refine lv_if_ge (tgt := 44) hx hb dX12_firstDifference_38 (by decide) (fun cnd => ?_) (fun cnd => ?_)
          · replace h := ifp h cnd
            refine lv_aload_n hx hb dX12_firstDifference_44 rfl (lv_at hl 0 rfl) ?_
            refine lv_iconst (v := (0 : Int32)) hx hb dX12_firstDifference_45 (by decide) ?_
            refine x_put X Z 0 36 (RW_X12_firstDifference cy o d letters_ tests_ inputLength_ at_ signed_ newParts_ (0 : Int32) firstParts_ firstTruth_ secondTruth_ isPair_ states_ stateClasses_ elements_ cursor_ hasSnapshot_ isSaving_ wordLength_ word_ machineKind_ machineBound_ machineLength_ machineValue_ machinePattern_ digit_ codeA_ codeB_ keyA_ keyB_ found_ next_ before_ by_) rfl lp_X12_firstDifference_X12_machineParts (Nat.le_of_ble_eq_true rfl) rfl dX12_firstDifference_46 (fun H locs Z => ?_)
            refine lv_aload_n hx hb dX12_firstDifference_49 rfl (lv_at hl 0 rfl) ?_
            refine lv_iconst (v := (1 : Int32)) hx hb dX12_firstDifference_50 (by decide) ?_
            refine x_putZ X Z 0 40 (RW_X12_firstDifference cy o d letters_ tests_ inputLength_ at_ signed_ newParts_ (0 : Int32) firstParts_ firstTruth_ secondTruth_ (1 : Int32) states_ stateClasses_ elements_ cursor_ hasSnapshot_ isSaving_ wordLength_ word_ machineKind_ machineBound_ machineLength_ machineValue_ machinePattern_ digit_ codeA_ codeB_ keyA_ keyB_ found_ next_ before_ by_) (Or.inr rfl) rfl lp_X12_firstDifference_X12_isPair (Nat.le_of_ble_eq_true rfl) rfl dX12_firstDifference_51 (fun H locs Z => ?_)
            refine lv_aload_n hx hb dX12_firstDifference_54 rfl (lv_at hl 0 rfl) ?_
            refine lv_iload_n hx hb dX12_firstDifference_55 rfl (lv_at hl 1 rfl) ?_
            obtain ⟨u15, hc16, h⟩ := ob_some h
            refine x_runVv (RW' := (RW_X12_firstDifference cy o d letters_ tests_ inputLength_ at_ signed_ newParts_ u15.1 firstParts_ firstTruth_ secondTruth_ (1 : Int32) states_ stateClasses_ elements_ cursor_ hasSnapshot_ isSaving_ wordLength_ word_ u15.2.1 u15.2.2.1 u15.2.2.2.1 u15.2.2.2.2.1 u15.2.2.2.2.2 digit_ codeA_ codeB_ keyA_ keyB_ found_ next_ before_ by_)) (wr := [((d 1), aI cy 3 wordLength_), ((d 2), aI cy 36 word_), ((d 35), aI cy 4 digit_), ((d 41), aJ cy 2000 codeA_), ((d 42), aJ cy 2000 codeB_), ((d 43), aJ cy 8192 keyA_), ((d 44), aJ cy 8192 keyB_), ((d 45), aI cy 8192 found_), ((d 46), aI cy 6000 next_), ((d 47), aI cy 2000 before_), ((d 48), aI cy 2000 by_)]) (isC := [0, 3, 4, 5, 6, 7]) (isR := [1, 2, 8, 9, 10, 11, 12, 13, 14, 15, 16]) (isF := [11, 0, 1, 12, 13, 14, 15, 16, 2, 3, 4, 5, 6, 7, 8, 9, 10]) (rest := []) (As := [.int x1]) (n := 1) X Z (c_X12_addLanguage l D cy o d parts_ partKind_ partBound_ partLength_ partValue_ partPattern_ letters_ tests_ inputLength_ at_ signed_ newParts_ (0 : Int32) firstParts_ firstTruth_ secondTruth_ (1 : Int32) states_ stateClasses_ elements_ cursor_ hasSnapshot_ isSaving_ machineKind_ machineBound_ machineLength_ machineValue_ machinePattern_ x1 u15 hc16) gX12_firstDifference_X12_addLanguage rfl (by decide +kernel) ⟨Nat.le_of_ble_eq_true rfl, Nat.le_of_ble_eq_true rfl⟩ ⟨rfl, rfl⟩ ⟨Nat.le_of_ble_eq_true rfl, Nat.le_of_ble_eq_true rfl⟩ (x_rv X Z 0 rfl rfl) ⟨rfl, rfl, (roC (Or.inr (mem_at 1 rfl)) (roC (Or.inr (mem_at 3 rfl)) (roC (Or.inr (mem_at 4 rfl)) (roC (Or.inr (mem_at 5 rfl)) (roC (Or.inr (mem_at 6 rfl)) (roC (Or.inr (mem_at 7 rfl)) roN)))))), rfl, rfl, by decide⟩ ⟨rfl, rfl⟩ rfl hl.1 rfl (Nat.le_of_ble_eq_true rfl) dX12_firstDifference_56 (fun H locs Z => ?_)
            refine lv_aload_n hx hb dX12_firstDifference_59 rfl (lv_at hl 0 rfl) ?_
            refine lv_aload_n hx hb dX12_firstDifference_60 rfl (lv_at hl 0 rfl) ?_
            refine x_get X Z 0 36 (v := .int u15.1) rfl rfl lk_X12_firstDifference_X12_machineParts dX12_firstDifference_61 ?_
            refine x_put X Z 0 37 (RW_X12_firstDifference cy o d letters_ tests_ inputLength_ at_ signed_ newParts_ u15.1 u15.1 firstTruth_ secondTruth_ (1 : Int32) states_ stateClasses_ elements_ cursor_ hasSnapshot_ isSaving_ wordLength_ word_ u15.2.1 u15.2.2.1 u15.2.2.2.1 u15.2.2.2.2.1 u15.2.2.2.2.2 digit_ codeA_ codeB_ keyA_ keyB_ found_ next_ before_ by_) rfl lp_X12_firstDifference_X12_firstParts (Nat.le_of_ble_eq_true rfl) rfl dX12_firstDifference_64 (fun H locs Z => ?_)
            refine lv_aload_n hx hb dX12_firstDifference_67 rfl (lv_at hl 0 rfl) ?_
            refine lv_aload_n hx hb dX12_firstDifference_68 rfl (lv_at hl 0 rfl) ?_
            refine x_get X Z 0 18 (v := .ref (d 18)) rfl rfl lk_X12_firstDifference_X12_truth dX12_firstDifference_69 ?_
            refine lv_iload_n hx hb dX12_firstDifference_72 rfl (lv_at hl 1 rfl) ?_
            obtain ⟨hin17, v18, hv19, h⟩ := ld_b h
            refine x_ialdO X Z 2 rfl hin17 hv19 dX12_firstDifference_73 ?_
            refine x_put X Z 0 38 (RW_X12_firstDifference cy o d letters_ tests_ inputLength_ at_ signed_ newParts_ u15.1 u15.1 v18 secondTruth_ (1 : Int32) states_ stateClasses_ elements_ cursor_ hasSnapshot_ isSaving_ wordLength_ word_ u15.2.1 u15.2.2.1 u15.2.2.2.1 u15.2.2.2.2.1 u15.2.2.2.2.2 digit_ codeA_ codeB_ keyA_ keyB_ found_ next_ before_ by_) rfl lp_X12_firstDifference_X12_firstTruth (Nat.le_of_ble_eq_true rfl) rfl dX12_firstDifference_74 (fun H locs Z => ?_)
            obtain ⟨u20, hL21, h⟩ := ob_some h
            refine wl_X12_firstDifference_77 o d form_ parts_ truth_ partKind_ partBound_ partLength_ partValue_ partPattern_ letters_ tests_ inputLength_ at_ signed_ newParts_ u15.1 v18 secondTruth_ (1 : Int32) states_ stateClasses_ elements_ cursor_ hasSnapshot_ isSaving_ wordLength_ word_ digit_ codeA_ codeB_ keyA_ keyB_ found_ next_ before_ by_ x2 x3 FU (u15.1, u15.2.1, u15.2.2.1, u15.2.2.2.1, u15.2.2.2.2.1, u15.2.2.2.2.2) u20 X hL21 (fun H locs ls Z hl => ?_) H locs ls Z (lv_sub hl [0, 2, 3] rfl)
            refine lv_aload_n hx hb dX12_firstDifference_101 rfl (lv_at hl 0 rfl) ?_
            refine lv_iload_n hx hb dX12_firstDifference_102 rfl (lv_at hl 1 rfl) ?_
            obtain ⟨u22, hc23, h⟩ := ob_some h
            refine x_runVv (RW' := (RW_X12_firstDifference cy o d letters_ tests_ inputLength_ at_ signed_ newParts_ u22.1 u15.1 v18 secondTruth_ (1 : Int32) states_ stateClasses_ elements_ cursor_ hasSnapshot_ isSaving_ wordLength_ word_ u22.2.1 u22.2.2.1 u22.2.2.2.1 u22.2.2.2.2.1 u22.2.2.2.2.2 digit_ codeA_ codeB_ keyA_ keyB_ found_ next_ before_ by_)) (wr := [((d 1), aI cy 3 wordLength_), ((d 2), aI cy 36 word_), ((d 35), aI cy 4 digit_), ((d 41), aJ cy 2000 codeA_), ((d 42), aJ cy 2000 codeB_), ((d 43), aJ cy 8192 keyA_), ((d 44), aJ cy 8192 keyB_), ((d 45), aI cy 8192 found_), ((d 46), aI cy 6000 next_), ((d 47), aI cy 2000 before_), ((d 48), aI cy 2000 by_)]) (isC := [0, 3, 4, 5, 6, 7]) (isR := [1, 2, 8, 9, 10, 11, 12, 13, 14, 15, 16]) (isF := [11, 0, 1, 12, 13, 14, 15, 16, 2, 3, 4, 5, 6, 7, 8, 9, 10]) (rest := []) (As := [.int x2]) (n := 1) X Z (c_X12_addLanguage l D cy o d parts_ partKind_ partBound_ partLength_ partValue_ partPattern_ letters_ tests_ inputLength_ at_ signed_ newParts_ u20.1 u15.1 v18 secondTruth_ (1 : Int32) states_ stateClasses_ elements_ cursor_ hasSnapshot_ isSaving_ u20.2.1 u20.2.2.1 u20.2.2.2.1 u20.2.2.2.2.1 u20.2.2.2.2.2 x2 u22 hc23) gX12_firstDifference_X12_addLanguage rfl (by decide +kernel) ⟨Nat.le_of_ble_eq_true rfl, Nat.le_of_ble_eq_true rfl⟩ ⟨rfl, rfl⟩ ⟨Nat.le_of_ble_eq_true rfl, Nat.le_of_ble_eq_true rfl⟩ (x_rv X Z 0 rfl rfl) ⟨rfl, rfl, (roC (Or.inr (mem_at 1 rfl)) (roC (Or.inr (mem_at 3 rfl)) (roC (Or.inr (mem_at 4 rfl)) (roC (Or.inr (mem_at 5 rfl)) (roC (Or.inr (mem_at 6 rfl)) (roC (Or.inr (mem_at 7 rfl)) roN)))))), rfl, rfl, by decide⟩ ⟨rfl, rfl⟩ rfl hl.1 rfl (Nat.le_of_ble_eq_true rfl) dX12_firstDifference_103 (fun H locs Z => ?_)
            refine lv_aload_n hx hb dX12_firstDifference_106 rfl (lv_at hl 0 rfl) ?_
            refine lv_aload_n hx hb dX12_firstDifference_107 rfl (lv_at hl 0 rfl) ?_
            refine x_get X Z 0 18 (v := .ref (d 18)) rfl rfl lk_X12_firstDifference_X12_truth dX12_firstDifference_108 ?_
            refine lv_iload_n hx hb dX12_firstDifference_111 rfl (lv_at hl 1 rfl) ?_
            obtain ⟨hin24, v25, hv26, h⟩ := ld_b h
            refine x_ialdO X Z 2 rfl hin24 hv26 dX12_firstDifference_112 ?_
            refine x_put X Z 0 39 (RW_X12_firstDifference cy o d letters_ tests_ inputLength_ at_ signed_ newParts_ u22.1 u15.1 v18 v25 (1 : Int32) states_ stateClasses_ elements_ cursor_ hasSnapshot_ isSaving_ wordLength_ word_ u22.2.1 u22.2.2.1 u22.2.2.2.1 u22.2.2.2.2.1 u22.2.2.2.2.2 digit_ codeA_ codeB_ keyA_ keyB_ found_ next_ before_ by_) rfl lp_X12_firstDifference_X12_secondTruth (Nat.le_of_ble_eq_true rfl) rfl dX12_firstDifference_113 (fun H locs Z => ?_)
            refine lv_aload_n hx hb dX12_firstDifference_116 rfl (lv_at hl 0 rfl) ?_
            obtain ⟨u27, hc28, h⟩ := ob_some h
            refine x_runVi (RW' := (RW_X12_firstDifference cy o d letters_ tests_ inputLength_ at_ signed_ newParts_ u22.1 u15.1 v18 v25 (1 : Int32) u27.2.1 stateClasses_ elements_ cursor_ hasSnapshot_ isSaving_ wordLength_ word_ u22.2.1 u22.2.2.1 u22.2.2.2.1 u22.2.2.2.2.1 u22.2.2.2.2.2 u27.2.2.1 u27.2.2.2.1 u27.2.2.2.2.1 u27.2.2.2.2.2.1 u27.2.2.2.2.2.2.1 u27.2.2.2.2.2.2.2.1 u27.2.2.2.2.2.2.2.2.1 u27.2.2.2.2.2.2.2.2.2.1 u27.2.2.2.2.2.2.2.2.2.2)) (wr := [((d 1), aI cy 3 wordLength_), ((d 2), aI cy 36 word_), ((d 30), aI cy 8 u22.2.1), ((d 31), aI cy 8 u22.2.2.1), ((d 32), aI cy 8 u22.2.2.2.1), ((d 33), aI cy 8 u22.2.2.2.2.1), ((d 34), aI cy 32 u22.2.2.2.2.2)]) (isC := [0, 8, 9, 10, 11, 12, 13, 14, 15, 16]) (isR := [1, 2, 3, 4, 5, 6, 7]) (isF := [7, 0, 1, 2, 3, 4, 5, 6, 8, 9, 10, 11, 12, 13, 14, 15, 16]) (rest := []) (As := []) (n := 0) X Z (c_X12_builds l D cy o d u22.2.1 u22.2.2.1 u22.2.2.2.1 u22.2.2.2.2.2 letters_ tests_ inputLength_ at_ signed_ newParts_ u22.1 u15.1 v18 v25 (1 : Int32) states_ stateClasses_ elements_ cursor_ hasSnapshot_ isSaving_ digit_ codeA_ codeB_ keyA_ keyB_ found_ next_ before_ by_ u27 hc28) gX12_firstDifference_X12_builds rfl (by decide +kernel) ⟨Nat.le_of_ble_eq_true rfl, Nat.le_of_ble_eq_true rfl⟩ ⟨rfl, rfl⟩ ⟨Nat.le_of_ble_eq_true rfl, Nat.le_of_ble_eq_true rfl⟩ (x_rv X Z 0 rfl rfl) ⟨rfl, rfl, (roC (Or.inl (mem_at 2 rfl)) (roC (Or.inl (mem_at 3 rfl)) (roC (Or.inl (mem_at 4 rfl)) (roC (Or.inl (mem_at 6 rfl)) roN)))), rfl, rfl, by decide⟩ ⟨rfl, rfl⟩ rfl hl.1 rfl (Nat.le_of_ble_eq_true rfl) dX12_firstDifference_117 (fun H locs Z => ?_)
            refine lv_if_eq (tgt := 131) hx hb dX12_firstDifference_120 (by decide) (fun cnd => ?_) (fun cnd => ?_)
            · replace h := ifp h cnd
              refine lv_bipush (v := (-4 : Int32)) hx hb dX12_firstDifference_131 (by decide) ?_
              obtain rfl := Option.some.inj h
              exact K H locs ls _ dX12_firstDifference_133 Z
            · replace h := ifn h cnd
              refine lv_aload_n hx hb dX12_firstDifference_123 rfl (lv_at hl 0 rfl) ?_
              refine lv_iload_n hx hb dX12_firstDifference_124 rfl (lv_at hl 2 rfl) ?_
              obtain ⟨u29, hc30, h⟩ := ob_some h
              refine x_runVi (RW' := (RW_X12_firstDifference cy o d letters_ tests_ inputLength_ at_ signed_ newParts_ u22.1 u15.1 v18 v25 (1 : Int32) u27.2.1 stateClasses_ elements_ cursor_ hasSnapshot_ isSaving_ u29.2.1 u29.2.2 u22.2.1 u22.2.2.1 u22.2.2.2.1 u22.2.2.2.2.1 u22.2.2.2.2.2 u27.2.2.1 u27.2.2.2.1 u27.2.2.2.2.1 u27.2.2.2.2.2.1 u27.2.2.2.2.2.2.1 u27.2.2.2.2.2.2.2.1 u27.2.2.2.2.2.2.2.2.1 u27.2.2.2.2.2.2.2.2.2.1 u27.2.2.2.2.2.2.2.2.2.2)) (wr := [(o, ob 11 (oX12 d letters_ tests_ inputLength_ at_ signed_ newParts_ u22.1 u15.1 v18 v25 (1 : Int32) u27.2.1 stateClasses_ elements_ cursor_ hasSnapshot_ isSaving_)), ((d 30), aI cy 8 u22.2.1), ((d 31), aI cy 8 u22.2.2.1), ((d 32), aI cy 8 u22.2.2.2.1), ((d 33), aI cy 8 u22.2.2.2.2.1), ((d 34), aI cy 32 u22.2.2.2.2.2), ((d 35), aI cy 4 u27.2.2.1), ((d 41), aJ cy 2000 u27.2.2.2.1), ((d 42), aJ cy 2000 u27.2.2.2.2.1), ((d 43), aJ cy 8192 u27.2.2.2.2.2.1), ((d 44), aJ cy 8192 u27.2.2.2.2.2.2.1), ((d 45), aI cy 8192 u27.2.2.2.2.2.2.2.1), ((d 46), aI cy 6000 u27.2.2.2.2.2.2.2.2.1), ((d 47), aI cy 2000 u27.2.2.2.2.2.2.2.2.2.1), ((d 48), aI cy 2000 u27.2.2.2.2.2.2.2.2.2.2)]) (isC := [1, 2]) (isR := [0, 3, 4, 5, 6, 7, 8, 9, 10, 11, 12, 13, 14, 15, 16]) (isF := [0, 15, 16, 1, 2, 3, 4, 5, 6, 7, 8, 9, 10, 11, 12, 13, 14]) (rest := []) (As := [.int x3]) (n := 1) X Z (c_X12_firstInto l D cy o d letters_ tests_ inputLength_ at_ signed_ newParts_ u22.1 u15.1 v18 v25 (1 : Int32) u27.2.1 stateClasses_ elements_ cursor_ hasSnapshot_ isSaving_ u22.2.2.2.1 u22.2.2.2.2.1 u27.2.2.2.1 u27.2.2.2.2.1 u27.2.2.2.2.2.2.2.2.2.1 u27.2.2.2.2.2.2.2.2.2.2 wordLength_ word_ x3 u29 hc30) gX12_firstDifference_X12_firstInto rfl (by decide +kernel) ⟨Nat.le_of_ble_eq_true rfl, Nat.le_of_ble_eq_true rfl⟩ ⟨rfl, rfl⟩ ⟨Nat.le_of_ble_eq_true rfl, Nat.le_of_ble_eq_true rfl⟩ (x_rv X Z 0 rfl rfl) ⟨rfl, rfl, (roC (Or.inl (mem_at 0 rfl)) (roC (Or.inl (mem_at 3 rfl)) (roC (Or.inl (mem_at 4 rfl)) (roC (Or.inl (mem_at 7 rfl)) (roC (Or.inl (mem_at 8 rfl)) (roC (Or.inl (mem_at 13 rfl)) (roC (Or.inl (mem_at 14 rfl)) roN))))))), rfl, rfl, by decide⟩ ⟨rfl, rfl⟩ rfl hl.1 rfl (Nat.le_of_ble_eq_true rfl) dX12_firstDifference_125 (fun H locs Z => ?_)
              refine lv_goto (tgt := 133) hx hb dX12_firstDifference_128 (by decide) ?_
              obtain rfl := Option.some.inj h
              exact K H locs ls _ dX12_firstDifference_133 Z
          · replace h := ifn h cnd
            refine lv_bipush (v := (-5 : Int32)) hx hb dX12_firstDifference_41 (by decide) ?_
            obtain rfl := Option.some.inj h
            exact K H locs ls _ dX12_firstDifference_43 Z
      · replace h := ifp h cnd
        refine lv_iconst (v := (-1 : Int32)) hx hb dX12_firstDifference_21 (by decide) ?_
        obtain rfl := Option.some.inj h
        exact K H locs ls _ dX12_firstDifference_22 Z
theorem c_X12_firstDifference (l : Launch) (D : va_G) (cy : Nat → ClassId) (o : Nat) (d : Nat → Nat) (form_ : Nat → Int32) (parts_ : Nat → Int32) (truth_ : Nat → Int32) (partKind_ : Nat → Int32) (partBound_ : Nat → Int32) (partLength_ : Nat → Int32) (partValue_ : Nat → Int32) (partPattern_ : Nat → Int32) (letters_ : Int32) (tests_ : Int32) (inputLength_ : Int32) (at_ : Int32) (signed_ : Int32) (newParts_ : Int32) (machineParts_ : Int32) (firstParts_ : Int32) (firstTruth_ : Int32) (secondTruth_ : Int32) (isPair_ : Int32) (states_ : Int32) (stateClasses_ : Int32) (elements_ : Int32) (cursor_ : Int32) (hasSnapshot_ : Int32) (isSaving_ : Int32) (wordLength_ : Nat → Int32) (word_ : Nat → Int32) (machineKind_ : Nat → Int32) (machineBound_ : Nat → Int32) (machineLength_ : Nat → Int32) (machineValue_ : Nat → Int32) (machinePattern_ : Nat → Int32) (digit_ : Nat → Int32) (codeA_ : Nat → Int64) (codeB_ : Nat → Int64) (keyA_ : Nat → Int64) (keyB_ : Nat → Int64) (found_ : Nat → Int32) (next_ : Nat → Int32) (before_ : Nat → Int32) (by_ : Nat → Int32) (x1 : Int32) (x2 : Int32) (x3 : Int32) (out : Int32 × Int32 × Int32 × Int32 × Int32 × Int32 × Int32 × (Nat → Int32) × (Nat → Int32) × (Nat → Int32) × (Nat → Int32) × (Nat → Int32) × (Nat → Int32) × (Nat → Int32) × (Nat → Int32) × (Nat → Int64) × (Nat → Int64) × (Nat → Int64) × (Nat → Int64) × (Nat → Int32) × (Nat → Int32) × (Nat → Int32) × (Nat → Int32)) (h : f_X12_firstDifference x1 x2 x3 form_ parts_ truth_ partKind_ partBound_ partLength_ partValue_ partPattern_ letters_ machineParts_ firstParts_ firstTruth_ secondTruth_ isPair_ states_ wordLength_ word_ machineKind_ machineBound_ machineLength_ machineValue_ machinePattern_ digit_ codeA_ codeB_ keyA_ keyB_ found_ next_ before_ by_ = some out) : CtI l yX12_firstDifference wsX12_firstDifference rm_X12_firstDifference D cy [.ref o, .int x1, .int x2, .int x3] (RW_X12_firstDifference cy o d letters_ tests_ inputLength_ at_ signed_ newParts_ machineParts_ firstParts_ firstTruth_ secondTruth_ isPair_ states_ stateClasses_ elements_ cursor_ hasSnapshot_ isSaving_ wordLength_ word_ machineKind_ machineBound_ machineLength_ machineValue_ machinePattern_ digit_ codeA_ codeB_ keyA_ keyB_ found_ next_ before_ by_) (RO_X12_firstDifference cy o d form_ parts_ truth_ partKind_ partBound_ partLength_ partValue_ partPattern_) (RW_X12_firstDifference cy o d letters_ tests_ inputLength_ at_ signed_ newParts_ out.2.1 out.2.2.1 out.2.2.2.1 out.2.2.2.2.1 out.2.2.2.2.2.1 out.2.2.2.2.2.2.1 stateClasses_ elements_ cursor_ hasSnapshot_ isSaving_ out.2.2.2.2.2.2.2.1 out.2.2.2.2.2.2.2.2.1 out.2.2.2.2.2.2.2.2.2.1 out.2.2.2.2.2.2.2.2.2.2.1 out.2.2.2.2.2.2.2.2.2.2.2.1 out.2.2.2.2.2.2.2.2.2.2.2.2.1 out.2.2.2.2.2.2.2.2.2.2.2.2.2.1 out.2.2.2.2.2.2.2.2.2.2.2.2.2.2.1 out.2.2.2.2.2.2.2.2.2.2.2.2.2.2.2.1 out.2.2.2.2.2.2.2.2.2.2.2.2.2.2.2.2.1 out.2.2.2.2.2.2.2.2.2.2.2.2.2.2.2.2.2.1 out.2.2.2.2.2.2.2.2.2.2.2.2.2.2.2.2.2.2.1 out.2.2.2.2.2.2.2.2.2.2.2.2.2.2.2.2.2.2.2.1 out.2.2.2.2.2.2.2.2.2.2.2.2.2.2.2.2.2.2.2.2.1 out.2.2.2.2.2.2.2.2.2.2.2.2.2.2.2.2.2.2.2.2.2.1 out.2.2.2.2.2.2.2.2.2.2.2.2.2.2.2.2.2.2.2.2.2.2) out.1 :=
  mk_i (ty := .int) (by decide) rfl rfl (Nat.le_of_ble_eq_true rfl) (fun p e s m args below meth c A Q X K H locs ls Z hl => wt_X12_firstDifference o d form_ parts_ truth_ partKind_ partBound_ partLength_ partValue_ partPattern_ letters_ tests_ inputLength_ at_ signed_ newParts_ machineParts_ firstParts_ firstTruth_ secondTruth_ isPair_ states_ stateClasses_ elements_ cursor_ hasSnapshot_ isSaving_ wordLength_ word_ machineKind_ machineBound_ machineLength_ machineValue_ machinePattern_ digit_ codeA_ codeB_ keyA_ keyB_ found_ next_ before_ by_ x1 x2 x3 out X h K H locs ls Z hl)
/-! SubwordCounterModel isRow (I)Z -/
abbrev rm_X12_isRow : Room := { frames := 1, cells := 0, slots := 0, locals := 22 }
def RW_X12_isRow (cy : Nat → ClassId)   : va_W := []
def RO_X12_isRow (cy : Nat → ClassId)   : va_W := []
def f_X12_isRow (x0 : Int32)  : Option (Int32) :=
  (f_X12_isBetween x0 (0 : Int32) (2 : Int32)).bind (fun u1 =>
  bitZ u1 (some u1))
set_option maxHeartbeats 4000000 in
set_option maxRecDepth 100000 in
theorem wt_X12_isRow {p : Program} {l : Launch} {e : Env} {s : State} {m : MethodId} {args : Array Value} {below : List Frame} {meth : Method} {c : Code} {A : Nat → Prop} {Q : State → Prop} {D : va_G} {cy : Nat → ClassId}    (x0 : Int32) (out : Int32) (X : Cx p m c cX12_isRow 1 s args wsX12_isRow RX12 A D cy (RO_X12_isRow cy )) (h : f_X12_isRow x0 = some out) (K : ∀ (H : Heap) (locs : List Loc) (ls : Array Slot) (pc : Nat), decode cX12_isRow pc = .ok (.ireturn, 1) → (out = 0 ∨ out = 1) → St A D s (RW_X12_isRow cy ) H locs → W p l e rm_X12_isRow s m args below meth c H locs 0 0 Q (F0 m pc ls [.int out])) : ∀ (H : Heap) (locs : List Loc) (ls : Array Slot), St A D s (RW_X12_isRow cy ) H locs → lv_has ls 1 [(0, .int x0)] → W p l e rm_X12_isRow s m args below meth c H locs 0 0 Q (F0 m 0 ls []) := by
  intro H locs ls Z hl
  have hx := X.1.1
  have hb := X.1.2.1
  unfold f_X12_isRow at h
  refine lv_iload_n hx hb dX12_isRow_0 rfl (lv_at hl 0 rfl) ?_
  refine lv_iconst (v := (0 : Int32)) hx hb dX12_isRow_1 (by decide) ?_
  refine lv_iconst (v := (2 : Int32)) hx hb dX12_isRow_2 (by decide) ?_
  obtain ⟨u1, hc2, h⟩ := ob_some h
  refine x_runSi (RW' := (RW_X12_isRow cy )) (wr := []) (isC := []) (isR := []) (isF := []) (rest := []) (As := [.int x0, .int (0 : Int32), .int (2 : Int32)]) (n := 3) X Z (c_X12_isBetween l D cy x0 (0 : Int32) (2 : Int32) u1 hc2) gX12_isRow_X12_isBetween rfl (by decide +kernel) ⟨Nat.le_of_ble_eq_true rfl, Nat.le_of_ble_eq_true rfl⟩ ⟨rfl, rfl⟩ ⟨Nat.le_of_ble_eq_true rfl, Nat.le_of_ble_eq_true rfl⟩ ⟨rfl, rfl, roN, rfl, rfl, by decide⟩ ⟨rfl, rfl⟩ rfl hl.1 rfl (Nat.le_of_ble_eq_true rfl) dX12_isRow_3 (fun H locs Z => ?_)
  obtain ⟨hz3, h⟩ := bz_b h
  obtain rfl := Option.some.inj h
  exact K H locs ls _ dX12_isRow_6 hz3 Z
theorem c_X12_isRow (l : Launch) (D : va_G) (cy : Nat → ClassId)    (x0 : Int32) (out : Int32) (h : f_X12_isRow x0 = some out) : CtI l yX12_isRow wsX12_isRow rm_X12_isRow D cy [.int x0] (RW_X12_isRow cy ) (RO_X12_isRow cy ) (RW_X12_isRow cy ) out :=
  mk_z (by decide) rfl (Nat.le_of_ble_eq_true rfl) (fun p e s m args below meth c A Q X K H locs ls Z hl => wt_X12_isRow  x0 out X h K H locs ls Z hl)
/-! SubwordCounterModel setItem (IIJ)V -/
abbrev rm_X12_setItem : Room := { frames := 0, cells := 0, slots := 0, locals := 0 }
def RW_X12_setItem (cy : Nat → ClassId) (o : Nat) (d : Nat → Nat) (items_ : Nat → Int32) : va_W := [((d 62), aI cy 63 items_)]
def RO_X12_setItem (cy : Nat → ClassId) (o : Nat) (d : Nat → Nat) (letters_ : Int32) (tests_ : Int32) (inputLength_ : Int32) (at_ : Int32) (signed_ : Int32) (newParts_ : Int32) (machineParts_ : Int32) (firstParts_ : Int32) (firstTruth_ : Int32) (secondTruth_ : Int32) (isPair_ : Int32) (states_ : Int32) (stateClasses_ : Int32) (elements_ : Int32) (cursor_ : Int32) (hasSnapshot_ : Int32) (isSaving_ : Int32) (type_ : Nat → Int32) : va_W := [(o, ob 11 (oX12 d letters_ tests_ inputLength_ at_ signed_ newParts_ machineParts_ firstParts_ firstTruth_ secondTruth_ isPair_ states_ stateClasses_ elements_ cursor_ hasSnapshot_ isSaving_)), ((d 60), aI cy 3 type_)]
theorem in_X12_setItem_X12 : ∀ w ∈ u_ws RX12 TX12 68, w ∈ wsX12_setItem := fun w h => (List.mem_cons_of_mem _ (List.mem_append_right _ h))
theorem lk_X12_setItem_X12_items : Lk wsX12_setItem RX12 160 11 62 := ⟨RX12, TX12, 68, rfl, by decide, in_X12_setItem_X12, mem_at 1 rfl⟩
theorem lk_X12_setItem_X12_type : Lk wsX12_setItem RX12 154 11 60 := ⟨RX12, TX12, 68, rfl, by decide, in_X12_setItem_X12, mem_at 2 rfl⟩
def f_X12_setItem (x1 : Int32) (x2 : Int32) (x3 : Int64) (type_ : Nat → Int32) (items_ : Nat → Int32) : Option ((Nat → Int32)) :=
  ldA type_ 3 x1 (fun v2 =>
  if v2 = 0 then
  (stA items_ 63 (((21 : Int32) * x1) + x2) ((x3.toInt32).toInt16.toInt32) (fun items_8 =>
  some items_8))
  else
  (stA items_ 63 (((21 : Int32) * x1) + x2) (x3.toInt32) (fun items_5 =>
  some items_5)))
set_option maxHeartbeats 4000000 in
set_option maxRecDepth 100000 in
theorem wt_X12_setItem {p : Program} {l : Launch} {e : Env} {s : State} {m : MethodId} {args : Array Value} {below : List Frame} {meth : Method} {c : Code} {A : Nat → Prop} {Q : State → Prop} {D : va_G} {cy : Nat → ClassId} (o : Nat) (d : Nat → Nat) (letters_ : Int32) (tests_ : Int32) (inputLength_ : Int32) (at_ : Int32) (signed_ : Int32) (newParts_ : Int32) (machineParts_ : Int32) (firstParts_ : Int32) (firstTruth_ : Int32) (secondTruth_ : Int32) (isPair_ : Int32) (states_ : Int32) (stateClasses_ : Int32) (elements_ : Int32) (cursor_ : Int32) (hasSnapshot_ : Int32) (isSaving_ : Int32) (type_ : Nat → Int32) (items_ : Nat → Int32) (x1 : Int32) (x2 : Int32) (x3 : Int64) (out : (Nat → Int32)) (X : Cx p m c cX12_setItem 5 s args wsX12_setItem RX12 A D cy (RO_X12_setItem cy o d letters_ tests_ inputLength_ at_ signed_ newParts_ machineParts_ firstParts_ firstTruth_ secondTruth_ isPair_ states_ stateClasses_ elements_ cursor_ hasSnapshot_ isSaving_ type_)) (h : f_X12_setItem x1 x2 x3 type_ items_ = some out) (K : ∀ (H : Heap) (locs : List Loc) (ls : Array Slot) (pc : Nat), decode cX12_setItem pc = .ok (.return_, 1) → St A D s (RW_X12_setItem cy o d out) H locs → W p l e rm_X12_setItem s m args below meth c H locs 0 0 Q (F0 m pc ls [])) : ∀ (H : Heap) (locs : List Loc) (ls : Array Slot), St A D s (RW_X12_setItem cy o d items_) H locs → lv_has ls 5 [(0, .ref o), (1, .int x1), (2, .int x2), (3, .long x3)] → W p l e rm_X12_setItem s m args below meth c H locs 0 0 Q (F0 m 0 ls []) := by
  intro H locs ls Z hl
  have hx := X.1.1
  have hb := X.1.2.1
  unfold f_X12_setItem at h
  refine lv_aload_n hx hb dX12_setItem_0 rfl (lv_at hl 0 rfl) ?_
  refine x_getO X Z 0 62 (v := .ref (d 62)) rfl rfl lk_X12_setItem_X12_items dX12_setItem_1 ?_
  refine lv_bipush (v := (21 : Int32)) hx hb dX12_setItem_4 (by decide) ?_
  refine lv_iload_n hx hb dX12_setItem_6 rfl (lv_at hl 1 rfl) ?_
  refine lv_imul hx hb dX12_setItem_7 ?_
  refine lv_iload_n hx hb dX12_setItem_8 rfl (lv_at hl 2 rfl) ?_
  refine lv_iadd hx hb dX12_setItem_9 ?_
  refine lv_aload_n hx hb dX12_setItem_10 rfl (lv_at hl 0 rfl) ?_
  refine x_getO X Z 0 60 (v := .ref (d 60)) rfl rfl lk_X12_setItem_X12_type dX12_setItem_11 ?_
  refine lv_iload_n hx hb dX12_setItem_14 rfl (lv_at hl 1 rfl) ?_
  obtain ⟨hin1, v2, hv3, h⟩ := ld_b h
  refine x_ialdO X Z 1 rfl hin1 hv3 dX12_setItem_15 ?_
  refine lv_if_ne (tgt := 25) hx hb dX12_setItem_16 (by decide) (fun cnd => ?_) (fun cnd => ?_)
  · replace h := ifn h cnd
    refine lv_lload_n hx hb dX12_setItem_25 rfl (lv_at hl 3 rfl) ?_
    refine lv_l2i (v := (x3.toInt32)) hx hb dX12_setItem_26 rfl ?_
    obtain ⟨hin4, items_5, hv6, h⟩ := st_b h
    refine x_iast X Z 0 (RW_X12_setItem cy o d items_5) rfl hin4 hv6 rfl dX12_setItem_27 (fun H locs Z => ?_)
    obtain rfl := Option.some.inj h
    exact K H locs ls _ dX12_setItem_28 Z
  · replace h := ifp h cnd
    refine lv_lload_n hx hb dX12_setItem_19 rfl (lv_at hl 3 rfl) ?_
    refine lv_l2i (v := (x3.toInt32)) hx hb dX12_setItem_20 rfl ?_
    refine lv_i2s (v := ((x3.toInt32).toInt16.toInt32)) hx hb dX12_setItem_21 rfl ?_
    refine lv_goto (tgt := 27) hx hb dX12_setItem_22 (by decide) ?_
    obtain ⟨hin7, items_8, hv9, h⟩ := st_b h
    refine x_iast X Z 0 (RW_X12_setItem cy o d items_8) rfl hin7 hv9 rfl dX12_setItem_27 (fun H locs Z => ?_)
    obtain rfl := Option.some.inj h
    exact K H locs ls _ dX12_setItem_28 Z
theorem c_X12_setItem (l : Launch) (D : va_G) (cy : Nat → ClassId) (o : Nat) (d : Nat → Nat) (letters_ : Int32) (tests_ : Int32) (inputLength_ : Int32) (at_ : Int32) (signed_ : Int32) (newParts_ : Int32) (machineParts_ : Int32) (firstParts_ : Int32) (firstTruth_ : Int32) (secondTruth_ : Int32) (isPair_ : Int32) (states_ : Int32) (stateClasses_ : Int32) (elements_ : Int32) (cursor_ : Int32) (hasSnapshot_ : Int32) (isSaving_ : Int32) (type_ : Nat → Int32) (items_ : Nat → Int32) (x1 : Int32) (x2 : Int32) (x3 : Int64) (out : (Nat → Int32)) (h : f_X12_setItem x1 x2 x3 type_ items_ = some out) : CtV l yX12_setItem wsX12_setItem rm_X12_setItem D cy [.ref o, .int x1, .int x2, .long x3] (RW_X12_setItem cy o d items_) (RO_X12_setItem cy o d letters_ tests_ inputLength_ at_ signed_ newParts_ machineParts_ firstParts_ firstTruth_ secondTruth_ isPair_ states_ stateClasses_ elements_ cursor_ hasSnapshot_ isSaving_ type_) (RW_X12_setItem cy o d out) :=
  mk_v (by decide) rfl (Nat.le_of_ble_eq_true rfl) (fun p e s m args below meth c A Q X K H locs ls Z hl => wt_X12_setItem o d letters_ tests_ inputLength_ at_ signed_ newParts_ machineParts_ firstParts_ firstTruth_ secondTruth_ isPair_ states_ stateClasses_ elements_ cursor_ hasSnapshot_ isSaving_ type_ items_ x1 x2 x3 out X h K H locs ls Z hl)
/-! SubwordCounterModel newRow (III)I -/
abbrev rm_X12_newRow : Room := { frames := 2, cells := 0, slots := 0, locals := 42 }
def RW_X12_newRow (cy : Nat → ClassId) (o : Nat) (d : Nat → Nat) (type_ : Nat → Int32) (rowLength_ : Nat → Int32) (items_ : Nat → Int32) : va_W := [((d 60), aI cy 3 type_), ((d 61), aI cy 3 rowLength_), ((d 62), aI cy 63 items_)]
def RO_X12_newRow (cy : Nat → ClassId) (o : Nat) (d : Nat → Nat) (letters_ : Int32) (tests_ : Int32) (inputLength_ : Int32) (at_ : Int32) (signed_ : Int32) (newParts_ : Int32) (machineParts_ : Int32) (firstParts_ : Int32) (firstTruth_ : Int32) (secondTruth_ : Int32) (isPair_ : Int32) (states_ : Int32) (stateClasses_ : Int32) (elements_ : Int32) (cursor_ : Int32) (hasSnapshot_ : Int32) (isSaving_ : Int32) : va_W := [(o, ob 11 (oX12 d letters_ tests_ inputLength_ at_ signed_ newParts_ machineParts_ firstParts_ firstTruth_ secondTruth_ isPair_ states_ stateClasses_ elements_ cursor_ hasSnapshot_ isSaving_))]
theorem in_X12_newRow_X12 : ∀ w ∈ u_ws RX12 TX12 68, w ∈ wsX12_newRow := fun w h => (List.mem_cons_of_mem _ (List.mem_append_right _ h))
theorem lk_X12_newRow_X12_items : Lk wsX12_newRow RX12 160 11 62 := ⟨RX12, TX12, 68, rfl, by decide, in_X12_newRow_X12, mem_at 3 rfl⟩
theorem lk_X12_newRow_X12_type : Lk wsX12_newRow RX12 154 11 60 := ⟨RX12, TX12, 68, rfl, by decide, in_X12_newRow_X12, mem_at 1 rfl⟩
theorem lk_X12_newRow_X12_rowLength : Lk wsX12_newRow RX12 157 11 61 := ⟨RX12, TX12, 68, rfl, by decide, in_X12_newRow_X12, mem_at 2 rfl⟩
def b_X12_newRow_64  (x1 : Int32) (items_ : Nat → Int32) (x4 : Int32) : Option (((Nat → Int32) × Int32) ⊕ ((Nat → Int32))) :=
  if (21 : Int32) ≤ x4 then
  (some (.inr items_))
  else
  (stA items_ 63 (((21 : Int32) * x1) + x4) (0 : Int32) (fun items_2 =>
  some (.inl (items_2, (x4 + (1 : Int32))))))
set_option maxHeartbeats 4000000 in
set_option maxRecDepth 100000 in
theorem wb_X12_newRow_64 {p : Program} {l : Launch} {e : Env} {s : State} {m : MethodId} {args : Array Value} {below : List Frame} {meth : Method} {c : Code} {A : Nat → Prop} {Q : State → Prop} {D : va_G} {cy : Nat → ClassId} (o : Nat) (d : Nat → Nat) (letters_ : Int32) (tests_ : Int32) (inputLength_ : Int32) (at_ : Int32) (signed_ : Int32) (newParts_ : Int32) (machineParts_ : Int32) (firstParts_ : Int32) (firstTruth_ : Int32) (secondTruth_ : Int32) (isPair_ : Int32) (states_ : Int32) (stateClasses_ : Int32) (elements_ : Int32) (cursor_ : Int32) (hasSnapshot_ : Int32) (isSaving_ : Int32) (type_ : Nat → Int32) (rowLength_ : Nat → Int32) (x1 : Int32) (items_ : Nat → Int32) (x4 : Int32) (o1 : ((Nat → Int32) × Int32) ⊕ ((Nat → Int32))) (X : Cx p m c cX12_newRow 5 s args wsX12_newRow RX12 A D cy (RO_X12_newRow cy o d letters_ tests_ inputLength_ at_ signed_ newParts_ machineParts_ firstParts_ firstTruth_ secondTruth_ isPair_ states_ stateClasses_ elements_ cursor_ hasSnapshot_ isSaving_)) (h : b_X12_newRow_64 x1 items_ x4 = some o1) (K : Sum.elim (fun v : (Nat → Int32) × Int32 => ∀ (H : Heap) (locs : List Loc) (ls : Array Slot), St A D s (RW_X12_newRow cy o d type_ rowLength_ v.1) H locs → lv_has ls 5 [(0, .ref o), (1, .int x1), (4, .int v.2)] → W p l e rm_X12_newRow s m args below meth c H locs 0 0 Q (F0 m 64 ls [])) (fun v : (Nat → Int32) => ∀ (H : Heap) (locs : List Loc) (ls : Array Slot), St A D s (RW_X12_newRow cy o d type_ rowLength_ v) H locs → lv_has ls 5 [] → W p l e rm_X12_newRow s m args below meth c H locs 0 0 Q (F0 m 90 ls [])) o1) : ∀ (H : Heap) (locs : List Loc) (ls : Array Slot), St A D s (RW_X12_newRow cy o d type_ rowLength_ items_) H locs → lv_has ls 5 [(0, .ref o), (1, .int x1), (4, .int x4)] → W p l e rm_X12_newRow s m args below meth c H locs 0 0 Q (F0 m 64 ls []) := by
  intro H locs ls Z hl
  have hx := X.1.1
  have hb := X.1.2.1
  unfold b_X12_newRow_64 at h
  refine lv_iload hx hb dX12_newRow_64 (lv_at hl 2 rfl) ?_
  refine lv_bipush (v := (21 : Int32)) hx hb dX12_newRow_66 (by decide) ?_
  refine lv_icmp_ge (tgt := 90) hx hb dX12_newRow_68 (by decide) (fun cnd => ?_) (fun cnd => ?_)
  · replace h := ifp h cnd
    obtain rfl := Option.some.inj h
    exact (sk_r K) H locs ls Z (lv_sub hl [] rfl)
  · replace h := ifn h cnd
    refine lv_aload_n hx hb dX12_newRow_71 rfl (lv_at hl 0 rfl) ?_
    refine x_getO X Z 0 62 (v := .ref (d 62)) rfl rfl lk_X12_newRow_X12_items dX12_newRow_72 ?_
    refine lv_bipush (v := (21 : Int32)) hx hb dX12_newRow_75 (by decide) ?_
    refine lv_iload_n hx hb dX12_newRow_77 rfl (lv_at hl 1 rfl) ?_
    refine lv_imul hx hb dX12_newRow_78 ?_
    refine lv_iload hx hb dX12_newRow_79 (lv_at hl 2 rfl) ?_
    refine lv_iadd hx hb dX12_newRow_81 ?_
    refine lv_iconst (v := (0 : Int32)) hx hb dX12_newRow_82 (by decide) ?_
    obtain ⟨hin1, items_2, hv3, h⟩ := st_b h
    refine x_iast X Z 2 (RW_X12_newRow cy o d type_ rowLength_ items_2) rfl hin1 hv3 rfl dX12_newRow_83 (fun H locs Z => ?_)
    refine lv_iinc (v := (x4 + (1 : Int32))) (lv' := [(4, .int (x4 + (1 : Int32))), (0, .ref o), (1, .int x1)]) hx hb dX12_newRow_84 hl (k := 2) rfl rfl (by decide) rfl (fun ls hl => ?_)
    refine lv_goto (tgt := 64) hx hb dX12_newRow_87 (by decide) ?_
    obtain rfl := Option.some.inj h
    exact sk_l K H locs ls Z (lv_sub hl [1, 2, 0] rfl)
set_option maxHeartbeats 4000000 in
set_option maxRecDepth 100000 in
theorem wl_X12_newRow_64 {p : Program} {l : Launch} {e : Env} {s : State} {m : MethodId} {args : Array Value} {below : List Frame} {meth : Method} {c : Code} {A : Nat → Prop} {Q : State → Prop} {D : va_G} {cy : Nat → ClassId} (o : Nat) (d : Nat → Nat) (letters_ : Int32) (tests_ : Int32) (inputLength_ : Int32) (at_ : Int32) (signed_ : Int32) (newParts_ : Int32) (machineParts_ : Int32) (firstParts_ : Int32) (firstTruth_ : Int32) (secondTruth_ : Int32) (isPair_ : Int32) (states_ : Int32) (stateClasses_ : Int32) (elements_ : Int32) (cursor_ : Int32) (hasSnapshot_ : Int32) (isSaving_ : Int32) (type_ : Nat → Int32) (rowLength_ : Nat → Int32) (x1 : Int32) (n : Nat) (v : (Nat → Int32) × Int32) (x : (Nat → Int32)) (X : Cx p m c cX12_newRow 5 s args wsX12_newRow RX12 A D cy (RO_X12_newRow cy o d letters_ tests_ inputLength_ at_ signed_ newParts_ machineParts_ firstParts_ firstTruth_ secondTruth_ isPair_ states_ stateClasses_ elements_ cursor_ hasSnapshot_ isSaving_)) (h : loopN (fun v => b_X12_newRow_64 x1 v.1 v.2) n v = some x) (K : ∀ (H : Heap) (locs : List Loc) (ls : Array Slot), St A D s (RW_X12_newRow cy o d type_ rowLength_ x) H locs → lv_has ls 5 [] → W p l e rm_X12_newRow s m args below meth c H locs 0 0 Q (F0 m 90 ls [])) : ∀ (H : Heap) (locs : List Loc) (ls : Array Slot), St A D s (RW_X12_newRow cy o d type_ rowLength_ v.1) H locs → lv_has ls 5 [(0, .ref o), (1, .int x1), (4, .int v.2)] → W p l e rm_X12_newRow s m args below meth c H locs 0 0 Q (F0 m 64 ls []) :=
  loop_gen (B := (fun v => b_X12_newRow_64 x1 v.1 v.2)) (Head := fun v : (Nat → Int32) × Int32 => ∀ (H : Heap) (locs : List Loc) (ls : Array Slot), St A D s (RW_X12_newRow cy o d type_ rowLength_ v.1) H locs → lv_has ls 5 [(0, .ref o), (1, .int x1), (4, .int v.2)] → W p l e rm_X12_newRow s m args below meth c H locs 0 0 Q (F0 m 64 ls [])) (Exit := fun v : (Nat → Int32) => ∀ (H : Heap) (locs : List Loc) (ls : Array Slot), St A D s (RW_X12_newRow cy o d type_ rowLength_ v) H locs → lv_has ls 5 [] → W p l e rm_X12_newRow s m args below meth c H locs 0 0 Q (F0 m 90 ls [])) (fun v o9 hb1 K1 => wb_X12_newRow_64 o d letters_ tests_ inputLength_ at_ signed_ newParts_ machineParts_ firstParts_ firstTruth_ secondTruth_ isPair_ states_ stateClasses_ elements_ cursor_ hasSnapshot_ isSaving_ type_ rowLength_ x1 v.1 v.2 o9 X hb1 K1) n v x h K
def j_X12_newRow_60 (type_ : Nat → Int32) (rowLength_ : Nat → Int32) (items_ : Nat → Int32) (x1 : Int32) (t0 : Int32) (t1 : Int32) : Option (Int32 × (Nat → Int32) × (Nat → Int32) × (Nat → Int32)) :=
  stA rowLength_ 3 t1 t0 (fun rowLength_5 =>
  (loopN (fun v => b_X12_newRow_64 x1 v.1 v.2) FU (items_, (0 : Int32))).bind (fun u7 =>
  some ((1 : Int32), type_, rowLength_5, u7)))
set_option maxHeartbeats 4000000 in
set_option maxRecDepth 100000 in
theorem jw_X12_newRow_60 {p : Program} {l : Launch} {e : Env} {s : State} {m : MethodId} {args : Array Value} {below : List Frame} {meth : Method} {c : Code} {A : Nat → Prop} {Q : State → Prop} {D : va_G} {cy : Nat → ClassId} (o : Nat) (d : Nat → Nat) (letters_ : Int32) (tests_ : Int32) (inputLength_ : Int32) (at_ : Int32) (signed_ : Int32) (newParts_ : Int32) (machineParts_ : Int32) (firstParts_ : Int32) (firstTruth_ : Int32) (secondTruth_ : Int32) (isPair_ : Int32) (states_ : Int32) (stateClasses_ : Int32) (elements_ : Int32) (cursor_ : Int32) (hasSnapshot_ : Int32) (isSaving_ : Int32) (type_ : Nat → Int32) (rowLength_ : Nat → Int32) (items_ : Nat → Int32) (x1 : Int32) (t0 : Int32) (t1 : Int32) (out : Int32 × (Nat → Int32) × (Nat → Int32) × (Nat → Int32)) (X : Cx p m c cX12_newRow 5 s args wsX12_newRow RX12 A D cy (RO_X12_newRow cy o d letters_ tests_ inputLength_ at_ signed_ newParts_ machineParts_ firstParts_ firstTruth_ secondTruth_ isPair_ states_ stateClasses_ elements_ cursor_ hasSnapshot_ isSaving_)) (h : j_X12_newRow_60 type_ rowLength_ items_ x1 t0 t1 = some out) (K : ∀ (H : Heap) (locs : List Loc) (ls : Array Slot) (pc : Nat), decode cX12_newRow pc = .ok (.ireturn, 1) → St A D s (RW_X12_newRow cy o d out.2.1 out.2.2.1 out.2.2.2) H locs → W p l e rm_X12_newRow s m args below meth c H locs 0 0 Q (F0 m pc ls [.int out.1])) : ∀ (H : Heap) (locs : List Loc) (ls : Array Slot), St A D s (RW_X12_newRow cy o d type_ rowLength_ items_) H locs → lv_has ls 5 [(0, .ref o), (1, .int x1)] → W p l e rm_X12_newRow s m args below meth c H locs 0 0 Q (F0 m 60 ls [.int t0, .int t1, .ref (d 61)]) := by
  intro H locs ls Z hl
  have hx := X.1.1
  have hb := X.1.2.1
  unfold j_X12_newRow_60 at h
  obtain ⟨hin4, rowLength_5, hv6, h⟩ := st_b h
  refine x_iast X Z 1 (RW_X12_newRow cy o d type_ rowLength_5 items_) rfl hin4 hv6 rfl dX12_newRow_60 (fun H locs Z => ?_)
  refine lv_iconst (v := (0 : Int32)) hx hb dX12_newRow_61 (by decide) ?_
  refine lv_istore (lv' := [(4, .int (0 : Int32)), (0, .ref o), (1, .int x1)]) hx hb dX12_newRow_62 hl (by decide) rfl (fun ls hl => ?_)
  obtain ⟨u7, hL8, h⟩ := ob_some h
  refine wl_X12_newRow_64 o d letters_ tests_ inputLength_ at_ signed_ newParts_ machineParts_ firstParts_ firstTruth_ secondTruth_ isPair_ states_ stateClasses_ elements_ cursor_ hasSnapshot_ isSaving_ type_ rowLength_5 x1 FU (items_, (0 : Int32)) u7 X hL8 (fun H locs ls Z hl => ?_) H locs ls Z (lv_sub hl [1, 2, 0] rfl)
  refine lv_iconst (v := (1 : Int32)) hx hb dX12_newRow_90 (by decide) ?_
  obtain rfl := Option.some.inj h
  exact K H locs ls _ dX12_newRow_91 Z
def j_X12_newRow_39 (type_ : Nat → Int32) (rowLength_ : Nat → Int32) (items_ : Nat → Int32) (x1 : Int32) (x2 : Int32) (x3 : Int32) : Option (Int32 × (Nat → Int32) × (Nat → Int32) × (Nat → Int32)) :=
  stA type_ 3 x1 x2 (fun type_10 =>
  if 0 ≤ x2 then
  (j_X12_newRow_60 type_10 rowLength_ items_ x1 x3 x1)
  else
  (j_X12_newRow_60 type_10 rowLength_ items_ x1 (0 : Int32) x1))
set_option maxHeartbeats 4000000 in
set_option maxRecDepth 100000 in
theorem jw_X12_newRow_39 {p : Program} {l : Launch} {e : Env} {s : State} {m : MethodId} {args : Array Value} {below : List Frame} {meth : Method} {c : Code} {A : Nat → Prop} {Q : State → Prop} {D : va_G} {cy : Nat → ClassId} (o : Nat) (d : Nat → Nat) (letters_ : Int32) (tests_ : Int32) (inputLength_ : Int32) (at_ : Int32) (signed_ : Int32) (newParts_ : Int32) (machineParts_ : Int32) (firstParts_ : Int32) (firstTruth_ : Int32) (secondTruth_ : Int32) (isPair_ : Int32) (states_ : Int32) (stateClasses_ : Int32) (elements_ : Int32) (cursor_ : Int32) (hasSnapshot_ : Int32) (isSaving_ : Int32) (type_ : Nat → Int32) (rowLength_ : Nat → Int32) (items_ : Nat → Int32) (x1 : Int32) (x2 : Int32) (x3 : Int32) (out : Int32 × (Nat → Int32) × (Nat → Int32) × (Nat → Int32)) (X : Cx p m c cX12_newRow 5 s args wsX12_newRow RX12 A D cy (RO_X12_newRow cy o d letters_ tests_ inputLength_ at_ signed_ newParts_ machineParts_ firstParts_ firstTruth_ secondTruth_ isPair_ states_ stateClasses_ elements_ cursor_ hasSnapshot_ isSaving_)) (h : j_X12_newRow_39 type_ rowLength_ items_ x1 x2 x3 = some out) (K : ∀ (H : Heap) (locs : List Loc) (ls : Array Slot) (pc : Nat), decode cX12_newRow pc = .ok (.ireturn, 1) → St A D s (RW_X12_newRow cy o d out.2.1 out.2.2.1 out.2.2.2) H locs → W p l e rm_X12_newRow s m args below meth c H locs 0 0 Q (F0 m pc ls [.int out.1])) : ∀ (H : Heap) (locs : List Loc) (ls : Array Slot), St A D s (RW_X12_newRow cy o d type_ rowLength_ items_) H locs → lv_has ls 5 [(0, .ref o), (1, .int x1), (2, .int x2), (3, .int x3)] → W p l e rm_X12_newRow s m args below meth c H locs 0 0 Q (F0 m 39 ls []) := by
  intro H locs ls Z hl
  have hx := X.1.1
  have hb := X.1.2.1
  unfold j_X12_newRow_39 at h
  refine lv_aload_n hx hb dX12_newRow_39 rfl (lv_at hl 0 rfl) ?_
  refine x_getO X Z 0 60 (v := .ref (d 60)) rfl rfl lk_X12_newRow_X12_type dX12_newRow_40 ?_
  refine lv_iload_n hx hb dX12_newRow_43 rfl (lv_at hl 1 rfl) ?_
  refine lv_iload_n hx hb dX12_newRow_44 rfl (lv_at hl 2 rfl) ?_
  obtain ⟨hin9, type_10, hv11, h⟩ := st_b h
  refine x_iast X Z 0 (RW_X12_newRow cy o d type_10 rowLength_ items_) rfl hin9 hv11 rfl dX12_newRow_45 (fun H locs Z => ?_)
  refine lv_aload_n hx hb dX12_newRow_46 rfl (lv_at hl 0 rfl) ?_
  refine x_getO X Z 0 61 (v := .ref (d 61)) rfl rfl lk_X12_newRow_X12_rowLength dX12_newRow_47 ?_
  refine lv_iload_n hx hb dX12_newRow_50 rfl (lv_at hl 1 rfl) ?_
  refine lv_iload_n hx hb dX12_newRow_51 rfl (lv_at hl 2 rfl) ?_
  refine lv_if_ge (tgt := 59) hx hb dX12_newRow_52 (by decide) (fun cnd => ?_) (fun cnd => ?_)
  · replace h := ifp h cnd
    refine lv_iload_n hx hb dX12_newRow_59 rfl (lv_at hl 3 rfl) ?_
    exact jw_X12_newRow_60 o d letters_ tests_ inputLength_ at_ signed_ newParts_ machineParts_ firstParts_ firstTruth_ secondTruth_ isPair_ states_ stateClasses_ elements_ cursor_ hasSnapshot_ isSaving_ type_10 rowLength_ items_ x1 x3 x1 _ X h K H locs ls Z (lv_sub hl [0, 1] rfl)
  · replace h := ifn h cnd
    refine lv_iconst (v := (0 : Int32)) hx hb dX12_newRow_55 (by decide) ?_
    refine lv_goto (tgt := 60) hx hb dX12_newRow_56 (by decide) ?_
    exact jw_X12_newRow_60 o d letters_ tests_ inputLength_ at_ signed_ newParts_ machineParts_ firstParts_ firstTruth_ secondTruth_ isPair_ states_ stateClasses_ elements_ cursor_ hasSnapshot_ isSaving_ type_10 rowLength_ items_ x1 (0 : Int32) x1 _ X h K H locs ls Z (lv_sub hl [0, 1] rfl)
def j_X12_newRow_28 (type_ : Nat → Int32) (rowLength_ : Nat → Int32) (items_ : Nat → Int32) (x1 : Int32) (x2 : Int32) (x3 : Int32) : Option (Int32 × (Nat → Int32) × (Nat → Int32) × (Nat → Int32)) :=
  if x2 < 0 then
  (j_X12_newRow_39 type_ rowLength_ items_ x1 x2 x3)
  else
  (if 0 ≤ x3 then
  (j_X12_newRow_39 type_ rowLength_ items_ x1 x2 x3)
  else
  (some ((-14 : Int32), type_, rowLength_, items_)))
set_option maxHeartbeats 4000000 in
set_option maxRecDepth 100000 in
theorem jw_X12_newRow_28 {p : Program} {l : Launch} {e : Env} {s : State} {m : MethodId} {args : Array Value} {below : List Frame} {meth : Method} {c : Code} {A : Nat → Prop} {Q : State → Prop} {D : va_G} {cy : Nat → ClassId} (o : Nat) (d : Nat → Nat) (letters_ : Int32) (tests_ : Int32) (inputLength_ : Int32) (at_ : Int32) (signed_ : Int32) (newParts_ : Int32) (machineParts_ : Int32) (firstParts_ : Int32) (firstTruth_ : Int32) (secondTruth_ : Int32) (isPair_ : Int32) (states_ : Int32) (stateClasses_ : Int32) (elements_ : Int32) (cursor_ : Int32) (hasSnapshot_ : Int32) (isSaving_ : Int32) (type_ : Nat → Int32) (rowLength_ : Nat → Int32) (items_ : Nat → Int32) (x1 : Int32) (x2 : Int32) (x3 : Int32) (out : Int32 × (Nat → Int32) × (Nat → Int32) × (Nat → Int32)) (X : Cx p m c cX12_newRow 5 s args wsX12_newRow RX12 A D cy (RO_X12_newRow cy o d letters_ tests_ inputLength_ at_ signed_ newParts_ machineParts_ firstParts_ firstTruth_ secondTruth_ isPair_ states_ stateClasses_ elements_ cursor_ hasSnapshot_ isSaving_)) (h : j_X12_newRow_28 type_ rowLength_ items_ x1 x2 x3 = some out) (K : ∀ (H : Heap) (locs : List Loc) (ls : Array Slot) (pc : Nat), decode cX12_newRow pc = .ok (.ireturn, 1) → St A D s (RW_X12_newRow cy o d out.2.1 out.2.2.1 out.2.2.2) H locs → W p l e rm_X12_newRow s m args below meth c H locs 0 0 Q (F0 m pc ls [.int out.1])) : ∀ (H : Heap) (locs : List Loc) (ls : Array Slot), St A D s (RW_X12_newRow cy o d type_ rowLength_ items_) H locs → lv_has ls 5 [(0, .ref o), (1, .int x1), (2, .int x2), (3, .int x3)] → W p l e rm_X12_newRow s m args below meth c H locs 0 0 Q (F0 m 28 ls []) := by
  intro H locs ls Z hl
  have hx := X.1.1
  have hb := X.1.2.1
  unfold j_X12_newRow_28 at h
  refine lv_iload_n hx hb dX12_newRow_28 rfl (lv_at hl 2 rfl) ?_
  refine lv_if_lt (tgt := 39) hx hb dX12_newRow_29 (by decide) (fun cnd => ?_) (fun cnd => ?_)
  · replace h := ifp h cnd
    exact jw_X12_newRow_39 o d letters_ tests_ inputLength_ at_ signed_ newParts_ machineParts_ firstParts_ firstTruth_ secondTruth_ isPair_ states_ stateClasses_ elements_ cursor_ hasSnapshot_ isSaving_ type_ rowLength_ items_ x1 x2 x3 _ X h K H locs ls Z (lv_sub hl [0, 1, 2, 3] rfl)
  · replace h := ifn h cnd
    refine lv_iload_n hx hb dX12_newRow_32 rfl (lv_at hl 3 rfl) ?_
    refine lv_if_ge (tgt := 39) hx hb dX12_newRow_33 (by decide) (fun cnd => ?_) (fun cnd => ?_)
    · replace h := ifp h cnd
      exact jw_X12_newRow_39 o d letters_ tests_ inputLength_ at_ signed_ newParts_ machineParts_ firstParts_ firstTruth_ secondTruth_ isPair_ states_ stateClasses_ elements_ cursor_ hasSnapshot_ isSaving_ type_ rowLength_ items_ x1 x2 x3 _ X h K H locs ls Z (lv_sub hl [0, 1, 2, 3] rfl)
    · replace h := ifn h cnd
      refine lv_bipush (v := (-14 : Int32)) hx hb dX12_newRow_36 (by decide) ?_
      obtain rfl := Option.some.inj h
      exact K H locs ls _ dX12_newRow_38 Z
def f_X12_newRow (x1 : Int32) (x2 : Int32) (x3 : Int32) (type_ : Nat → Int32) (rowLength_ : Nat → Int32) (items_ : Nat → Int32) : Option (Int32 × (Nat → Int32) × (Nat → Int32) × (Nat → Int32)) :=
  (f_X12_isRow x1).bind (fun u12 =>
  if u12 = 0 then
  (some ((-1 : Int32), type_, rowLength_, items_))
  else
  ((f_X12_isBetween x2 (-1 : Int32) (1 : Int32)).bind (fun u14 =>
  if u14 = 0 then
  (some ((-1 : Int32), type_, rowLength_, items_))
  else
  (if x2 < 0 then
  (j_X12_newRow_28 type_ rowLength_ items_ x1 x2 x3)
  else
  (if x3 ≤ (21 : Int32) then
  (j_X12_newRow_28 type_ rowLength_ items_ x1 x2 x3)
  else
  (some ((-1 : Int32), type_, rowLength_, items_)))))))
set_option maxHeartbeats 4000000 in
set_option maxRecDepth 100000 in
theorem wt_X12_newRow {p : Program} {l : Launch} {e : Env} {s : State} {m : MethodId} {args : Array Value} {below : List Frame} {meth : Method} {c : Code} {A : Nat → Prop} {Q : State → Prop} {D : va_G} {cy : Nat → ClassId} (o : Nat) (d : Nat → Nat) (letters_ : Int32) (tests_ : Int32) (inputLength_ : Int32) (at_ : Int32) (signed_ : Int32) (newParts_ : Int32) (machineParts_ : Int32) (firstParts_ : Int32) (firstTruth_ : Int32) (secondTruth_ : Int32) (isPair_ : Int32) (states_ : Int32) (stateClasses_ : Int32) (elements_ : Int32) (cursor_ : Int32) (hasSnapshot_ : Int32) (isSaving_ : Int32) (type_ : Nat → Int32) (rowLength_ : Nat → Int32) (items_ : Nat → Int32) (x1 : Int32) (x2 : Int32) (x3 : Int32) (out : Int32 × (Nat → Int32) × (Nat → Int32) × (Nat → Int32)) (X : Cx p m c cX12_newRow 5 s args wsX12_newRow RX12 A D cy (RO_X12_newRow cy o d letters_ tests_ inputLength_ at_ signed_ newParts_ machineParts_ firstParts_ firstTruth_ secondTruth_ isPair_ states_ stateClasses_ elements_ cursor_ hasSnapshot_ isSaving_)) (h : f_X12_newRow x1 x2 x3 type_ rowLength_ items_ = some out) (K : ∀ (H : Heap) (locs : List Loc) (ls : Array Slot) (pc : Nat), decode cX12_newRow pc = .ok (.ireturn, 1) → St A D s (RW_X12_newRow cy o d out.2.1 out.2.2.1 out.2.2.2) H locs → W p l e rm_X12_newRow s m args below meth c H locs 0 0 Q (F0 m pc ls [.int out.1])) : ∀ (H : Heap) (locs : List Loc) (ls : Array Slot), St A D s (RW_X12_newRow cy o d type_ rowLength_ items_) H locs → lv_has ls 5 [(0, .ref o), (1, .int x1), (2, .int x2), (3, .int x3)] → W p l e rm_X12_newRow s m args below meth c H locs 0 0 Q (F0 m 0 ls []) := by
  intro H locs ls Z hl
  have hx := X.1.1
  have hb := X.1.2.1
  unfold f_X12_newRow at h
  refine lv_iload_n hx hb dX12_newRow_0 rfl (lv_at hl 1 rfl) ?_
  obtain ⟨u12, hc13, h⟩ := ob_some h
  refine x_runSi (RW' := (RW_X12_newRow cy o d type_ rowLength_ items_)) (wr := [((d 60), aI cy 3 type_), ((d 61), aI cy 3 rowLength_), ((d 62), aI cy 63 items_)]) (isC := []) (isR := [0, 1, 2]) (isF := [0, 1, 2]) (rest := []) (As := [.int x1]) (n := 1) X Z (c_X12_isRow l D cy x1 u12 hc13) gX12_newRow_X12_isRow rfl (by decide +kernel) ⟨Nat.le_of_ble_eq_true rfl, Nat.le_of_ble_eq_true rfl⟩ ⟨rfl, rfl⟩ ⟨Nat.le_of_ble_eq_true rfl, Nat.le_of_ble_eq_true rfl⟩ ⟨rfl, rfl, roN, rfl, rfl, by decide⟩ ⟨rfl, rfl⟩ rfl hl.1 rfl (Nat.le_of_ble_eq_true rfl) dX12_newRow_1 (fun H locs Z => ?_)
  refine lv_if_eq (tgt := 26) hx hb dX12_newRow_4 (by decide) (fun cnd => ?_) (fun cnd => ?_)
  · replace h := ifp h cnd
    refine lv_iconst (v := (-1 : Int32)) hx hb dX12_newRow_26 (by decide) ?_
    obtain rfl := Option.some.inj h
    exact K H locs ls _ dX12_newRow_27 Z
  · replace h := ifn h cnd
    refine lv_iload_n hx hb dX12_newRow_7 rfl (lv_at hl 2 rfl) ?_
    refine lv_iconst (v := (-1 : Int32)) hx hb dX12_newRow_8 (by decide) ?_
    refine lv_iconst (v := (1 : Int32)) hx hb dX12_newRow_9 (by decide) ?_
    obtain ⟨u14, hc15, h⟩ := ob_some h
    refine x_runSi (RW' := (RW_X12_newRow cy o d type_ rowLength_ items_)) (wr := [((d 60), aI cy 3 type_), ((d 61), aI cy 3 rowLength_), ((d 62), aI cy 63 items_)]) (isC := []) (isR := [0, 1, 2]) (isF := [0, 1, 2]) (rest := []) (As := [.int x2, .int (-1 : Int32), .int (1 : Int32)]) (n := 3) X Z (c_X12_isBetween l D cy x2 (-1 : Int32) (1 : Int32) u14 hc15) gX12_newRow_X12_isBetween rfl (by decide +kernel) ⟨Nat.le_of_ble_eq_true rfl, Nat.le_of_ble_eq_true rfl⟩ ⟨rfl, rfl⟩ ⟨Nat.le_of_ble_eq_true rfl, Nat.le_of_ble_eq_true rfl⟩ ⟨rfl, rfl, roN, rfl, rfl, by decide⟩ ⟨rfl, rfl⟩ rfl hl.1 rfl (Nat.le_of_ble_eq_true rfl) dX12_newRow_10 (fun H locs Z => ?_)
    refine lv_if_eq (tgt := 26) hx hb dX12_newRow_13 (by decide) (fun cnd => ?_) (fun cnd => ?_)
    · replace h := ifp h cnd
      refine lv_iconst (v := (-1 : Int32)) hx hb dX12_newRow_26 (by decide) ?_
      obtain rfl := Option.some.inj h
      exact K H locs ls _ dX12_newRow_27 Z
    · replace h := ifn h cnd
      refine lv_iload_n hx hb dX12_newRow_16 rfl (lv_at hl 2 rfl) ?_
      refine lv_if_lt (tgt := 28) hx hb dX12_newRow_17 (by decide) (fun cnd => ?_) (fun cnd => ?_)
      · replace h := ifp h cnd
        exact jw_X12_newRow_28 o d letters_ tests_ inputLength_ at_ signed_ newParts_ machineParts_ firstParts_ firstTruth_ secondTruth_ isPair_ states_ stateClasses_ elements_ cursor_ hasSnapshot_ isSaving_ type_ rowLength_ items_ x1 x2 x3 _ X h K H locs ls Z (lv_sub hl [0, 1, 2, 3] rfl)
      · replace h := ifn h cnd
        refine lv_iload_n hx hb dX12_newRow_20 rfl (lv_at hl 3 rfl) ?_
        refine lv_bipush (v := (21 : Int32)) hx hb dX12_newRow_21 (by decide) ?_
        refine lv_icmp_le (tgt := 28) hx hb dX12_newRow_23 (by decide) (fun cnd => ?_) (fun cnd => ?_)
        · replace h := ifp h cnd
          exact jw_X12_newRow_28 o d letters_ tests_ inputLength_ at_ signed_ newParts_ machineParts_ firstParts_ firstTruth_ secondTruth_ isPair_ states_ stateClasses_ elements_ cursor_ hasSnapshot_ isSaving_ type_ rowLength_ items_ x1 x2 x3 _ X h K H locs ls Z (lv_sub hl [0, 1, 2, 3] rfl)
        · replace h := ifn h cnd
          refine lv_iconst (v := (-1 : Int32)) hx hb dX12_newRow_26 (by decide) ?_
          obtain rfl := Option.some.inj h
          exact K H locs ls _ dX12_newRow_27 Z
theorem c_X12_newRow (l : Launch) (D : va_G) (cy : Nat → ClassId) (o : Nat) (d : Nat → Nat) (letters_ : Int32) (tests_ : Int32) (inputLength_ : Int32) (at_ : Int32) (signed_ : Int32) (newParts_ : Int32) (machineParts_ : Int32) (firstParts_ : Int32) (firstTruth_ : Int32) (secondTruth_ : Int32) (isPair_ : Int32) (states_ : Int32) (stateClasses_ : Int32) (elements_ : Int32) (cursor_ : Int32) (hasSnapshot_ : Int32) (isSaving_ : Int32) (type_ : Nat → Int32) (rowLength_ : Nat → Int32) (items_ : Nat → Int32) (x1 : Int32) (x2 : Int32) (x3 : Int32) (out : Int32 × (Nat → Int32) × (Nat → Int32) × (Nat → Int32)) (h : f_X12_newRow x1 x2 x3 type_ rowLength_ items_ = some out) : CtI l yX12_newRow wsX12_newRow rm_X12_newRow D cy [.ref o, .int x1, .int x2, .int x3] (RW_X12_newRow cy o d type_ rowLength_ items_) (RO_X12_newRow cy o d letters_ tests_ inputLength_ at_ signed_ newParts_ machineParts_ firstParts_ firstTruth_ secondTruth_ isPair_ states_ stateClasses_ elements_ cursor_ hasSnapshot_ isSaving_) (RW_X12_newRow cy o d out.2.1 out.2.2.1 out.2.2.2) out.1 :=
  mk_i (ty := .int) (by decide) rfl rfl (Nat.le_of_ble_eq_true rfl) (fun p e s m args below meth c A Q X K H locs ls Z hl => wt_X12_newRow o d letters_ tests_ inputLength_ at_ signed_ newParts_ machineParts_ firstParts_ firstTruth_ secondTruth_ isPair_ states_ stateClasses_ elements_ cursor_ hasSnapshot_ isSaving_ type_ rowLength_ items_ x1 x2 x3 out X h K H locs ls Z hl)
/-! SubwordCounterModel setElement (III)I -/
abbrev rm_X12_setElement : Room := { frames := 2, cells := 0, slots := 0, locals := 42 }
def RW_X12_setElement (cy : Nat → ClassId) (o : Nat) (d : Nat → Nat) (items_ : Nat → Int32) : va_W := [((d 62), aI cy 63 items_)]
def RO_X12_setElement (cy : Nat → ClassId) (o : Nat) (d : Nat → Nat) (letters_ : Int32) (tests_ : Int32) (inputLength_ : Int32) (at_ : Int32) (signed_ : Int32) (newParts_ : Int32) (machineParts_ : Int32) (firstParts_ : Int32) (firstTruth_ : Int32) (secondTruth_ : Int32) (isPair_ : Int32) (states_ : Int32) (stateClasses_ : Int32) (elements_ : Int32) (cursor_ : Int32) (hasSnapshot_ : Int32) (isSaving_ : Int32) (type_ : Nat → Int32) (rowLength_ : Nat → Int32) : va_W := [(o, ob 11 (oX12 d letters_ tests_ inputLength_ at_ signed_ newParts_ machineParts_ firstParts_ firstTruth_ secondTruth_ isPair_ states_ stateClasses_ elements_ cursor_ hasSnapshot_ isSaving_)), ((d 60), aI cy 3 type_), ((d 61), aI cy 3 rowLength_)]
theorem in_X12_setElement_X12 : ∀ w ∈ u_ws RX12 TX12 68, w ∈ wsX12_setElement := fun w h => (List.mem_cons_of_mem _ (List.mem_append_right _ h))
theorem lk_X12_setElement_X12_type : Lk wsX12_setElement RX12 154 11 60 := ⟨RX12, TX12, 68, rfl, by decide, in_X12_setElement_X12, mem_at 1 rfl⟩
theorem lk_X12_setElement_X12_rowLength : Lk wsX12_setElement RX12 157 11 61 := ⟨RX12, TX12, 68, rfl, by decide, in_X12_setElement_X12, mem_at 2 rfl⟩
def f_X12_setElement (x1 : Int32) (x2 : Int32) (x3 : Int32) (type_ : Nat → Int32) (rowLength_ : Nat → Int32) (items_ : Nat → Int32) : Option (Int32 × (Nat → Int32)) :=
  (f_X12_isRow x1).bind (fun u1 =>
  if u1 = 0 then
  (some ((-1 : Int32), items_))
  else
  (ldA type_ 3 x1 (fun v4 =>
  if 0 ≤ v4 then
  (ldA rowLength_ 3 x1 (fun v7 =>
  (f_X12_isBetween x2 (0 : Int32) (v7 - (1 : Int32))).bind (fun u9 =>
  if u9 = 0 then
  (some ((-13 : Int32), items_))
  else
  ((f_X12_setItem x1 x2 (x3.toInt64) type_ items_).bind (fun u11 =>
  some ((1 : Int32), u11))))))
  else
  (some ((-11 : Int32), items_)))))
set_option maxHeartbeats 4000000 in
set_option maxRecDepth 100000 in
theorem wt_X12_setElement {p : Program} {l : Launch} {e : Env} {s : State} {m : MethodId} {args : Array Value} {below : List Frame} {meth : Method} {c : Code} {A : Nat → Prop} {Q : State → Prop} {D : va_G} {cy : Nat → ClassId} (o : Nat) (d : Nat → Nat) (letters_ : Int32) (tests_ : Int32) (inputLength_ : Int32) (at_ : Int32) (signed_ : Int32) (newParts_ : Int32) (machineParts_ : Int32) (firstParts_ : Int32) (firstTruth_ : Int32) (secondTruth_ : Int32) (isPair_ : Int32) (states_ : Int32) (stateClasses_ : Int32) (elements_ : Int32) (cursor_ : Int32) (hasSnapshot_ : Int32) (isSaving_ : Int32) (type_ : Nat → Int32) (rowLength_ : Nat → Int32) (items_ : Nat → Int32) (x1 : Int32) (x2 : Int32) (x3 : Int32) (out : Int32 × (Nat → Int32)) (X : Cx p m c cX12_setElement 4 s args wsX12_setElement RX12 A D cy (RO_X12_setElement cy o d letters_ tests_ inputLength_ at_ signed_ newParts_ machineParts_ firstParts_ firstTruth_ secondTruth_ isPair_ states_ stateClasses_ elements_ cursor_ hasSnapshot_ isSaving_ type_ rowLength_)) (h : f_X12_setElement x1 x2 x3 type_ rowLength_ items_ = some out) (K : ∀ (H : Heap) (locs : List Loc) (ls : Array Slot) (pc : Nat), decode cX12_setElement pc = .ok (.ireturn, 1) → St A D s (RW_X12_setElement cy o d out.2) H locs → W p l e rm_X12_setElement s m args below meth c H locs 0 0 Q (F0 m pc ls [.int out.1])) : ∀ (H : Heap) (locs : List Loc) (ls : Array Slot), St A D s (RW_X12_setElement cy o d items_) H locs → lv_has ls 4 [(0, .ref o), (1, .int x1), (2, .int x2), (3, .int x3)] → W p l e rm_X12_setElement s m args below meth c H locs 0 0 Q (F0 m 0 ls []) := by
  intro H locs ls Z hl
  have hx := X.1.1
  have hb := X.1.2.1
  unfold f_X12_setElement at h
  refine lv_iload_n hx hb dX12_setElement_0 rfl (lv_at hl 1 rfl) ?_
  obtain ⟨u1, hc2, h⟩ := ob_some h
  refine x_runSi (RW' := (RW_X12_setElement cy o d items_)) (wr := [((d 62), aI cy 63 items_)]) (isC := []) (isR := [0]) (isF := [0]) (rest := []) (As := [.int x1]) (n := 1) X Z (c_X12_isRow l D cy x1 u1 hc2) gX12_setElement_X12_isRow rfl (by decide +kernel) ⟨Nat.le_of_ble_eq_true rfl, Nat.le_of_ble_eq_true rfl⟩ ⟨rfl, rfl⟩ ⟨Nat.le_of_ble_eq_true rfl, Nat.le_of_ble_eq_true rfl⟩ ⟨rfl, rfl, roN, rfl, rfl, by decide⟩ ⟨rfl, rfl⟩ rfl hl.1 rfl (Nat.le_of_ble_eq_true rfl) dX12_setElement_1 (fun H locs Z => ?_)
  refine lv_if_ne (tgt := 9) hx hb dX12_setElement_4 (by decide) (fun cnd => ?_) (fun cnd => ?_)
  · replace h := ifn h cnd
    refine lv_aload_n hx hb dX12_setElement_9 rfl (lv_at hl 0 rfl) ?_
    refine x_getO X Z 0 60 (v := .ref (d 60)) rfl rfl lk_X12_setElement_X12_type dX12_setElement_10 ?_
    refine lv_iload_n hx hb dX12_setElement_13 rfl (lv_at hl 1 rfl) ?_
    obtain ⟨hin3, v4, hv5, h⟩ := ld_b h
    refine x_ialdO X Z 1 rfl hin3 hv5 dX12_setElement_14 ?_
    refine lv_if_ge (tgt := 21) hx hb dX12_setElement_15 (by decide) (fun cnd => ?_) (fun cnd => ?_)
    · replace h := ifp h cnd
      refine lv_iload_n hx hb dX12_setElement_21 rfl (lv_at hl 2 rfl) ?_
      refine lv_iconst (v := (0 : Int32)) hx hb dX12_setElement_22 (by decide) ?_
      refine lv_aload_n hx hb dX12_setElement_23 rfl (lv_at hl 0 rfl) ?_
      refine x_getO X Z 0 61 (v := .ref (d 61)) rfl rfl lk_X12_setElement_X12_rowLength dX12_setElement_24 ?_
      refine lv_iload_n hx hb dX12_setElement_27 rfl (lv_at hl 1 rfl) ?_
      obtain ⟨hin6, v7, hv8, h⟩ := ld_b h
      refine x_ialdO X Z 2 rfl hin6 hv8 dX12_setElement_28 ?_
      refine lv_iconst (v := (1 : Int32)) hx hb dX12_setElement_29 (by decide) ?_
      refine lv_isub hx hb dX12_setElement_30 ?_
      obtain ⟨u9, hc10, h⟩ := ob_some h
      refine x_runSi (RW' := (RW_X12_setElement cy o d items_)) (wr := [((d 62), aI cy 63 items_)]) (isC := []) (isR := [0]) (isF := [0]) (rest := []) (As := [.int x2, .int (0 : Int32), .int (v7 - (1 : Int32))]) (n := 3) X Z (c_X12_isBetween l D cy x2 (0 : Int32) (v7 - (1 : Int32)) u9 hc10) gX12_setElement_X12_isBetween rfl (by decide +kernel) ⟨Nat.le_of_ble_eq_true rfl, Nat.le_of_ble_eq_true rfl⟩ ⟨rfl, rfl⟩ ⟨Nat.le_of_ble_eq_true rfl, Nat.le_of_ble_eq_true rfl⟩ ⟨rfl, rfl, roN, rfl, rfl, by decide⟩ ⟨rfl, rfl⟩ rfl hl.1 rfl (Nat.le_of_ble_eq_true rfl) dX12_setElement_31 (fun H locs Z => ?_)
      refine lv_if_ne (tgt := 40) hx hb dX12_setElement_34 (by decide) (fun cnd => ?_) (fun cnd => ?_)
      · replace h := ifn h cnd
        refine lv_aload_n hx hb dX12_setElement_40 rfl (lv_at hl 0 rfl) ?_
        refine lv_iload_n hx hb dX12_setElement_41 rfl (lv_at hl 1 rfl) ?_
        refine lv_iload_n hx hb dX12_setElement_42 rfl (lv_at hl 2 rfl) ?_
        refine lv_iload_n hx hb dX12_setElement_43 rfl (lv_at hl 3 rfl) ?_
        refine lv_i2l (v := (x3.toInt64)) hx hb dX12_setElement_44 rfl ?_
        obtain ⟨u11, hc12, h⟩ := ob_some h
        refine x_runVv (RW' := (RW_X12_setElement cy o d u11)) (wr := []) (isC := [0]) (isR := []) (isF := [0]) (rest := []) (As := [.int x1, .int x2, .long (x3.toInt64)]) (n := 3) X Z (c_X12_setItem l D cy o d letters_ tests_ inputLength_ at_ signed_ newParts_ machineParts_ firstParts_ firstTruth_ secondTruth_ isPair_ states_ stateClasses_ elements_ cursor_ hasSnapshot_ isSaving_ type_ items_ x1 x2 (x3.toInt64) u11 hc12) gX12_setElement_X12_setItem rfl (by decide +kernel) ⟨Nat.le_of_ble_eq_true rfl, Nat.le_of_ble_eq_true rfl⟩ ⟨rfl, rfl⟩ ⟨Nat.le_of_ble_eq_true rfl, Nat.le_of_ble_eq_true rfl⟩ (x_rvO X Z 0 rfl rfl) ⟨rfl, rfl, (roC (Or.inr (mem_at 0 rfl)) (roC (Or.inr (mem_at 1 rfl)) roN)), rfl, rfl, by decide⟩ ⟨rfl, rfl⟩ rfl hl.1 rfl (Nat.le_of_ble_eq_true rfl) dX12_setElement_45 (fun H locs Z => ?_)
        refine lv_iconst (v := (1 : Int32)) hx hb dX12_setElement_48 (by decide) ?_
        obtain rfl := Option.some.inj h
        exact K H locs ls _ dX12_setElement_49 Z
      · replace h := ifp h cnd
        refine lv_bipush (v := (-13 : Int32)) hx hb dX12_setElement_37 (by decide) ?_
        obtain rfl := Option.some.inj h
        exact K H locs ls _ dX12_setElement_39 Z
    · replace h := ifn h cnd
      refine lv_bipush (v := (-11 : Int32)) hx hb dX12_setElement_18 (by decide) ?_
      obtain rfl := Option.some.inj h
      exact K H locs ls _ dX12_setElement_20 Z
  · replace h := ifp h cnd
    refine lv_iconst (v := (-1 : Int32)) hx hb dX12_setElement_7 (by decide) ?_
    obtain rfl := Option.some.inj h
    exact K H locs ls _ dX12_setElement_8 Z
theorem c_X12_setElement (l : Launch) (D : va_G) (cy : Nat → ClassId) (o : Nat) (d : Nat → Nat) (letters_ : Int32) (tests_ : Int32) (inputLength_ : Int32) (at_ : Int32) (signed_ : Int32) (newParts_ : Int32) (machineParts_ : Int32) (firstParts_ : Int32) (firstTruth_ : Int32) (secondTruth_ : Int32) (isPair_ : Int32) (states_ : Int32) (stateClasses_ : Int32) (elements_ : Int32) (cursor_ : Int32) (hasSnapshot_ : Int32) (isSaving_ : Int32) (type_ : Nat → Int32) (rowLength_ : Nat → Int32) (items_ : Nat → Int32) (x1 : Int32) (x2 : Int32) (x3 : Int32) (out : Int32 × (Nat → Int32)) (h : f_X12_setElement x1 x2 x3 type_ rowLength_ items_ = some out) : CtI l yX12_setElement wsX12_setElement rm_X12_setElement D cy [.ref o, .int x1, .int x2, .int x3] (RW_X12_setElement cy o d items_) (RO_X12_setElement cy o d letters_ tests_ inputLength_ at_ signed_ newParts_ machineParts_ firstParts_ firstTruth_ secondTruth_ isPair_ states_ stateClasses_ elements_ cursor_ hasSnapshot_ isSaving_ type_ rowLength_) (RW_X12_setElement cy o d out.2) out.1 :=
  mk_i (ty := .int) (by decide) rfl rfl (Nat.le_of_ble_eq_true rfl) (fun p e s m args below meth c A Q X K H locs ls Z hl => wt_X12_setElement o d letters_ tests_ inputLength_ at_ signed_ newParts_ machineParts_ firstParts_ firstTruth_ secondTruth_ isPair_ states_ stateClasses_ elements_ cursor_ hasSnapshot_ isSaving_ type_ rowLength_ items_ x1 x2 x3 out X h K H locs ls Z hl)
/-! SubwordCounterModel element (II)J -/
abbrev rm_X12_element : Room := { frames := 2, cells := 0, slots := 0, locals := 42 }
def RW_X12_element (cy : Nat → ClassId) (o : Nat) (d : Nat → Nat)  : va_W := []
def RO_X12_element (cy : Nat → ClassId) (o : Nat) (d : Nat → Nat) (letters_ : Int32) (tests_ : Int32) (inputLength_ : Int32) (at_ : Int32) (signed_ : Int32) (newParts_ : Int32) (machineParts_ : Int32) (firstParts_ : Int32) (firstTruth_ : Int32) (secondTruth_ : Int32) (isPair_ : Int32) (states_ : Int32) (stateClasses_ : Int32) (elements_ : Int32) (cursor_ : Int32) (hasSnapshot_ : Int32) (isSaving_ : Int32) (type_ : Nat → Int32) (rowLength_ : Nat → Int32) (items_ : Nat → Int32) : va_W := [(o, ob 11 (oX12 d letters_ tests_ inputLength_ at_ signed_ newParts_ machineParts_ firstParts_ firstTruth_ secondTruth_ isPair_ states_ stateClasses_ elements_ cursor_ hasSnapshot_ isSaving_)), ((d 60), aI cy 3 type_), ((d 61), aI cy 3 rowLength_), ((d 62), aI cy 63 items_)]
theorem in_X12_element_X12 : ∀ w ∈ u_ws RX12 TX12 68, w ∈ wsX12_element := fun w h => (List.mem_cons_of_mem _ (List.mem_append_right _ h))
theorem lk_X12_element_X12_type : Lk wsX12_element RX12 154 11 60 := ⟨RX12, TX12, 68, rfl, by decide, in_X12_element_X12, mem_at 1 rfl⟩
theorem lk_X12_element_X12_rowLength : Lk wsX12_element RX12 157 11 61 := ⟨RX12, TX12, 68, rfl, by decide, in_X12_element_X12, mem_at 2 rfl⟩
theorem lk_X12_element_X12_items : Lk wsX12_element RX12 160 11 62 := ⟨RX12, TX12, 68, rfl, by decide, in_X12_element_X12, mem_at 3 rfl⟩
def f_X12_element (x1 : Int32) (x2 : Int32) (type_ : Nat → Int32) (rowLength_ : Nat → Int32) (items_ : Nat → Int32) : Option (Int64) :=
  (f_X12_isRow x1).bind (fun u1 =>
  if u1 = 0 then
  (some (-9223372036854775808 : Int64))
  else
  (ldA type_ 3 x1 (fun v4 =>
  if v4 < 0 then
  (some (-9223372036854775808 : Int64))
  else
  (ldA rowLength_ 3 x1 (fun v7 =>
  (f_X12_isBetween x2 (0 : Int32) (v7 - (1 : Int32))).bind (fun u9 =>
  if u9 = 0 then
  (some (-9223372036854775808 : Int64))
  else
  (ldA items_ 63 (((21 : Int32) * x1) + x2) (fun v12 =>
  some (v12.toInt64)))))))))
set_option maxHeartbeats 4000000 in
set_option maxRecDepth 100000 in
theorem wt_X12_element {p : Program} {l : Launch} {e : Env} {s : State} {m : MethodId} {args : Array Value} {below : List Frame} {meth : Method} {c : Code} {A : Nat → Prop} {Q : State → Prop} {D : va_G} {cy : Nat → ClassId} (o : Nat) (d : Nat → Nat) (letters_ : Int32) (tests_ : Int32) (inputLength_ : Int32) (at_ : Int32) (signed_ : Int32) (newParts_ : Int32) (machineParts_ : Int32) (firstParts_ : Int32) (firstTruth_ : Int32) (secondTruth_ : Int32) (isPair_ : Int32) (states_ : Int32) (stateClasses_ : Int32) (elements_ : Int32) (cursor_ : Int32) (hasSnapshot_ : Int32) (isSaving_ : Int32) (type_ : Nat → Int32) (rowLength_ : Nat → Int32) (items_ : Nat → Int32)  (x1 : Int32) (x2 : Int32) (out : Int64) (X : Cx p m c cX12_element 3 s args wsX12_element RX12 A D cy (RO_X12_element cy o d letters_ tests_ inputLength_ at_ signed_ newParts_ machineParts_ firstParts_ firstTruth_ secondTruth_ isPair_ states_ stateClasses_ elements_ cursor_ hasSnapshot_ isSaving_ type_ rowLength_ items_)) (h : f_X12_element x1 x2 type_ rowLength_ items_ = some out) (K : ∀ (H : Heap) (locs : List Loc) (ls : Array Slot) (pc : Nat), decode cX12_element pc = .ok (.lreturn, 1) → St A D s (RW_X12_element cy o d) H locs → W p l e rm_X12_element s m args below meth c H locs 0 0 Q (F0 m pc ls [.long out])) : ∀ (H : Heap) (locs : List Loc) (ls : Array Slot), St A D s (RW_X12_element cy o d) H locs → lv_has ls 3 [(0, .ref o), (1, .int x1), (2, .int x2)] → W p l e rm_X12_element s m args below meth c H locs 0 0 Q (F0 m 0 ls []) := by
  intro H locs ls Z hl
  have hx := X.1.1
  have hb := X.1.2.1
  unfold f_X12_element at h
  refine lv_iload_n hx hb dX12_element_0 rfl (lv_at hl 1 rfl) ?_
  obtain ⟨u1, hc2, h⟩ := ob_some h
  refine x_runSi (RW' := (RW_X12_element cy o d)) (wr := []) (isC := []) (isR := []) (isF := []) (rest := []) (As := [.int x1]) (n := 1) X Z (c_X12_isRow l D cy x1 u1 hc2) gX12_element_X12_isRow rfl (by decide +kernel) ⟨Nat.le_of_ble_eq_true rfl, Nat.le_of_ble_eq_true rfl⟩ ⟨rfl, rfl⟩ ⟨Nat.le_of_ble_eq_true rfl, Nat.le_of_ble_eq_true rfl⟩ ⟨rfl, rfl, roN, rfl, rfl, by decide⟩ ⟨rfl, rfl⟩ rfl hl.1 rfl (Nat.le_of_ble_eq_true rfl) dX12_element_1 (fun H locs Z => ?_)
  refine lv_if_eq (tgt := 47) hx hb dX12_element_4 (by decide) (fun cnd => ?_) (fun cnd => ?_)
  · replace h := ifp h cnd
    refine lv_ldc2 (v := (-9223372036854775808 : Int64)) hx hb X.1.2.2.2.1 (X.1.2.2.2.2 _ (mem_at 4 rfl)) dX12_element_47 ?_
    obtain rfl := Option.some.inj h
    exact K H locs ls _ dX12_element_50 Z
  · replace h := ifn h cnd
    refine lv_aload_n hx hb dX12_element_7 rfl (lv_at hl 0 rfl) ?_
    refine x_getO X Z 0 60 (v := .ref (d 60)) rfl rfl lk_X12_element_X12_type dX12_element_8 ?_
    refine lv_iload_n hx hb dX12_element_11 rfl (lv_at hl 1 rfl) ?_
    obtain ⟨hin3, v4, hv5, h⟩ := ld_b h
    refine x_ialdO X Z 1 rfl hin3 hv5 dX12_element_12 ?_
    refine lv_if_lt (tgt := 47) hx hb dX12_element_13 (by decide) (fun cnd => ?_) (fun cnd => ?_)
    · replace h := ifp h cnd
      refine lv_ldc2 (v := (-9223372036854775808 : Int64)) hx hb X.1.2.2.2.1 (X.1.2.2.2.2 _ (mem_at 4 rfl)) dX12_element_47 ?_
      obtain rfl := Option.some.inj h
      exact K H locs ls _ dX12_element_50 Z
    · replace h := ifn h cnd
      refine lv_iload_n hx hb dX12_element_16 rfl (lv_at hl 2 rfl) ?_
      refine lv_iconst (v := (0 : Int32)) hx hb dX12_element_17 (by decide) ?_
      refine lv_aload_n hx hb dX12_element_18 rfl (lv_at hl 0 rfl) ?_
      refine x_getO X Z 0 61 (v := .ref (d 61)) rfl rfl lk_X12_element_X12_rowLength dX12_element_19 ?_
      refine lv_iload_n hx hb dX12_element_22 rfl (lv_at hl 1 rfl) ?_
      obtain ⟨hin6, v7, hv8, h⟩ := ld_b h
      refine x_ialdO X Z 2 rfl hin6 hv8 dX12_element_23 ?_
      refine lv_iconst (v := (1 : Int32)) hx hb dX12_element_24 (by decide) ?_
      refine lv_isub hx hb dX12_element_25 ?_
      obtain ⟨u9, hc10, h⟩ := ob_some h
      refine x_runSi (RW' := (RW_X12_element cy o d)) (wr := []) (isC := []) (isR := []) (isF := []) (rest := []) (As := [.int x2, .int (0 : Int32), .int (v7 - (1 : Int32))]) (n := 3) X Z (c_X12_isBetween l D cy x2 (0 : Int32) (v7 - (1 : Int32)) u9 hc10) gX12_element_X12_isBetween rfl (by decide +kernel) ⟨Nat.le_of_ble_eq_true rfl, Nat.le_of_ble_eq_true rfl⟩ ⟨rfl, rfl⟩ ⟨Nat.le_of_ble_eq_true rfl, Nat.le_of_ble_eq_true rfl⟩ ⟨rfl, rfl, roN, rfl, rfl, by decide⟩ ⟨rfl, rfl⟩ rfl hl.1 rfl (Nat.le_of_ble_eq_true rfl) dX12_element_26 (fun H locs Z => ?_)
      refine lv_if_eq (tgt := 47) hx hb dX12_element_29 (by decide) (fun cnd => ?_) (fun cnd => ?_)
      · replace h := ifp h cnd
        refine lv_ldc2 (v := (-9223372036854775808 : Int64)) hx hb X.1.2.2.2.1 (X.1.2.2.2.2 _ (mem_at 4 rfl)) dX12_element_47 ?_
        obtain rfl := Option.some.inj h
        exact K H locs ls _ dX12_element_50 Z
      · replace h := ifn h cnd
        refine lv_aload_n hx hb dX12_element_32 rfl (lv_at hl 0 rfl) ?_
        refine x_getO X Z 0 62 (v := .ref (d 62)) rfl rfl lk_X12_element_X12_items dX12_element_33 ?_
        refine lv_bipush (v := (21 : Int32)) hx hb dX12_element_36 (by decide) ?_
        refine lv_iload_n hx hb dX12_element_38 rfl (lv_at hl 1 rfl) ?_
        refine lv_imul hx hb dX12_element_39 ?_
        refine lv_iload_n hx hb dX12_element_40 rfl (lv_at hl 2 rfl) ?_
        refine lv_iadd hx hb dX12_element_41 ?_
        obtain ⟨hin11, v12, hv13, h⟩ := ld_b h
        refine x_ialdO X Z 3 rfl hin11 hv13 dX12_element_42 ?_
        refine lv_i2l (v := (v12.toInt64)) hx hb dX12_element_43 rfl ?_
        refine lv_goto (tgt := 50) hx hb dX12_element_44 (by decide) ?_
        obtain rfl := Option.some.inj h
        exact K H locs ls _ dX12_element_50 Z
theorem c_X12_element (l : Launch) (D : va_G) (cy : Nat → ClassId) (o : Nat) (d : Nat → Nat) (letters_ : Int32) (tests_ : Int32) (inputLength_ : Int32) (at_ : Int32) (signed_ : Int32) (newParts_ : Int32) (machineParts_ : Int32) (firstParts_ : Int32) (firstTruth_ : Int32) (secondTruth_ : Int32) (isPair_ : Int32) (states_ : Int32) (stateClasses_ : Int32) (elements_ : Int32) (cursor_ : Int32) (hasSnapshot_ : Int32) (isSaving_ : Int32) (type_ : Nat → Int32) (rowLength_ : Nat → Int32) (items_ : Nat → Int32)  (x1 : Int32) (x2 : Int32) (out : Int64) (h : f_X12_element x1 x2 type_ rowLength_ items_ = some out) : CtL l yX12_element wsX12_element rm_X12_element D cy [.ref o, .int x1, .int x2] (RW_X12_element cy o d) (RO_X12_element cy o d letters_ tests_ inputLength_ at_ signed_ newParts_ machineParts_ firstParts_ firstTruth_ secondTruth_ isPair_ states_ stateClasses_ elements_ cursor_ hasSnapshot_ isSaving_ type_ rowLength_ items_) (RW_X12_element cy o d) out :=
  mk_l (by decide) rfl (Nat.le_of_ble_eq_true rfl) (fun p e s m args below meth c A Q X K H locs ls Z hl => wt_X12_element o d letters_ tests_ inputLength_ at_ signed_ newParts_ machineParts_ firstParts_ firstTruth_ secondTruth_ isPair_ states_ stateClasses_ elements_ cursor_ hasSnapshot_ isSaving_ type_ rowLength_ items_ x1 x2 out X h K H locs ls Z hl)
