set_option linter.unusedVariables false
/-! SubwordCounterModel isBetween (III)Z -/
abbrev rm_X12_isBetween : Room := { frames := 0, cells := 0, slots := 0, locals := 0 }
def RW_X12_isBetween (cy : Nat → ClassId)   : va_W := []
def RO_X12_isBetween (cy : Nat → ClassId)   : va_W := []
def f_X12_isBetween (x0 : Int32) (x1 : Int32) (x2 : Int32)  : Option (Int32) :=
  if x0 < x1 then
  (some (0 : Int32))
  else
  (if x2 < x0 then
  (some (0 : Int32))
  else
  (some (1 : Int32)))
set_option maxHeartbeats 4000000 in
set_option maxRecDepth 100000 in
theorem wt_X12_isBetween {p : Program} {l : Launch} {e : Env} {s : State} {m : MethodId} {args : Array Value} {below : List Frame} {meth : Method} {c : Code} {A : Nat → Prop} {Q : State → Prop} {D : va_G} {cy : Nat → ClassId}    (x0 : Int32) (x1 : Int32) (x2 : Int32) (out : Int32) (X : Cx p m c cX12_isBetween 3 s args wsX12_isBetween RX12 A D cy (RO_X12_isBetween cy )) (h : f_X12_isBetween x0 x1 x2 = some out) (K : ∀ (H : Heap) (locs : List Loc) (ls : Array Slot) (pc : Nat), decode cX12_isBetween pc = .ok (.ireturn, 1) → (out = 0 ∨ out = 1) → St A D s (RW_X12_isBetween cy ) H locs → W p l e rm_X12_isBetween s m args below meth c H locs 0 0 Q (F0 m pc ls [.int out])) : ∀ (H : Heap) (locs : List Loc) (ls : Array Slot), St A D s (RW_X12_isBetween cy ) H locs → lv_has ls 3 [(0, .int x0), (1, .int x1), (2, .int x2)] → W p l e rm_X12_isBetween s m args below meth c H locs 0 0 Q (F0 m 0 ls []) := by
  intro H locs ls Z hl
  have hx := X.1.1
  have hb := X.1.2.1
  unfold f_X12_isBetween at h
  refine lv_iload_n hx hb dX12_isBetween_0 rfl (lv_at hl 0 rfl) ?_
  refine lv_iload_n hx hb dX12_isBetween_1 rfl (lv_at hl 1 rfl) ?_
  refine lv_icmp_lt (tgt := 14) hx hb dX12_isBetween_2 (by decide) (fun cnd => ?_) (fun cnd => ?_)
  · replace h := ifp h cnd
    refine lv_iconst (v := (0 : Int32)) hx hb dX12_isBetween_14 (by decide) ?_
    obtain rfl := Option.some.inj h
    exact K H locs ls _ dX12_isBetween_15 (Or.inl rfl) Z
  · replace h := ifn h cnd
    refine lv_iload_n hx hb dX12_isBetween_5 rfl (lv_at hl 0 rfl) ?_
    refine lv_iload_n hx hb dX12_isBetween_6 rfl (lv_at hl 2 rfl) ?_
    refine lv_icmp_gt (tgt := 14) hx hb dX12_isBetween_7 (by decide) (fun cnd => ?_) (fun cnd => ?_)
    · replace h := ifp h cnd
      refine lv_iconst (v := (0 : Int32)) hx hb dX12_isBetween_14 (by decide) ?_
      obtain rfl := Option.some.inj h
      exact K H locs ls _ dX12_isBetween_15 (Or.inl rfl) Z
    · replace h := ifn h cnd
      refine lv_iconst (v := (1 : Int32)) hx hb dX12_isBetween_10 (by decide) ?_
      refine lv_goto (tgt := 15) hx hb dX12_isBetween_11 (by decide) ?_
      obtain rfl := Option.some.inj h
      exact K H locs ls _ dX12_isBetween_15 (Or.inr rfl) Z
theorem c_X12_isBetween (l : Launch) (D : va_G) (cy : Nat → ClassId)    (x0 : Int32) (x1 : Int32) (x2 : Int32) (out : Int32) (h : f_X12_isBetween x0 x1 x2 = some out) : CtI l yX12_isBetween wsX12_isBetween rm_X12_isBetween D cy [.int x0, .int x1, .int x2] (RW_X12_isBetween cy ) (RO_X12_isBetween cy ) (RW_X12_isBetween cy ) out :=
  mk_z (by decide) rfl (Nat.le_of_ble_eq_true rfl) (fun p e s m args below meth c A Q X K H locs ls Z hl => wt_X12_isBetween  x0 x1 x2 out X h K H locs ls Z hl)
/-! SubwordCounterModel isWord (I)Z -/
abbrev rm_X12_isWord : Room := { frames := 1, cells := 0, slots := 0, locals := 22 }
def RW_X12_isWord (cy : Nat → ClassId)   : va_W := []
def RO_X12_isWord (cy : Nat → ClassId)   : va_W := []
def f_X12_isWord (x0 : Int32)  : Option (Int32) :=
  (f_X12_isBetween x0 (0 : Int32) (2 : Int32)).bind (fun u1 =>
  bitZ u1 (some u1))
set_option maxHeartbeats 4000000 in
set_option maxRecDepth 100000 in
theorem wt_X12_isWord {p : Program} {l : Launch} {e : Env} {s : State} {m : MethodId} {args : Array Value} {below : List Frame} {meth : Method} {c : Code} {A : Nat → Prop} {Q : State → Prop} {D : va_G} {cy : Nat → ClassId}    (x0 : Int32) (out : Int32) (X : Cx p m c cX12_isWord 1 s args wsX12_isWord RX12 A D cy (RO_X12_isWord cy )) (h : f_X12_isWord x0 = some out) (K : ∀ (H : Heap) (locs : List Loc) (ls : Array Slot) (pc : Nat), decode cX12_isWord pc = .ok (.ireturn, 1) → (out = 0 ∨ out = 1) → St A D s (RW_X12_isWord cy ) H locs → W p l e rm_X12_isWord s m args below meth c H locs 0 0 Q (F0 m pc ls [.int out])) : ∀ (H : Heap) (locs : List Loc) (ls : Array Slot), St A D s (RW_X12_isWord cy ) H locs → lv_has ls 1 [(0, .int x0)] → W p l e rm_X12_isWord s m args below meth c H locs 0 0 Q (F0 m 0 ls []) := by
  intro H locs ls Z hl
  have hx := X.1.1
  have hb := X.1.2.1
  unfold f_X12_isWord at h
  refine lv_iload_n hx hb dX12_isWord_0 rfl (lv_at hl 0 rfl) ?_
  refine lv_iconst (v := (0 : Int32)) hx hb dX12_isWord_1 (by decide) ?_
  refine lv_iconst (v := (2 : Int32)) hx hb dX12_isWord_2 (by decide) ?_
  obtain ⟨u1, hc2, h⟩ := ob_some h
  refine x_runSi (RW' := (RW_X12_isWord cy )) (wr := []) (isC := []) (isR := []) (isF := []) (rest := []) (As := [.int x0, .int (0 : Int32), .int (2 : Int32)]) (n := 3) X Z (c_X12_isBetween l D cy x0 (0 : Int32) (2 : Int32) u1 hc2) gX12_isWord_X12_isBetween rfl (by decide +kernel) ⟨Nat.le_of_ble_eq_true rfl, Nat.le_of_ble_eq_true rfl⟩ ⟨rfl, rfl⟩ ⟨Nat.le_of_ble_eq_true rfl, Nat.le_of_ble_eq_true rfl⟩ ⟨rfl, rfl, roN, rfl, rfl, by decide⟩ ⟨rfl, rfl⟩ rfl hl.1 rfl (Nat.le_of_ble_eq_true rfl) dX12_isWord_3 (fun H locs Z => ?_)
  obtain ⟨hz3, h⟩ := bz_b h
  obtain rfl := Option.some.inj h
  exact K H locs ls _ dX12_isWord_6 hz3 Z
theorem c_X12_isWord (l : Launch) (D : va_G) (cy : Nat → ClassId)    (x0 : Int32) (out : Int32) (h : f_X12_isWord x0 = some out) : CtI l yX12_isWord wsX12_isWord rm_X12_isWord D cy [.int x0] (RW_X12_isWord cy ) (RO_X12_isWord cy ) (RW_X12_isWord cy ) out :=
  mk_z (by decide) rfl (Nat.le_of_ble_eq_true rfl) (fun p e s m args below meth c A Q X K H locs ls Z hl => wt_X12_isWord  x0 out X h K H locs ls Z hl)
/-! SubwordCounterModel setLetters (I)I -/
abbrev rm_X12_setLetters : Room := { frames := 1, cells := 0, slots := 0, locals := 22 }
def RW_X12_setLetters (cy : Nat → ClassId) (o : Nat) (d : Nat → Nat) (letters_ : Int32) (tests_ : Int32) (inputLength_ : Int32) (at_ : Int32) (signed_ : Int32) (newParts_ : Int32) (machineParts_ : Int32) (firstParts_ : Int32) (firstTruth_ : Int32) (secondTruth_ : Int32) (isPair_ : Int32) (states_ : Int32) (stateClasses_ : Int32) (elements_ : Int32) (cursor_ : Int32) (hasSnapshot_ : Int32) (isSaving_ : Int32) (wordLength_ : Nat → Int32) (form_ : Nat → Int32) : va_W := [(o, ob 11 (oX12 d letters_ tests_ inputLength_ at_ signed_ newParts_ machineParts_ firstParts_ firstTruth_ secondTruth_ isPair_ states_ stateClasses_ elements_ cursor_ hasSnapshot_ isSaving_)), ((d 1), aI cy 3 wordLength_), ((d 16), aI cy 4 form_)]
def RO_X12_setLetters (cy : Nat → ClassId) (o : Nat) (d : Nat → Nat)  : va_W := []
theorem in_X12_setLetters_X12 : ∀ w ∈ u_ws RX12 TX12 68, w ∈ wsX12_setLetters := fun w h => (List.mem_cons_of_mem _ (List.mem_append_right _ h))
theorem lk_X12_setLetters_X12_form : Lk wsX12_setLetters RX12 47 11 16 := ⟨RX12, TX12, 68, rfl, by decide, in_X12_setLetters_X12, mem_at 3 rfl⟩
theorem lk_X12_setLetters_X12_wordLength : Lk wsX12_setLetters RX12 13 11 1 := ⟨RX12, TX12, 68, rfl, by decide, in_X12_setLetters_X12, mem_at 2 rfl⟩
theorem lk_X12_setLetters_X12_letters : Lk wsX12_setLetters RX12 7 11 0 := ⟨RX12, TX12, 68, rfl, by decide, in_X12_setLetters_X12, mem_at 1 rfl⟩
theorem lp_X12_setLetters_X12_letters : Lp wsX12_setLetters RX12 7 11 0 .int := ⟨RX12, TX12, 68, tyX12, rfl, by decide, in_X12_setLetters_X12, mem_at 1 rfl, tyX12_ok, nmX12, rfl, by decide +kernel⟩
theorem lp_X12_setLetters_X12_tests : Lp wsX12_setLetters RX12 173 11 10 .int := ⟨RX12, TX12, 68, tyX12, rfl, by decide, in_X12_setLetters_X12, mem_at 4 rfl, tyX12_ok, nmX12, rfl, by decide +kernel⟩
def b_X12_setLetters_43  (form_ : Nat → Int32) (x3 : Int32) : Option (((Nat → Int32) × Int32) ⊕ ((Nat → Int32))) :=
  if (4 : Int32) ≤ x3 then
  (some (.inr form_))
  else
  (stA form_ 4 x3 (-1 : Int32) (fun form_2 =>
  some (.inl (form_2, (x3 + (1 : Int32))))))
set_option maxHeartbeats 4000000 in
set_option maxRecDepth 100000 in
theorem wb_X12_setLetters_43 {p : Program} {l : Launch} {e : Env} {s : State} {m : MethodId} {args : Array Value} {below : List Frame} {meth : Method} {c : Code} {A : Nat → Prop} {Q : State → Prop} {D : va_G} {cy : Nat → ClassId} (o : Nat) (d : Nat → Nat)  (letters_ : Int32) (tests_ : Int32) (inputLength_ : Int32) (at_ : Int32) (signed_ : Int32) (newParts_ : Int32) (machineParts_ : Int32) (firstParts_ : Int32) (firstTruth_ : Int32) (secondTruth_ : Int32) (isPair_ : Int32) (states_ : Int32) (stateClasses_ : Int32) (elements_ : Int32) (cursor_ : Int32) (hasSnapshot_ : Int32) (isSaving_ : Int32) (wordLength_ : Nat → Int32) (x2 : Int32) (form_ : Nat → Int32) (x3 : Int32) (o1 : ((Nat → Int32) × Int32) ⊕ ((Nat → Int32))) (X : Cx p m c cX12_setLetters 4 s args wsX12_setLetters RX12 A D cy (RO_X12_setLetters cy o d)) (h : b_X12_setLetters_43 form_ x3 = some o1) (K : Sum.elim (fun v : (Nat → Int32) × Int32 => ∀ (H : Heap) (locs : List Loc) (ls : Array Slot), St A D s (RW_X12_setLetters cy o d letters_ tests_ inputLength_ at_ signed_ newParts_ machineParts_ firstParts_ firstTruth_ secondTruth_ isPair_ states_ stateClasses_ elements_ cursor_ hasSnapshot_ isSaving_ wordLength_ v.1) H locs → lv_has ls 4 [(0, .ref o), (2, .int x2), (3, .int v.2)] → W p l e rm_X12_setLetters s m args below meth c H locs 0 0 Q (F0 m 43 ls [])) (fun v : (Nat → Int32) => ∀ (H : Heap) (locs : List Loc) (ls : Array Slot), St A D s (RW_X12_setLetters cy o d letters_ tests_ inputLength_ at_ signed_ newParts_ machineParts_ firstParts_ firstTruth_ secondTruth_ isPair_ states_ stateClasses_ elements_ cursor_ hasSnapshot_ isSaving_ wordLength_ v) H locs → lv_has ls 4 [(0, .ref o), (2, .int x2)] → W p l e rm_X12_setLetters s m args below meth c H locs 0 0 Q (F0 m 61 ls [])) o1) : ∀ (H : Heap) (locs : List Loc) (ls : Array Slot), St A D s (RW_X12_setLetters cy o d letters_ tests_ inputLength_ at_ signed_ newParts_ machineParts_ firstParts_ firstTruth_ secondTruth_ isPair_ states_ stateClasses_ elements_ cursor_ hasSnapshot_ isSaving_ wordLength_ form_) H locs → lv_has ls 4 [(0, .ref o), (2, .int x2), (3, .int x3)] → W p l e rm_X12_setLetters s m args below meth c H locs 0 0 Q (F0 m 43 ls []) := by
  intro H locs ls Z hl
  have hx := X.1.1
  have hb := X.1.2.1
  unfold b_X12_setLetters_43 at h
  refine lv_iload_n hx hb dX12_setLetters_43 rfl (lv_at hl 2 rfl) ?_
  refine lv_iconst (v := (4 : Int32)) hx hb dX12_setLetters_44 (by decide) ?_
  refine lv_icmp_ge (tgt := 61) hx hb dX12_setLetters_45 (by decide) (fun cnd => ?_) (fun cnd => ?_)
  · replace h := ifp h cnd
    obtain rfl := Option.some.inj h
    exact (sk_r K) H locs ls Z (lv_sub hl [0, 1] rfl)
  · replace h := ifn h cnd
    refine lv_aload_n hx hb dX12_setLetters_48 rfl (lv_at hl 0 rfl) ?_
    refine x_get X Z 0 16 (v := .ref (d 16)) rfl rfl lk_X12_setLetters_X12_form dX12_setLetters_49 ?_
    refine lv_iload_n hx hb dX12_setLetters_52 rfl (lv_at hl 2 rfl) ?_
    refine lv_iconst (v := (-1 : Int32)) hx hb dX12_setLetters_53 (by decide) ?_
    obtain ⟨hin1, form_2, hv3, h⟩ := st_b h
    refine x_iast X Z 2 (RW_X12_setLetters cy o d letters_ tests_ inputLength_ at_ signed_ newParts_ machineParts_ firstParts_ firstTruth_ secondTruth_ isPair_ states_ stateClasses_ elements_ cursor_ hasSnapshot_ isSaving_ wordLength_ form_2) rfl hin1 hv3 rfl dX12_setLetters_54 (fun H locs Z => ?_)
    refine lv_iinc (v := (x3 + (1 : Int32))) (lv' := [(3, .int (x3 + (1 : Int32))), (0, .ref o), (2, .int x2)]) hx hb dX12_setLetters_55 hl (k := 2) rfl rfl (by decide) rfl (fun ls hl => ?_)
    refine lv_goto (tgt := 43) hx hb dX12_setLetters_58 (by decide) ?_
    obtain rfl := Option.some.inj h
    exact sk_l K H locs ls Z (lv_sub hl [1, 2, 0] rfl)
set_option maxHeartbeats 4000000 in
set_option maxRecDepth 100000 in
theorem wl_X12_setLetters_43 {p : Program} {l : Launch} {e : Env} {s : State} {m : MethodId} {args : Array Value} {below : List Frame} {meth : Method} {c : Code} {A : Nat → Prop} {Q : State → Prop} {D : va_G} {cy : Nat → ClassId} (o : Nat) (d : Nat → Nat)  (letters_ : Int32) (tests_ : Int32) (inputLength_ : Int32) (at_ : Int32) (signed_ : Int32) (newParts_ : Int32) (machineParts_ : Int32) (firstParts_ : Int32) (firstTruth_ : Int32) (secondTruth_ : Int32) (isPair_ : Int32) (states_ : Int32) (stateClasses_ : Int32) (elements_ : Int32) (cursor_ : Int32) (hasSnapshot_ : Int32) (isSaving_ : Int32) (wordLength_ : Nat → Int32) (x2 : Int32) (n : Nat) (v : (Nat → Int32) × Int32) (x : (Nat → Int32)) (X : Cx p m c cX12_setLetters 4 s args wsX12_setLetters RX12 A D cy (RO_X12_setLetters cy o d)) (h : loopN (fun v => b_X12_setLetters_43 v.1 v.2) n v = some x) (K : ∀ (H : Heap) (locs : List Loc) (ls : Array Slot), St A D s (RW_X12_setLetters cy o d letters_ tests_ inputLength_ at_ signed_ newParts_ machineParts_ firstParts_ firstTruth_ secondTruth_ isPair_ states_ stateClasses_ elements_ cursor_ hasSnapshot_ isSaving_ wordLength_ x) H locs → lv_has ls 4 [(0, .ref o), (2, .int x2)] → W p l e rm_X12_setLetters s m args below meth c H locs 0 0 Q (F0 m 61 ls [])) : ∀ (H : Heap) (locs : List Loc) (ls : Array Slot), St A D s (RW_X12_setLetters cy o d letters_ tests_ inputLength_ at_ signed_ newParts_ machineParts_ firstParts_ firstTruth_ secondTruth_ isPair_ states_ stateClasses_ elements_ cursor_ hasSnapshot_ isSaving_ wordLength_ v.1) H locs → lv_has ls 4 [(0, .ref o), (2, .int x2), (3, .int v.2)] → W p l e rm_X12_setLetters s m args below meth c H locs 0 0 Q (F0 m 43 ls []) :=
  loop_gen (B := (fun v => b_X12_setLetters_43 v.1 v.2)) (Head := fun v : (Nat → Int32) × Int32 => ∀ (H : Heap) (locs : List Loc) (ls : Array Slot), St A D s (RW_X12_setLetters cy o d letters_ tests_ inputLength_ at_ signed_ newParts_ machineParts_ firstParts_ firstTruth_ secondTruth_ isPair_ states_ stateClasses_ elements_ cursor_ hasSnapshot_ isSaving_ wordLength_ v.1) H locs → lv_has ls 4 [(0, .ref o), (2, .int x2), (3, .int v.2)] → W p l e rm_X12_setLetters s m args below meth c H locs 0 0 Q (F0 m 43 ls [])) (Exit := fun v : (Nat → Int32) => ∀ (H : Heap) (locs : List Loc) (ls : Array Slot), St A D s (RW_X12_setLetters cy o d letters_ tests_ inputLength_ at_ signed_ newParts_ machineParts_ firstParts_ firstTruth_ secondTruth_ isPair_ states_ stateClasses_ elements_ cursor_ hasSnapshot_ isSaving_ wordLength_ v) H locs → lv_has ls 4 [(0, .ref o), (2, .int x2)] → W p l e rm_X12_setLetters s m args below meth c H locs 0 0 Q (F0 m 61 ls [])) (fun v o9 hb1 K1 => wb_X12_setLetters_43 o d letters_ tests_ inputLength_ at_ signed_ newParts_ machineParts_ firstParts_ firstTruth_ secondTruth_ isPair_ states_ stateClasses_ elements_ cursor_ hasSnapshot_ isSaving_ wordLength_ x2 v.1 v.2 o9 X hb1 K1) n v x h K
def b_X12_setLetters_23  (wordLength_ : Nat → Int32) (x3 : Int32) : Option (((Nat → Int32) × Int32) ⊕ ((Nat → Int32))) :=
  if (3 : Int32) ≤ x3 then
  (some (.inr wordLength_))
  else
  (stA wordLength_ 3 x3 (0 : Int32) (fun wordLength_5 =>
  some (.inl (wordLength_5, (x3 + (1 : Int32))))))
set_option maxHeartbeats 4000000 in
set_option maxRecDepth 100000 in
theorem wb_X12_setLetters_23 {p : Program} {l : Launch} {e : Env} {s : State} {m : MethodId} {args : Array Value} {below : List Frame} {meth : Method} {c : Code} {A : Nat → Prop} {Q : State → Prop} {D : va_G} {cy : Nat → ClassId} (o : Nat) (d : Nat → Nat)  (letters_ : Int32) (tests_ : Int32) (inputLength_ : Int32) (at_ : Int32) (signed_ : Int32) (newParts_ : Int32) (machineParts_ : Int32) (firstParts_ : Int32) (firstTruth_ : Int32) (secondTruth_ : Int32) (isPair_ : Int32) (states_ : Int32) (stateClasses_ : Int32) (elements_ : Int32) (cursor_ : Int32) (hasSnapshot_ : Int32) (isSaving_ : Int32) (form_ : Nat → Int32) (x2 : Int32) (wordLength_ : Nat → Int32) (x3 : Int32) (o1 : ((Nat → Int32) × Int32) ⊕ ((Nat → Int32))) (X : Cx p m c cX12_setLetters 4 s args wsX12_setLetters RX12 A D cy (RO_X12_setLetters cy o d)) (h : b_X12_setLetters_23 wordLength_ x3 = some o1) (K : Sum.elim (fun v : (Nat → Int32) × Int32 => ∀ (H : Heap) (locs : List Loc) (ls : Array Slot), St A D s (RW_X12_setLetters cy o d letters_ tests_ inputLength_ at_ signed_ newParts_ machineParts_ firstParts_ firstTruth_ secondTruth_ isPair_ states_ stateClasses_ elements_ cursor_ hasSnapshot_ isSaving_ v.1 form_) H locs → lv_has ls 4 [(0, .ref o), (2, .int x2), (3, .int v.2)] → W p l e rm_X12_setLetters s m args below meth c H locs 0 0 Q (F0 m 23 ls [])) (fun v : (Nat → Int32) => ∀ (H : Heap) (locs : List Loc) (ls : Array Slot), St A D s (RW_X12_setLetters cy o d letters_ tests_ inputLength_ at_ signed_ newParts_ machineParts_ firstParts_ firstTruth_ secondTruth_ isPair_ states_ stateClasses_ elements_ cursor_ hasSnapshot_ isSaving_ v form_) H locs → lv_has ls 4 [(0, .ref o), (2, .int x2)] → W p l e rm_X12_setLetters s m args below meth c H locs 0 0 Q (F0 m 41 ls [])) o1) : ∀ (H : Heap) (locs : List Loc) (ls : Array Slot), St A D s (RW_X12_setLetters cy o d letters_ tests_ inputLength_ at_ signed_ newParts_ machineParts_ firstParts_ firstTruth_ secondTruth_ isPair_ states_ stateClasses_ elements_ cursor_ hasSnapshot_ isSaving_ wordLength_ form_) H locs → lv_has ls 4 [(0, .ref o), (2, .int x2), (3, .int x3)] → W p l e rm_X12_setLetters s m args below meth c H locs 0 0 Q (F0 m 23 ls []) := by
  intro H locs ls Z hl
  have hx := X.1.1
  have hb := X.1.2.1
  unfold b_X12_setLetters_23 at h
  refine lv_iload_n hx hb dX12_setLetters_23 rfl (lv_at hl 2 rfl) ?_
  refine lv_iconst (v := (3 : Int32)) hx hb dX12_setLetters_24 (by decide) ?_
  refine lv_icmp_ge (tgt := 41) hx hb dX12_setLetters_25 (by decide) (fun cnd => ?_) (fun cnd => ?_)
  · replace h := ifp h cnd
    obtain rfl := Option.some.inj h
    exact (sk_r K) H locs ls Z (lv_sub hl [0, 1] rfl)
  · replace h := ifn h cnd
    refine lv_aload_n hx hb dX12_setLetters_28 rfl (lv_at hl 0 rfl) ?_
    refine x_get X Z 0 1 (v := .ref (d 1)) rfl rfl lk_X12_setLetters_X12_wordLength dX12_setLetters_29 ?_
    refine lv_iload_n hx hb dX12_setLetters_32 rfl (lv_at hl 2 rfl) ?_
    refine lv_iconst (v := (0 : Int32)) hx hb dX12_setLetters_33 (by decide) ?_
    obtain ⟨hin4, wordLength_5, hv6, h⟩ := st_b h
    refine x_iast X Z 1 (RW_X12_setLetters cy o d letters_ tests_ inputLength_ at_ signed_ newParts_ machineParts_ firstParts_ firstTruth_ secondTruth_ isPair_ states_ stateClasses_ elements_ cursor_ hasSnapshot_ isSaving_ wordLength_5 form_) rfl hin4 hv6 rfl dX12_setLetters_34 (fun H locs Z => ?_)
    refine lv_iinc (v := (x3 + (1 : Int32))) (lv' := [(3, .int (x3 + (1 : Int32))), (0, .ref o), (2, .int x2)]) hx hb dX12_setLetters_35 hl (k := 2) rfl rfl (by decide) rfl (fun ls hl => ?_)
    refine lv_goto (tgt := 23) hx hb dX12_setLetters_38 (by decide) ?_
    obtain rfl := Option.some.inj h
    exact sk_l K H locs ls Z (lv_sub hl [1, 2, 0] rfl)
set_option maxHeartbeats 4000000 in
set_option maxRecDepth 100000 in
theorem wl_X12_setLetters_23 {p : Program} {l : Launch} {e : Env} {s : State} {m : MethodId} {args : Array Value} {below : List Frame} {meth : Method} {c : Code} {A : Nat → Prop} {Q : State → Prop} {D : va_G} {cy : Nat → ClassId} (o : Nat) (d : Nat → Nat)  (letters_ : Int32) (tests_ : Int32) (inputLength_ : Int32) (at_ : Int32) (signed_ : Int32) (newParts_ : Int32) (machineParts_ : Int32) (firstParts_ : Int32) (firstTruth_ : Int32) (secondTruth_ : Int32) (isPair_ : Int32) (states_ : Int32) (stateClasses_ : Int32) (elements_ : Int32) (cursor_ : Int32) (hasSnapshot_ : Int32) (isSaving_ : Int32) (form_ : Nat → Int32) (x2 : Int32) (n : Nat) (v : (Nat → Int32) × Int32) (x : (Nat → Int32)) (X : Cx p m c cX12_setLetters 4 s args wsX12_setLetters RX12 A D cy (RO_X12_setLetters cy o d)) (h : loopN (fun v => b_X12_setLetters_23 v.1 v.2) n v = some x) (K : ∀ (H : Heap) (locs : List Loc) (ls : Array Slot), St A D s (RW_X12_setLetters cy o d letters_ tests_ inputLength_ at_ signed_ newParts_ machineParts_ firstParts_ firstTruth_ secondTruth_ isPair_ states_ stateClasses_ elements_ cursor_ hasSnapshot_ isSaving_ x form_) H locs → lv_has ls 4 [(0, .ref o), (2, .int x2)] → W p l e rm_X12_setLetters s m args below meth c H locs 0 0 Q (F0 m 41 ls [])) : ∀ (H : Heap) (locs : List Loc) (ls : Array Slot), St A D s (RW_X12_setLetters cy o d letters_ tests_ inputLength_ at_ signed_ newParts_ machineParts_ firstParts_ firstTruth_ secondTruth_ isPair_ states_ stateClasses_ elements_ cursor_ hasSnapshot_ isSaving_ v.1 form_) H locs → lv_has ls 4 [(0, .ref o), (2, .int x2), (3, .int v.2)] → W p l e rm_X12_setLetters s m args below meth c H locs 0 0 Q (F0 m 23 ls []) :=
  loop_gen (B := (fun v => b_X12_setLetters_23 v.1 v.2)) (Head := fun v : (Nat → Int32) × Int32 => ∀ (H : Heap) (locs : List Loc) (ls : Array Slot), St A D s (RW_X12_setLetters cy o d letters_ tests_ inputLength_ at_ signed_ newParts_ machineParts_ firstParts_ firstTruth_ secondTruth_ isPair_ states_ stateClasses_ elements_ cursor_ hasSnapshot_ isSaving_ v.1 form_) H locs → lv_has ls 4 [(0, .ref o), (2, .int x2), (3, .int v.2)] → W p l e rm_X12_setLetters s m args below meth c H locs 0 0 Q (F0 m 23 ls [])) (Exit := fun v : (Nat → Int32) => ∀ (H : Heap) (locs : List Loc) (ls : Array Slot), St A D s (RW_X12_setLetters cy o d letters_ tests_ inputLength_ at_ signed_ newParts_ machineParts_ firstParts_ firstTruth_ secondTruth_ isPair_ states_ stateClasses_ elements_ cursor_ hasSnapshot_ isSaving_ v form_) H locs → lv_has ls 4 [(0, .ref o), (2, .int x2)] → W p l e rm_X12_setLetters s m args below meth c H locs 0 0 Q (F0 m 41 ls [])) (fun v o9 hb1 K1 => wb_X12_setLetters_23 o d letters_ tests_ inputLength_ at_ signed_ newParts_ machineParts_ firstParts_ firstTruth_ secondTruth_ isPair_ states_ stateClasses_ elements_ cursor_ hasSnapshot_ isSaving_ form_ x2 v.1 v.2 o9 X hb1 K1) n v x h K
def f_X12_setLetters (x1 : Int32) (letters_ : Int32) (tests_ : Int32) (wordLength_ : Nat → Int32) (form_ : Nat → Int32) : Option (Int32 × Int32 × Int32 × (Nat → Int32) × (Nat → Int32)) :=
  (f_X12_isBetween x1 (1 : Int32) (3 : Int32)).bind (fun u7 =>
  if u7 = 0 then
  (some ((-1 : Int32), letters_, tests_, wordLength_, form_))
  else
  ((loopN (fun v => b_X12_setLetters_23 v.1 v.2) FU (wordLength_, (0 : Int32))).bind (fun u9 =>
  (loopN (fun v => b_X12_setLetters_43 v.1 v.2) FU (form_, (0 : Int32))).bind (fun u11 =>
  some (letters_, x1, (0 : Int32), u9, u11)))))
set_option maxHeartbeats 4000000 in
set_option maxRecDepth 100000 in
theorem wt_X12_setLetters {p : Program} {l : Launch} {e : Env} {s : State} {m : MethodId} {args : Array Value} {below : List Frame} {meth : Method} {c : Code} {A : Nat → Prop} {Q : State → Prop} {D : va_G} {cy : Nat → ClassId} (o : Nat) (d : Nat → Nat)  (letters_ : Int32) (tests_ : Int32) (inputLength_ : Int32) (at_ : Int32) (signed_ : Int32) (newParts_ : Int32) (machineParts_ : Int32) (firstParts_ : Int32) (firstTruth_ : Int32) (secondTruth_ : Int32) (isPair_ : Int32) (states_ : Int32) (stateClasses_ : Int32) (elements_ : Int32) (cursor_ : Int32) (hasSnapshot_ : Int32) (isSaving_ : Int32) (wordLength_ : Nat → Int32) (form_ : Nat → Int32) (x1 : Int32) (out : Int32 × Int32 × Int32 × (Nat → Int32) × (Nat → Int32)) (X : Cx p m c cX12_setLetters 4 s args wsX12_setLetters RX12 A D cy (RO_X12_setLetters cy o d)) (h : f_X12_setLetters x1 letters_ tests_ wordLength_ form_ = some out) (K : ∀ (H : Heap) (locs : List Loc) (ls : Array Slot) (pc : Nat), decode cX12_setLetters pc = .ok (.ireturn, 1) → St A D s (RW_X12_setLetters cy o d out.2.1 out.2.2.1 inputLength_ at_ signed_ newParts_ machineParts_ firstParts_ firstTruth_ secondTruth_ isPair_ states_ stateClasses_ elements_ cursor_ hasSnapshot_ isSaving_ out.2.2.2.1 out.2.2.2.2) H locs → W p l e rm_X12_setLetters s m args below meth c H locs 0 0 Q (F0 m pc ls [.int out.1])) : ∀ (H : Heap) (locs : List Loc) (ls : Array Slot), St A D s (RW_X12_setLetters cy o d letters_ tests_ inputLength_ at_ signed_ newParts_ machineParts_ firstParts_ firstTruth_ secondTruth_ isPair_ states_ stateClasses_ elements_ cursor_ hasSnapshot_ isSaving_ wordLength_ form_) H locs → lv_has ls 4 [(0, .ref o), (1, .int x1)] → W p l e rm_X12_setLetters s m args below meth c H locs 0 0 Q (F0 m 0 ls []) := by
  intro H locs ls Z hl
  have hx := X.1.1
  have hb := X.1.2.1
  unfold f_X12_setLetters at h
  refine lv_iload_n hx hb dX12_setLetters_0 rfl (lv_at hl 1 rfl) ?_
  refine lv_iconst (v := (1 : Int32)) hx hb dX12_setLetters_1 (by decide) ?_
  refine lv_iconst (v := (3 : Int32)) hx hb dX12_setLetters_2 (by decide) ?_
  obtain ⟨u7, hc8, h⟩ := ob_some h
  refine x_runSi (RW' := (RW_X12_setLetters cy o d letters_ tests_ inputLength_ at_ signed_ newParts_ machineParts_ firstParts_ firstTruth_ secondTruth_ isPair_ states_ stateClasses_ elements_ cursor_ hasSnapshot_ isSaving_ wordLength_ form_)) (wr := [(o, ob 11 (oX12 d letters_ tests_ inputLength_ at_ signed_ newParts_ machineParts_ firstParts_ firstTruth_ secondTruth_ isPair_ states_ stateClasses_ elements_ cursor_ hasSnapshot_ isSaving_)), ((d 1), aI cy 3 wordLength_), ((d 16), aI cy 4 form_)]) (isC := []) (isR := [0, 1, 2]) (isF := [0, 1, 2]) (rest := []) (As := [.int x1, .int (1 : Int32), .int (3 : Int32)]) (n := 3) X Z (c_X12_isBetween l D cy x1 (1 : Int32) (3 : Int32) u7 hc8) gX12_setLetters_X12_isBetween rfl (by decide +kernel) ⟨Nat.le_of_ble_eq_true rfl, Nat.le_of_ble_eq_true rfl⟩ ⟨rfl, rfl⟩ ⟨Nat.le_of_ble_eq_true rfl, Nat.le_of_ble_eq_true rfl⟩ ⟨rfl, rfl, roN, rfl, rfl, by decide⟩ ⟨rfl, rfl⟩ rfl hl.1 rfl (Nat.le_of_ble_eq_true rfl) dX12_setLetters_3 (fun H locs Z => ?_)
  refine lv_if_ne (tgt := 11) hx hb dX12_setLetters_6 (by decide) (fun cnd => ?_) (fun cnd => ?_)
  · replace h := ifn h cnd
    refine lv_aload_n hx hb dX12_setLetters_11 rfl (lv_at hl 0 rfl) ?_
    refine x_get X Z 0 0 (v := .int letters_) rfl rfl lk_X12_setLetters_X12_letters dX12_setLetters_12 ?_
    refine lv_istore_n (lv' := [(2, .int letters_), (0, .ref o), (1, .int x1)]) hx hb dX12_setLetters_15 rfl hl (by decide) rfl (fun ls hl => ?_)
    refine lv_aload_n hx hb dX12_setLetters_16 rfl (lv_at hl 1 rfl) ?_
    refine lv_iload_n hx hb dX12_setLetters_17 rfl (lv_at hl 2 rfl) ?_
    refine x_put X Z 0 0 (RW_X12_setLetters cy o d x1 tests_ inputLength_ at_ signed_ newParts_ machineParts_ firstParts_ firstTruth_ secondTruth_ isPair_ states_ stateClasses_ elements_ cursor_ hasSnapshot_ isSaving_ wordLength_ form_) rfl lp_X12_setLetters_X12_letters (Nat.le_of_ble_eq_true rfl) rfl dX12_setLetters_18 (fun H locs Z => ?_)
    refine lv_iconst (v := (0 : Int32)) hx hb dX12_setLetters_21 (by decide) ?_
    refine lv_istore_n (lv' := [(3, .int (0 : Int32)), (2, .int letters_), (0, .ref o), (1, .int x1)]) hx hb dX12_setLetters_22 rfl hl (by decide) rfl (fun ls hl => ?_)
    obtain ⟨u9, hL10, h⟩ := ob_some h
    refine wl_X12_setLetters_23 o d x1 tests_ inputLength_ at_ signed_ newParts_ machineParts_ firstParts_ firstTruth_ secondTruth_ isPair_ states_ stateClasses_ elements_ cursor_ hasSnapshot_ isSaving_ form_ letters_ FU (wordLength_, (0 : Int32)) u9 X hL10 (fun H locs ls Z hl => ?_) H locs ls Z (lv_sub hl [2, 1, 0] rfl)
    refine lv_iconst (v := (0 : Int32)) hx hb dX12_setLetters_41 (by decide) ?_
    refine lv_istore_n (lv' := [(3, .int (0 : Int32)), (0, .ref o), (2, .int letters_)]) hx hb dX12_setLetters_42 rfl hl (by decide) rfl (fun ls hl => ?_)
    obtain ⟨u11, hL12, h⟩ := ob_some h
    refine wl_X12_setLetters_43 o d x1 tests_ inputLength_ at_ signed_ newParts_ machineParts_ firstParts_ firstTruth_ secondTruth_ isPair_ states_ stateClasses_ elements_ cursor_ hasSnapshot_ isSaving_ u9 letters_ FU (form_, (0 : Int32)) u11 X hL12 (fun H locs ls Z hl => ?_) H locs ls Z (lv_sub hl [1, 2, 0] rfl)
    refine lv_aload_n hx hb dX12_setLetters_61 rfl (lv_at hl 0 rfl) ?_
    refine lv_iconst (v := (0 : Int32)) hx hb dX12_setLetters_62 (by decide) ?_
    refine x_put X Z 0 10 (RW_X12_setLetters cy o d x1 (0 : Int32) inputLength_ at_ signed_ newParts_ machineParts_ firstParts_ firstTruth_ secondTruth_ isPair_ states_ stateClasses_ elements_ cursor_ hasSnapshot_ isSaving_ u9 u11) rfl lp_X12_setLetters_X12_tests (Nat.le_of_ble_eq_true rfl) rfl dX12_setLetters_63 (fun H locs Z => ?_)
    refine lv_iload_n hx hb dX12_setLetters_66 rfl (lv_at hl 1 rfl) ?_
    obtain rfl := Option.some.inj h
    exact K H locs ls _ dX12_setLetters_67 Z
  · replace h := ifp h cnd
    refine lv_iconst (v := (-1 : Int32)) hx hb dX12_setLetters_9 (by decide) ?_
    obtain rfl := Option.some.inj h
    exact K H locs ls _ dX12_setLetters_10 Z
theorem c_X12_setLetters (l : Launch) (D : va_G) (cy : Nat → ClassId) (o : Nat) (d : Nat → Nat)  (letters_ : Int32) (tests_ : Int32) (inputLength_ : Int32) (at_ : Int32) (signed_ : Int32) (newParts_ : Int32) (machineParts_ : Int32) (firstParts_ : Int32) (firstTruth_ : Int32) (secondTruth_ : Int32) (isPair_ : Int32) (states_ : Int32) (stateClasses_ : Int32) (elements_ : Int32) (cursor_ : Int32) (hasSnapshot_ : Int32) (isSaving_ : Int32) (wordLength_ : Nat → Int32) (form_ : Nat → Int32) (x1 : Int32) (out : Int32 × Int32 × Int32 × (Nat → Int32) × (Nat → Int32)) (h : f_X12_setLetters x1 letters_ tests_ wordLength_ form_ = some out) : CtI l yX12_setLetters wsX12_setLetters rm_X12_setLetters D cy [.ref o, .int x1] (RW_X12_setLetters cy o d letters_ tests_ inputLength_ at_ signed_ newParts_ machineParts_ firstParts_ firstTruth_ secondTruth_ isPair_ states_ stateClasses_ elements_ cursor_ hasSnapshot_ isSaving_ wordLength_ form_) (RO_X12_setLetters cy o d) (RW_X12_setLetters cy o d out.2.1 out.2.2.1 inputLength_ at_ signed_ newParts_ machineParts_ firstParts_ firstTruth_ secondTruth_ isPair_ states_ stateClasses_ elements_ cursor_ hasSnapshot_ isSaving_ out.2.2.2.1 out.2.2.2.2) out.1 :=
  mk_i (ty := .int) (by decide) rfl rfl (Nat.le_of_ble_eq_true rfl) (fun p e s m args below meth c A Q X K H locs ls Z hl => wt_X12_setLetters o d letters_ tests_ inputLength_ at_ signed_ newParts_ machineParts_ firstParts_ firstTruth_ secondTruth_ isPair_ states_ stateClasses_ elements_ cursor_ hasSnapshot_ isSaving_ wordLength_ form_ x1 out X h K H locs ls Z hl)
/-! SubwordCounterModel letters ()I -/
abbrev rm_X12_letters : Room := { frames := 0, cells := 0, slots := 0, locals := 0 }
def RW_X12_letters (cy : Nat → ClassId) (o : Nat) (d : Nat → Nat)  : va_W := []
def RO_X12_letters (cy : Nat → ClassId) (o : Nat) (d : Nat → Nat) (letters_ : Int32) (tests_ : Int32) (inputLength_ : Int32) (at_ : Int32) (signed_ : Int32) (newParts_ : Int32) (machineParts_ : Int32) (firstParts_ : Int32) (firstTruth_ : Int32) (secondTruth_ : Int32) (isPair_ : Int32) (states_ : Int32) (stateClasses_ : Int32) (elements_ : Int32) (cursor_ : Int32) (hasSnapshot_ : Int32) (isSaving_ : Int32) : va_W := [(o, ob 11 (oX12 d letters_ tests_ inputLength_ at_ signed_ newParts_ machineParts_ firstParts_ firstTruth_ secondTruth_ isPair_ states_ stateClasses_ elements_ cursor_ hasSnapshot_ isSaving_))]
theorem in_X12_letters_X12 : ∀ w ∈ u_ws RX12 TX12 68, w ∈ wsX12_letters := fun w h => (List.mem_cons_of_mem _ (List.mem_append_right _ h))
theorem lk_X12_letters_X12_letters : Lk wsX12_letters RX12 7 11 0 := ⟨RX12, TX12, 68, rfl, by decide, in_X12_letters_X12, mem_at 1 rfl⟩
def f_X12_letters (letters_ : Int32) : Option (Int32) :=
  some letters_
set_option maxHeartbeats 4000000 in
set_option maxRecDepth 100000 in
theorem wt_X12_letters {p : Program} {l : Launch} {e : Env} {s : State} {m : MethodId} {args : Array Value} {below : List Frame} {meth : Method} {c : Code} {A : Nat → Prop} {Q : State → Prop} {D : va_G} {cy : Nat → ClassId} (o : Nat) (d : Nat → Nat) (letters_ : Int32) (tests_ : Int32) (inputLength_ : Int32) (at_ : Int32) (signed_ : Int32) (newParts_ : Int32) (machineParts_ : Int32) (firstParts_ : Int32) (firstTruth_ : Int32) (secondTruth_ : Int32) (isPair_ : Int32) (states_ : Int32) (stateClasses_ : Int32) (elements_ : Int32) (cursor_ : Int32) (hasSnapshot_ : Int32) (isSaving_ : Int32)  (out : Int32) (X : Cx p m c cX12_letters 1 s args wsX12_letters RX12 A D cy (RO_X12_letters cy o d letters_ tests_ inputLength_ at_ signed_ newParts_ machineParts_ firstParts_ firstTruth_ secondTruth_ isPair_ states_ stateClasses_ elements_ cursor_ hasSnapshot_ isSaving_)) (h : f_X12_letters letters_ = some out) (K : ∀ (H : Heap) (locs : List Loc) (ls : Array Slot) (pc : Nat), decode cX12_letters pc = .ok (.ireturn, 1) → St A D s (RW_X12_letters cy o d) H locs → W p l e rm_X12_letters s m args below meth c H locs 0 0 Q (F0 m pc ls [.int out])) : ∀ (H : Heap) (locs : List Loc) (ls : Array Slot), St A D s (RW_X12_letters cy o d) H locs → lv_has ls 1 [(0, .ref o)] → W p l e rm_X12_letters s m args below meth c H locs 0 0 Q (F0 m 0 ls []) := by
  intro H locs ls Z hl
  have hx := X.1.1
  have hb := X.1.2.1
  unfold f_X12_letters at h
  refine lv_aload_n hx hb dX12_letters_0 rfl (lv_at hl 0 rfl) ?_
  refine x_getO X Z 0 0 (v := .int letters_) rfl rfl lk_X12_letters_X12_letters dX12_letters_1 ?_
  obtain rfl := Option.some.inj h
  exact K H locs ls _ dX12_letters_4 Z
theorem c_X12_letters (l : Launch) (D : va_G) (cy : Nat → ClassId) (o : Nat) (d : Nat → Nat) (letters_ : Int32) (tests_ : Int32) (inputLength_ : Int32) (at_ : Int32) (signed_ : Int32) (newParts_ : Int32) (machineParts_ : Int32) (firstParts_ : Int32) (firstTruth_ : Int32) (secondTruth_ : Int32) (isPair_ : Int32) (states_ : Int32) (stateClasses_ : Int32) (elements_ : Int32) (cursor_ : Int32) (hasSnapshot_ : Int32) (isSaving_ : Int32)  (out : Int32) (h : f_X12_letters letters_ = some out) : CtI l yX12_letters wsX12_letters rm_X12_letters D cy [.ref o] (RW_X12_letters cy o d) (RO_X12_letters cy o d letters_ tests_ inputLength_ at_ signed_ newParts_ machineParts_ firstParts_ firstTruth_ secondTruth_ isPair_ states_ stateClasses_ elements_ cursor_ hasSnapshot_ isSaving_) (RW_X12_letters cy o d) out :=
  mk_i (ty := .int) (by decide) rfl rfl (Nat.le_of_ble_eq_true rfl) (fun p e s m args below meth c A Q X K H locs ls Z hl => wt_X12_letters o d letters_ tests_ inputLength_ at_ signed_ newParts_ machineParts_ firstParts_ firstTruth_ secondTruth_ isPair_ states_ stateClasses_ elements_ cursor_ hasSnapshot_ isSaving_ out X h K H locs ls Z hl)
/-! SubwordCounterModel append (II)I -/
abbrev rm_X12_append : Room := { frames := 2, cells := 0, slots := 0, locals := 42 }
def RW_X12_append (cy : Nat → ClassId) (o : Nat) (d : Nat → Nat) (wordLength_ : Nat → Int32) (word_ : Nat → Int32) : va_W := [((d 1), aI cy 3 wordLength_), ((d 2), aI cy 36 word_)]
def RO_X12_append (cy : Nat → ClassId) (o : Nat) (d : Nat → Nat) (letters_ : Int32) (tests_ : Int32) (inputLength_ : Int32) (at_ : Int32) (signed_ : Int32) (newParts_ : Int32) (machineParts_ : Int32) (firstParts_ : Int32) (firstTruth_ : Int32) (secondTruth_ : Int32) (isPair_ : Int32) (states_ : Int32) (stateClasses_ : Int32) (elements_ : Int32) (cursor_ : Int32) (hasSnapshot_ : Int32) (isSaving_ : Int32) : va_W := [(o, ob 11 (oX12 d letters_ tests_ inputLength_ at_ signed_ newParts_ machineParts_ firstParts_ firstTruth_ secondTruth_ isPair_ states_ stateClasses_ elements_ cursor_ hasSnapshot_ isSaving_))]
theorem in_X12_append_X12 : ∀ w ∈ u_ws RX12 TX12 68, w ∈ wsX12_append := fun w h => (List.mem_cons_of_mem _ (List.mem_append_right _ h))
theorem lk_X12_append_X12_letters : Lk wsX12_append RX12 7 11 0 := ⟨RX12, TX12, 68, rfl, by decide, in_X12_append_X12, mem_at 1 rfl⟩
theorem lk_X12_append_X12_wordLength : Lk wsX12_append RX12 13 11 1 := ⟨RX12, TX12, 68, rfl, by decide, in_X12_append_X12, mem_at 2 rfl⟩
theorem lk_X12_append_X12_word : Lk wsX12_append RX12 17 11 2 := ⟨RX12, TX12, 68, rfl, by decide, in_X12_append_X12, mem_at 3 rfl⟩
def f_X12_append (x1 : Int32) (x2 : Int32) (letters_ : Int32) (wordLength_ : Nat → Int32) (word_ : Nat → Int32) : Option (Int32 × (Nat → Int32) × (Nat → Int32)) :=
  (f_X12_isWord x1).bind (fun u1 =>
  if u1 = 0 then
  (some ((-1 : Int32), wordLength_, word_))
  else
  ((f_X12_isBetween x2 (0 : Int32) (letters_ - (1 : Int32))).bind (fun u3 =>
  if u3 = 0 then
  (some ((-1 : Int32), wordLength_, word_))
  else
  (ldA wordLength_ 3 x1 (fun v6 =>
  if v6 = (12 : Int32) then
  (some ((-3 : Int32), wordLength_, word_))
  else
  (ldA wordLength_ 3 x1 (fun v9 =>
  stA word_ 36 (((12 : Int32) * x1) + v9) x2 (fun word_12 =>
  ldA wordLength_ 3 x1 (fun v15 =>
  stA wordLength_ 3 x1 (v15 + (1 : Int32)) (fun wordLength_18 =>
  ldA wordLength_18 3 x1 (fun v21 =>
  some (v21, wordLength_18, word_12))))))))))))
set_option maxHeartbeats 4000000 in
set_option maxRecDepth 100000 in
theorem wt_X12_append {p : Program} {l : Launch} {e : Env} {s : State} {m : MethodId} {args : Array Value} {below : List Frame} {meth : Method} {c : Code} {A : Nat → Prop} {Q : State → Prop} {D : va_G} {cy : Nat → ClassId} (o : Nat) (d : Nat → Nat) (letters_ : Int32) (tests_ : Int32) (inputLength_ : Int32) (at_ : Int32) (signed_ : Int32) (newParts_ : Int32) (machineParts_ : Int32) (firstParts_ : Int32) (firstTruth_ : Int32) (secondTruth_ : Int32) (isPair_ : Int32) (states_ : Int32) (stateClasses_ : Int32) (elements_ : Int32) (cursor_ : Int32) (hasSnapshot_ : Int32) (isSaving_ : Int32) (wordLength_ : Nat → Int32) (word_ : Nat → Int32) (x1 : Int32) (x2 : Int32) (out : Int32 × (Nat → Int32) × (Nat → Int32)) (X : Cx p m c cX12_append 3 s args wsX12_append RX12 A D cy (RO_X12_append cy o d letters_ tests_ inputLength_ at_ signed_ newParts_ machineParts_ firstParts_ firstTruth_ secondTruth_ isPair_ states_ stateClasses_ elements_ cursor_ hasSnapshot_ isSaving_)) (h : f_X12_append x1 x2 letters_ wordLength_ word_ = some out) (K : ∀ (H : Heap) (locs : List Loc) (ls : Array Slot) (pc : Nat), decode cX12_append pc = .ok (.ireturn, 1) → St A D s (RW_X12_append cy o d out.2.1 out.2.2) H locs → W p l e rm_X12_append s m args below meth c H locs 0 0 Q (F0 m pc ls [.int out.1])) : ∀ (H : Heap) (locs : List Loc) (ls : Array Slot), St A D s (RW_X12_append cy o d wordLength_ word_) H locs → lv_has ls 3 [(0, .ref o), (1, .int x1), (2, .int x2)] → W p l e rm_X12_append s m args below meth c H locs 0 0 Q (F0 m 0 ls []) := by
  intro H locs ls Z hl
  have hx := X.1.1
  have hb := X.1.2.1
  unfold f_X12_append at h
  refine lv_iload_n hx hb dX12_append_0 rfl (lv_at hl 1 rfl) ?_
  obtain ⟨u1, hc2, h⟩ := ob_some h
  refine x_runSi (RW' := (RW_X12_append cy o d wordLength_ word_)) (wr := [((d 1), aI cy 3 wordLength_), ((d 2), aI cy 36 word_)]) (isC := []) (isR := [0, 1]) (isF := [0, 1]) (rest := []) (As := [.int x1]) (n := 1) X Z (c_X12_isWord l D cy x1 u1 hc2) gX12_append_X12_isWord rfl (by decide +kernel) ⟨Nat.le_of_ble_eq_true rfl, Nat.le_of_ble_eq_true rfl⟩ ⟨rfl, rfl⟩ ⟨Nat.le_of_ble_eq_true rfl, Nat.le_of_ble_eq_true rfl⟩ ⟨rfl, rfl, roN, rfl, rfl, by decide⟩ ⟨rfl, rfl⟩ rfl hl.1 rfl (Nat.le_of_ble_eq_true rfl) dX12_append_1 (fun H locs Z => ?_)
  refine lv_if_eq (tgt := 21) hx hb dX12_append_4 (by decide) (fun cnd => ?_) (fun cnd => ?_)
  · replace h := ifp h cnd
    refine lv_iconst (v := (-1 : Int32)) hx hb dX12_append_21 (by decide) ?_
    obtain rfl := Option.some.inj h
    exact K H locs ls _ dX12_append_22 Z
  · replace h := ifn h cnd
    refine lv_iload_n hx hb dX12_append_7 rfl (lv_at hl 2 rfl) ?_
    refine lv_iconst (v := (0 : Int32)) hx hb dX12_append_8 (by decide) ?_
    refine lv_aload_n hx hb dX12_append_9 rfl (lv_at hl 0 rfl) ?_
    refine x_getO X Z 0 0 (v := .int letters_) rfl rfl lk_X12_append_X12_letters dX12_append_10 ?_
    refine lv_iconst (v := (1 : Int32)) hx hb dX12_append_13 (by decide) ?_
    refine lv_isub hx hb dX12_append_14 ?_
    obtain ⟨u3, hc4, h⟩ := ob_some h
    refine x_runSi (RW' := (RW_X12_append cy o d wordLength_ word_)) (wr := [((d 1), aI cy 3 wordLength_), ((d 2), aI cy 36 word_)]) (isC := []) (isR := [0, 1]) (isF := [0, 1]) (rest := []) (As := [.int x2, .int (0 : Int32), .int (letters_ - (1 : Int32))]) (n := 3) X Z (c_X12_isBetween l D cy x2 (0 : Int32) (letters_ - (1 : Int32)) u3 hc4) gX12_append_X12_isBetween rfl (by decide +kernel) ⟨Nat.le_of_ble_eq_true rfl, Nat.le_of_ble_eq_true rfl⟩ ⟨rfl, rfl⟩ ⟨Nat.le_of_ble_eq_true rfl, Nat.le_of_ble_eq_true rfl⟩ ⟨rfl, rfl, roN, rfl, rfl, by decide⟩ ⟨rfl, rfl⟩ rfl hl.1 rfl (Nat.le_of_ble_eq_true rfl) dX12_append_15 (fun H locs Z => ?_)
    refine lv_if_ne (tgt := 23) hx hb dX12_append_18 (by decide) (fun cnd => ?_) (fun cnd => ?_)
    · replace h := ifn h cnd
      refine lv_aload_n hx hb dX12_append_23 rfl (lv_at hl 0 rfl) ?_
      refine x_getO X Z 0 1 (v := .ref (d 1)) rfl rfl lk_X12_append_X12_wordLength dX12_append_24 ?_
      refine lv_iload_n hx hb dX12_append_27 rfl (lv_at hl 1 rfl) ?_
      obtain ⟨hin5, v6, hv7, h⟩ := ld_b h
      refine x_iald X Z 0 rfl hin5 hv7 dX12_append_28 ?_
      refine lv_bipush (v := (12 : Int32)) hx hb dX12_append_29 (by decide) ?_
      refine lv_icmp_ne (tgt := 37) hx hb dX12_append_31 (by decide) (fun cnd => ?_) (fun cnd => ?_)
      · replace h := ifn h cnd
        refine lv_aload_n hx hb dX12_append_37 rfl (lv_at hl 0 rfl) ?_
        refine x_getO X Z 0 2 (v := .ref (d 2)) rfl rfl lk_X12_append_X12_word dX12_append_38 ?_
        refine lv_bipush (v := (12 : Int32)) hx hb dX12_append_41 (by decide) ?_
        refine lv_iload_n hx hb dX12_append_43 rfl (lv_at hl 1 rfl) ?_
        refine lv_imul hx hb dX12_append_44 ?_
        refine lv_aload_n hx hb dX12_append_45 rfl (lv_at hl 0 rfl) ?_
        refine x_getO X Z 0 1 (v := .ref (d 1)) rfl rfl lk_X12_append_X12_wordLength dX12_append_46 ?_
        refine lv_iload_n hx hb dX12_append_49 rfl (lv_at hl 1 rfl) ?_
        obtain ⟨hin8, v9, hv10, h⟩ := ld_b h
        refine x_iald X Z 0 rfl hin8 hv10 dX12_append_50 ?_
        refine lv_iadd hx hb dX12_append_51 ?_
        refine lv_iload_n hx hb dX12_append_52 rfl (lv_at hl 2 rfl) ?_
        obtain ⟨hin11, word_12, hv13, h⟩ := st_b h
        refine x_iast X Z 1 (RW_X12_append cy o d wordLength_ word_12) rfl hin11 hv13 rfl dX12_append_53 (fun H locs Z => ?_)
        refine lv_aload_n hx hb dX12_append_54 rfl (lv_at hl 0 rfl) ?_
        refine x_getO X Z 0 1 (v := .ref (d 1)) rfl rfl lk_X12_append_X12_wordLength dX12_append_55 ?_
        refine lv_iload_n hx hb dX12_append_58 rfl (lv_at hl 1 rfl) ?_
        refine lv_dup2_11 hx hb dX12_append_59 rfl rfl ?_
        obtain ⟨hin14, v15, hv16, h⟩ := ld_b h
        refine x_iald X Z 0 rfl hin14 hv16 dX12_append_60 ?_
        refine lv_iconst (v := (1 : Int32)) hx hb dX12_append_61 (by decide) ?_
        refine lv_iadd hx hb dX12_append_62 ?_
        obtain ⟨hin17, wordLength_18, hv19, h⟩ := st_b h
        refine x_iast X Z 0 (RW_X12_append cy o d wordLength_18 word_12) rfl hin17 hv19 rfl dX12_append_63 (fun H locs Z => ?_)
        refine lv_aload_n hx hb dX12_append_64 rfl (lv_at hl 0 rfl) ?_
        refine x_getO X Z 0 1 (v := .ref (d 1)) rfl rfl lk_X12_append_X12_wordLength dX12_append_65 ?_
        refine lv_iload_n hx hb dX12_append_68 rfl (lv_at hl 1 rfl) ?_
        obtain ⟨hin20, v21, hv22, h⟩ := ld_b h
        refine x_iald X Z 0 rfl hin20 hv22 dX12_append_69 ?_
        obtain rfl := Option.some.inj h
        exact K H locs ls _ dX12_append_70 Z
      · replace h := ifp h cnd
        refine lv_bipush (v := (-3 : Int32)) hx hb dX12_append_34 (by decide) ?_
        obtain rfl := Option.some.inj h
        exact K H locs ls _ dX12_append_36 Z
    · replace h := ifp h cnd
      refine lv_iconst (v := (-1 : Int32)) hx hb dX12_append_21 (by decide) ?_
      obtain rfl := Option.some.inj h
      exact K H locs ls _ dX12_append_22 Z
theorem c_X12_append (l : Launch) (D : va_G) (cy : Nat → ClassId) (o : Nat) (d : Nat → Nat) (letters_ : Int32) (tests_ : Int32) (inputLength_ : Int32) (at_ : Int32) (signed_ : Int32) (newParts_ : Int32) (machineParts_ : Int32) (firstParts_ : Int32) (firstTruth_ : Int32) (secondTruth_ : Int32) (isPair_ : Int32) (states_ : Int32) (stateClasses_ : Int32) (elements_ : Int32) (cursor_ : Int32) (hasSnapshot_ : Int32) (isSaving_ : Int32) (wordLength_ : Nat → Int32) (word_ : Nat → Int32) (x1 : Int32) (x2 : Int32) (out : Int32 × (Nat → Int32) × (Nat → Int32)) (h : f_X12_append x1 x2 letters_ wordLength_ word_ = some out) : CtI l yX12_append wsX12_append rm_X12_append D cy [.ref o, .int x1, .int x2] (RW_X12_append cy o d wordLength_ word_) (RO_X12_append cy o d letters_ tests_ inputLength_ at_ signed_ newParts_ machineParts_ firstParts_ firstTruth_ secondTruth_ isPair_ states_ stateClasses_ elements_ cursor_ hasSnapshot_ isSaving_) (RW_X12_append cy o d out.2.1 out.2.2) out.1 :=
  mk_i (ty := .int) (by decide) rfl rfl (Nat.le_of_ble_eq_true rfl) (fun p e s m args below meth c A Q X K H locs ls Z hl => wt_X12_append o d letters_ tests_ inputLength_ at_ signed_ newParts_ machineParts_ firstParts_ firstTruth_ secondTruth_ isPair_ states_ stateClasses_ elements_ cursor_ hasSnapshot_ isSaving_ wordLength_ word_ x1 x2 out X h K H locs ls Z hl)
/-! SubwordCounterModel clearWord (I)I -/
abbrev rm_X12_clearWord : Room := { frames := 2, cells := 0, slots := 0, locals := 42 }
def RW_X12_clearWord (cy : Nat → ClassId) (o : Nat) (d : Nat → Nat) (wordLength_ : Nat → Int32) : va_W := [((d 1), aI cy 3 wordLength_)]
def RO_X12_clearWord (cy : Nat → ClassId) (o : Nat) (d : Nat → Nat) (letters_ : Int32) (tests_ : Int32) (inputLength_ : Int32) (at_ : Int32) (signed_ : Int32) (newParts_ : Int32) (machineParts_ : Int32) (firstParts_ : Int32) (firstTruth_ : Int32) (secondTruth_ : Int32) (isPair_ : Int32) (states_ : Int32) (stateClasses_ : Int32) (elements_ : Int32) (cursor_ : Int32) (hasSnapshot_ : Int32) (isSaving_ : Int32) : va_W := [(o, ob 11 (oX12 d letters_ tests_ inputLength_ at_ signed_ newParts_ machineParts_ firstParts_ firstTruth_ secondTruth_ isPair_ states_ stateClasses_ elements_ cursor_ hasSnapshot_ isSaving_))]
theorem in_X12_clearWord_X12 : ∀ w ∈ u_ws RX12 TX12 68, w ∈ wsX12_clearWord := fun w h => (List.mem_cons_of_mem _ (List.mem_append_right _ h))
theorem lk_X12_clearWord_X12_wordLength : Lk wsX12_clearWord RX12 13 11 1 := ⟨RX12, TX12, 68, rfl, by decide, in_X12_clearWord_X12, mem_at 1 rfl⟩
def f_X12_clearWord (x1 : Int32) (wordLength_ : Nat → Int32) : Option (Int32 × (Nat → Int32)) :=
  (f_X12_isWord x1).bind (fun u1 =>
  if u1 = 0 then
  (some ((-1 : Int32), wordLength_))
  else
  (ldA wordLength_ 3 x1 (fun v4 =>
  stA wordLength_ 3 x1 (0 : Int32) (fun wordLength_7 =>
  some (v4, wordLength_7)))))
set_option maxHeartbeats 4000000 in
set_option maxRecDepth 100000 in
theorem wt_X12_clearWord {p : Program} {l : Launch} {e : Env} {s : State} {m : MethodId} {args : Array Value} {below : List Frame} {meth : Method} {c : Code} {A : Nat → Prop} {Q : State → Prop} {D : va_G} {cy : Nat → ClassId} (o : Nat) (d : Nat → Nat) (letters_ : Int32) (tests_ : Int32) (inputLength_ : Int32) (at_ : Int32) (signed_ : Int32) (newParts_ : Int32) (machineParts_ : Int32) (firstParts_ : Int32) (firstTruth_ : Int32) (secondTruth_ : Int32) (isPair_ : Int32) (states_ : Int32) (stateClasses_ : Int32) (elements_ : Int32) (cursor_ : Int32) (hasSnapshot_ : Int32) (isSaving_ : Int32) (wordLength_ : Nat → Int32) (x1 : Int32) (out : Int32 × (Nat → Int32)) (X : Cx p m c cX12_clearWord 3 s args wsX12_clearWord RX12 A D cy (RO_X12_clearWord cy o d letters_ tests_ inputLength_ at_ signed_ newParts_ machineParts_ firstParts_ firstTruth_ secondTruth_ isPair_ states_ stateClasses_ elements_ cursor_ hasSnapshot_ isSaving_)) (h : f_X12_clearWord x1 wordLength_ = some out) (K : ∀ (H : Heap) (locs : List Loc) (ls : Array Slot) (pc : Nat), decode cX12_clearWord pc = .ok (.ireturn, 1) → St A D s (RW_X12_clearWord cy o d out.2) H locs → W p l e rm_X12_clearWord s m args below meth c H locs 0 0 Q (F0 m pc ls [.int out.1])) : ∀ (H : Heap) (locs : List Loc) (ls : Array Slot), St A D s (RW_X12_clearWord cy o d wordLength_) H locs → lv_has ls 3 [(0, .ref o), (1, .int x1)] → W p l e rm_X12_clearWord s m args below meth c H locs 0 0 Q (F0 m 0 ls []) := by
  intro H locs ls Z hl
  have hx := X.1.1
  have hb := X.1.2.1
  unfold f_X12_clearWord at h
  refine lv_iload_n hx hb dX12_clearWord_0 rfl (lv_at hl 1 rfl) ?_
  obtain ⟨u1, hc2, h⟩ := ob_some h
  refine x_runSi (RW' := (RW_X12_clearWord cy o d wordLength_)) (wr := [((d 1), aI cy 3 wordLength_)]) (isC := []) (isR := [0]) (isF := [0]) (rest := []) (As := [.int x1]) (n := 1) X Z (c_X12_isWord l D cy x1 u1 hc2) gX12_clearWord_X12_isWord rfl (by decide +kernel) ⟨Nat.le_of_ble_eq_true rfl, Nat.le_of_ble_eq_true rfl⟩ ⟨rfl, rfl⟩ ⟨Nat.le_of_ble_eq_true rfl, Nat.le_of_ble_eq_true rfl⟩ ⟨rfl, rfl, roN, rfl, rfl, by decide⟩ ⟨rfl, rfl⟩ rfl hl.1 rfl (Nat.le_of_ble_eq_true rfl) dX12_clearWord_1 (fun H locs Z => ?_)
  refine lv_if_ne (tgt := 9) hx hb dX12_clearWord_4 (by decide) (fun cnd => ?_) (fun cnd => ?_)
  · replace h := ifn h cnd
    refine lv_aload_n hx hb dX12_clearWord_9 rfl (lv_at hl 0 rfl) ?_
    refine x_getO X Z 0 1 (v := .ref (d 1)) rfl rfl lk_X12_clearWord_X12_wordLength dX12_clearWord_10 ?_
    refine lv_iload_n hx hb dX12_clearWord_13 rfl (lv_at hl 1 rfl) ?_
    obtain ⟨hin3, v4, hv5, h⟩ := ld_b h
    refine x_iald X Z 0 rfl hin3 hv5 dX12_clearWord_14 ?_
    refine lv_istore_n (lv' := [(2, .int v4), (0, .ref o), (1, .int x1)]) hx hb dX12_clearWord_15 rfl hl (by decide) rfl (fun ls hl => ?_)
    refine lv_aload_n hx hb dX12_clearWord_16 rfl (lv_at hl 1 rfl) ?_
    refine x_getO X Z 0 1 (v := .ref (d 1)) rfl rfl lk_X12_clearWord_X12_wordLength dX12_clearWord_17 ?_
    refine lv_iload_n hx hb dX12_clearWord_20 rfl (lv_at hl 2 rfl) ?_
    refine lv_iconst (v := (0 : Int32)) hx hb dX12_clearWord_21 (by decide) ?_
    obtain ⟨hin6, wordLength_7, hv8, h⟩ := st_b h
    refine x_iast X Z 0 (RW_X12_clearWord cy o d wordLength_7) rfl hin6 hv8 rfl dX12_clearWord_22 (fun H locs Z => ?_)
    refine lv_iload_n hx hb dX12_clearWord_23 rfl (lv_at hl 0 rfl) ?_
    obtain rfl := Option.some.inj h
    exact K H locs ls _ dX12_clearWord_24 Z
  · replace h := ifp h cnd
    refine lv_iconst (v := (-1 : Int32)) hx hb dX12_clearWord_7 (by decide) ?_
    obtain rfl := Option.some.inj h
    exact K H locs ls _ dX12_clearWord_8 Z
theorem c_X12_clearWord (l : Launch) (D : va_G) (cy : Nat → ClassId) (o : Nat) (d : Nat → Nat) (letters_ : Int32) (tests_ : Int32) (inputLength_ : Int32) (at_ : Int32) (signed_ : Int32) (newParts_ : Int32) (machineParts_ : Int32) (firstParts_ : Int32) (firstTruth_ : Int32) (secondTruth_ : Int32) (isPair_ : Int32) (states_ : Int32) (stateClasses_ : Int32) (elements_ : Int32) (cursor_ : Int32) (hasSnapshot_ : Int32) (isSaving_ : Int32) (wordLength_ : Nat → Int32) (x1 : Int32) (out : Int32 × (Nat → Int32)) (h : f_X12_clearWord x1 wordLength_ = some out) : CtI l yX12_clearWord wsX12_clearWord rm_X12_clearWord D cy [.ref o, .int x1] (RW_X12_clearWord cy o d wordLength_) (RO_X12_clearWord cy o d letters_ tests_ inputLength_ at_ signed_ newParts_ machineParts_ firstParts_ firstTruth_ secondTruth_ isPair_ states_ stateClasses_ elements_ cursor_ hasSnapshot_ isSaving_) (RW_X12_clearWord cy o d out.2) out.1 :=
  mk_i (ty := .int) (by decide) rfl rfl (Nat.le_of_ble_eq_true rfl) (fun p e s m args below meth c A Q X K H locs ls Z hl => wt_X12_clearWord o d letters_ tests_ inputLength_ at_ signed_ newParts_ machineParts_ firstParts_ firstTruth_ secondTruth_ isPair_ states_ stateClasses_ elements_ cursor_ hasSnapshot_ isSaving_ wordLength_ x1 out X h K H locs ls Z hl)
/-! SubwordCounterModel length (I)I -/
abbrev rm_X12_length : Room := { frames := 2, cells := 0, slots := 0, locals := 42 }
def RW_X12_length (cy : Nat → ClassId) (o : Nat) (d : Nat → Nat)  : va_W := []
def RO_X12_length (cy : Nat → ClassId) (o : Nat) (d : Nat → Nat) (letters_ : Int32) (tests_ : Int32) (inputLength_ : Int32) (at_ : Int32) (signed_ : Int32) (newParts_ : Int32) (machineParts_ : Int32) (firstParts_ : Int32) (firstTruth_ : Int32) (secondTruth_ : Int32) (isPair_ : Int32) (states_ : Int32) (stateClasses_ : Int32) (elements_ : Int32) (cursor_ : Int32) (hasSnapshot_ : Int32) (isSaving_ : Int32) (wordLength_ : Nat → Int32) : va_W := [(o, ob 11 (oX12 d letters_ tests_ inputLength_ at_ signed_ newParts_ machineParts_ firstParts_ firstTruth_ secondTruth_ isPair_ states_ stateClasses_ elements_ cursor_ hasSnapshot_ isSaving_)), ((d 1), aI cy 3 wordLength_)]
theorem in_X12_length_X12 : ∀ w ∈ u_ws RX12 TX12 68, w ∈ wsX12_length := fun w h => (List.mem_cons_of_mem _ (List.mem_append_right _ h))
theorem lk_X12_length_X12_wordLength : Lk wsX12_length RX12 13 11 1 := ⟨RX12, TX12, 68, rfl, by decide, in_X12_length_X12, mem_at 1 rfl⟩
def f_X12_length (x1 : Int32) (wordLength_ : Nat → Int32) : Option (Int32) :=
  (f_X12_isWord x1).bind (fun u1 =>
  if u1 = 0 then
  (some (-1 : Int32))
  else
  (ldA wordLength_ 3 x1 (fun v4 =>
  some v4)))
set_option maxHeartbeats 4000000 in
set_option maxRecDepth 100000 in
theorem wt_X12_length {p : Program} {l : Launch} {e : Env} {s : State} {m : MethodId} {args : Array Value} {below : List Frame} {meth : Method} {c : Code} {A : Nat → Prop} {Q : State → Prop} {D : va_G} {cy : Nat → ClassId} (o : Nat) (d : Nat → Nat) (letters_ : Int32) (tests_ : Int32) (inputLength_ : Int32) (at_ : Int32) (signed_ : Int32) (newParts_ : Int32) (machineParts_ : Int32) (firstParts_ : Int32) (firstTruth_ : Int32) (secondTruth_ : Int32) (isPair_ : Int32) (states_ : Int32) (stateClasses_ : Int32) (elements_ : Int32) (cursor_ : Int32) (hasSnapshot_ : Int32) (isSaving_ : Int32) (wordLength_ : Nat → Int32)  (x1 : Int32) (out : Int32) (X : Cx p m c cX12_length 2 s args wsX12_length RX12 A D cy (RO_X12_length cy o d letters_ tests_ inputLength_ at_ signed_ newParts_ machineParts_ firstParts_ firstTruth_ secondTruth_ isPair_ states_ stateClasses_ elements_ cursor_ hasSnapshot_ isSaving_ wordLength_)) (h : f_X12_length x1 wordLength_ = some out) (K : ∀ (H : Heap) (locs : List Loc) (ls : Array Slot) (pc : Nat), decode cX12_length pc = .ok (.ireturn, 1) → St A D s (RW_X12_length cy o d) H locs → W p l e rm_X12_length s m args below meth c H locs 0 0 Q (F0 m pc ls [.int out])) : ∀ (H : Heap) (locs : List Loc) (ls : Array Slot), St A D s (RW_X12_length cy o d) H locs → lv_has ls 2 [(0, .ref o), (1, .int x1)] → W p l e rm_X12_length s m args below meth c H locs 0 0 Q (F0 m 0 ls []) := by
  intro H locs ls Z hl
  have hx := X.1.1
  have hb := X.1.2.1
  unfold f_X12_length at h
  refine lv_iload_n hx hb dX12_length_0 rfl (lv_at hl 1 rfl) ?_
  obtain ⟨u1, hc2, h⟩ := ob_some h
  refine x_runSi (RW' := (RW_X12_length cy o d)) (wr := []) (isC := []) (isR := []) (isF := []) (rest := []) (As := [.int x1]) (n := 1) X Z (c_X12_isWord l D cy x1 u1 hc2) gX12_length_X12_isWord rfl (by decide +kernel) ⟨Nat.le_of_ble_eq_true rfl, Nat.le_of_ble_eq_true rfl⟩ ⟨rfl, rfl⟩ ⟨Nat.le_of_ble_eq_true rfl, Nat.le_of_ble_eq_true rfl⟩ ⟨rfl, rfl, roN, rfl, rfl, by decide⟩ ⟨rfl, rfl⟩ rfl hl.1 rfl (Nat.le_of_ble_eq_true rfl) dX12_length_1 (fun H locs Z => ?_)
  refine lv_if_eq (tgt := 16) hx hb dX12_length_4 (by decide) (fun cnd => ?_) (fun cnd => ?_)
  · replace h := ifp h cnd
    refine lv_iconst (v := (-1 : Int32)) hx hb dX12_length_16 (by decide) ?_
    obtain rfl := Option.some.inj h
    exact K H locs ls _ dX12_length_17 Z
  · replace h := ifn h cnd
    refine lv_aload_n hx hb dX12_length_7 rfl (lv_at hl 0 rfl) ?_
    refine x_getO X Z 0 1 (v := .ref (d 1)) rfl rfl lk_X12_length_X12_wordLength dX12_length_8 ?_
    refine lv_iload_n hx hb dX12_length_11 rfl (lv_at hl 1 rfl) ?_
    obtain ⟨hin3, v4, hv5, h⟩ := ld_b h
    refine x_ialdO X Z 1 rfl hin3 hv5 dX12_length_12 ?_
    refine lv_goto (tgt := 17) hx hb dX12_length_13 (by decide) ?_
    obtain rfl := Option.some.inj h
    exact K H locs ls _ dX12_length_17 Z
theorem c_X12_length (l : Launch) (D : va_G) (cy : Nat → ClassId) (o : Nat) (d : Nat → Nat) (letters_ : Int32) (tests_ : Int32) (inputLength_ : Int32) (at_ : Int32) (signed_ : Int32) (newParts_ : Int32) (machineParts_ : Int32) (firstParts_ : Int32) (firstTruth_ : Int32) (secondTruth_ : Int32) (isPair_ : Int32) (states_ : Int32) (stateClasses_ : Int32) (elements_ : Int32) (cursor_ : Int32) (hasSnapshot_ : Int32) (isSaving_ : Int32) (wordLength_ : Nat → Int32)  (x1 : Int32) (out : Int32) (h : f_X12_length x1 wordLength_ = some out) : CtI l yX12_length wsX12_length rm_X12_length D cy [.ref o, .int x1] (RW_X12_length cy o d) (RO_X12_length cy o d letters_ tests_ inputLength_ at_ signed_ newParts_ machineParts_ firstParts_ firstTruth_ secondTruth_ isPair_ states_ stateClasses_ elements_ cursor_ hasSnapshot_ isSaving_ wordLength_) (RW_X12_length cy o d) out :=
  mk_i (ty := .int) (by decide) rfl rfl (Nat.le_of_ble_eq_true rfl) (fun p e s m args below meth c A Q X K H locs ls Z hl => wt_X12_length o d letters_ tests_ inputLength_ at_ signed_ newParts_ machineParts_ firstParts_ firstTruth_ secondTruth_ isPair_ states_ stateClasses_ elements_ cursor_ hasSnapshot_ isSaving_ wordLength_ x1 out X h K H locs ls Z hl)
/-! SubwordCounterModel letter (II)I -/
abbrev rm_X12_letter : Room := { frames := 2, cells := 0, slots := 0, locals := 42 }
def RW_X12_letter (cy : Nat → ClassId) (o : Nat) (d : Nat → Nat)  : va_W := []
def RO_X12_letter (cy : Nat → ClassId) (o : Nat) (d : Nat → Nat) (letters_ : Int32) (tests_ : Int32) (inputLength_ : Int32) (at_ : Int32) (signed_ : Int32) (newParts_ : Int32) (machineParts_ : Int32) (firstParts_ : Int32) (firstTruth_ : Int32) (secondTruth_ : Int32) (isPair_ : Int32) (states_ : Int32) (stateClasses_ : Int32) (elements_ : Int32) (cursor_ : Int32) (hasSnapshot_ : Int32) (isSaving_ : Int32) (wordLength_ : Nat → Int32) (word_ : Nat → Int32) : va_W := [(o, ob 11 (oX12 d letters_ tests_ inputLength_ at_ signed_ newParts_ machineParts_ firstParts_ firstTruth_ secondTruth_ isPair_ states_ stateClasses_ elements_ cursor_ hasSnapshot_ isSaving_)), ((d 1), aI cy 3 wordLength_), ((d 2), aI cy 36 word_)]
theorem in_X12_letter_X12 : ∀ w ∈ u_ws RX12 TX12 68, w ∈ wsX12_letter := fun w h => (List.mem_cons_of_mem _ (List.mem_append_right _ h))
theorem lk_X12_letter_X12_wordLength : Lk wsX12_letter RX12 13 11 1 := ⟨RX12, TX12, 68, rfl, by decide, in_X12_letter_X12, mem_at 1 rfl⟩
theorem lk_X12_letter_X12_word : Lk wsX12_letter RX12 17 11 2 := ⟨RX12, TX12, 68, rfl, by decide, in_X12_letter_X12, mem_at 2 rfl⟩
def f_X12_letter (x1 : Int32) (x2 : Int32) (wordLength_ : Nat → Int32) (word_ : Nat → Int32) : Option (Int32) :=
  (f_X12_isWord x1).bind (fun u1 =>
  if u1 = 0 then
  (some (-1 : Int32))
  else
  (ldA wordLength_ 3 x1 (fun v4 =>
  (f_X12_isBetween x2 (0 : Int32) (v4 - (1 : Int32))).bind (fun u6 =>
  if u6 = 0 then
  (some (-2 : Int32))
  else
  (ldA word_ 36 (((12 : Int32) * x1) + x2) (fun v9 =>
  some v9))))))
set_option maxHeartbeats 4000000 in
set_option maxRecDepth 100000 in
theorem wt_X12_letter {p : Program} {l : Launch} {e : Env} {s : State} {m : MethodId} {args : Array Value} {below : List Frame} {meth : Method} {c : Code} {A : Nat → Prop} {Q : State → Prop} {D : va_G} {cy : Nat → ClassId} (o : Nat) (d : Nat → Nat) (letters_ : Int32) (tests_ : Int32) (inputLength_ : Int32) (at_ : Int32) (signed_ : Int32) (newParts_ : Int32) (machineParts_ : Int32) (firstParts_ : Int32) (firstTruth_ : Int32) (secondTruth_ : Int32) (isPair_ : Int32) (states_ : Int32) (stateClasses_ : Int32) (elements_ : Int32) (cursor_ : Int32) (hasSnapshot_ : Int32) (isSaving_ : Int32) (wordLength_ : Nat → Int32) (word_ : Nat → Int32)  (x1 : Int32) (x2 : Int32) (out : Int32) (X : Cx p m c cX12_letter 3 s args wsX12_letter RX12 A D cy (RO_X12_letter cy o d letters_ tests_ inputLength_ at_ signed_ newParts_ machineParts_ firstParts_ firstTruth_ secondTruth_ isPair_ states_ stateClasses_ elements_ cursor_ hasSnapshot_ isSaving_ wordLength_ word_)) (h : f_X12_letter x1 x2 wordLength_ word_ = some out) (K : ∀ (H : Heap) (locs : List Loc) (ls : Array Slot) (pc : Nat), decode cX12_letter pc = .ok (.ireturn, 1) → St A D s (RW_X12_letter cy o d) H locs → W p l e rm_X12_letter s m args below meth c H locs 0 0 Q (F0 m pc ls [.int out])) : ∀ (H : Heap) (locs : List Loc) (ls : Array Slot), St A D s (RW_X12_letter cy o d) H locs → lv_has ls 3 [(0, .ref o), (1, .int x1), (2, .int x2)] → W p l e rm_X12_letter s m args below meth c H locs 0 0 Q (F0 m 0 ls []) := by
  intro H locs ls Z hl
  have hx := X.1.1
  have hb := X.1.2.1
  unfold f_X12_letter at h
  refine lv_iload_n hx hb dX12_letter_0 rfl (lv_at hl 1 rfl) ?_
  obtain ⟨u1, hc2, h⟩ := ob_some h
  refine x_runSi (RW' := (RW_X12_letter cy o d)) (wr := []) (isC := []) (isR := []) (isF := []) (rest := []) (As := [.int x1]) (n := 1) X Z (c_X12_isWord l D cy x1 u1 hc2) gX12_letter_X12_isWord rfl (by decide +kernel) ⟨Nat.le_of_ble_eq_true rfl, Nat.le_of_ble_eq_true rfl⟩ ⟨rfl, rfl⟩ ⟨Nat.le_of_ble_eq_true rfl, Nat.le_of_ble_eq_true rfl⟩ ⟨rfl, rfl, roN, rfl, rfl, by decide⟩ ⟨rfl, rfl⟩ rfl hl.1 rfl (Nat.le_of_ble_eq_true rfl) dX12_letter_1 (fun H locs Z => ?_)
  refine lv_if_ne (tgt := 9) hx hb dX12_letter_4 (by decide) (fun cnd => ?_) (fun cnd => ?_)
  · replace h := ifn h cnd
    refine lv_iload_n hx hb dX12_letter_9 rfl (lv_at hl 2 rfl) ?_
    refine lv_iconst (v := (0 : Int32)) hx hb dX12_letter_10 (by decide) ?_
    refine lv_aload_n hx hb dX12_letter_11 rfl (lv_at hl 0 rfl) ?_
    refine x_getO X Z 0 1 (v := .ref (d 1)) rfl rfl lk_X12_letter_X12_wordLength dX12_letter_12 ?_
    refine lv_iload_n hx hb dX12_letter_15 rfl (lv_at hl 1 rfl) ?_
    obtain ⟨hin3, v4, hv5, h⟩ := ld_b h
    refine x_ialdO X Z 1 rfl hin3 hv5 dX12_letter_16 ?_
    refine lv_iconst (v := (1 : Int32)) hx hb dX12_letter_17 (by decide) ?_
    refine lv_isub hx hb dX12_letter_18 ?_
    obtain ⟨u6, hc7, h⟩ := ob_some h
    refine x_runSi (RW' := (RW_X12_letter cy o d)) (wr := []) (isC := []) (isR := []) (isF := []) (rest := []) (As := [.int x2, .int (0 : Int32), .int (v4 - (1 : Int32))]) (n := 3) X Z (c_X12_isBetween l D cy x2 (0 : Int32) (v4 - (1 : Int32)) u6 hc7) gX12_letter_X12_isBetween rfl (by decide +kernel) ⟨Nat.le_of_ble_eq_true rfl, Nat.le_of_ble_eq_true rfl⟩ ⟨rfl, rfl⟩ ⟨Nat.le_of_ble_eq_true rfl, Nat.le_of_ble_eq_true rfl⟩ ⟨rfl, rfl, roN, rfl, rfl, by decide⟩ ⟨rfl, rfl⟩ rfl hl.1 rfl (Nat.le_of_ble_eq_true rfl) dX12_letter_19 (fun H locs Z => ?_)
    refine lv_if_eq (tgt := 39) hx hb dX12_letter_22 (by decide) (fun cnd => ?_) (fun cnd => ?_)
    · replace h := ifp h cnd
      refine lv_bipush (v := (-2 : Int32)) hx hb dX12_letter_39 (by decide) ?_
      obtain rfl := Option.some.inj h
      exact K H locs ls _ dX12_letter_41 Z
    · replace h := ifn h cnd
      refine lv_aload_n hx hb dX12_letter_25 rfl (lv_at hl 0 rfl) ?_
      refine x_getO X Z 0 2 (v := .ref (d 2)) rfl rfl lk_X12_letter_X12_word dX12_letter_26 ?_
      refine lv_bipush (v := (12 : Int32)) hx hb dX12_letter_29 (by decide) ?_
      refine lv_iload_n hx hb dX12_letter_31 rfl (lv_at hl 1 rfl) ?_
      refine lv_imul hx hb dX12_letter_32 ?_
      refine lv_iload_n hx hb dX12_letter_33 rfl (lv_at hl 2 rfl) ?_
      refine lv_iadd hx hb dX12_letter_34 ?_
      obtain ⟨hin8, v9, hv10, h⟩ := ld_b h
      refine x_ialdO X Z 2 rfl hin8 hv10 dX12_letter_35 ?_
      refine lv_goto (tgt := 41) hx hb dX12_letter_36 (by decide) ?_
      obtain rfl := Option.some.inj h
      exact K H locs ls _ dX12_letter_41 Z
  · replace h := ifp h cnd
    refine lv_iconst (v := (-1 : Int32)) hx hb dX12_letter_7 (by decide) ?_
    obtain rfl := Option.some.inj h
    exact K H locs ls _ dX12_letter_8 Z
theorem c_X12_letter (l : Launch) (D : va_G) (cy : Nat → ClassId) (o : Nat) (d : Nat → Nat) (letters_ : Int32) (tests_ : Int32) (inputLength_ : Int32) (at_ : Int32) (signed_ : Int32) (newParts_ : Int32) (machineParts_ : Int32) (firstParts_ : Int32) (firstTruth_ : Int32) (secondTruth_ : Int32) (isPair_ : Int32) (states_ : Int32) (stateClasses_ : Int32) (elements_ : Int32) (cursor_ : Int32) (hasSnapshot_ : Int32) (isSaving_ : Int32) (wordLength_ : Nat → Int32) (word_ : Nat → Int32)  (x1 : Int32) (x2 : Int32) (out : Int32) (h : f_X12_letter x1 x2 wordLength_ word_ = some out) : CtI l yX12_letter wsX12_letter rm_X12_letter D cy [.ref o, .int x1, .int x2] (RW_X12_letter cy o d) (RO_X12_letter cy o d letters_ tests_ inputLength_ at_ signed_ newParts_ machineParts_ firstParts_ firstTruth_ secondTruth_ isPair_ states_ stateClasses_ elements_ cursor_ hasSnapshot_ isSaving_ wordLength_ word_) (RW_X12_letter cy o d) out :=
  mk_i (ty := .int) (by decide) rfl rfl (Nat.le_of_ble_eq_true rfl) (fun p e s m args below meth c A Q X K H locs ls Z hl => wt_X12_letter o d letters_ tests_ inputLength_ at_ signed_ newParts_ machineParts_ firstParts_ firstTruth_ secondTruth_ isPair_ states_ stateClasses_ elements_ cursor_ hasSnapshot_ isSaving_ wordLength_ word_ x1 x2 out X h K H locs ls Z hl)
/-! SubwordCounterModel reverse (I)I -/
abbrev rm_X12_reverse : Room := { frames := 2, cells := 0, slots := 0, locals := 42 }
def RW_X12_reverse (cy : Nat → ClassId) (o : Nat) (d : Nat → Nat) (word_ : Nat → Int32) : va_W := [((d 2), aI cy 36 word_)]
def RO_X12_reverse (cy : Nat → ClassId) (o : Nat) (d : Nat → Nat) (letters_ : Int32) (tests_ : Int32) (inputLength_ : Int32) (at_ : Int32) (signed_ : Int32) (newParts_ : Int32) (machineParts_ : Int32) (firstParts_ : Int32) (firstTruth_ : Int32) (secondTruth_ : Int32) (isPair_ : Int32) (states_ : Int32) (stateClasses_ : Int32) (elements_ : Int32) (cursor_ : Int32) (hasSnapshot_ : Int32) (isSaving_ : Int32) (wordLength_ : Nat → Int32) : va_W := [(o, ob 11 (oX12 d letters_ tests_ inputLength_ at_ signed_ newParts_ machineParts_ firstParts_ firstTruth_ secondTruth_ isPair_ states_ stateClasses_ elements_ cursor_ hasSnapshot_ isSaving_)), ((d 1), aI cy 3 wordLength_)]
theorem in_X12_reverse_X12 : ∀ w ∈ u_ws RX12 TX12 68, w ∈ wsX12_reverse := fun w h => (List.mem_cons_of_mem _ (List.mem_append_right _ h))
theorem lk_X12_reverse_X12_word : Lk wsX12_reverse RX12 17 11 2 := ⟨RX12, TX12, 68, rfl, by decide, in_X12_reverse_X12, mem_at 2 rfl⟩
theorem lk_X12_reverse_X12_wordLength : Lk wsX12_reverse RX12 13 11 1 := ⟨RX12, TX12, 68, rfl, by decide, in_X12_reverse_X12, mem_at 1 rfl⟩
def j_X12_reverse_77 (word_ : Nat → Int32) (x4 : Int32) (x5 : Int32) (x6 : Int32) (x7 : Int32) (t0 : Int32) : Option (((Nat → Int32) × Int32 × Int32) ⊕ ((Nat → Int32) × Int32)) :=
  ldA word_ 36 x6 (fun v2 =>
  stA word_ 36 x5 v2 (fun word_5 =>
  stA word_5 36 x6 x7 (fun word_8 =>
  some (.inl (word_8, t0, (x4 + (1 : Int32)))))))
set_option maxHeartbeats 4000000 in
set_option maxRecDepth 100000 in
theorem jw_X12_reverse_77 {p : Program} {l : Launch} {e : Env} {s : State} {m : MethodId} {args : Array Value} {below : List Frame} {meth : Method} {c : Code} {A : Nat → Prop} {Q : State → Prop} {D : va_G} {cy : Nat → ClassId} (o : Nat) (d : Nat → Nat) (letters_ : Int32) (tests_ : Int32) (inputLength_ : Int32) (at_ : Int32) (signed_ : Int32) (newParts_ : Int32) (machineParts_ : Int32) (firstParts_ : Int32) (firstTruth_ : Int32) (secondTruth_ : Int32) (isPair_ : Int32) (states_ : Int32) (stateClasses_ : Int32) (elements_ : Int32) (cursor_ : Int32) (hasSnapshot_ : Int32) (isSaving_ : Int32) (wordLength_ : Nat → Int32) (word_ : Nat → Int32) (x1 : Int32) (x3 : Int32) (x4 : Int32) (x5 : Int32) (x6 : Int32) (x7 : Int32) (t0 : Int32) (o1 : ((Nat → Int32) × Int32 × Int32) ⊕ ((Nat → Int32) × Int32)) (X : Cx p m c cX12_reverse 8 s args wsX12_reverse RX12 A D cy (RO_X12_reverse cy o d letters_ tests_ inputLength_ at_ signed_ newParts_ machineParts_ firstParts_ firstTruth_ secondTruth_ isPair_ states_ stateClasses_ elements_ cursor_ hasSnapshot_ isSaving_ wordLength_)) (h : j_X12_reverse_77 word_ x4 x5 x6 x7 t0 = some o1) (K : Sum.elim (fun v : (Nat → Int32) × Int32 × Int32 => ∀ (H : Heap) (locs : List Loc) (ls : Array Slot), St A D s (RW_X12_reverse cy o d v.1) H locs → lv_has ls 8 [(0, .ref o), (1, .int x1), (2, .int v.2.1), (3, .int x3), (4, .int v.2.2)] → W p l e rm_X12_reverse s m args below meth c H locs 0 0 Q (F0 m 21 ls [])) (fun v : (Nat → Int32) × Int32 => ∀ (H : Heap) (locs : List Loc) (ls : Array Slot), St A D s (RW_X12_reverse cy o d v.1) H locs → lv_has ls 8 [(2, .int v.2)] → W p l e rm_X12_reverse s m args below meth c H locs 0 0 Q (F0 m 107 ls [])) o1) : ∀ (H : Heap) (locs : List Loc) (ls : Array Slot), St A D s (RW_X12_reverse cy o d word_) H locs → lv_has ls 8 [(0, .ref o), (1, .int x1), (3, .int x3), (4, .int x4), (5, .int x5), (6, .int x6), (7, .int x7)] → W p l e rm_X12_reverse s m args below meth c H locs 0 0 Q (F0 m 77 ls [.int t0]) := by
  intro H locs ls Z hl
  have hx := X.1.1
  have hb := X.1.2.1
  unfold j_X12_reverse_77 at h
  refine lv_istore_n (lv' := [(2, .int t0), (0, .ref o), (1, .int x1), (3, .int x3), (4, .int x4), (5, .int x5), (6, .int x6), (7, .int x7)]) hx hb dX12_reverse_77 rfl hl (by decide) rfl (fun ls hl => ?_)
  refine lv_aload_n hx hb dX12_reverse_78 rfl (lv_at hl 1 rfl) ?_
  refine x_getO X Z 0 2 (v := .ref (d 2)) rfl rfl lk_X12_reverse_X12_word dX12_reverse_79 ?_
  refine lv_iload hx hb dX12_reverse_82 (lv_at hl 5 rfl) ?_
  refine lv_aload_n hx hb dX12_reverse_84 rfl (lv_at hl 1 rfl) ?_
  refine x_getO X Z 0 2 (v := .ref (d 2)) rfl rfl lk_X12_reverse_X12_word dX12_reverse_85 ?_
  refine lv_iload hx hb dX12_reverse_88 (lv_at hl 6 rfl) ?_
  obtain ⟨hin1, v2, hv3, h⟩ := ld_b h
  refine x_iald X Z 0 rfl hin1 hv3 dX12_reverse_90 ?_
  obtain ⟨hin4, word_5, hv6, h⟩ := st_b h
  refine x_iast X Z 0 (RW_X12_reverse cy o d word_5) rfl hin4 hv6 rfl dX12_reverse_91 (fun H locs Z => ?_)
  refine lv_aload_n hx hb dX12_reverse_92 rfl (lv_at hl 1 rfl) ?_
  refine x_getO X Z 0 2 (v := .ref (d 2)) rfl rfl lk_X12_reverse_X12_word dX12_reverse_93 ?_
  refine lv_iload hx hb dX12_reverse_96 (lv_at hl 6 rfl) ?_
  refine lv_iload hx hb dX12_reverse_98 (lv_at hl 7 rfl) ?_
  obtain ⟨hin7, word_8, hv9, h⟩ := st_b h
  refine x_iast X Z 0 (RW_X12_reverse cy o d word_8) rfl hin7 hv9 rfl dX12_reverse_100 (fun H locs Z => ?_)
  refine lv_iinc (v := (x4 + (1 : Int32))) (lv' := [(4, .int (x4 + (1 : Int32))), (2, .int t0), (0, .ref o), (1, .int x1), (3, .int x3), (5, .int x5), (6, .int x6), (7, .int x7)]) hx hb dX12_reverse_101 hl (k := 4) rfl rfl (by decide) rfl (fun ls hl => ?_)
  refine lv_goto (tgt := 21) hx hb dX12_reverse_104 (by decide) ?_
  obtain rfl := Option.some.inj h
  exact sk_l K H locs ls Z (lv_sub hl [2, 3, 1, 4, 0] rfl)
def b_X12_reverse_21  (x1 : Int32) (x3 : Int32) (word_ : Nat → Int32) (x2 : Int32) (x4 : Int32) : Option (((Nat → Int32) × Int32 × Int32) ⊕ ((Nat → Int32) × Int32)) :=
  if x3 ≤ ((2 : Int32) * x4) then
  (some (.inr (word_, x2)))
  else
  (ldA word_ 36 (((12 : Int32) * x1) + x4) (fun v11 =>
  ldA word_ 36 (((((12 : Int32) * x1) + x3) - (1 : Int32)) - x4) (fun v14 =>
  if v11 = v14 then
  (j_X12_reverse_77 word_ x4 (((12 : Int32) * x1) + x4) (((((12 : Int32) * x1) + x3) - (1 : Int32)) - x4) v11 x2)
  else
  (j_X12_reverse_77 word_ x4 (((12 : Int32) * x1) + x4) (((((12 : Int32) * x1) + x3) - (1 : Int32)) - x4) v11 (0 : Int32)))))
set_option maxHeartbeats 4000000 in
set_option maxRecDepth 100000 in
theorem wb_X12_reverse_21 {p : Program} {l : Launch} {e : Env} {s : State} {m : MethodId} {args : Array Value} {below : List Frame} {meth : Method} {c : Code} {A : Nat → Prop} {Q : State → Prop} {D : va_G} {cy : Nat → ClassId} (o : Nat) (d : Nat → Nat) (letters_ : Int32) (tests_ : Int32) (inputLength_ : Int32) (at_ : Int32) (signed_ : Int32) (newParts_ : Int32) (machineParts_ : Int32) (firstParts_ : Int32) (firstTruth_ : Int32) (secondTruth_ : Int32) (isPair_ : Int32) (states_ : Int32) (stateClasses_ : Int32) (elements_ : Int32) (cursor_ : Int32) (hasSnapshot_ : Int32) (isSaving_ : Int32) (wordLength_ : Nat → Int32)  (x1 : Int32) (x3 : Int32) (word_ : Nat → Int32) (x2 : Int32) (x4 : Int32) (o1 : ((Nat → Int32) × Int32 × Int32) ⊕ ((Nat → Int32) × Int32)) (X : Cx p m c cX12_reverse 8 s args wsX12_reverse RX12 A D cy (RO_X12_reverse cy o d letters_ tests_ inputLength_ at_ signed_ newParts_ machineParts_ firstParts_ firstTruth_ secondTruth_ isPair_ states_ stateClasses_ elements_ cursor_ hasSnapshot_ isSaving_ wordLength_)) (h : b_X12_reverse_21 x1 x3 word_ x2 x4 = some o1) (K : Sum.elim (fun v : (Nat → Int32) × Int32 × Int32 => ∀ (H : Heap) (locs : List Loc) (ls : Array Slot), St A D s (RW_X12_reverse cy o d v.1) H locs → lv_has ls 8 [(0, .ref o), (1, .int x1), (2, .int v.2.1), (3, .int x3), (4, .int v.2.2)] → W p l e rm_X12_reverse s m args below meth c H locs 0 0 Q (F0 m 21 ls [])) (fun v : (Nat → Int32) × Int32 => ∀ (H : Heap) (locs : List Loc) (ls : Array Slot), St A D s (RW_X12_reverse cy o d v.1) H locs → lv_has ls 8 [(2, .int v.2)] → W p l e rm_X12_reverse s m args below meth c H locs 0 0 Q (F0 m 107 ls [])) o1) : ∀ (H : Heap) (locs : List Loc) (ls : Array Slot), St A D s (RW_X12_reverse cy o d word_) H locs → lv_has ls 8 [(0, .ref o), (1, .int x1), (2, .int x2), (3, .int x3), (4, .int x4)] → W p l e rm_X12_reverse s m args below meth c H locs 0 0 Q (F0 m 21 ls []) := by
  intro H locs ls Z hl
  have hx := X.1.1
  have hb := X.1.2.1
  unfold b_X12_reverse_21 at h
  refine lv_iconst (v := (2 : Int32)) hx hb dX12_reverse_21 (by decide) ?_
  refine lv_iload hx hb dX12_reverse_22 (lv_at hl 4 rfl) ?_
  refine lv_imul hx hb dX12_reverse_24 ?_
  refine lv_iload_n hx hb dX12_reverse_25 rfl (lv_at hl 3 rfl) ?_
  refine lv_icmp_ge (tgt := 107) hx hb dX12_reverse_26 (by decide) (fun cnd => ?_) (fun cnd => ?_)
  · replace h := ifp h cnd
    obtain rfl := Option.some.inj h
    exact (sk_r K) H locs ls Z (lv_sub hl [2] rfl)
  · replace h := ifn h cnd
    refine lv_bipush (v := (12 : Int32)) hx hb dX12_reverse_29 (by decide) ?_
    refine lv_iload_n hx hb dX12_reverse_31 rfl (lv_at hl 1 rfl) ?_
    refine lv_imul hx hb dX12_reverse_32 ?_
    refine lv_iload hx hb dX12_reverse_33 (lv_at hl 4 rfl) ?_
    refine lv_iadd hx hb dX12_reverse_35 ?_
    refine lv_istore (lv' := [(5, .int (((12 : Int32) * x1) + x4)), (0, .ref o), (1, .int x1), (2, .int x2), (3, .int x3), (4, .int x4)]) hx hb dX12_reverse_36 hl (by decide) rfl (fun ls hl => ?_)
    refine lv_bipush (v := (12 : Int32)) hx hb dX12_reverse_38 (by decide) ?_
    refine lv_iload_n hx hb dX12_reverse_40 rfl (lv_at hl 2 rfl) ?_
    refine lv_imul hx hb dX12_reverse_41 ?_
    refine lv_iload_n hx hb dX12_reverse_42 rfl (lv_at hl 4 rfl) ?_
    refine lv_iadd hx hb dX12_reverse_43 ?_
    refine lv_iconst (v := (1 : Int32)) hx hb dX12_reverse_44 (by decide) ?_
    refine lv_isub hx hb dX12_reverse_45 ?_
    refine lv_iload hx hb dX12_reverse_46 (lv_at hl 5 rfl) ?_
    refine lv_isub hx hb dX12_reverse_48 ?_
    refine lv_istore (lv' := [(6, .int (((((12 : Int32) * x1) + x3) - (1 : Int32)) - x4)), (5, .int (((12 : Int32) * x1) + x4)), (0, .ref o), (1, .int x1), (2, .int x2), (3, .int x3), (4, .int x4)]) hx hb dX12_reverse_49 hl (by decide) rfl (fun ls hl => ?_)
    refine lv_aload_n hx hb dX12_reverse_51 rfl (lv_at hl 2 rfl) ?_
    refine x_getO X Z 0 2 (v := .ref (d 2)) rfl rfl lk_X12_reverse_X12_word dX12_reverse_52 ?_
    refine lv_iload hx hb dX12_reverse_55 (lv_at hl 1 rfl) ?_
    obtain ⟨hin10, v11, hv12, h⟩ := ld_b h
    refine x_iald X Z 0 rfl hin10 hv12 dX12_reverse_57 ?_
    refine lv_istore (lv' := [(7, .int v11), (6, .int (((((12 : Int32) * x1) + x3) - (1 : Int32)) - x4)), (5, .int (((12 : Int32) * x1) + x4)), (0, .ref o), (1, .int x1), (2, .int x2), (3, .int x3), (4, .int x4)]) hx hb dX12_reverse_58 hl (by decide) rfl (fun ls hl => ?_)
    refine lv_iload hx hb dX12_reverse_60 (lv_at hl 0 rfl) ?_
    refine lv_aload_n hx hb dX12_reverse_62 rfl (lv_at hl 3 rfl) ?_
    refine x_getO X Z 0 2 (v := .ref (d 2)) rfl rfl lk_X12_reverse_X12_word dX12_reverse_63 ?_
    refine lv_iload hx hb dX12_reverse_66 (lv_at hl 1 rfl) ?_
    obtain ⟨hin13, v14, hv15, h⟩ := ld_b h
    refine x_iald X Z 0 rfl hin13 hv15 dX12_reverse_68 ?_
    refine lv_icmp_ne (tgt := 76) hx hb dX12_reverse_69 (by decide) (fun cnd => ?_) (fun cnd => ?_)
    · replace h := ifn h cnd
      refine lv_iconst (v := (0 : Int32)) hx hb dX12_reverse_76 (by decide) ?_
      exact jw_X12_reverse_77 o d letters_ tests_ inputLength_ at_ signed_ newParts_ machineParts_ firstParts_ firstTruth_ secondTruth_ isPair_ states_ stateClasses_ elements_ cursor_ hasSnapshot_ isSaving_ wordLength_ word_ x1 x3 x4 (((12 : Int32) * x1) + x4) (((((12 : Int32) * x1) + x3) - (1 : Int32)) - x4) v11 (0 : Int32) _ X h K H locs ls Z (lv_sub hl [3, 4, 6, 7, 2, 1, 0] rfl)
    · replace h := ifp h cnd
      refine lv_iload_n hx hb dX12_reverse_72 rfl (lv_at hl 5 rfl) ?_
      refine lv_goto (tgt := 77) hx hb dX12_reverse_73 (by decide) ?_
      exact jw_X12_reverse_77 o d letters_ tests_ inputLength_ at_ signed_ newParts_ machineParts_ firstParts_ firstTruth_ secondTruth_ isPair_ states_ stateClasses_ elements_ cursor_ hasSnapshot_ isSaving_ wordLength_ word_ x1 x3 x4 (((12 : Int32) * x1) + x4) (((((12 : Int32) * x1) + x3) - (1 : Int32)) - x4) v11 x2 _ X h K H locs ls Z (lv_sub hl [3, 4, 6, 7, 2, 1, 0] rfl)
set_option maxHeartbeats 4000000 in
set_option maxRecDepth 100000 in
theorem wl_X12_reverse_21 {p : Program} {l : Launch} {e : Env} {s : State} {m : MethodId} {args : Array Value} {below : List Frame} {meth : Method} {c : Code} {A : Nat → Prop} {Q : State → Prop} {D : va_G} {cy : Nat → ClassId} (o : Nat) (d : Nat → Nat) (letters_ : Int32) (tests_ : Int32) (inputLength_ : Int32) (at_ : Int32) (signed_ : Int32) (newParts_ : Int32) (machineParts_ : Int32) (firstParts_ : Int32) (firstTruth_ : Int32) (secondTruth_ : Int32) (isPair_ : Int32) (states_ : Int32) (stateClasses_ : Int32) (elements_ : Int32) (cursor_ : Int32) (hasSnapshot_ : Int32) (isSaving_ : Int32) (wordLength_ : Nat → Int32)  (x1 : Int32) (x3 : Int32) (n : Nat) (v : (Nat → Int32) × Int32 × Int32) (x : (Nat → Int32) × Int32) (X : Cx p m c cX12_reverse 8 s args wsX12_reverse RX12 A D cy (RO_X12_reverse cy o d letters_ tests_ inputLength_ at_ signed_ newParts_ machineParts_ firstParts_ firstTruth_ secondTruth_ isPair_ states_ stateClasses_ elements_ cursor_ hasSnapshot_ isSaving_ wordLength_)) (h : loopN (fun v => b_X12_reverse_21 x1 x3 v.1 v.2.1 v.2.2) n v = some x) (K : ∀ (H : Heap) (locs : List Loc) (ls : Array Slot), St A D s (RW_X12_reverse cy o d x.1) H locs → lv_has ls 8 [(2, .int x.2)] → W p l e rm_X12_reverse s m args below meth c H locs 0 0 Q (F0 m 107 ls [])) : ∀ (H : Heap) (locs : List Loc) (ls : Array Slot), St A D s (RW_X12_reverse cy o d v.1) H locs → lv_has ls 8 [(0, .ref o), (1, .int x1), (2, .int v.2.1), (3, .int x3), (4, .int v.2.2)] → W p l e rm_X12_reverse s m args below meth c H locs 0 0 Q (F0 m 21 ls []) :=
  loop_gen (B := (fun v => b_X12_reverse_21 x1 x3 v.1 v.2.1 v.2.2)) (Head := fun v : (Nat → Int32) × Int32 × Int32 => ∀ (H : Heap) (locs : List Loc) (ls : Array Slot), St A D s (RW_X12_reverse cy o d v.1) H locs → lv_has ls 8 [(0, .ref o), (1, .int x1), (2, .int v.2.1), (3, .int x3), (4, .int v.2.2)] → W p l e rm_X12_reverse s m args below meth c H locs 0 0 Q (F0 m 21 ls [])) (Exit := fun v : (Nat → Int32) × Int32 => ∀ (H : Heap) (locs : List Loc) (ls : Array Slot), St A D s (RW_X12_reverse cy o d v.1) H locs → lv_has ls 8 [(2, .int v.2)] → W p l e rm_X12_reverse s m args below meth c H locs 0 0 Q (F0 m 107 ls [])) (fun v o9 hb1 K1 => wb_X12_reverse_21 o d letters_ tests_ inputLength_ at_ signed_ newParts_ machineParts_ firstParts_ firstTruth_ secondTruth_ isPair_ states_ stateClasses_ elements_ cursor_ hasSnapshot_ isSaving_ wordLength_ x1 x3 v.1 v.2.1 v.2.2 o9 X hb1 K1) n v x h K
def f_X12_reverse (x1 : Int32) (wordLength_ : Nat → Int32) (word_ : Nat → Int32) : Option (Int32 × (Nat → Int32)) :=
  (f_X12_isWord x1).bind (fun u16 =>
  if u16 = 0 then
  (some ((-1 : Int32), word_))
  else
  (ldA wordLength_ 3 x1 (fun v19 =>
  (loopN (fun v => b_X12_reverse_21 x1 v19 v.1 v.2.1 v.2.2) FU (word_, (1 : Int32), (0 : Int32))).bind (fun u21 =>
  some (u21.2, u21.1)))))
set_option maxHeartbeats 4000000 in
set_option maxRecDepth 100000 in
theorem wt_X12_reverse {p : Program} {l : Launch} {e : Env} {s : State} {m : MethodId} {args : Array Value} {below : List Frame} {meth : Method} {c : Code} {A : Nat → Prop} {Q : State → Prop} {D : va_G} {cy : Nat → ClassId} (o : Nat) (d : Nat → Nat) (letters_ : Int32) (tests_ : Int32) (inputLength_ : Int32) (at_ : Int32) (signed_ : Int32) (newParts_ : Int32) (machineParts_ : Int32) (firstParts_ : Int32) (firstTruth_ : Int32) (secondTruth_ : Int32) (isPair_ : Int32) (states_ : Int32) (stateClasses_ : Int32) (elements_ : Int32) (cursor_ : Int32) (hasSnapshot_ : Int32) (isSaving_ : Int32) (wordLength_ : Nat → Int32) (word_ : Nat → Int32) (x1 : Int32) (out : Int32 × (Nat → Int32)) (X : Cx p m c cX12_reverse 8 s args wsX12_reverse RX12 A D cy (RO_X12_reverse cy o d letters_ tests_ inputLength_ at_ signed_ newParts_ machineParts_ firstParts_ firstTruth_ secondTruth_ isPair_ states_ stateClasses_ elements_ cursor_ hasSnapshot_ isSaving_ wordLength_)) (h : f_X12_reverse x1 wordLength_ word_ = some out) (K : ∀ (H : Heap) (locs : List Loc) (ls : Array Slot) (pc : Nat), decode cX12_reverse pc = .ok (.ireturn, 1) → St A D s (RW_X12_reverse cy o d out.2) H locs → W p l e rm_X12_reverse s m args below meth c H locs 0 0 Q (F0 m pc ls [.int out.1])) : ∀ (H : Heap) (locs : List Loc) (ls : Array Slot), St A D s (RW_X12_reverse cy o d word_) H locs → lv_has ls 8 [(0, .ref o), (1, .int x1)] → W p l e rm_X12_reverse s m args below meth c H locs 0 0 Q (F0 m 0 ls []) := by
  intro H locs ls Z hl
  have hx := X.1.1
  have hb := X.1.2.1
  unfold f_X12_reverse at h
  refine lv_iload_n hx hb dX12_reverse_0 rfl (lv_at hl 1 rfl) ?_
  obtain ⟨u16, hc17, h⟩ := ob_some h
  refine x_runSi (RW' := (RW_X12_reverse cy o d word_)) (wr := [((d 2), aI cy 36 word_)]) (isC := []) (isR := [0]) (isF := [0]) (rest := []) (As := [.int x1]) (n := 1) X Z (c_X12_isWord l D cy x1 u16 hc17) gX12_reverse_X12_isWord rfl (by decide +kernel) ⟨Nat.le_of_ble_eq_true rfl, Nat.le_of_ble_eq_true rfl⟩ ⟨rfl, rfl⟩ ⟨Nat.le_of_ble_eq_true rfl, Nat.le_of_ble_eq_true rfl⟩ ⟨rfl, rfl, roN, rfl, rfl, by decide⟩ ⟨rfl, rfl⟩ rfl hl.1 rfl (Nat.le_of_ble_eq_true rfl) dX12_reverse_1 (fun H locs Z => ?_)
  refine lv_if_ne (tgt := 9) hx hb dX12_reverse_4 (by decide) (fun cnd => ?_) (fun cnd => ?_)
  · replace h := ifn h cnd
    refine lv_iconst (v := (1 : Int32)) hx hb dX12_reverse_9 (by decide) ?_
    refine lv_istore_n (lv' := [(2, .int (1 : Int32)), (0, .ref o), (1, .int x1)]) hx hb dX12_reverse_10 rfl hl (by decide) rfl (fun ls hl => ?_)
    refine lv_aload_n hx hb dX12_reverse_11 rfl (lv_at hl 1 rfl) ?_
    refine x_getO X Z 0 1 (v := .ref (d 1)) rfl rfl lk_X12_reverse_X12_wordLength dX12_reverse_12 ?_
    refine lv_iload_n hx hb dX12_reverse_15 rfl (lv_at hl 2 rfl) ?_
    obtain ⟨hin18, v19, hv20, h⟩ := ld_b h
    refine x_ialdO X Z 1 rfl hin18 hv20 dX12_reverse_16 ?_
    refine lv_istore_n (lv' := [(3, .int v19), (2, .int (1 : Int32)), (0, .ref o), (1, .int x1)]) hx hb dX12_reverse_17 rfl hl (by decide) rfl (fun ls hl => ?_)
    refine lv_iconst (v := (0 : Int32)) hx hb dX12_reverse_18 (by decide) ?_
    refine lv_istore (lv' := [(4, .int (0 : Int32)), (3, .int v19), (2, .int (1 : Int32)), (0, .ref o), (1, .int x1)]) hx hb dX12_reverse_19 hl (by decide) rfl (fun ls hl => ?_)
    obtain ⟨u21, hL22, h⟩ := ob_some h
    refine wl_X12_reverse_21 o d letters_ tests_ inputLength_ at_ signed_ newParts_ machineParts_ firstParts_ firstTruth_ secondTruth_ isPair_ states_ stateClasses_ elements_ cursor_ hasSnapshot_ isSaving_ wordLength_ x1 v19 FU (word_, (1 : Int32), (0 : Int32)) u21 X hL22 (fun H locs ls Z hl => ?_) H locs ls Z (lv_sub hl [3, 4, 2, 1, 0] rfl)
    refine lv_iload_n hx hb dX12_reverse_107 rfl (lv_at hl 0 rfl) ?_
    obtain rfl := Option.some.inj h
    exact K H locs ls _ dX12_reverse_108 Z
  · replace h := ifp h cnd
    refine lv_iconst (v := (-1 : Int32)) hx hb dX12_reverse_7 (by decide) ?_
    obtain rfl := Option.some.inj h
    exact K H locs ls _ dX12_reverse_8 Z
theorem c_X12_reverse (l : Launch) (D : va_G) (cy : Nat → ClassId) (o : Nat) (d : Nat → Nat) (letters_ : Int32) (tests_ : Int32) (inputLength_ : Int32) (at_ : Int32) (signed_ : Int32) (newParts_ : Int32) (machineParts_ : Int32) (firstParts_ : Int32) (firstTruth_ : Int32) (secondTruth_ : Int32) (isPair_ : Int32) (states_ : Int32) (stateClasses_ : Int32) (elements_ : Int32) (cursor_ : Int32) (hasSnapshot_ : Int32) (isSaving_ : Int32) (wordLength_ : Nat → Int32) (word_ : Nat → Int32) (x1 : Int32) (out : Int32 × (Nat → Int32)) (h : f_X12_reverse x1 wordLength_ word_ = some out) : CtI l yX12_reverse wsX12_reverse rm_X12_reverse D cy [.ref o, .int x1] (RW_X12_reverse cy o d word_) (RO_X12_reverse cy o d letters_ tests_ inputLength_ at_ signed_ newParts_ machineParts_ firstParts_ firstTruth_ secondTruth_ isPair_ states_ stateClasses_ elements_ cursor_ hasSnapshot_ isSaving_ wordLength_) (RW_X12_reverse cy o d out.2) out.1 :=
  mk_i (ty := .int) (by decide) rfl rfl (Nat.le_of_ble_eq_true rfl) (fun p e s m args below meth c A Q X K H locs ls Z hl => wt_X12_reverse o d letters_ tests_ inputLength_ at_ signed_ newParts_ machineParts_ firstParts_ firstTruth_ secondTruth_ isPair_ states_ stateClasses_ elements_ cursor_ hasSnapshot_ isSaving_ wordLength_ word_ x1 out X h K H locs ls Z hl)
/-! SubwordCounterModel concatenate (II)I -/
abbrev rm_X12_concatenate : Room := { frames := 2, cells := 0, slots := 0, locals := 42 }
def RW_X12_concatenate (cy : Nat → ClassId) (o : Nat) (d : Nat → Nat) (wordLength_ : Nat → Int32) (word_ : Nat → Int32) : va_W := [((d 1), aI cy 3 wordLength_), ((d 2), aI cy 36 word_)]
def RO_X12_concatenate (cy : Nat → ClassId) (o : Nat) (d : Nat → Nat) (letters_ : Int32) (tests_ : Int32) (inputLength_ : Int32) (at_ : Int32) (signed_ : Int32) (newParts_ : Int32) (machineParts_ : Int32) (firstParts_ : Int32) (firstTruth_ : Int32) (secondTruth_ : Int32) (isPair_ : Int32) (states_ : Int32) (stateClasses_ : Int32) (elements_ : Int32) (cursor_ : Int32) (hasSnapshot_ : Int32) (isSaving_ : Int32) : va_W := [(o, ob 11 (oX12 d letters_ tests_ inputLength_ at_ signed_ newParts_ machineParts_ firstParts_ firstTruth_ secondTruth_ isPair_ states_ stateClasses_ elements_ cursor_ hasSnapshot_ isSaving_))]
theorem in_X12_concatenate_X12 : ∀ w ∈ u_ws RX12 TX12 68, w ∈ wsX12_concatenate := fun w h => (List.mem_cons_of_mem _ (List.mem_append_right _ h))
theorem lk_X12_concatenate_X12_word : Lk wsX12_concatenate RX12 17 11 2 := ⟨RX12, TX12, 68, rfl, by decide, in_X12_concatenate_X12, mem_at 2 rfl⟩
theorem lk_X12_concatenate_X12_wordLength : Lk wsX12_concatenate RX12 13 11 1 := ⟨RX12, TX12, 68, rfl, by decide, in_X12_concatenate_X12, mem_at 1 rfl⟩
def b_X12_concatenate_42 (wordLength_ : Nat → Int32) (x1 : Int32) (x2 : Int32) (x3 : Int32) (word_ : Nat → Int32) (x4 : Int32) : Option (((Nat → Int32) × Int32) ⊕ ((Nat → Int32))) :=
  if x3 ≤ x4 then
  (some (.inr word_))
  else
  (ldA wordLength_ 3 x1 (fun v2 =>
  ldA word_ 36 (((12 : Int32) * x2) + x4) (fun v5 =>
  stA word_ 36 ((((12 : Int32) * x1) + v2) + x4) v5 (fun word_8 =>
  some (.inl (word_8, (x4 + (1 : Int32))))))))
set_option maxHeartbeats 4000000 in
set_option maxRecDepth 100000 in
theorem wb_X12_concatenate_42 {p : Program} {l : Launch} {e : Env} {s : State} {m : MethodId} {args : Array Value} {below : List Frame} {meth : Method} {c : Code} {A : Nat → Prop} {Q : State → Prop} {D : va_G} {cy : Nat → ClassId} (o : Nat) (d : Nat → Nat) (letters_ : Int32) (tests_ : Int32) (inputLength_ : Int32) (at_ : Int32) (signed_ : Int32) (newParts_ : Int32) (machineParts_ : Int32) (firstParts_ : Int32) (firstTruth_ : Int32) (secondTruth_ : Int32) (isPair_ : Int32) (states_ : Int32) (stateClasses_ : Int32) (elements_ : Int32) (cursor_ : Int32) (hasSnapshot_ : Int32) (isSaving_ : Int32) (wordLength_ : Nat → Int32) (x1 : Int32) (x2 : Int32) (x3 : Int32) (word_ : Nat → Int32) (x4 : Int32) (o1 : ((Nat → Int32) × Int32) ⊕ ((Nat → Int32))) (X : Cx p m c cX12_concatenate 5 s args wsX12_concatenate RX12 A D cy (RO_X12_concatenate cy o d letters_ tests_ inputLength_ at_ signed_ newParts_ machineParts_ firstParts_ firstTruth_ secondTruth_ isPair_ states_ stateClasses_ elements_ cursor_ hasSnapshot_ isSaving_)) (h : b_X12_concatenate_42 wordLength_ x1 x2 x3 word_ x4 = some o1) (K : Sum.elim (fun v : (Nat → Int32) × Int32 => ∀ (H : Heap) (locs : List Loc) (ls : Array Slot), St A D s (RW_X12_concatenate cy o d wordLength_ v.1) H locs → lv_has ls 5 [(0, .ref o), (1, .int x1), (2, .int x2), (3, .int x3), (4, .int v.2)] → W p l e rm_X12_concatenate s m args below meth c H locs 0 0 Q (F0 m 42 ls [])) (fun v : (Nat → Int32) => ∀ (H : Heap) (locs : List Loc) (ls : Array Slot), St A D s (RW_X12_concatenate cy o d wordLength_ v) H locs → lv_has ls 5 [(0, .ref o), (1, .int x1), (3, .int x3)] → W p l e rm_X12_concatenate s m args below meth c H locs 0 0 Q (F0 m 85 ls [])) o1) : ∀ (H : Heap) (locs : List Loc) (ls : Array Slot), St A D s (RW_X12_concatenate cy o d wordLength_ word_) H locs → lv_has ls 5 [(0, .ref o), (1, .int x1), (2, .int x2), (3, .int x3), (4, .int x4)] → W p l e rm_X12_concatenate s m args below meth c H locs 0 0 Q (F0 m 42 ls []) := by
  intro H locs ls Z hl
  have hx := X.1.1
  have hb := X.1.2.1
  unfold b_X12_concatenate_42 at h
  refine lv_iload hx hb dX12_concatenate_42 (lv_at hl 4 rfl) ?_
  refine lv_iload_n hx hb dX12_concatenate_44 rfl (lv_at hl 3 rfl) ?_
  refine lv_icmp_ge (tgt := 85) hx hb dX12_concatenate_45 (by decide) (fun cnd => ?_) (fun cnd => ?_)
  · replace h := ifp h cnd
    obtain rfl := Option.some.inj h
    exact (sk_r K) H locs ls Z (lv_sub hl [0, 1, 3] rfl)
  · replace h := ifn h cnd
    refine lv_aload_n hx hb dX12_concatenate_48 rfl (lv_at hl 0 rfl) ?_
    refine x_getO X Z 0 2 (v := .ref (d 2)) rfl rfl lk_X12_concatenate_X12_word dX12_concatenate_49 ?_
    refine lv_bipush (v := (12 : Int32)) hx hb dX12_concatenate_52 (by decide) ?_
    refine lv_iload_n hx hb dX12_concatenate_54 rfl (lv_at hl 1 rfl) ?_
    refine lv_imul hx hb dX12_concatenate_55 ?_
    refine lv_aload_n hx hb dX12_concatenate_56 rfl (lv_at hl 0 rfl) ?_
    refine x_getO X Z 0 1 (v := .ref (d 1)) rfl rfl lk_X12_concatenate_X12_wordLength dX12_concatenate_57 ?_
    refine lv_iload_n hx hb dX12_concatenate_60 rfl (lv_at hl 1 rfl) ?_
    obtain ⟨hin1, v2, hv3, h⟩ := ld_b h
    refine x_iald X Z 0 rfl hin1 hv3 dX12_concatenate_61 ?_
    refine lv_iadd hx hb dX12_concatenate_62 ?_
    refine lv_iload hx hb dX12_concatenate_63 (lv_at hl 4 rfl) ?_
    refine lv_iadd hx hb dX12_concatenate_65 ?_
    refine lv_aload_n hx hb dX12_concatenate_66 rfl (lv_at hl 0 rfl) ?_
    refine x_getO X Z 0 2 (v := .ref (d 2)) rfl rfl lk_X12_concatenate_X12_word dX12_concatenate_67 ?_
    refine lv_bipush (v := (12 : Int32)) hx hb dX12_concatenate_70 (by decide) ?_
    refine lv_iload_n hx hb dX12_concatenate_72 rfl (lv_at hl 2 rfl) ?_
    refine lv_imul hx hb dX12_concatenate_73 ?_
    refine lv_iload hx hb dX12_concatenate_74 (lv_at hl 4 rfl) ?_
    refine lv_iadd hx hb dX12_concatenate_76 ?_
    obtain ⟨hin4, v5, hv6, h⟩ := ld_b h
    refine x_iald X Z 1 rfl hin4 hv6 dX12_concatenate_77 ?_
    obtain ⟨hin7, word_8, hv9, h⟩ := st_b h
    refine x_iast X Z 1 (RW_X12_concatenate cy o d wordLength_ word_8) rfl hin7 hv9 rfl dX12_concatenate_78 (fun H locs Z => ?_)
    refine lv_iinc (v := (x4 + (1 : Int32))) (lv' := [(4, .int (x4 + (1 : Int32))), (0, .ref o), (1, .int x1), (2, .int x2), (3, .int x3)]) hx hb dX12_concatenate_79 hl (k := 4) rfl rfl (by decide) rfl (fun ls hl => ?_)
    refine lv_goto (tgt := 42) hx hb dX12_concatenate_82 (by decide) ?_
    obtain rfl := Option.some.inj h
    exact sk_l K H locs ls Z (lv_sub hl [1, 2, 3, 4, 0] rfl)
set_option maxHeartbeats 4000000 in
set_option maxRecDepth 100000 in
theorem wl_X12_concatenate_42 {p : Program} {l : Launch} {e : Env} {s : State} {m : MethodId} {args : Array Value} {below : List Frame} {meth : Method} {c : Code} {A : Nat → Prop} {Q : State → Prop} {D : va_G} {cy : Nat → ClassId} (o : Nat) (d : Nat → Nat) (letters_ : Int32) (tests_ : Int32) (inputLength_ : Int32) (at_ : Int32) (signed_ : Int32) (newParts_ : Int32) (machineParts_ : Int32) (firstParts_ : Int32) (firstTruth_ : Int32) (secondTruth_ : Int32) (isPair_ : Int32) (states_ : Int32) (stateClasses_ : Int32) (elements_ : Int32) (cursor_ : Int32) (hasSnapshot_ : Int32) (isSaving_ : Int32) (wordLength_ : Nat → Int32) (x1 : Int32) (x2 : Int32) (x3 : Int32) (n : Nat) (v : (Nat → Int32) × Int32) (x : (Nat → Int32)) (X : Cx p m c cX12_concatenate 5 s args wsX12_concatenate RX12 A D cy (RO_X12_concatenate cy o d letters_ tests_ inputLength_ at_ signed_ newParts_ machineParts_ firstParts_ firstTruth_ secondTruth_ isPair_ states_ stateClasses_ elements_ cursor_ hasSnapshot_ isSaving_)) (h : loopN (fun v => b_X12_concatenate_42 wordLength_ x1 x2 x3 v.1 v.2) n v = some x) (K : ∀ (H : Heap) (locs : List Loc) (ls : Array Slot), St A D s (RW_X12_concatenate cy o d wordLength_ x) H locs → lv_has ls 5 [(0, .ref o), (1, .int x1), (3, .int x3)] → W p l e rm_X12_concatenate s m args below meth c H locs 0 0 Q (F0 m 85 ls [])) : ∀ (H : Heap) (locs : List Loc) (ls : Array Slot), St A D s (RW_X12_concatenate cy o d wordLength_ v.1) H locs → lv_has ls 5 [(0, .ref o), (1, .int x1), (2, .int x2), (3, .int x3), (4, .int v.2)] → W p l e rm_X12_concatenate s m args below meth c H locs 0 0 Q (F0 m 42 ls []) :=
  loop_gen (B := (fun v => b_X12_concatenate_42 wordLength_ x1 x2 x3 v.1 v.2)) (Head := fun v : (Nat → Int32) × Int32 => ∀ (H : Heap) (locs : List Loc) (ls : Array Slot), St A D s (RW_X12_concatenate cy o d wordLength_ v.1) H locs → lv_has ls 5 [(0, .ref o), (1, .int x1), (2, .int x2), (3, .int x3), (4, .int v.2)] → W p l e rm_X12_concatenate s m args below meth c H locs 0 0 Q (F0 m 42 ls [])) (Exit := fun v : (Nat → Int32) => ∀ (H : Heap) (locs : List Loc) (ls : Array Slot), St A D s (RW_X12_concatenate cy o d wordLength_ v) H locs → lv_has ls 5 [(0, .ref o), (1, .int x1), (3, .int x3)] → W p l e rm_X12_concatenate s m args below meth c H locs 0 0 Q (F0 m 85 ls [])) (fun v o9 hb1 K1 => wb_X12_concatenate_42 o d letters_ tests_ inputLength_ at_ signed_ newParts_ machineParts_ firstParts_ firstTruth_ secondTruth_ isPair_ states_ stateClasses_ elements_ cursor_ hasSnapshot_ isSaving_ wordLength_ x1 x2 x3 v.1 v.2 o9 X hb1 K1) n v x h K
def f_X12_concatenate (x1 : Int32) (x2 : Int32) (wordLength_ : Nat → Int32) (word_ : Nat → Int32) : Option (Int32 × (Nat → Int32) × (Nat → Int32)) :=
  (f_X12_isWord x1).bind (fun u10 =>
  if u10 = 0 then
  (some ((-1 : Int32), wordLength_, word_))
  else
  ((f_X12_isWord x2).bind (fun u12 =>
  if u12 = 0 then
  (some ((-1 : Int32), wordLength_, word_))
  else
  (ldA wordLength_ 3 x2 (fun v15 =>
  ldA wordLength_ 3 x1 (fun v18 =>
  if (v18 + v15) ≤ (12 : Int32) then
  ((loopN (fun v => b_X12_concatenate_42 wordLength_ x1 x2 v15 v.1 v.2) FU (word_, (0 : Int32))).bind (fun u20 =>
  ldA wordLength_ 3 x1 (fun v23 =>
  stA wordLength_ 3 x1 (v23 + v15) (fun wordLength_26 =>
  ldA wordLength_26 3 x1 (fun v29 =>
  some (v29, wordLength_26, u20))))))
  else
  (some ((-3 : Int32), wordLength_, word_))))))))
set_option maxHeartbeats 4000000 in
set_option maxRecDepth 100000 in
theorem wt_X12_concatenate {p : Program} {l : Launch} {e : Env} {s : State} {m : MethodId} {args : Array Value} {below : List Frame} {meth : Method} {c : Code} {A : Nat → Prop} {Q : State → Prop} {D : va_G} {cy : Nat → ClassId} (o : Nat) (d : Nat → Nat) (letters_ : Int32) (tests_ : Int32) (inputLength_ : Int32) (at_ : Int32) (signed_ : Int32) (newParts_ : Int32) (machineParts_ : Int32) (firstParts_ : Int32) (firstTruth_ : Int32) (secondTruth_ : Int32) (isPair_ : Int32) (states_ : Int32) (stateClasses_ : Int32) (elements_ : Int32) (cursor_ : Int32) (hasSnapshot_ : Int32) (isSaving_ : Int32) (wordLength_ : Nat → Int32) (word_ : Nat → Int32) (x1 : Int32) (x2 : Int32) (out : Int32 × (Nat → Int32) × (Nat → Int32)) (X : Cx p m c cX12_concatenate 5 s args wsX12_concatenate RX12 A D cy (RO_X12_concatenate cy o d letters_ tests_ inputLength_ at_ signed_ newParts_ machineParts_ firstParts_ firstTruth_ secondTruth_ isPair_ states_ stateClasses_ elements_ cursor_ hasSnapshot_ isSaving_)) (h : f_X12_concatenate x1 x2 wordLength_ word_ = some out) (K : ∀ (H : Heap) (locs : List Loc) (ls : Array Slot) (pc : Nat), decode cX12_concatenate pc = .ok (.ireturn, 1) → St A D s (RW_X12_concatenate cy o d out.2.1 out.2.2) H locs → W p l e rm_X12_concatenate s m args below meth c H locs 0 0 Q (F0 m pc ls [.int out.1])) : ∀ (H : Heap) (locs : List Loc) (ls : Array Slot), St A D s (RW_X12_concatenate cy o d wordLength_ word_) H locs → lv_has ls 5 [(0, .ref o), (1, .int x1), (2, .int x2)] → W p l e rm_X12_concatenate s m args below meth c H locs 0 0 Q (F0 m 0 ls []) := by
  intro H locs ls Z hl
  have hx := X.1.1
  have hb := X.1.2.1
  unfold f_X12_concatenate at h
  refine lv_iload_n hx hb dX12_concatenate_0 rfl (lv_at hl 1 rfl) ?_
  obtain ⟨u10, hc11, h⟩ := ob_some h
  refine x_runSi (RW' := (RW_X12_concatenate cy o d wordLength_ word_)) (wr := [((d 1), aI cy 3 wordLength_), ((d 2), aI cy 36 word_)]) (isC := []) (isR := [0, 1]) (isF := [0, 1]) (rest := []) (As := [.int x1]) (n := 1) X Z (c_X12_isWord l D cy x1 u10 hc11) gX12_concatenate_X12_isWord rfl (by decide +kernel) ⟨Nat.le_of_ble_eq_true rfl, Nat.le_of_ble_eq_true rfl⟩ ⟨rfl, rfl⟩ ⟨Nat.le_of_ble_eq_true rfl, Nat.le_of_ble_eq_true rfl⟩ ⟨rfl, rfl, roN, rfl, rfl, by decide⟩ ⟨rfl, rfl⟩ rfl hl.1 rfl (Nat.le_of_ble_eq_true rfl) dX12_concatenate_1 (fun H locs Z => ?_)
  refine lv_if_eq (tgt := 14) hx hb dX12_concatenate_4 (by decide) (fun cnd => ?_) (fun cnd => ?_)
  · replace h := ifp h cnd
    refine lv_iconst (v := (-1 : Int32)) hx hb dX12_concatenate_14 (by decide) ?_
    obtain rfl := Option.some.inj h
    exact K H locs ls _ dX12_concatenate_15 Z
  · replace h := ifn h cnd
    refine lv_iload_n hx hb dX12_concatenate_7 rfl (lv_at hl 2 rfl) ?_
    obtain ⟨u12, hc13, h⟩ := ob_some h
    refine x_runSi (RW' := (RW_X12_concatenate cy o d wordLength_ word_)) (wr := [((d 1), aI cy 3 wordLength_), ((d 2), aI cy 36 word_)]) (isC := []) (isR := [0, 1]) (isF := [0, 1]) (rest := []) (As := [.int x2]) (n := 1) X Z (c_X12_isWord l D cy x2 u12 hc13) gX12_concatenate_X12_isWord rfl (by decide +kernel) ⟨Nat.le_of_ble_eq_true rfl, Nat.le_of_ble_eq_true rfl⟩ ⟨rfl, rfl⟩ ⟨Nat.le_of_ble_eq_true rfl, Nat.le_of_ble_eq_true rfl⟩ ⟨rfl, rfl, roN, rfl, rfl, by decide⟩ ⟨rfl, rfl⟩ rfl hl.1 rfl (Nat.le_of_ble_eq_true rfl) dX12_concatenate_8 (fun H locs Z => ?_)
    refine lv_if_ne (tgt := 16) hx hb dX12_concatenate_11 (by decide) (fun cnd => ?_) (fun cnd => ?_)
    · replace h := ifn h cnd
      refine lv_aload_n hx hb dX12_concatenate_16 rfl (lv_at hl 0 rfl) ?_
      refine x_getO X Z 0 1 (v := .ref (d 1)) rfl rfl lk_X12_concatenate_X12_wordLength dX12_concatenate_17 ?_
      refine lv_iload_n hx hb dX12_concatenate_20 rfl (lv_at hl 2 rfl) ?_
      obtain ⟨hin14, v15, hv16, h⟩ := ld_b h
      refine x_iald X Z 0 rfl hin14 hv16 dX12_concatenate_21 ?_
      refine lv_istore_n (lv' := [(3, .int v15), (0, .ref o), (1, .int x1), (2, .int x2)]) hx hb dX12_concatenate_22 rfl hl (by decide) rfl (fun ls hl => ?_)
      refine lv_aload_n hx hb dX12_concatenate_23 rfl (lv_at hl 1 rfl) ?_
      refine x_getO X Z 0 1 (v := .ref (d 1)) rfl rfl lk_X12_concatenate_X12_wordLength dX12_concatenate_24 ?_
      refine lv_iload_n hx hb dX12_concatenate_27 rfl (lv_at hl 2 rfl) ?_
      obtain ⟨hin17, v18, hv19, h⟩ := ld_b h
      refine x_iald X Z 0 rfl hin17 hv19 dX12_concatenate_28 ?_
      refine lv_iload_n hx hb dX12_concatenate_29 rfl (lv_at hl 0 rfl) ?_
      refine lv_iadd hx hb dX12_concatenate_30 ?_
      refine lv_bipush (v := (12 : Int32)) hx hb dX12_concatenate_31 (by decide) ?_
      refine lv_icmp_le (tgt := 39) hx hb dX12_concatenate_33 (by decide) (fun cnd => ?_) (fun cnd => ?_)
      · replace h := ifp h cnd
        refine lv_iconst (v := (0 : Int32)) hx hb dX12_concatenate_39 (by decide) ?_
        refine lv_istore (lv' := [(4, .int (0 : Int32)), (3, .int v15), (0, .ref o), (1, .int x1), (2, .int x2)]) hx hb dX12_concatenate_40 hl (by decide) rfl (fun ls hl => ?_)
        obtain ⟨u20, hL21, h⟩ := ob_some h
        refine wl_X12_concatenate_42 o d letters_ tests_ inputLength_ at_ signed_ newParts_ machineParts_ firstParts_ firstTruth_ secondTruth_ isPair_ states_ stateClasses_ elements_ cursor_ hasSnapshot_ isSaving_ wordLength_ x1 x2 v15 FU (word_, (0 : Int32)) u20 X hL21 (fun H locs ls Z hl => ?_) H locs ls Z (lv_sub hl [2, 3, 4, 1, 0] rfl)
        refine lv_aload_n hx hb dX12_concatenate_85 rfl (lv_at hl 0 rfl) ?_
        refine x_getO X Z 0 1 (v := .ref (d 1)) rfl rfl lk_X12_concatenate_X12_wordLength dX12_concatenate_86 ?_
        refine lv_iload_n hx hb dX12_concatenate_89 rfl (lv_at hl 1 rfl) ?_
        refine lv_dup2_11 hx hb dX12_concatenate_90 rfl rfl ?_
        obtain ⟨hin22, v23, hv24, h⟩ := ld_b h
        refine x_iald X Z 0 rfl hin22 hv24 dX12_concatenate_91 ?_
        refine lv_iload_n hx hb dX12_concatenate_92 rfl (lv_at hl 2 rfl) ?_
        refine lv_iadd hx hb dX12_concatenate_93 ?_
        obtain ⟨hin25, wordLength_26, hv27, h⟩ := st_b h
        refine x_iast X Z 0 (RW_X12_concatenate cy o d wordLength_26 u20) rfl hin25 hv27 rfl dX12_concatenate_94 (fun H locs Z => ?_)
        refine lv_aload_n hx hb dX12_concatenate_95 rfl (lv_at hl 0 rfl) ?_
        refine x_getO X Z 0 1 (v := .ref (d 1)) rfl rfl lk_X12_concatenate_X12_wordLength dX12_concatenate_96 ?_
        refine lv_iload_n hx hb dX12_concatenate_99 rfl (lv_at hl 1 rfl) ?_
        obtain ⟨hin28, v29, hv30, h⟩ := ld_b h
        refine x_iald X Z 0 rfl hin28 hv30 dX12_concatenate_100 ?_
        obtain rfl := Option.some.inj h
        exact K H locs ls _ dX12_concatenate_101 Z
      · replace h := ifn h cnd
        refine lv_bipush (v := (-3 : Int32)) hx hb dX12_concatenate_36 (by decide) ?_
        obtain rfl := Option.some.inj h
        exact K H locs ls _ dX12_concatenate_38 Z
    · replace h := ifp h cnd
      refine lv_iconst (v := (-1 : Int32)) hx hb dX12_concatenate_14 (by decide) ?_
      obtain rfl := Option.some.inj h
      exact K H locs ls _ dX12_concatenate_15 Z
theorem c_X12_concatenate (l : Launch) (D : va_G) (cy : Nat → ClassId) (o : Nat) (d : Nat → Nat) (letters_ : Int32) (tests_ : Int32) (inputLength_ : Int32) (at_ : Int32) (signed_ : Int32) (newParts_ : Int32) (machineParts_ : Int32) (firstParts_ : Int32) (firstTruth_ : Int32) (secondTruth_ : Int32) (isPair_ : Int32) (states_ : Int32) (stateClasses_ : Int32) (elements_ : Int32) (cursor_ : Int32) (hasSnapshot_ : Int32) (isSaving_ : Int32) (wordLength_ : Nat → Int32) (word_ : Nat → Int32) (x1 : Int32) (x2 : Int32) (out : Int32 × (Nat → Int32) × (Nat → Int32)) (h : f_X12_concatenate x1 x2 wordLength_ word_ = some out) : CtI l yX12_concatenate wsX12_concatenate rm_X12_concatenate D cy [.ref o, .int x1, .int x2] (RW_X12_concatenate cy o d wordLength_ word_) (RO_X12_concatenate cy o d letters_ tests_ inputLength_ at_ signed_ newParts_ machineParts_ firstParts_ firstTruth_ secondTruth_ isPair_ states_ stateClasses_ elements_ cursor_ hasSnapshot_ isSaving_) (RW_X12_concatenate cy o d out.2.1 out.2.2) out.1 :=
  mk_i (ty := .int) (by decide) rfl rfl (Nat.le_of_ble_eq_true rfl) (fun p e s m args below meth c A Q X K H locs ls Z hl => wt_X12_concatenate o d letters_ tests_ inputLength_ at_ signed_ newParts_ machineParts_ firstParts_ firstTruth_ secondTruth_ isPair_ states_ stateClasses_ elements_ cursor_ hasSnapshot_ isSaving_ wordLength_ word_ x1 x2 out X h K H locs ls Z hl)
/-! SubwordCounterModel compare (II)I -/
abbrev rm_X12_compare : Room := { frames := 2, cells := 0, slots := 0, locals := 42 }
def RW_X12_compare (cy : Nat → ClassId) (o : Nat) (d : Nat → Nat)  : va_W := []
def RO_X12_compare (cy : Nat → ClassId) (o : Nat) (d : Nat → Nat) (letters_ : Int32) (tests_ : Int32) (inputLength_ : Int32) (at_ : Int32) (signed_ : Int32) (newParts_ : Int32) (machineParts_ : Int32) (firstParts_ : Int32) (firstTruth_ : Int32) (secondTruth_ : Int32) (isPair_ : Int32) (states_ : Int32) (stateClasses_ : Int32) (elements_ : Int32) (cursor_ : Int32) (hasSnapshot_ : Int32) (isSaving_ : Int32) (wordLength_ : Nat → Int32) (word_ : Nat → Int32) : va_W := [(o, ob 11 (oX12 d letters_ tests_ inputLength_ at_ signed_ newParts_ machineParts_ firstParts_ firstTruth_ secondTruth_ isPair_ states_ stateClasses_ elements_ cursor_ hasSnapshot_ isSaving_)), ((d 1), aI cy 3 wordLength_), ((d 2), aI cy 36 word_)]
theorem in_X12_compare_X12 : ∀ w ∈ u_ws RX12 TX12 68, w ∈ wsX12_compare := fun w h => (List.mem_cons_of_mem _ (List.mem_append_right _ h))
theorem lk_X12_compare_X12_wordLength : Lk wsX12_compare RX12 13 11 1 := ⟨RX12, TX12, 68, rfl, by decide, in_X12_compare_X12, mem_at 1 rfl⟩
theorem lk_X12_compare_X12_word : Lk wsX12_compare RX12 17 11 2 := ⟨RX12, TX12, 68, rfl, by decide, in_X12_compare_X12, mem_at 2 rfl⟩
def b_X12_compare_54 (wordLength_ : Nat → Int32) (word_ : Nat → Int32) (x1 : Int32) (x2 : Int32)  (x3 : Int32) : Option ((Int32) ⊕ ((Int32 × Int32) ⊕ (Unit))) :=
  ldA wordLength_ 3 x1 (fun v2 =>
  if v2 ≤ x3 then
  (some (.inr (.inr ())))
  else
  (ldA word_ 36 (((12 : Int32) * x1) + x3) (fun v5 =>
  ldA word_ 36 (((12 : Int32) * x2) + x3) (fun v8 =>
  if v5 = v8 then
  (some (.inl (x3 + (1 : Int32))))
  else
  (some (.inr (.inl (v5, v8))))))))
set_option maxHeartbeats 4000000 in
set_option maxRecDepth 100000 in
theorem wb_X12_compare_54 {p : Program} {l : Launch} {e : Env} {s : State} {m : MethodId} {args : Array Value} {below : List Frame} {meth : Method} {c : Code} {A : Nat → Prop} {Q : State → Prop} {D : va_G} {cy : Nat → ClassId} (o : Nat) (d : Nat → Nat) (letters_ : Int32) (tests_ : Int32) (inputLength_ : Int32) (at_ : Int32) (signed_ : Int32) (newParts_ : Int32) (machineParts_ : Int32) (firstParts_ : Int32) (firstTruth_ : Int32) (secondTruth_ : Int32) (isPair_ : Int32) (states_ : Int32) (stateClasses_ : Int32) (elements_ : Int32) (cursor_ : Int32) (hasSnapshot_ : Int32) (isSaving_ : Int32) (wordLength_ : Nat → Int32) (word_ : Nat → Int32)  (x1 : Int32) (x2 : Int32)  (x3 : Int32) (o1 : (Int32) ⊕ ((Int32 × Int32) ⊕ (Unit))) (X : Cx p m c cX12_compare 6 s args wsX12_compare RX12 A D cy (RO_X12_compare cy o d letters_ tests_ inputLength_ at_ signed_ newParts_ machineParts_ firstParts_ firstTruth_ secondTruth_ isPair_ states_ stateClasses_ elements_ cursor_ hasSnapshot_ isSaving_ wordLength_ word_)) (h : b_X12_compare_54 wordLength_ word_ x1 x2 x3 = some o1) (K : Sum.elim (fun v : Int32 => ∀ (H : Heap) (locs : List Loc) (ls : Array Slot), St A D s (RW_X12_compare cy o d) H locs → lv_has ls 6 [(0, .ref o), (1, .int x1), (2, .int x2), (3, .int v)] → W p l e rm_X12_compare s m args below meth c H locs 0 0 Q (F0 m 54 ls [])) (fun v : (Int32 × Int32) ⊕ (Unit) => Sum.elim (fun w : Int32 × Int32 => ∀ (H : Heap) (locs : List Loc) (ls : Array Slot), St A D s (RW_X12_compare cy o d) H locs → lv_has ls 6 [(4, .int w.1), (5, .int w.2)] → W p l e rm_X12_compare s m args below meth c H locs 0 0 Q (F0 m 97 ls [])) (fun w => ∀ (H : Heap) (locs : List Loc) (ls : Array Slot), St A D s (RW_X12_compare cy o d) H locs → lv_has ls 6 [] → W p l e rm_X12_compare s m args below meth c H locs 0 0 Q (F0 m 116 ls [])) v) o1) : ∀ (H : Heap) (locs : List Loc) (ls : Array Slot), St A D s (RW_X12_compare cy o d) H locs → lv_has ls 6 [(0, .ref o), (1, .int x1), (2, .int x2), (3, .int x3)] → W p l e rm_X12_compare s m args below meth c H locs 0 0 Q (F0 m 54 ls []) := by
  intro H locs ls Z hl
  have hx := X.1.1
  have hb := X.1.2.1
  unfold b_X12_compare_54 at h
  refine lv_iload_n hx hb dX12_compare_54 rfl (lv_at hl 3 rfl) ?_
  refine lv_aload_n hx hb dX12_compare_55 rfl (lv_at hl 0 rfl) ?_
  refine x_getO X Z 0 1 (v := .ref (d 1)) rfl rfl lk_X12_compare_X12_wordLength dX12_compare_56 ?_
  refine lv_iload_n hx hb dX12_compare_59 rfl (lv_at hl 1 rfl) ?_
  obtain ⟨hin1, v2, hv3, h⟩ := ld_b h
  refine x_ialdO X Z 1 rfl hin1 hv3 dX12_compare_60 ?_
  refine lv_icmp_ge (tgt := 116) hx hb dX12_compare_61 (by decide) (fun cnd => ?_) (fun cnd => ?_)
  · replace h := ifp h cnd
    obtain rfl := Option.some.inj h
    exact (sk_r (sk_r K)) H locs ls Z (lv_sub hl [] rfl)
  · replace h := ifn h cnd
    refine lv_aload_n hx hb dX12_compare_64 rfl (lv_at hl 0 rfl) ?_
    refine x_getO X Z 0 2 (v := .ref (d 2)) rfl rfl lk_X12_compare_X12_word dX12_compare_65 ?_
    refine lv_bipush (v := (12 : Int32)) hx hb dX12_compare_68 (by decide) ?_
    refine lv_iload_n hx hb dX12_compare_70 rfl (lv_at hl 1 rfl) ?_
    refine lv_imul hx hb dX12_compare_71 ?_
    refine lv_iload_n hx hb dX12_compare_72 rfl (lv_at hl 3 rfl) ?_
    refine lv_iadd hx hb dX12_compare_73 ?_
    obtain ⟨hin4, v5, hv6, h⟩ := ld_b h
    refine x_ialdO X Z 2 rfl hin4 hv6 dX12_compare_74 ?_
    refine lv_istore (lv' := [(4, .int v5), (0, .ref o), (1, .int x1), (2, .int x2), (3, .int x3)]) hx hb dX12_compare_75 hl (by decide) rfl (fun ls hl => ?_)
    refine lv_aload_n hx hb dX12_compare_77 rfl (lv_at hl 1 rfl) ?_
    refine x_getO X Z 0 2 (v := .ref (d 2)) rfl rfl lk_X12_compare_X12_word dX12_compare_78 ?_
    refine lv_bipush (v := (12 : Int32)) hx hb dX12_compare_81 (by decide) ?_
    refine lv_iload_n hx hb dX12_compare_83 rfl (lv_at hl 3 rfl) ?_
    refine lv_imul hx hb dX12_compare_84 ?_
    refine lv_iload_n hx hb dX12_compare_85 rfl (lv_at hl 4 rfl) ?_
    refine lv_iadd hx hb dX12_compare_86 ?_
    obtain ⟨hin7, v8, hv9, h⟩ := ld_b h
    refine x_ialdO X Z 2 rfl hin7 hv9 dX12_compare_87 ?_
    refine lv_istore (lv' := [(5, .int v8), (4, .int v5), (0, .ref o), (1, .int x1), (2, .int x2), (3, .int x3)]) hx hb dX12_compare_88 hl (by decide) rfl (fun ls hl => ?_)
    refine lv_iload hx hb dX12_compare_90 (lv_at hl 1 rfl) ?_
    refine lv_iload hx hb dX12_compare_92 (lv_at hl 0 rfl) ?_
    refine lv_icmp_eq (tgt := 110) hx hb dX12_compare_94 (by decide) (fun cnd => ?_) (fun cnd => ?_)
    · replace h := ifp h cnd
      refine lv_iinc (v := (x3 + (1 : Int32))) (lv' := [(3, .int (x3 + (1 : Int32))), (5, .int v8), (4, .int v5), (0, .ref o), (1, .int x1), (2, .int x2)]) hx hb dX12_compare_110 hl (k := 5) rfl rfl (by decide) rfl (fun ls hl => ?_)
      refine lv_goto (tgt := 54) hx hb dX12_compare_113 (by decide) ?_
      obtain rfl := Option.some.inj h
      exact sk_l K H locs ls Z (lv_sub hl [3, 4, 5, 0] rfl)
    · replace h := ifn h cnd
      obtain rfl := Option.some.inj h
      exact (sk_l (sk_r K)) H locs ls Z (lv_sub hl [1, 0] rfl)
set_option maxHeartbeats 4000000 in
set_option maxRecDepth 100000 in
theorem wl_X12_compare_54 {p : Program} {l : Launch} {e : Env} {s : State} {m : MethodId} {args : Array Value} {below : List Frame} {meth : Method} {c : Code} {A : Nat → Prop} {Q : State → Prop} {D : va_G} {cy : Nat → ClassId} (o : Nat) (d : Nat → Nat) (letters_ : Int32) (tests_ : Int32) (inputLength_ : Int32) (at_ : Int32) (signed_ : Int32) (newParts_ : Int32) (machineParts_ : Int32) (firstParts_ : Int32) (firstTruth_ : Int32) (secondTruth_ : Int32) (isPair_ : Int32) (states_ : Int32) (stateClasses_ : Int32) (elements_ : Int32) (cursor_ : Int32) (hasSnapshot_ : Int32) (isSaving_ : Int32) (wordLength_ : Nat → Int32) (word_ : Nat → Int32)  (x1 : Int32) (x2 : Int32) (n : Nat) (v : Int32) (x : (Int32 × Int32) ⊕ (Unit)) (X : Cx p m c cX12_compare 6 s args wsX12_compare RX12 A D cy (RO_X12_compare cy o d letters_ tests_ inputLength_ at_ signed_ newParts_ machineParts_ firstParts_ firstTruth_ secondTruth_ isPair_ states_ stateClasses_ elements_ cursor_ hasSnapshot_ isSaving_ wordLength_ word_)) (h : loopN (fun v => b_X12_compare_54 wordLength_ word_ x1 x2 v) n v = some x) (K : Sum.elim (fun w : Int32 × Int32 => ∀ (H : Heap) (locs : List Loc) (ls : Array Slot), St A D s (RW_X12_compare cy o d) H locs → lv_has ls 6 [(4, .int w.1), (5, .int w.2)] → W p l e rm_X12_compare s m args below meth c H locs 0 0 Q (F0 m 97 ls [])) (fun w => ∀ (H : Heap) (locs : List Loc) (ls : Array Slot), St A D s (RW_X12_compare cy o d) H locs → lv_has ls 6 [] → W p l e rm_X12_compare s m args below meth c H locs 0 0 Q (F0 m 116 ls [])) x) : ∀ (H : Heap) (locs : List Loc) (ls : Array Slot), St A D s (RW_X12_compare cy o d) H locs → lv_has ls 6 [(0, .ref o), (1, .int x1), (2, .int x2), (3, .int v)] → W p l e rm_X12_compare s m args below meth c H locs 0 0 Q (F0 m 54 ls []) :=
  loop_gen (B := (fun v => b_X12_compare_54 wordLength_ word_ x1 x2 v)) (Head := fun v : Int32 => ∀ (H : Heap) (locs : List Loc) (ls : Array Slot), St A D s (RW_X12_compare cy o d) H locs → lv_has ls 6 [(0, .ref o), (1, .int x1), (2, .int x2), (3, .int v)] → W p l e rm_X12_compare s m args below meth c H locs 0 0 Q (F0 m 54 ls [])) (Exit := fun v : (Int32 × Int32) ⊕ (Unit) => Sum.elim (fun w : Int32 × Int32 => ∀ (H : Heap) (locs : List Loc) (ls : Array Slot), St A D s (RW_X12_compare cy o d) H locs → lv_has ls 6 [(4, .int w.1), (5, .int w.2)] → W p l e rm_X12_compare s m args below meth c H locs 0 0 Q (F0 m 97 ls [])) (fun w => ∀ (H : Heap) (locs : List Loc) (ls : Array Slot), St A D s (RW_X12_compare cy o d) H locs → lv_has ls 6 [] → W p l e rm_X12_compare s m args below meth c H locs 0 0 Q (F0 m 116 ls [])) v) (fun v o9 hb1 K1 => wb_X12_compare_54 o d letters_ tests_ inputLength_ at_ signed_ newParts_ machineParts_ firstParts_ firstTruth_ secondTruth_ isPair_ states_ stateClasses_ elements_ cursor_ hasSnapshot_ isSaving_ wordLength_ word_ x1 x2 v o9 X hb1 K1) n v x h K
def f_X12_compare (x1 : Int32) (x2 : Int32) (wordLength_ : Nat → Int32) (word_ : Nat → Int32) : Option (Int32) :=
  (f_X12_isWord x1).bind (fun u10 =>
  if u10 = 0 then
  (some (-1 : Int32))
  else
  ((f_X12_isWord x2).bind (fun u12 =>
  if u12 = 0 then
  (some (-1 : Int32))
  else
  (ldA wordLength_ 3 x1 (fun v15 =>
  ldA wordLength_ 3 x2 (fun v18 =>
  if v15 = v18 then
  ((loopN (fun v => b_X12_compare_54 wordLength_ word_ x1 x2 v) FU (0 : Int32)).bind (fun u20 =>
  Sum.elim (fun u20 =>
  if u20.2 ≤ u20.1 then
  (some (2 : Int32))
  else
  (some (0 : Int32))) (fun u20 =>
  some (1 : Int32)) u20))
  else
  (ldA wordLength_ 3 x1 (fun v23 =>
  ldA wordLength_ 3 x2 (fun v26 =>
  if v26 ≤ v23 then
  (some (2 : Int32))
  else
  (some (0 : Int32)))))))))))
set_option maxHeartbeats 4000000 in
set_option maxRecDepth 100000 in
theorem wt_X12_compare {p : Program} {l : Launch} {e : Env} {s : State} {m : MethodId} {args : Array Value} {below : List Frame} {meth : Method} {c : Code} {A : Nat → Prop} {Q : State → Prop} {D : va_G} {cy : Nat → ClassId} (o : Nat) (d : Nat → Nat) (letters_ : Int32) (tests_ : Int32) (inputLength_ : Int32) (at_ : Int32) (signed_ : Int32) (newParts_ : Int32) (machineParts_ : Int32) (firstParts_ : Int32) (firstTruth_ : Int32) (secondTruth_ : Int32) (isPair_ : Int32) (states_ : Int32) (stateClasses_ : Int32) (elements_ : Int32) (cursor_ : Int32) (hasSnapshot_ : Int32) (isSaving_ : Int32) (wordLength_ : Nat → Int32) (word_ : Nat → Int32)  (x1 : Int32) (x2 : Int32) (out : Int32) (X : Cx p m c cX12_compare 6 s args wsX12_compare RX12 A D cy (RO_X12_compare cy o d letters_ tests_ inputLength_ at_ signed_ newParts_ machineParts_ firstParts_ firstTruth_ secondTruth_ isPair_ states_ stateClasses_ elements_ cursor_ hasSnapshot_ isSaving_ wordLength_ word_)) (h : f_X12_compare x1 x2 wordLength_ word_ = some out) (K : ∀ (H : Heap) (locs : List Loc) (ls : Array Slot) (pc : Nat), decode cX12_compare pc = .ok (.ireturn, 1) → St A D s (RW_X12_compare cy o d) H locs → W p l e rm_X12_compare s m args below meth c H locs 0 0 Q (F0 m pc ls [.int out])) : ∀ (H : Heap) (locs : List Loc) (ls : Array Slot), St A D s (RW_X12_compare cy o d) H locs → lv_has ls 6 [(0, .ref o), (1, .int x1), (2, .int x2)] → W p l e rm_X12_compare s m args below meth c H locs 0 0 Q (F0 m 0 ls []) := by
  intro H locs ls Z hl
  have hx := X.1.1
  have hb := X.1.2.1
  unfold f_X12_compare at h
  refine lv_iload_n hx hb dX12_compare_0 rfl (lv_at hl 1 rfl) ?_
  obtain ⟨u10, hc11, h⟩ := ob_some h
  refine x_runSi (RW' := (RW_X12_compare cy o d)) (wr := []) (isC := []) (isR := []) (isF := []) (rest := []) (As := [.int x1]) (n := 1) X Z (c_X12_isWord l D cy x1 u10 hc11) gX12_compare_X12_isWord rfl (by decide +kernel) ⟨Nat.le_of_ble_eq_true rfl, Nat.le_of_ble_eq_true rfl⟩ ⟨rfl, rfl⟩ ⟨Nat.le_of_ble_eq_true rfl, Nat.le_of_ble_eq_true rfl⟩ ⟨rfl, rfl, roN, rfl, rfl, by decide⟩ ⟨rfl, rfl⟩ rfl hl.1 rfl (Nat.le_of_ble_eq_true rfl) dX12_compare_1 (fun H locs Z => ?_)
  refine lv_if_eq (tgt := 14) hx hb dX12_compare_4 (by decide) (fun cnd => ?_) (fun cnd => ?_)
  · replace h := ifp h cnd
    refine lv_iconst (v := (-1 : Int32)) hx hb dX12_compare_14 (by decide) ?_
    obtain rfl := Option.some.inj h
    exact K H locs ls _ dX12_compare_15 Z
  · replace h := ifn h cnd
    refine lv_iload_n hx hb dX12_compare_7 rfl (lv_at hl 2 rfl) ?_
    obtain ⟨u12, hc13, h⟩ := ob_some h
    refine x_runSi (RW' := (RW_X12_compare cy o d)) (wr := []) (isC := []) (isR := []) (isF := []) (rest := []) (As := [.int x2]) (n := 1) X Z (c_X12_isWord l D cy x2 u12 hc13) gX12_compare_X12_isWord rfl (by decide +kernel) ⟨Nat.le_of_ble_eq_true rfl, Nat.le_of_ble_eq_true rfl⟩ ⟨rfl, rfl⟩ ⟨Nat.le_of_ble_eq_true rfl, Nat.le_of_ble_eq_true rfl⟩ ⟨rfl, rfl, roN, rfl, rfl, by decide⟩ ⟨rfl, rfl⟩ rfl hl.1 rfl (Nat.le_of_ble_eq_true rfl) dX12_compare_8 (fun H locs Z => ?_)
    refine lv_if_ne (tgt := 16) hx hb dX12_compare_11 (by decide) (fun cnd => ?_) (fun cnd => ?_)
    · replace h := ifn h cnd
      refine lv_aload_n hx hb dX12_compare_16 rfl (lv_at hl 0 rfl) ?_
      refine x_getO X Z 0 1 (v := .ref (d 1)) rfl rfl lk_X12_compare_X12_wordLength dX12_compare_17 ?_
      refine lv_iload_n hx hb dX12_compare_20 rfl (lv_at hl 1 rfl) ?_
      obtain ⟨hin14, v15, hv16, h⟩ := ld_b h
      refine x_ialdO X Z 1 rfl hin14 hv16 dX12_compare_21 ?_
      refine lv_aload_n hx hb dX12_compare_22 rfl (lv_at hl 0 rfl) ?_
      refine x_getO X Z 0 1 (v := .ref (d 1)) rfl rfl lk_X12_compare_X12_wordLength dX12_compare_23 ?_
      refine lv_iload_n hx hb dX12_compare_26 rfl (lv_at hl 2 rfl) ?_
      obtain ⟨hin17, v18, hv19, h⟩ := ld_b h
      refine x_ialdO X Z 1 rfl hin17 hv19 dX12_compare_27 ?_
      refine lv_icmp_eq (tgt := 52) hx hb dX12_compare_28 (by decide) (fun cnd => ?_) (fun cnd => ?_)
      · replace h := ifp h cnd
        refine lv_iconst (v := (0 : Int32)) hx hb dX12_compare_52 (by decide) ?_
        refine lv_istore_n (lv' := [(3, .int (0 : Int32)), (0, .ref o), (1, .int x1), (2, .int x2)]) hx hb dX12_compare_53 rfl hl (by decide) rfl (fun ls hl => ?_)
        obtain ⟨u20, hL21, h⟩ := ob_some h
        rcases u20 with u20 | u20
        · replace h := se_l h
          refine wl_X12_compare_54 o d letters_ tests_ inputLength_ at_ signed_ newParts_ machineParts_ firstParts_ firstTruth_ secondTruth_ isPair_ states_ stateClasses_ elements_ cursor_ hasSnapshot_ isSaving_ wordLength_ word_ x1 x2 FU (0 : Int32) (.inl u20) X hL21 (sk_li (fun H locs ls Z hl => ?_)) H locs ls Z (lv_sub hl [1, 2, 3, 0] rfl)
          refine lv_iload hx hb dX12_compare_97 (lv_at hl 0 rfl) ?_
          refine lv_iload hx hb dX12_compare_99 (lv_at hl 1 rfl) ?_
          refine lv_icmp_ge (tgt := 108) hx hb dX12_compare_101 (by decide) (fun cnd => ?_) (fun cnd => ?_)
          · replace h := ifp h cnd
            refine lv_iconst (v := (2 : Int32)) hx hb dX12_compare_108 (by decide) ?_
            obtain rfl := Option.some.inj h
            exact K H locs ls _ dX12_compare_109 Z
          · replace h := ifn h cnd
            refine lv_iconst (v := (0 : Int32)) hx hb dX12_compare_104 (by decide) ?_
            refine lv_goto (tgt := 109) hx hb dX12_compare_105 (by decide) ?_
            obtain rfl := Option.some.inj h
            exact K H locs ls _ dX12_compare_109 Z
        · replace h := se_r h
          refine wl_X12_compare_54 o d letters_ tests_ inputLength_ at_ signed_ newParts_ machineParts_ firstParts_ firstTruth_ secondTruth_ isPair_ states_ stateClasses_ elements_ cursor_ hasSnapshot_ isSaving_ wordLength_ word_ x1 x2 FU (0 : Int32) (.inr u20) X hL21 (sk_ri (fun H locs ls Z hl => ?_)) H locs ls Z (lv_sub hl [1, 2, 3, 0] rfl)
          refine lv_iconst (v := (1 : Int32)) hx hb dX12_compare_116 (by decide) ?_
          obtain rfl := Option.some.inj h
          exact K H locs ls _ dX12_compare_117 Z
      · replace h := ifn h cnd
        refine lv_aload_n hx hb dX12_compare_31 rfl (lv_at hl 0 rfl) ?_
        refine x_getO X Z 0 1 (v := .ref (d 1)) rfl rfl lk_X12_compare_X12_wordLength dX12_compare_32 ?_
        refine lv_iload_n hx hb dX12_compare_35 rfl (lv_at hl 1 rfl) ?_
        obtain ⟨hin22, v23, hv24, h⟩ := ld_b h
        refine x_ialdO X Z 1 rfl hin22 hv24 dX12_compare_36 ?_
        refine lv_aload_n hx hb dX12_compare_37 rfl (lv_at hl 0 rfl) ?_
        refine x_getO X Z 0 1 (v := .ref (d 1)) rfl rfl lk_X12_compare_X12_wordLength dX12_compare_38 ?_
        refine lv_iload_n hx hb dX12_compare_41 rfl (lv_at hl 2 rfl) ?_
        obtain ⟨hin25, v26, hv27, h⟩ := ld_b h
        refine x_ialdO X Z 1 rfl hin25 hv27 dX12_compare_42 ?_
        refine lv_icmp_ge (tgt := 50) hx hb dX12_compare_43 (by decide) (fun cnd => ?_) (fun cnd => ?_)
        · replace h := ifp h cnd
          refine lv_iconst (v := (2 : Int32)) hx hb dX12_compare_50 (by decide) ?_
          obtain rfl := Option.some.inj h
          exact K H locs ls _ dX12_compare_51 Z
        · replace h := ifn h cnd
          refine lv_iconst (v := (0 : Int32)) hx hb dX12_compare_46 (by decide) ?_
          refine lv_goto (tgt := 51) hx hb dX12_compare_47 (by decide) ?_
          obtain rfl := Option.some.inj h
          exact K H locs ls _ dX12_compare_51 Z
    · replace h := ifp h cnd
      refine lv_iconst (v := (-1 : Int32)) hx hb dX12_compare_14 (by decide) ?_
      obtain rfl := Option.some.inj h
      exact K H locs ls _ dX12_compare_15 Z
theorem c_X12_compare (l : Launch) (D : va_G) (cy : Nat → ClassId) (o : Nat) (d : Nat → Nat) (letters_ : Int32) (tests_ : Int32) (inputLength_ : Int32) (at_ : Int32) (signed_ : Int32) (newParts_ : Int32) (machineParts_ : Int32) (firstParts_ : Int32) (firstTruth_ : Int32) (secondTruth_ : Int32) (isPair_ : Int32) (states_ : Int32) (stateClasses_ : Int32) (elements_ : Int32) (cursor_ : Int32) (hasSnapshot_ : Int32) (isSaving_ : Int32) (wordLength_ : Nat → Int32) (word_ : Nat → Int32)  (x1 : Int32) (x2 : Int32) (out : Int32) (h : f_X12_compare x1 x2 wordLength_ word_ = some out) : CtI l yX12_compare wsX12_compare rm_X12_compare D cy [.ref o, .int x1, .int x2] (RW_X12_compare cy o d) (RO_X12_compare cy o d letters_ tests_ inputLength_ at_ signed_ newParts_ machineParts_ firstParts_ firstTruth_ secondTruth_ isPair_ states_ stateClasses_ elements_ cursor_ hasSnapshot_ isSaving_ wordLength_ word_) (RW_X12_compare cy o d) out :=
  mk_i (ty := .int) (by decide) rfl rfl (Nat.le_of_ble_eq_true rfl) (fun p e s m args below meth c A Q X K H locs ls Z hl => wt_X12_compare o d letters_ tests_ inputLength_ at_ signed_ newParts_ machineParts_ firstParts_ firstTruth_ secondTruth_ isPair_ states_ stateClasses_ elements_ cursor_ hasSnapshot_ isSaving_ wordLength_ word_ x1 x2 out X h K H locs ls Z hl)
/-! SubwordCounterModel occurrencesIn ([IIII)I -/
abbrev rm_X12_occurrencesIn : Room := { frames := 0, cells := 0, slots := 0, locals := 0 }
def RW_X12_occurrencesIn (cy : Nat → ClassId) (o : Nat) (q_p1 : Nat) (n_p1 : Nat) (d : Nat → Nat) (prefixes_ : Nat → Int32) : va_W := [((d 3), aI cy 13 prefixes_)]
def RO_X12_occurrencesIn (cy : Nat → ClassId) (o : Nat) (q_p1 : Nat) (n_p1 : Nat) (d : Nat → Nat) (letters_ : Int32) (tests_ : Int32) (inputLength_ : Int32) (at_ : Int32) (signed_ : Int32) (newParts_ : Int32) (machineParts_ : Int32) (firstParts_ : Int32) (firstTruth_ : Int32) (secondTruth_ : Int32) (isPair_ : Int32) (states_ : Int32) (stateClasses_ : Int32) (elements_ : Int32) (cursor_ : Int32) (hasSnapshot_ : Int32) (isSaving_ : Int32) (p1_ : Nat → Int32) (wordLength_ : Nat → Int32) (word_ : Nat → Int32) : va_W := [(o, ob 11 (oX12 d letters_ tests_ inputLength_ at_ signed_ newParts_ machineParts_ firstParts_ firstTruth_ secondTruth_ isPair_ states_ stateClasses_ elements_ cursor_ hasSnapshot_ isSaving_)), (q_p1, aI cy n_p1 p1_), ((d 1), aI cy 3 wordLength_), ((d 2), aI cy 36 word_)]
theorem in_X12_occurrencesIn_X12 : ∀ w ∈ u_ws RX12 TX12 68, w ∈ wsX12_occurrencesIn := fun w h => (List.mem_cons_of_mem _ (List.mem_append_right _ h))
theorem lk_X12_occurrencesIn_X12_prefixes : Lk wsX12_occurrencesIn RX12 20 11 3 := ⟨RX12, TX12, 68, rfl, by decide, in_X12_occurrencesIn_X12, mem_at 1 rfl⟩
theorem lk_X12_occurrencesIn_X12_word : Lk wsX12_occurrencesIn RX12 17 11 2 := ⟨RX12, TX12, 68, rfl, by decide, in_X12_occurrencesIn_X12, mem_at 3 rfl⟩
theorem lk_X12_occurrencesIn_X12_wordLength : Lk wsX12_occurrencesIn RX12 13 11 1 := ⟨RX12, TX12, 68, rfl, by decide, in_X12_occurrencesIn_X12, mem_at 2 rfl⟩
def b_X12_occurrencesIn_50 (n_p1 : Nat) (p1_ : Nat → Int32) (word_ : Nat → Int32) (x2 : Int32) (x4 : Int32) (x5 : Int32) (prefixes_ : Nat → Int32) (x6 : Int32) : Option (((Nat → Int32) × Int32) ⊕ ((Nat → Int32))) :=
  if x6 ≤ 0 then
  (some (.inr prefixes_))
  else
  (ldA prefixes_ 13 x6 (fun v2 =>
  ldA p1_ n_p1 ((x2 + x6) - (1 : Int32)) (fun v5 =>
  ldA word_ 36 (((12 : Int32) * x4) + x5) (fun v8 =>
  if v5 = v8 then
  (ldA prefixes_ 13 (x6 - (1 : Int32)) (fun v14 =>
  stA prefixes_ 13 x6 (v2 + v14) (fun prefixes_17 =>
  some (.inl (prefixes_17, (x6 + (-1 : Int32)))))))
  else
  (stA prefixes_ 13 x6 (v2 + (0 : Int32)) (fun prefixes_11 =>
  some (.inl (prefixes_11, (x6 + (-1 : Int32))))))))))
set_option maxHeartbeats 4000000 in
set_option maxRecDepth 100000 in
theorem wb_X12_occurrencesIn_50 {p : Program} {l : Launch} {e : Env} {s : State} {m : MethodId} {args : Array Value} {below : List Frame} {meth : Method} {c : Code} {A : Nat → Prop} {Q : State → Prop} {D : va_G} {cy : Nat → ClassId} (o : Nat) (q_p1 : Nat) (n_p1 : Nat) (d : Nat → Nat) (letters_ : Int32) (tests_ : Int32) (inputLength_ : Int32) (at_ : Int32) (signed_ : Int32) (newParts_ : Int32) (machineParts_ : Int32) (firstParts_ : Int32) (firstTruth_ : Int32) (secondTruth_ : Int32) (isPair_ : Int32) (states_ : Int32) (stateClasses_ : Int32) (elements_ : Int32) (cursor_ : Int32) (hasSnapshot_ : Int32) (isSaving_ : Int32) (p1_ : Nat → Int32) (wordLength_ : Nat → Int32) (word_ : Nat → Int32)  (x2 : Int32) (x3 : Int32) (x4 : Int32) (x5 : Int32) (prefixes_ : Nat → Int32) (x6 : Int32) (o1 : ((Nat → Int32) × Int32) ⊕ ((Nat → Int32))) (X : Cx p m c cX12_occurrencesIn 7 s args wsX12_occurrencesIn RX12 A D cy (RO_X12_occurrencesIn cy o q_p1 n_p1 d letters_ tests_ inputLength_ at_ signed_ newParts_ machineParts_ firstParts_ firstTruth_ secondTruth_ isPair_ states_ stateClasses_ elements_ cursor_ hasSnapshot_ isSaving_ p1_ wordLength_ word_)) (h : b_X12_occurrencesIn_50 n_p1 p1_ word_ x2 x4 x5 prefixes_ x6 = some o1) (K : Sum.elim (fun v : (Nat → Int32) × Int32 => ∀ (H : Heap) (locs : List Loc) (ls : Array Slot), St A D s (RW_X12_occurrencesIn cy o q_p1 n_p1 d v.1) H locs → lv_has ls 7 [(0, .ref o), (1, .ref q_p1), (2, .int x2), (3, .int x3), (4, .int x4), (5, .int x5), (6, .int v.2)] → W p l e rm_X12_occurrencesIn s m args below meth c H locs 0 0 Q (F0 m 50 ls [])) (fun v : (Nat → Int32) => ∀ (H : Heap) (locs : List Loc) (ls : Array Slot), St A D s (RW_X12_occurrencesIn cy o q_p1 n_p1 d v) H locs → lv_has ls 7 [(0, .ref o), (1, .ref q_p1), (2, .int x2), (3, .int x3), (4, .int x4), (5, .int x5)] → W p l e rm_X12_occurrencesIn s m args below meth c H locs 0 0 Q (F0 m 108 ls [])) o1) : ∀ (H : Heap) (locs : List Loc) (ls : Array Slot), St A D s (RW_X12_occurrencesIn cy o q_p1 n_p1 d prefixes_) H locs → lv_has ls 7 [(0, .ref o), (1, .ref q_p1), (2, .int x2), (3, .int x3), (4, .int x4), (5, .int x5), (6, .int x6)] → W p l e rm_X12_occurrencesIn s m args below meth c H locs 0 0 Q (F0 m 50 ls []) := by
  intro H locs ls Z hl
  have hx := X.1.1
  have hb := X.1.2.1
  unfold b_X12_occurrencesIn_50 at h
  refine lv_iload hx hb dX12_occurrencesIn_50 (lv_at hl 6 rfl) ?_
  refine lv_if_le (tgt := 108) hx hb dX12_occurrencesIn_52 (by decide) (fun cnd => ?_) (fun cnd => ?_)
  · replace h := ifp h cnd
    obtain rfl := Option.some.inj h
    exact (sk_r K) H locs ls Z (lv_sub hl [0, 1, 2, 3, 4, 5] rfl)
  · replace h := ifn h cnd
    refine lv_aload_n hx hb dX12_occurrencesIn_55 rfl (lv_at hl 0 rfl) ?_
    refine x_getO X Z 0 3 (v := .ref (d 3)) rfl rfl lk_X12_occurrencesIn_X12_prefixes dX12_occurrencesIn_56 ?_
    refine lv_iload hx hb dX12_occurrencesIn_59 (lv_at hl 6 rfl) ?_
    refine lv_dup2_11 hx hb dX12_occurrencesIn_61 rfl rfl ?_
    obtain ⟨hin1, v2, hv3, h⟩ := ld_b h
    refine x_iald X Z 0 rfl hin1 hv3 dX12_occurrencesIn_62 ?_
    refine lv_aload_n hx hb dX12_occurrencesIn_63 rfl (lv_at hl 1 rfl) ?_
    refine lv_iload_n hx hb dX12_occurrencesIn_64 rfl (lv_at hl 2 rfl) ?_
    refine lv_iload hx hb dX12_occurrencesIn_65 (lv_at hl 6 rfl) ?_
    refine lv_iadd hx hb dX12_occurrencesIn_67 ?_
    refine lv_iconst (v := (1 : Int32)) hx hb dX12_occurrencesIn_68 (by decide) ?_
    refine lv_isub hx hb dX12_occurrencesIn_69 ?_
    obtain ⟨hin4, v5, hv6, h⟩ := ld_b h
    refine x_ialdO X Z 1 rfl hin4 hv6 dX12_occurrencesIn_70 ?_
    refine lv_aload_n hx hb dX12_occurrencesIn_71 rfl (lv_at hl 0 rfl) ?_
    refine x_getO X Z 0 2 (v := .ref (d 2)) rfl rfl lk_X12_occurrencesIn_X12_word dX12_occurrencesIn_72 ?_
    refine lv_bipush (v := (12 : Int32)) hx hb dX12_occurrencesIn_75 (by decide) ?_
    refine lv_iload hx hb dX12_occurrencesIn_77 (lv_at hl 4 rfl) ?_
    refine lv_imul hx hb dX12_occurrencesIn_79 ?_
    refine lv_iload hx hb dX12_occurrencesIn_80 (lv_at hl 5 rfl) ?_
    refine lv_iadd hx hb dX12_occurrencesIn_82 ?_
    obtain ⟨hin7, v8, hv9, h⟩ := ld_b h
    refine x_ialdO X Z 3 rfl hin7 hv9 dX12_occurrencesIn_83 ?_
    refine lv_icmp_ne (tgt := 99) hx hb dX12_occurrencesIn_84 (by decide) (fun cnd => ?_) (fun cnd => ?_)
    · replace h := ifn h cnd
      refine lv_iconst (v := (0 : Int32)) hx hb dX12_occurrencesIn_99 (by decide) ?_
      refine lv_iadd hx hb dX12_occurrencesIn_100 ?_
      obtain ⟨hin10, prefixes_11, hv12, h⟩ := st_b h
      refine x_iast X Z 0 (RW_X12_occurrencesIn cy o q_p1 n_p1 d prefixes_11) rfl hin10 hv12 rfl dX12_occurrencesIn_101 (fun H locs Z => ?_)
      refine lv_iinc (v := (x6 + (-1 : Int32))) (lv' := [(6, .int (x6 + (-1 : Int32))), (0, .ref o), (1, .ref q_p1), (2, .int x2), (3, .int x3), (4, .int x4), (5, .int x5)]) hx hb dX12_occurrencesIn_102 hl (k := 6) rfl rfl (by decide) rfl (fun ls hl => ?_)
      refine lv_goto (tgt := 50) hx hb dX12_occurrencesIn_105 (by decide) ?_
      obtain rfl := Option.some.inj h
      exact sk_l K H locs ls Z (lv_sub hl [1, 2, 3, 4, 5, 6, 0] rfl)
    · replace h := ifp h cnd
      refine lv_aload_n hx hb dX12_occurrencesIn_87 rfl (lv_at hl 0 rfl) ?_
      refine x_getO X Z 0 3 (v := .ref (d 3)) rfl rfl lk_X12_occurrencesIn_X12_prefixes dX12_occurrencesIn_88 ?_
      refine lv_iload hx hb dX12_occurrencesIn_91 (lv_at hl 6 rfl) ?_
      refine lv_iconst (v := (1 : Int32)) hx hb dX12_occurrencesIn_93 (by decide) ?_
      refine lv_isub hx hb dX12_occurrencesIn_94 ?_
      obtain ⟨hin13, v14, hv15, h⟩ := ld_b h
      refine x_iald X Z 0 rfl hin13 hv15 dX12_occurrencesIn_95 ?_
      refine lv_goto (tgt := 100) hx hb dX12_occurrencesIn_96 (by decide) ?_
      refine lv_iadd hx hb dX12_occurrencesIn_100 ?_
      obtain ⟨hin16, prefixes_17, hv18, h⟩ := st_b h
      refine x_iast X Z 0 (RW_X12_occurrencesIn cy o q_p1 n_p1 d prefixes_17) rfl hin16 hv18 rfl dX12_occurrencesIn_101 (fun H locs Z => ?_)
      refine lv_iinc (v := (x6 + (-1 : Int32))) (lv' := [(6, .int (x6 + (-1 : Int32))), (0, .ref o), (1, .ref q_p1), (2, .int x2), (3, .int x3), (4, .int x4), (5, .int x5)]) hx hb dX12_occurrencesIn_102 hl (k := 6) rfl rfl (by decide) rfl (fun ls hl => ?_)
      refine lv_goto (tgt := 50) hx hb dX12_occurrencesIn_105 (by decide) ?_
      obtain rfl := Option.some.inj h
      exact sk_l K H locs ls Z (lv_sub hl [1, 2, 3, 4, 5, 6, 0] rfl)
set_option maxHeartbeats 4000000 in
set_option maxRecDepth 100000 in
theorem wl_X12_occurrencesIn_50 {p : Program} {l : Launch} {e : Env} {s : State} {m : MethodId} {args : Array Value} {below : List Frame} {meth : Method} {c : Code} {A : Nat → Prop} {Q : State → Prop} {D : va_G} {cy : Nat → ClassId} (o : Nat) (q_p1 : Nat) (n_p1 : Nat) (d : Nat → Nat) (letters_ : Int32) (tests_ : Int32) (inputLength_ : Int32) (at_ : Int32) (signed_ : Int32) (newParts_ : Int32) (machineParts_ : Int32) (firstParts_ : Int32) (firstTruth_ : Int32) (secondTruth_ : Int32) (isPair_ : Int32) (states_ : Int32) (stateClasses_ : Int32) (elements_ : Int32) (cursor_ : Int32) (hasSnapshot_ : Int32) (isSaving_ : Int32) (p1_ : Nat → Int32) (wordLength_ : Nat → Int32) (word_ : Nat → Int32)  (x2 : Int32) (x3 : Int32) (x4 : Int32) (x5 : Int32) (n : Nat) (v : (Nat → Int32) × Int32) (x : (Nat → Int32)) (X : Cx p m c cX12_occurrencesIn 7 s args wsX12_occurrencesIn RX12 A D cy (RO_X12_occurrencesIn cy o q_p1 n_p1 d letters_ tests_ inputLength_ at_ signed_ newParts_ machineParts_ firstParts_ firstTruth_ secondTruth_ isPair_ states_ stateClasses_ elements_ cursor_ hasSnapshot_ isSaving_ p1_ wordLength_ word_)) (h : loopN (fun v => b_X12_occurrencesIn_50 n_p1 p1_ word_ x2 x4 x5 v.1 v.2) n v = some x) (K : ∀ (H : Heap) (locs : List Loc) (ls : Array Slot), St A D s (RW_X12_occurrencesIn cy o q_p1 n_p1 d x) H locs → lv_has ls 7 [(0, .ref o), (1, .ref q_p1), (2, .int x2), (3, .int x3), (4, .int x4), (5, .int x5)] → W p l e rm_X12_occurrencesIn s m args below meth c H locs 0 0 Q (F0 m 108 ls [])) : ∀ (H : Heap) (locs : List Loc) (ls : Array Slot), St A D s (RW_X12_occurrencesIn cy o q_p1 n_p1 d v.1) H locs → lv_has ls 7 [(0, .ref o), (1, .ref q_p1), (2, .int x2), (3, .int x3), (4, .int x4), (5, .int x5), (6, .int v.2)] → W p l e rm_X12_occurrencesIn s m args below meth c H locs 0 0 Q (F0 m 50 ls []) :=
  loop_gen (B := (fun v => b_X12_occurrencesIn_50 n_p1 p1_ word_ x2 x4 x5 v.1 v.2)) (Head := fun v : (Nat → Int32) × Int32 => ∀ (H : Heap) (locs : List Loc) (ls : Array Slot), St A D s (RW_X12_occurrencesIn cy o q_p1 n_p1 d v.1) H locs → lv_has ls 7 [(0, .ref o), (1, .ref q_p1), (2, .int x2), (3, .int x3), (4, .int x4), (5, .int x5), (6, .int v.2)] → W p l e rm_X12_occurrencesIn s m args below meth c H locs 0 0 Q (F0 m 50 ls [])) (Exit := fun v : (Nat → Int32) => ∀ (H : Heap) (locs : List Loc) (ls : Array Slot), St A D s (RW_X12_occurrencesIn cy o q_p1 n_p1 d v) H locs → lv_has ls 7 [(0, .ref o), (1, .ref q_p1), (2, .int x2), (3, .int x3), (4, .int x4), (5, .int x5)] → W p l e rm_X12_occurrencesIn s m args below meth c H locs 0 0 Q (F0 m 108 ls [])) (fun v o9 hb1 K1 => wb_X12_occurrencesIn_50 o q_p1 n_p1 d letters_ tests_ inputLength_ at_ signed_ newParts_ machineParts_ firstParts_ firstTruth_ secondTruth_ isPair_ states_ stateClasses_ elements_ cursor_ hasSnapshot_ isSaving_ p1_ wordLength_ word_ x2 x3 x4 x5 v.1 v.2 o9 X hb1 K1) n v x h K
def b_X12_occurrencesIn_35 (n_p1 : Nat) (p1_ : Nat → Int32) (wordLength_ : Nat → Int32) (word_ : Nat → Int32) (x2 : Int32) (x3 : Int32) (x4 : Int32) (prefixes_ : Nat → Int32) (x5 : Int32) : Option (((Nat → Int32) × Int32) ⊕ ((Nat → Int32))) :=
  ldA wordLength_ 3 x4 (fun v20 =>
  if v20 ≤ x5 then
  (some (.inr prefixes_))
  else
  ((loopN (fun v => b_X12_occurrencesIn_50 n_p1 p1_ word_ x2 x4 x5 v.1 v.2) FU (prefixes_, x3)).bind (fun u22 =>
  some (.inl (u22, (x5 + (1 : Int32)))))))
set_option maxHeartbeats 4000000 in
set_option maxRecDepth 100000 in
theorem wb_X12_occurrencesIn_35 {p : Program} {l : Launch} {e : Env} {s : State} {m : MethodId} {args : Array Value} {below : List Frame} {meth : Method} {c : Code} {A : Nat → Prop} {Q : State → Prop} {D : va_G} {cy : Nat → ClassId} (o : Nat) (q_p1 : Nat) (n_p1 : Nat) (d : Nat → Nat) (letters_ : Int32) (tests_ : Int32) (inputLength_ : Int32) (at_ : Int32) (signed_ : Int32) (newParts_ : Int32) (machineParts_ : Int32) (firstParts_ : Int32) (firstTruth_ : Int32) (secondTruth_ : Int32) (isPair_ : Int32) (states_ : Int32) (stateClasses_ : Int32) (elements_ : Int32) (cursor_ : Int32) (hasSnapshot_ : Int32) (isSaving_ : Int32) (p1_ : Nat → Int32) (wordLength_ : Nat → Int32) (word_ : Nat → Int32)  (x2 : Int32) (x3 : Int32) (x4 : Int32) (prefixes_ : Nat → Int32) (x5 : Int32) (o1 : ((Nat → Int32) × Int32) ⊕ ((Nat → Int32))) (X : Cx p m c cX12_occurrencesIn 7 s args wsX12_occurrencesIn RX12 A D cy (RO_X12_occurrencesIn cy o q_p1 n_p1 d letters_ tests_ inputLength_ at_ signed_ newParts_ machineParts_ firstParts_ firstTruth_ secondTruth_ isPair_ states_ stateClasses_ elements_ cursor_ hasSnapshot_ isSaving_ p1_ wordLength_ word_)) (h : b_X12_occurrencesIn_35 n_p1 p1_ wordLength_ word_ x2 x3 x4 prefixes_ x5 = some o1) (K : Sum.elim (fun v : (Nat → Int32) × Int32 => ∀ (H : Heap) (locs : List Loc) (ls : Array Slot), St A D s (RW_X12_occurrencesIn cy o q_p1 n_p1 d v.1) H locs → lv_has ls 7 [(0, .ref o), (1, .ref q_p1), (2, .int x2), (3, .int x3), (4, .int x4), (5, .int v.2)] → W p l e rm_X12_occurrencesIn s m args below meth c H locs 0 0 Q (F0 m 35 ls [])) (fun v : (Nat → Int32) => ∀ (H : Heap) (locs : List Loc) (ls : Array Slot), St A D s (RW_X12_occurrencesIn cy o q_p1 n_p1 d v) H locs → lv_has ls 7 [(0, .ref o), (3, .int x3)] → W p l e rm_X12_occurrencesIn s m args below meth c H locs 0 0 Q (F0 m 114 ls [])) o1) : ∀ (H : Heap) (locs : List Loc) (ls : Array Slot), St A D s (RW_X12_occurrencesIn cy o q_p1 n_p1 d prefixes_) H locs → lv_has ls 7 [(0, .ref o), (1, .ref q_p1), (2, .int x2), (3, .int x3), (4, .int x4), (5, .int x5)] → W p l e rm_X12_occurrencesIn s m args below meth c H locs 0 0 Q (F0 m 35 ls []) := by
  intro H locs ls Z hl
  have hx := X.1.1
  have hb := X.1.2.1
  unfold b_X12_occurrencesIn_35 at h
  refine lv_iload hx hb dX12_occurrencesIn_35 (lv_at hl 5 rfl) ?_
  refine lv_aload_n hx hb dX12_occurrencesIn_37 rfl (lv_at hl 0 rfl) ?_
  refine x_getO X Z 0 1 (v := .ref (d 1)) rfl rfl lk_X12_occurrencesIn_X12_wordLength dX12_occurrencesIn_38 ?_
  refine lv_iload hx hb dX12_occurrencesIn_41 (lv_at hl 4 rfl) ?_
  obtain ⟨hin19, v20, hv21, h⟩ := ld_b h
  refine x_ialdO X Z 2 rfl hin19 hv21 dX12_occurrencesIn_43 ?_
  refine lv_icmp_ge (tgt := 114) hx hb dX12_occurrencesIn_44 (by decide) (fun cnd => ?_) (fun cnd => ?_)
  · replace h := ifp h cnd
    obtain rfl := Option.some.inj h
    exact (sk_r K) H locs ls Z (lv_sub hl [0, 3] rfl)
  · replace h := ifn h cnd
    refine lv_iload_n hx hb dX12_occurrencesIn_47 rfl (lv_at hl 3 rfl) ?_
    refine lv_istore (lv' := [(6, .int x3), (0, .ref o), (1, .ref q_p1), (2, .int x2), (3, .int x3), (4, .int x4), (5, .int x5)]) hx hb dX12_occurrencesIn_48 hl (by decide) rfl (fun ls hl => ?_)
    obtain ⟨u22, hL23, h⟩ := ob_some h
    refine wl_X12_occurrencesIn_50 o q_p1 n_p1 d letters_ tests_ inputLength_ at_ signed_ newParts_ machineParts_ firstParts_ firstTruth_ secondTruth_ isPair_ states_ stateClasses_ elements_ cursor_ hasSnapshot_ isSaving_ p1_ wordLength_ word_ x2 x3 x4 x5 FU (prefixes_, x3) u22 X hL23 (fun H locs ls Z hl => ?_) H locs ls Z (lv_sub hl [1, 2, 3, 4, 5, 6, 0] rfl)
    refine lv_iinc (v := (x5 + (1 : Int32))) (lv' := [(5, .int (x5 + (1 : Int32))), (0, .ref o), (1, .ref q_p1), (2, .int x2), (3, .int x3), (4, .int x4)]) hx hb dX12_occurrencesIn_108 hl (k := 5) rfl rfl (by decide) rfl (fun ls hl => ?_)
    refine lv_goto (tgt := 35) hx hb dX12_occurrencesIn_111 (by decide) ?_
    obtain rfl := Option.some.inj h
    exact sk_l K H locs ls Z (lv_sub hl [1, 2, 3, 4, 5, 0] rfl)
set_option maxHeartbeats 4000000 in
set_option maxRecDepth 100000 in
theorem wl_X12_occurrencesIn_35 {p : Program} {l : Launch} {e : Env} {s : State} {m : MethodId} {args : Array Value} {below : List Frame} {meth : Method} {c : Code} {A : Nat → Prop} {Q : State → Prop} {D : va_G} {cy : Nat → ClassId} (o : Nat) (q_p1 : Nat) (n_p1 : Nat) (d : Nat → Nat) (letters_ : Int32) (tests_ : Int32) (inputLength_ : Int32) (at_ : Int32) (signed_ : Int32) (newParts_ : Int32) (machineParts_ : Int32) (firstParts_ : Int32) (firstTruth_ : Int32) (secondTruth_ : Int32) (isPair_ : Int32) (states_ : Int32) (stateClasses_ : Int32) (elements_ : Int32) (cursor_ : Int32) (hasSnapshot_ : Int32) (isSaving_ : Int32) (p1_ : Nat → Int32) (wordLength_ : Nat → Int32) (word_ : Nat → Int32)  (x2 : Int32) (x3 : Int32) (x4 : Int32) (n : Nat) (v : (Nat → Int32) × Int32) (x : (Nat → Int32)) (X : Cx p m c cX12_occurrencesIn 7 s args wsX12_occurrencesIn RX12 A D cy (RO_X12_occurrencesIn cy o q_p1 n_p1 d letters_ tests_ inputLength_ at_ signed_ newParts_ machineParts_ firstParts_ firstTruth_ secondTruth_ isPair_ states_ stateClasses_ elements_ cursor_ hasSnapshot_ isSaving_ p1_ wordLength_ word_)) (h : loopN (fun v => b_X12_occurrencesIn_35 n_p1 p1_ wordLength_ word_ x2 x3 x4 v.1 v.2) n v = some x) (K : ∀ (H : Heap) (locs : List Loc) (ls : Array Slot), St A D s (RW_X12_occurrencesIn cy o q_p1 n_p1 d x) H locs → lv_has ls 7 [(0, .ref o), (3, .int x3)] → W p l e rm_X12_occurrencesIn s m args below meth c H locs 0 0 Q (F0 m 114 ls [])) : ∀ (H : Heap) (locs : List Loc) (ls : Array Slot), St A D s (RW_X12_occurrencesIn cy o q_p1 n_p1 d v.1) H locs → lv_has ls 7 [(0, .ref o), (1, .ref q_p1), (2, .int x2), (3, .int x3), (4, .int x4), (5, .int v.2)] → W p l e rm_X12_occurrencesIn s m args below meth c H locs 0 0 Q (F0 m 35 ls []) :=
  loop_gen (B := (fun v => b_X12_occurrencesIn_35 n_p1 p1_ wordLength_ word_ x2 x3 x4 v.1 v.2)) (Head := fun v : (Nat → Int32) × Int32 => ∀ (H : Heap) (locs : List Loc) (ls : Array Slot), St A D s (RW_X12_occurrencesIn cy o q_p1 n_p1 d v.1) H locs → lv_has ls 7 [(0, .ref o), (1, .ref q_p1), (2, .int x2), (3, .int x3), (4, .int x4), (5, .int v.2)] → W p l e rm_X12_occurrencesIn s m args below meth c H locs 0 0 Q (F0 m 35 ls [])) (Exit := fun v : (Nat → Int32) => ∀ (H : Heap) (locs : List Loc) (ls : Array Slot), St A D s (RW_X12_occurrencesIn cy o q_p1 n_p1 d v) H locs → lv_has ls 7 [(0, .ref o), (3, .int x3)] → W p l e rm_X12_occurrencesIn s m args below meth c H locs 0 0 Q (F0 m 114 ls [])) (fun v o9 hb1 K1 => wb_X12_occurrencesIn_35 o q_p1 n_p1 d letters_ tests_ inputLength_ at_ signed_ newParts_ machineParts_ firstParts_ firstTruth_ secondTruth_ isPair_ states_ stateClasses_ elements_ cursor_ hasSnapshot_ isSaving_ p1_ wordLength_ word_ x2 x3 x4 v.1 v.2 o9 X hb1 K1) n v x h K
def b_X12_occurrencesIn_3 (n_p1 : Nat)  (x3 : Int32) (prefixes_ : Nat → Int32) (x5 : Int32) : Option (((Nat → Int32) × Int32) ⊕ ((Nat → Int32))) :=
  if x3 < x5 then
  (some (.inr prefixes_))
  else
  (if x5 = 0 then
  (stA prefixes_ 13 x5 (1 : Int32) (fun prefixes_28 =>
  some (.inl (prefixes_28, (x5 + (1 : Int32))))))
  else
  (stA prefixes_ 13 x5 (0 : Int32) (fun prefixes_25 =>
  some (.inl (prefixes_25, (x5 + (1 : Int32)))))))
set_option maxHeartbeats 4000000 in
set_option maxRecDepth 100000 in
theorem wb_X12_occurrencesIn_3 {p : Program} {l : Launch} {e : Env} {s : State} {m : MethodId} {args : Array Value} {below : List Frame} {meth : Method} {c : Code} {A : Nat → Prop} {Q : State → Prop} {D : va_G} {cy : Nat → ClassId} (o : Nat) (q_p1 : Nat) (n_p1 : Nat) (d : Nat → Nat) (letters_ : Int32) (tests_ : Int32) (inputLength_ : Int32) (at_ : Int32) (signed_ : Int32) (newParts_ : Int32) (machineParts_ : Int32) (firstParts_ : Int32) (firstTruth_ : Int32) (secondTruth_ : Int32) (isPair_ : Int32) (states_ : Int32) (stateClasses_ : Int32) (elements_ : Int32) (cursor_ : Int32) (hasSnapshot_ : Int32) (isSaving_ : Int32) (p1_ : Nat → Int32) (wordLength_ : Nat → Int32) (word_ : Nat → Int32)  (x2 : Int32) (x3 : Int32) (x4 : Int32) (prefixes_ : Nat → Int32) (x5 : Int32) (o1 : ((Nat → Int32) × Int32) ⊕ ((Nat → Int32))) (X : Cx p m c cX12_occurrencesIn 7 s args wsX12_occurrencesIn RX12 A D cy (RO_X12_occurrencesIn cy o q_p1 n_p1 d letters_ tests_ inputLength_ at_ signed_ newParts_ machineParts_ firstParts_ firstTruth_ secondTruth_ isPair_ states_ stateClasses_ elements_ cursor_ hasSnapshot_ isSaving_ p1_ wordLength_ word_)) (h : b_X12_occurrencesIn_3 n_p1 x3 prefixes_ x5 = some o1) (K : Sum.elim (fun v : (Nat → Int32) × Int32 => ∀ (H : Heap) (locs : List Loc) (ls : Array Slot), St A D s (RW_X12_occurrencesIn cy o q_p1 n_p1 d v.1) H locs → lv_has ls 7 [(0, .ref o), (1, .ref q_p1), (2, .int x2), (3, .int x3), (4, .int x4), (5, .int v.2)] → W p l e rm_X12_occurrencesIn s m args below meth c H locs 0 0 Q (F0 m 3 ls [])) (fun v : (Nat → Int32) => ∀ (H : Heap) (locs : List Loc) (ls : Array Slot), St A D s (RW_X12_occurrencesIn cy o q_p1 n_p1 d v) H locs → lv_has ls 7 [(0, .ref o), (1, .ref q_p1), (2, .int x2), (3, .int x3), (4, .int x4)] → W p l e rm_X12_occurrencesIn s m args below meth c H locs 0 0 Q (F0 m 32 ls [])) o1) : ∀ (H : Heap) (locs : List Loc) (ls : Array Slot), St A D s (RW_X12_occurrencesIn cy o q_p1 n_p1 d prefixes_) H locs → lv_has ls 7 [(0, .ref o), (1, .ref q_p1), (2, .int x2), (3, .int x3), (4, .int x4), (5, .int x5)] → W p l e rm_X12_occurrencesIn s m args below meth c H locs 0 0 Q (F0 m 3 ls []) := by
  intro H locs ls Z hl
  have hx := X.1.1
  have hb := X.1.2.1
  unfold b_X12_occurrencesIn_3 at h
  refine lv_iload hx hb dX12_occurrencesIn_3 (lv_at hl 5 rfl) ?_
  refine lv_iload_n hx hb dX12_occurrencesIn_5 rfl (lv_at hl 3 rfl) ?_
  refine lv_icmp_gt (tgt := 32) hx hb dX12_occurrencesIn_6 (by decide) (fun cnd => ?_) (fun cnd => ?_)
  · replace h := ifp h cnd
    obtain rfl := Option.some.inj h
    exact (sk_r K) H locs ls Z (lv_sub hl [0, 1, 2, 3, 4] rfl)
  · replace h := ifn h cnd
    refine lv_aload_n hx hb dX12_occurrencesIn_9 rfl (lv_at hl 0 rfl) ?_
    refine x_getO X Z 0 3 (v := .ref (d 3)) rfl rfl lk_X12_occurrencesIn_X12_prefixes dX12_occurrencesIn_10 ?_
    refine lv_iload hx hb dX12_occurrencesIn_13 (lv_at hl 5 rfl) ?_
    refine lv_iload hx hb dX12_occurrencesIn_15 (lv_at hl 5 rfl) ?_
    refine lv_if_ne (tgt := 24) hx hb dX12_occurrencesIn_17 (by decide) (fun cnd => ?_) (fun cnd => ?_)
    · replace h := ifn h cnd
      refine lv_iconst (v := (0 : Int32)) hx hb dX12_occurrencesIn_24 (by decide) ?_
      obtain ⟨hin24, prefixes_25, hv26, h⟩ := st_b h
      refine x_iast X Z 0 (RW_X12_occurrencesIn cy o q_p1 n_p1 d prefixes_25) rfl hin24 hv26 rfl dX12_occurrencesIn_25 (fun H locs Z => ?_)
      refine lv_iinc (v := (x5 + (1 : Int32))) (lv' := [(5, .int (x5 + (1 : Int32))), (0, .ref o), (1, .ref q_p1), (2, .int x2), (3, .int x3), (4, .int x4)]) hx hb dX12_occurrencesIn_26 hl (k := 5) rfl rfl (by decide) rfl (fun ls hl => ?_)
      refine lv_goto (tgt := 3) hx hb dX12_occurrencesIn_29 (by decide) ?_
      obtain rfl := Option.some.inj h
      exact sk_l K H locs ls Z (lv_sub hl [1, 2, 3, 4, 5, 0] rfl)
    · replace h := ifp h cnd
      refine lv_iconst (v := (1 : Int32)) hx hb dX12_occurrencesIn_20 (by decide) ?_
      refine lv_goto (tgt := 25) hx hb dX12_occurrencesIn_21 (by decide) ?_
      obtain ⟨hin27, prefixes_28, hv29, h⟩ := st_b h
      refine x_iast X Z 0 (RW_X12_occurrencesIn cy o q_p1 n_p1 d prefixes_28) rfl hin27 hv29 rfl dX12_occurrencesIn_25 (fun H locs Z => ?_)
      refine lv_iinc (v := (x5 + (1 : Int32))) (lv' := [(5, .int (x5 + (1 : Int32))), (0, .ref o), (1, .ref q_p1), (2, .int x2), (3, .int x3), (4, .int x4)]) hx hb dX12_occurrencesIn_26 hl (k := 5) rfl rfl (by decide) rfl (fun ls hl => ?_)
      refine lv_goto (tgt := 3) hx hb dX12_occurrencesIn_29 (by decide) ?_
      obtain rfl := Option.some.inj h
      exact sk_l K H locs ls Z (lv_sub hl [1, 2, 3, 4, 5, 0] rfl)
set_option maxHeartbeats 4000000 in
set_option maxRecDepth 100000 in
theorem wl_X12_occurrencesIn_3 {p : Program} {l : Launch} {e : Env} {s : State} {m : MethodId} {args : Array Value} {below : List Frame} {meth : Method} {c : Code} {A : Nat → Prop} {Q : State → Prop} {D : va_G} {cy : Nat → ClassId} (o : Nat) (q_p1 : Nat) (n_p1 : Nat) (d : Nat → Nat) (letters_ : Int32) (tests_ : Int32) (inputLength_ : Int32) (at_ : Int32) (signed_ : Int32) (newParts_ : Int32) (machineParts_ : Int32) (firstParts_ : Int32) (firstTruth_ : Int32) (secondTruth_ : Int32) (isPair_ : Int32) (states_ : Int32) (stateClasses_ : Int32) (elements_ : Int32) (cursor_ : Int32) (hasSnapshot_ : Int32) (isSaving_ : Int32) (p1_ : Nat → Int32) (wordLength_ : Nat → Int32) (word_ : Nat → Int32)  (x2 : Int32) (x3 : Int32) (x4 : Int32) (n : Nat) (v : (Nat → Int32) × Int32) (x : (Nat → Int32)) (X : Cx p m c cX12_occurrencesIn 7 s args wsX12_occurrencesIn RX12 A D cy (RO_X12_occurrencesIn cy o q_p1 n_p1 d letters_ tests_ inputLength_ at_ signed_ newParts_ machineParts_ firstParts_ firstTruth_ secondTruth_ isPair_ states_ stateClasses_ elements_ cursor_ hasSnapshot_ isSaving_ p1_ wordLength_ word_)) (h : loopN (fun v => b_X12_occurrencesIn_3 n_p1 x3 v.1 v.2) n v = some x) (K : ∀ (H : Heap) (locs : List Loc) (ls : Array Slot), St A D s (RW_X12_occurrencesIn cy o q_p1 n_p1 d x) H locs → lv_has ls 7 [(0, .ref o), (1, .ref q_p1), (2, .int x2), (3, .int x3), (4, .int x4)] → W p l e rm_X12_occurrencesIn s m args below meth c H locs 0 0 Q (F0 m 32 ls [])) : ∀ (H : Heap) (locs : List Loc) (ls : Array Slot), St A D s (RW_X12_occurrencesIn cy o q_p1 n_p1 d v.1) H locs → lv_has ls 7 [(0, .ref o), (1, .ref q_p1), (2, .int x2), (3, .int x3), (4, .int x4), (5, .int v.2)] → W p l e rm_X12_occurrencesIn s m args below meth c H locs 0 0 Q (F0 m 3 ls []) :=
  loop_gen (B := (fun v => b_X12_occurrencesIn_3 n_p1 x3 v.1 v.2)) (Head := fun v : (Nat → Int32) × Int32 => ∀ (H : Heap) (locs : List Loc) (ls : Array Slot), St A D s (RW_X12_occurrencesIn cy o q_p1 n_p1 d v.1) H locs → lv_has ls 7 [(0, .ref o), (1, .ref q_p1), (2, .int x2), (3, .int x3), (4, .int x4), (5, .int v.2)] → W p l e rm_X12_occurrencesIn s m args below meth c H locs 0 0 Q (F0 m 3 ls [])) (Exit := fun v : (Nat → Int32) => ∀ (H : Heap) (locs : List Loc) (ls : Array Slot), St A D s (RW_X12_occurrencesIn cy o q_p1 n_p1 d v) H locs → lv_has ls 7 [(0, .ref o), (1, .ref q_p1), (2, .int x2), (3, .int x3), (4, .int x4)] → W p l e rm_X12_occurrencesIn s m args below meth c H locs 0 0 Q (F0 m 32 ls [])) (fun v o9 hb1 K1 => wb_X12_occurrencesIn_3 o q_p1 n_p1 d letters_ tests_ inputLength_ at_ signed_ newParts_ machineParts_ firstParts_ firstTruth_ secondTruth_ isPair_ states_ stateClasses_ elements_ cursor_ hasSnapshot_ isSaving_ p1_ wordLength_ word_ x2 x3 x4 v.1 v.2 o9 X hb1 K1) n v x h K
def f_X12_occurrencesIn (x2 : Int32) (x3 : Int32) (x4 : Int32) (n_p1 : Nat) (p1_ : Nat → Int32) (wordLength_ : Nat → Int32) (word_ : Nat → Int32) (prefixes_ : Nat → Int32) : Option (Int32 × (Nat → Int32)) :=
  (loopN (fun v => b_X12_occurrencesIn_3 n_p1 x3 v.1 v.2) FU (prefixes_, (0 : Int32))).bind (fun u30 =>
  (loopN (fun v => b_X12_occurrencesIn_35 n_p1 p1_ wordLength_ word_ x2 x3 x4 v.1 v.2) FU (u30, (0 : Int32))).bind (fun u32 =>
  ldA u32 13 x3 (fun v35 =>
  some (v35, u32))))
set_option maxHeartbeats 4000000 in
set_option maxRecDepth 100000 in
theorem wt_X12_occurrencesIn {p : Program} {l : Launch} {e : Env} {s : State} {m : MethodId} {args : Array Value} {below : List Frame} {meth : Method} {c : Code} {A : Nat → Prop} {Q : State → Prop} {D : va_G} {cy : Nat → ClassId} (o : Nat) (q_p1 : Nat) (n_p1 : Nat) (d : Nat → Nat) (letters_ : Int32) (tests_ : Int32) (inputLength_ : Int32) (at_ : Int32) (signed_ : Int32) (newParts_ : Int32) (machineParts_ : Int32) (firstParts_ : Int32) (firstTruth_ : Int32) (secondTruth_ : Int32) (isPair_ : Int32) (states_ : Int32) (stateClasses_ : Int32) (elements_ : Int32) (cursor_ : Int32) (hasSnapshot_ : Int32) (isSaving_ : Int32) (p1_ : Nat → Int32) (wordLength_ : Nat → Int32) (word_ : Nat → Int32) (prefixes_ : Nat → Int32) (x2 : Int32) (x3 : Int32) (x4 : Int32) (out : Int32 × (Nat → Int32)) (X : Cx p m c cX12_occurrencesIn 7 s args wsX12_occurrencesIn RX12 A D cy (RO_X12_occurrencesIn cy o q_p1 n_p1 d letters_ tests_ inputLength_ at_ signed_ newParts_ machineParts_ firstParts_ firstTruth_ secondTruth_ isPair_ states_ stateClasses_ elements_ cursor_ hasSnapshot_ isSaving_ p1_ wordLength_ word_)) (h : f_X12_occurrencesIn x2 x3 x4 n_p1 p1_ wordLength_ word_ prefixes_ = some out) (K : ∀ (H : Heap) (locs : List Loc) (ls : Array Slot) (pc : Nat), decode cX12_occurrencesIn pc = .ok (.ireturn, 1) → St A D s (RW_X12_occurrencesIn cy o q_p1 n_p1 d out.2) H locs → W p l e rm_X12_occurrencesIn s m args below meth c H locs 0 0 Q (F0 m pc ls [.int out.1])) : ∀ (H : Heap) (locs : List Loc) (ls : Array Slot), St A D s (RW_X12_occurrencesIn cy o q_p1 n_p1 d prefixes_) H locs → lv_has ls 7 [(0, .ref o), (1, .ref q_p1), (2, .int x2), (3, .int x3), (4, .int x4)] → W p l e rm_X12_occurrencesIn s m args below meth c H locs 0 0 Q (F0 m 0 ls []) := by
  intro H locs ls Z hl
  have hx := X.1.1
  have hb := X.1.2.1
  unfold f_X12_occurrencesIn at h
  refine lv_iconst (v := (0 : Int32)) hx hb dX12_occurrencesIn_0 (by decide) ?_
  refine lv_istore (lv' := [(5, .int (0 : Int32)), (0, .ref o), (1, .ref q_p1), (2, .int x2), (3, .int x3), (4, .int x4)]) hx hb dX12_occurrencesIn_1 hl (by decide) rfl (fun ls hl => ?_)
  obtain ⟨u30, hL31, h⟩ := ob_some h
  refine wl_X12_occurrencesIn_3 o q_p1 n_p1 d letters_ tests_ inputLength_ at_ signed_ newParts_ machineParts_ firstParts_ firstTruth_ secondTruth_ isPair_ states_ stateClasses_ elements_ cursor_ hasSnapshot_ isSaving_ p1_ wordLength_ word_ x2 x3 x4 FU (prefixes_, (0 : Int32)) u30 X hL31 (fun H locs ls Z hl => ?_) H locs ls Z (lv_sub hl [1, 2, 3, 4, 5, 0] rfl)
  refine lv_iconst (v := (0 : Int32)) hx hb dX12_occurrencesIn_32 (by decide) ?_
  refine lv_istore (lv' := [(5, .int (0 : Int32)), (0, .ref o), (1, .ref q_p1), (2, .int x2), (3, .int x3), (4, .int x4)]) hx hb dX12_occurrencesIn_33 hl (by decide) rfl (fun ls hl => ?_)
  obtain ⟨u32, hL33, h⟩ := ob_some h
  refine wl_X12_occurrencesIn_35 o q_p1 n_p1 d letters_ tests_ inputLength_ at_ signed_ newParts_ machineParts_ firstParts_ firstTruth_ secondTruth_ isPair_ states_ stateClasses_ elements_ cursor_ hasSnapshot_ isSaving_ p1_ wordLength_ word_ x2 x3 x4 FU (u30, (0 : Int32)) u32 X hL33 (fun H locs ls Z hl => ?_) H locs ls Z (lv_sub hl [1, 2, 3, 4, 5, 0] rfl)
  refine lv_aload_n hx hb dX12_occurrencesIn_114 rfl (lv_at hl 0 rfl) ?_
  refine x_getO X Z 0 3 (v := .ref (d 3)) rfl rfl lk_X12_occurrencesIn_X12_prefixes dX12_occurrencesIn_115 ?_
  refine lv_iload_n hx hb dX12_occurrencesIn_118 rfl (lv_at hl 1 rfl) ?_
  obtain ⟨hin34, v35, hv36, h⟩ := ld_b h
  refine x_iald X Z 0 rfl hin34 hv36 dX12_occurrencesIn_119 ?_
  obtain rfl := Option.some.inj h
  exact K H locs ls _ dX12_occurrencesIn_120 Z
theorem c_X12_occurrencesIn (l : Launch) (D : va_G) (cy : Nat → ClassId) (o : Nat) (q_p1 : Nat) (n_p1 : Nat) (d : Nat → Nat) (letters_ : Int32) (tests_ : Int32) (inputLength_ : Int32) (at_ : Int32) (signed_ : Int32) (newParts_ : Int32) (machineParts_ : Int32) (firstParts_ : Int32) (firstTruth_ : Int32) (secondTruth_ : Int32) (isPair_ : Int32) (states_ : Int32) (stateClasses_ : Int32) (elements_ : Int32) (cursor_ : Int32) (hasSnapshot_ : Int32) (isSaving_ : Int32) (p1_ : Nat → Int32) (wordLength_ : Nat → Int32) (word_ : Nat → Int32) (prefixes_ : Nat → Int32) (x2 : Int32) (x3 : Int32) (x4 : Int32) (out : Int32 × (Nat → Int32)) (h : f_X12_occurrencesIn x2 x3 x4 n_p1 p1_ wordLength_ word_ prefixes_ = some out) : CtI l yX12_occurrencesIn wsX12_occurrencesIn rm_X12_occurrencesIn D cy [.ref o, .ref q_p1, .int x2, .int x3, .int x4] (RW_X12_occurrencesIn cy o q_p1 n_p1 d prefixes_) (RO_X12_occurrencesIn cy o q_p1 n_p1 d letters_ tests_ inputLength_ at_ signed_ newParts_ machineParts_ firstParts_ firstTruth_ secondTruth_ isPair_ states_ stateClasses_ elements_ cursor_ hasSnapshot_ isSaving_ p1_ wordLength_ word_) (RW_X12_occurrencesIn cy o q_p1 n_p1 d out.2) out.1 :=
  mk_i (ty := .int) (by decide) rfl rfl (Nat.le_of_ble_eq_true rfl) (fun p e s m args below meth c A Q X K H locs ls Z hl => wt_X12_occurrencesIn o q_p1 n_p1 d letters_ tests_ inputLength_ at_ signed_ newParts_ machineParts_ firstParts_ firstTruth_ secondTruth_ isPair_ states_ stateClasses_ elements_ cursor_ hasSnapshot_ isSaving_ p1_ wordLength_ word_ prefixes_ x2 x3 x4 out X h K H locs ls Z hl)
/-! SubwordCounterModel occurrences (II)I -/
abbrev rm_X12_occurrences : Room := { frames := 2, cells := 0, slots := 0, locals := 42 }
def RW_X12_occurrences (cy : Nat → ClassId) (o : Nat) (d : Nat → Nat) (prefixes_ : Nat → Int32) : va_W := [((d 3), aI cy 13 prefixes_)]
def RO_X12_occurrences (cy : Nat → ClassId) (o : Nat) (d : Nat → Nat) (letters_ : Int32) (tests_ : Int32) (inputLength_ : Int32) (at_ : Int32) (signed_ : Int32) (newParts_ : Int32) (machineParts_ : Int32) (firstParts_ : Int32) (firstTruth_ : Int32) (secondTruth_ : Int32) (isPair_ : Int32) (states_ : Int32) (stateClasses_ : Int32) (elements_ : Int32) (cursor_ : Int32) (hasSnapshot_ : Int32) (isSaving_ : Int32) (wordLength_ : Nat → Int32) (word_ : Nat → Int32) : va_W := [(o, ob 11 (oX12 d letters_ tests_ inputLength_ at_ signed_ newParts_ machineParts_ firstParts_ firstTruth_ secondTruth_ isPair_ states_ stateClasses_ elements_ cursor_ hasSnapshot_ isSaving_)), ((d 1), aI cy 3 wordLength_), ((d 2), aI cy 36 word_)]
theorem in_X12_occurrences_X12 : ∀ w ∈ u_ws RX12 TX12 68, w ∈ wsX12_occurrences := fun w h => (List.mem_cons_of_mem _ (List.mem_append_right _ h))
theorem lk_X12_occurrences_X12_word : Lk wsX12_occurrences RX12 17 11 2 := ⟨RX12, TX12, 68, rfl, by decide, in_X12_occurrences_X12, mem_at 1 rfl⟩
theorem lk_X12_occurrences_X12_wordLength : Lk wsX12_occurrences RX12 13 11 1 := ⟨RX12, TX12, 68, rfl, by decide, in_X12_occurrences_X12, mem_at 2 rfl⟩
def f_X12_occurrences (x1 : Int32) (x2 : Int32) (wordLength_ : Nat → Int32) (word_ : Nat → Int32) (prefixes_ : Nat → Int32) : Option (Int32 × (Nat → Int32)) :=
  (f_X12_isWord x1).bind (fun u1 =>
  if u1 = 0 then
  (some ((-1 : Int32), prefixes_))
  else
  ((f_X12_isWord x2).bind (fun u3 =>
  if u3 = 0 then
  (some ((-1 : Int32), prefixes_))
  else
  (ldA wordLength_ 3 x1 (fun v6 =>
  (f_X12_occurrencesIn ((12 : Int32) * x1) v6 x2 36 word_ wordLength_ word_ prefixes_).bind (fun u8 =>
  some (u8.1, u8.2)))))))
set_option maxHeartbeats 4000000 in
set_option maxRecDepth 100000 in
theorem wt_X12_occurrences {p : Program} {l : Launch} {e : Env} {s : State} {m : MethodId} {args : Array Value} {below : List Frame} {meth : Method} {c : Code} {A : Nat → Prop} {Q : State → Prop} {D : va_G} {cy : Nat → ClassId} (o : Nat) (d : Nat → Nat) (letters_ : Int32) (tests_ : Int32) (inputLength_ : Int32) (at_ : Int32) (signed_ : Int32) (newParts_ : Int32) (machineParts_ : Int32) (firstParts_ : Int32) (firstTruth_ : Int32) (secondTruth_ : Int32) (isPair_ : Int32) (states_ : Int32) (stateClasses_ : Int32) (elements_ : Int32) (cursor_ : Int32) (hasSnapshot_ : Int32) (isSaving_ : Int32) (wordLength_ : Nat → Int32) (word_ : Nat → Int32) (prefixes_ : Nat → Int32) (x1 : Int32) (x2 : Int32) (out : Int32 × (Nat → Int32)) (X : Cx p m c cX12_occurrences 3 s args wsX12_occurrences RX12 A D cy (RO_X12_occurrences cy o d letters_ tests_ inputLength_ at_ signed_ newParts_ machineParts_ firstParts_ firstTruth_ secondTruth_ isPair_ states_ stateClasses_ elements_ cursor_ hasSnapshot_ isSaving_ wordLength_ word_)) (h : f_X12_occurrences x1 x2 wordLength_ word_ prefixes_ = some out) (K : ∀ (H : Heap) (locs : List Loc) (ls : Array Slot) (pc : Nat), decode cX12_occurrences pc = .ok (.ireturn, 1) → St A D s (RW_X12_occurrences cy o d out.2) H locs → W p l e rm_X12_occurrences s m args below meth c H locs 0 0 Q (F0 m pc ls [.int out.1])) : ∀ (H : Heap) (locs : List Loc) (ls : Array Slot), St A D s (RW_X12_occurrences cy o d prefixes_) H locs → lv_has ls 3 [(0, .ref o), (1, .int x1), (2, .int x2)] → W p l e rm_X12_occurrences s m args below meth c H locs 0 0 Q (F0 m 0 ls []) := by
  intro H locs ls Z hl
  have hx := X.1.1
  have hb := X.1.2.1
  unfold f_X12_occurrences at h
  refine lv_iload_n hx hb dX12_occurrences_0 rfl (lv_at hl 1 rfl) ?_
  obtain ⟨u1, hc2, h⟩ := ob_some h
  refine x_runSi (RW' := (RW_X12_occurrences cy o d prefixes_)) (wr := [((d 3), aI cy 13 prefixes_)]) (isC := []) (isR := [0]) (isF := [0]) (rest := []) (As := [.int x1]) (n := 1) X Z (c_X12_isWord l D cy x1 u1 hc2) gX12_occurrences_X12_isWord rfl (by decide +kernel) ⟨Nat.le_of_ble_eq_true rfl, Nat.le_of_ble_eq_true rfl⟩ ⟨rfl, rfl⟩ ⟨Nat.le_of_ble_eq_true rfl, Nat.le_of_ble_eq_true rfl⟩ ⟨rfl, rfl, roN, rfl, rfl, by decide⟩ ⟨rfl, rfl⟩ rfl hl.1 rfl (Nat.le_of_ble_eq_true rfl) dX12_occurrences_1 (fun H locs Z => ?_)
  refine lv_if_eq (tgt := 14) hx hb dX12_occurrences_4 (by decide) (fun cnd => ?_) (fun cnd => ?_)
  · replace h := ifp h cnd
    refine lv_iconst (v := (-1 : Int32)) hx hb dX12_occurrences_14 (by decide) ?_
    obtain rfl := Option.some.inj h
    exact K H locs ls _ dX12_occurrences_15 Z
  · replace h := ifn h cnd
    refine lv_iload_n hx hb dX12_occurrences_7 rfl (lv_at hl 2 rfl) ?_
    obtain ⟨u3, hc4, h⟩ := ob_some h
    refine x_runSi (RW' := (RW_X12_occurrences cy o d prefixes_)) (wr := [((d 3), aI cy 13 prefixes_)]) (isC := []) (isR := [0]) (isF := [0]) (rest := []) (As := [.int x2]) (n := 1) X Z (c_X12_isWord l D cy x2 u3 hc4) gX12_occurrences_X12_isWord rfl (by decide +kernel) ⟨Nat.le_of_ble_eq_true rfl, Nat.le_of_ble_eq_true rfl⟩ ⟨rfl, rfl⟩ ⟨Nat.le_of_ble_eq_true rfl, Nat.le_of_ble_eq_true rfl⟩ ⟨rfl, rfl, roN, rfl, rfl, by decide⟩ ⟨rfl, rfl⟩ rfl hl.1 rfl (Nat.le_of_ble_eq_true rfl) dX12_occurrences_8 (fun H locs Z => ?_)
    refine lv_if_ne (tgt := 16) hx hb dX12_occurrences_11 (by decide) (fun cnd => ?_) (fun cnd => ?_)
    · replace h := ifn h cnd
      refine lv_aload_n hx hb dX12_occurrences_16 rfl (lv_at hl 0 rfl) ?_
      refine lv_aload_n hx hb dX12_occurrences_17 rfl (lv_at hl 0 rfl) ?_
      refine x_getO X Z 0 2 (v := .ref (d 2)) rfl rfl lk_X12_occurrences_X12_word dX12_occurrences_18 ?_
      refine lv_bipush (v := (12 : Int32)) hx hb dX12_occurrences_21 (by decide) ?_
      refine lv_iload_n hx hb dX12_occurrences_23 rfl (lv_at hl 1 rfl) ?_
      refine lv_imul hx hb dX12_occurrences_24 ?_
      refine lv_aload_n hx hb dX12_occurrences_25 rfl (lv_at hl 0 rfl) ?_
      refine x_getO X Z 0 1 (v := .ref (d 1)) rfl rfl lk_X12_occurrences_X12_wordLength dX12_occurrences_26 ?_
      refine lv_iload_n hx hb dX12_occurrences_29 rfl (lv_at hl 1 rfl) ?_
      obtain ⟨hin5, v6, hv7, h⟩ := ld_b h
      refine x_ialdO X Z 1 rfl hin5 hv7 dX12_occurrences_30 ?_
      refine lv_iload_n hx hb dX12_occurrences_31 rfl (lv_at hl 2 rfl) ?_
      obtain ⟨u8, hc9, h⟩ := ob_some h
      refine x_runVi (RW' := (RW_X12_occurrences cy o d u8.2)) (wr := []) (isC := [0]) (isR := []) (isF := [0]) (rest := []) (As := [.ref (d 2), .int ((12 : Int32) * x1), .int v6, .int x2]) (n := 4) X Z (c_X12_occurrencesIn l D cy o (d 2) 36 d letters_ tests_ inputLength_ at_ signed_ newParts_ machineParts_ firstParts_ firstTruth_ secondTruth_ isPair_ states_ stateClasses_ elements_ cursor_ hasSnapshot_ isSaving_ word_ wordLength_ word_ prefixes_ ((12 : Int32) * x1) v6 x2 u8 hc9) gX12_occurrences_X12_occurrencesIn rfl (by decide +kernel) ⟨Nat.le_of_ble_eq_true rfl, Nat.le_of_ble_eq_true rfl⟩ ⟨rfl, rfl⟩ ⟨Nat.le_of_ble_eq_true rfl, Nat.le_of_ble_eq_true rfl⟩ (x_rvO X Z 0 rfl rfl) ⟨rfl, rfl, (roC (Or.inr (mem_at 0 rfl)) (roC (Or.inr (mem_at 2 rfl)) (roC (Or.inr (mem_at 1 rfl)) (roC (Or.inr (mem_at 2 rfl)) roN)))), rfl, rfl, by decide⟩ ⟨rfl, rfl⟩ rfl hl.1 rfl (Nat.le_of_ble_eq_true rfl) dX12_occurrences_32 (fun H locs Z => ?_)
      obtain rfl := Option.some.inj h
      exact K H locs ls _ dX12_occurrences_35 Z
    · replace h := ifp h cnd
      refine lv_iconst (v := (-1 : Int32)) hx hb dX12_occurrences_14 (by decide) ?_
      obtain rfl := Option.some.inj h
      exact K H locs ls _ dX12_occurrences_15 Z
theorem c_X12_occurrences (l : Launch) (D : va_G) (cy : Nat → ClassId) (o : Nat) (d : Nat → Nat) (letters_ : Int32) (tests_ : Int32) (inputLength_ : Int32) (at_ : Int32) (signed_ : Int32) (newParts_ : Int32) (machineParts_ : Int32) (firstParts_ : Int32) (firstTruth_ : Int32) (secondTruth_ : Int32) (isPair_ : Int32) (states_ : Int32) (stateClasses_ : Int32) (elements_ : Int32) (cursor_ : Int32) (hasSnapshot_ : Int32) (isSaving_ : Int32) (wordLength_ : Nat → Int32) (word_ : Nat → Int32) (prefixes_ : Nat → Int32) (x1 : Int32) (x2 : Int32) (out : Int32 × (Nat → Int32)) (h : f_X12_occurrences x1 x2 wordLength_ word_ prefixes_ = some out) : CtI l yX12_occurrences wsX12_occurrences rm_X12_occurrences D cy [.ref o, .int x1, .int x2] (RW_X12_occurrences cy o d prefixes_) (RO_X12_occurrences cy o d letters_ tests_ inputLength_ at_ signed_ newParts_ machineParts_ firstParts_ firstTruth_ secondTruth_ isPair_ states_ stateClasses_ elements_ cursor_ hasSnapshot_ isSaving_ wordLength_ word_) (RW_X12_occurrences cy o d out.2) out.1 :=
  mk_i (ty := .int) (by decide) rfl rfl (Nat.le_of_ble_eq_true rfl) (fun p e s m args below meth c A Q X K H locs ls Z hl => wt_X12_occurrences o d letters_ tests_ inputLength_ at_ signed_ newParts_ machineParts_ firstParts_ firstTruth_ secondTruth_ isPair_ states_ stateClasses_ elements_ cursor_ hasSnapshot_ isSaving_ wordLength_ word_ prefixes_ x1 x2 out X h K H locs ls Z hl)
/-! SubwordCounterModel separate (II)I -/
abbrev rm_X12_separate : Room := { frames := 2, cells := 0, slots := 0, locals := 42 }
def RW_X12_separate (cy : Nat → ClassId) (o : Nat) (d : Nat → Nat) (wordLength_ : Nat → Int32) (word_ : Nat → Int32) (prefixes_ : Nat → Int32) (candidate_ : Nat → Int32) : va_W := [((d 1), aI cy 3 wordLength_), ((d 2), aI cy 36 word_), ((d 3), aI cy 13 prefixes_), ((d 4), aI cy 4 candidate_)]
def RO_X12_separate (cy : Nat → ClassId) (o : Nat) (d : Nat → Nat) (letters_ : Int32) (tests_ : Int32) (inputLength_ : Int32) (at_ : Int32) (signed_ : Int32) (newParts_ : Int32) (machineParts_ : Int32) (firstParts_ : Int32) (firstTruth_ : Int32) (secondTruth_ : Int32) (isPair_ : Int32) (states_ : Int32) (stateClasses_ : Int32) (elements_ : Int32) (cursor_ : Int32) (hasSnapshot_ : Int32) (isSaving_ : Int32) : va_W := [(o, ob 11 (oX12 d letters_ tests_ inputLength_ at_ signed_ newParts_ machineParts_ firstParts_ firstTruth_ secondTruth_ isPair_ states_ stateClasses_ elements_ cursor_ hasSnapshot_ isSaving_))]
theorem in_X12_separate_X12 : ∀ w ∈ u_ws RX12 TX12 68, w ∈ wsX12_separate := fun w h => (List.mem_cons_of_mem _ (List.mem_append_right _ h))
theorem lk_X12_separate_X12_word : Lk wsX12_separate RX12 17 11 2 := ⟨RX12, TX12, 68, rfl, by decide, in_X12_separate_X12, mem_at 4 rfl⟩
theorem lk_X12_separate_X12_candidate : Lk wsX12_separate RX12 23 11 4 := ⟨RX12, TX12, 68, rfl, by decide, in_X12_separate_X12, mem_at 2 rfl⟩
theorem lk_X12_separate_X12_letters : Lk wsX12_separate RX12 7 11 0 := ⟨RX12, TX12, 68, rfl, by decide, in_X12_separate_X12, mem_at 1 rfl⟩
theorem lk_X12_separate_X12_wordLength : Lk wsX12_separate RX12 13 11 1 := ⟨RX12, TX12, 68, rfl, by decide, in_X12_separate_X12, mem_at 3 rfl⟩
def b_X12_separate_185  (x7 : Int32) (x8 : Int32)  (x10 : Int32) : Option ((Int32) ⊕ (Int32)) :=
  rmI x7 x10 (fun v2 =>
  rmI x8 x10 (fun v5 =>
  if v2 = v5 then
  (some (.inl (x10 + (1 : Int32))))
  else
  (some (.inr x10))))
set_option maxHeartbeats 4000000 in
set_option maxRecDepth 100000 in
theorem wb_X12_separate_185 {p : Program} {l : Launch} {e : Env} {s : State} {m : MethodId} {args : Array Value} {below : List Frame} {meth : Method} {c : Code} {A : Nat → Prop} {Q : State → Prop} {D : va_G} {cy : Nat → ClassId} (o : Nat) (d : Nat → Nat) (letters_ : Int32) (tests_ : Int32) (inputLength_ : Int32) (at_ : Int32) (signed_ : Int32) (newParts_ : Int32) (machineParts_ : Int32) (firstParts_ : Int32) (firstTruth_ : Int32) (secondTruth_ : Int32) (isPair_ : Int32) (states_ : Int32) (stateClasses_ : Int32) (elements_ : Int32) (cursor_ : Int32) (hasSnapshot_ : Int32) (isSaving_ : Int32) (wordLength_ : Nat → Int32) (word_ : Nat → Int32) (prefixes_ : Nat → Int32) (candidate_ : Nat → Int32) (x7 : Int32) (x8 : Int32)  (x10 : Int32) (o1 : (Int32) ⊕ (Int32)) (X : Cx p m c cX12_separate 11 s args wsX12_separate RX12 A D cy (RO_X12_separate cy o d letters_ tests_ inputLength_ at_ signed_ newParts_ machineParts_ firstParts_ firstTruth_ secondTruth_ isPair_ states_ stateClasses_ elements_ cursor_ hasSnapshot_ isSaving_)) (h : b_X12_separate_185 x7 x8 x10 = some o1) (K : Sum.elim (fun v : Int32 => ∀ (H : Heap) (locs : List Loc) (ls : Array Slot), St A D s (RW_X12_separate cy o d wordLength_ word_ prefixes_ candidate_) H locs → lv_has ls 11 [(7, .int x7), (8, .int x8), (10, .int v)] → W p l e rm_X12_separate s m args below meth c H locs 0 0 Q (F0 m 185 ls [])) (fun v : Int32 => ∀ (H : Heap) (locs : List Loc) (ls : Array Slot), St A D s (RW_X12_separate cy o d wordLength_ word_ prefixes_ candidate_) H locs → lv_has ls 11 [(10, .int v)] → W p l e rm_X12_separate s m args below meth c H locs 0 0 Q (F0 m 204 ls [])) o1) : ∀ (H : Heap) (locs : List Loc) (ls : Array Slot), St A D s (RW_X12_separate cy o d wordLength_ word_ prefixes_ candidate_) H locs → lv_has ls 11 [(7, .int x7), (8, .int x8), (10, .int x10)] → W p l e rm_X12_separate s m args below meth c H locs 0 0 Q (F0 m 185 ls []) := by
  intro H locs ls Z hl
  have hx := X.1.1
  have hb := X.1.2.1
  unfold b_X12_separate_185 at h
  refine lv_iload hx hb dX12_separate_185 (lv_at hl 0 rfl) ?_
  refine lv_iload hx hb dX12_separate_187 (lv_at hl 2 rfl) ?_
  obtain ⟨hz1, v2, hv3, h⟩ := rm_b h
  refine lv_irem hx hb dX12_separate_189 hz1 ?_
  rw [hv3]
  refine lv_iload hx hb dX12_separate_190 (lv_at hl 1 rfl) ?_
  refine lv_iload hx hb dX12_separate_192 (lv_at hl 2 rfl) ?_
  obtain ⟨hz4, v5, hv6, h⟩ := rm_b h
  refine lv_irem hx hb dX12_separate_194 hz4 ?_
  rw [hv6]
  refine lv_icmp_ne (tgt := 204) hx hb dX12_separate_195 (by decide) (fun cnd => ?_) (fun cnd => ?_)
  · replace h := ifn h cnd
    obtain rfl := Option.some.inj h
    exact (sk_r K) H locs ls Z (lv_sub hl [2] rfl)
  · replace h := ifp h cnd
    refine lv_iinc (v := (x10 + (1 : Int32))) (lv' := [(10, .int (x10 + (1 : Int32))), (7, .int x7), (8, .int x8)]) hx hb dX12_separate_198 hl (k := 2) rfl rfl (by decide) rfl (fun ls hl => ?_)
    refine lv_goto (tgt := 185) hx hb dX12_separate_201 (by decide) ?_
    obtain rfl := Option.some.inj h
    exact sk_l K H locs ls Z (lv_sub hl [1, 2, 0] rfl)
set_option maxHeartbeats 4000000 in
set_option maxRecDepth 100000 in
theorem wl_X12_separate_185 {p : Program} {l : Launch} {e : Env} {s : State} {m : MethodId} {args : Array Value} {below : List Frame} {meth : Method} {c : Code} {A : Nat → Prop} {Q : State → Prop} {D : va_G} {cy : Nat → ClassId} (o : Nat) (d : Nat → Nat) (letters_ : Int32) (tests_ : Int32) (inputLength_ : Int32) (at_ : Int32) (signed_ : Int32) (newParts_ : Int32) (machineParts_ : Int32) (firstParts_ : Int32) (firstTruth_ : Int32) (secondTruth_ : Int32) (isPair_ : Int32) (states_ : Int32) (stateClasses_ : Int32) (elements_ : Int32) (cursor_ : Int32) (hasSnapshot_ : Int32) (isSaving_ : Int32) (wordLength_ : Nat → Int32) (word_ : Nat → Int32) (prefixes_ : Nat → Int32) (candidate_ : Nat → Int32) (x7 : Int32) (x8 : Int32) (n : Nat) (v : Int32) (x : Int32) (X : Cx p m c cX12_separate 11 s args wsX12_separate RX12 A D cy (RO_X12_separate cy o d letters_ tests_ inputLength_ at_ signed_ newParts_ machineParts_ firstParts_ firstTruth_ secondTruth_ isPair_ states_ stateClasses_ elements_ cursor_ hasSnapshot_ isSaving_)) (h : loopN (fun v => b_X12_separate_185 x7 x8 v) n v = some x) (K : ∀ (H : Heap) (locs : List Loc) (ls : Array Slot), St A D s (RW_X12_separate cy o d wordLength_ word_ prefixes_ candidate_) H locs → lv_has ls 11 [(10, .int x)] → W p l e rm_X12_separate s m args below meth c H locs 0 0 Q (F0 m 204 ls [])) : ∀ (H : Heap) (locs : List Loc) (ls : Array Slot), St A D s (RW_X12_separate cy o d wordLength_ word_ prefixes_ candidate_) H locs → lv_has ls 11 [(7, .int x7), (8, .int x8), (10, .int v)] → W p l e rm_X12_separate s m args below meth c H locs 0 0 Q (F0 m 185 ls []) :=
  loop_gen (B := (fun v => b_X12_separate_185 x7 x8 v)) (Head := fun v : Int32 => ∀ (H : Heap) (locs : List Loc) (ls : Array Slot), St A D s (RW_X12_separate cy o d wordLength_ word_ prefixes_ candidate_) H locs → lv_has ls 11 [(7, .int x7), (8, .int x8), (10, .int v)] → W p l e rm_X12_separate s m args below meth c H locs 0 0 Q (F0 m 185 ls [])) (Exit := fun v : Int32 => ∀ (H : Heap) (locs : List Loc) (ls : Array Slot), St A D s (RW_X12_separate cy o d wordLength_ word_ prefixes_ candidate_) H locs → lv_has ls 11 [(10, .int v)] → W p l e rm_X12_separate s m args below meth c H locs 0 0 Q (F0 m 204 ls [])) (fun v o9 hb1 K1 => wb_X12_separate_185 o d letters_ tests_ inputLength_ at_ signed_ newParts_ machineParts_ firstParts_ firstTruth_ secondTruth_ isPair_ states_ stateClasses_ elements_ cursor_ hasSnapshot_ isSaving_ wordLength_ word_ prefixes_ candidate_ x7 x8 v o9 X hb1 K1) n v x h K
def b_X12_separate_149 (candidate_ : Nat → Int32) (x4 : Int32) (x9 : Int32) (word_ : Nat → Int32) (x10 : Int32) : Option (((Nat → Int32) × Int32) ⊕ ((Nat → Int32))) :=
  if x4 ≤ x10 then
  (some (.inr word_))
  else
  (ldA candidate_ 4 x10 (fun v8 =>
  stA word_ 36 (((12 : Int32) * x9) + x10) v8 (fun word_11 =>
  some (.inl (word_11, (x10 + (1 : Int32)))))))
set_option maxHeartbeats 4000000 in
set_option maxRecDepth 100000 in
theorem wb_X12_separate_149 {p : Program} {l : Launch} {e : Env} {s : State} {m : MethodId} {args : Array Value} {below : List Frame} {meth : Method} {c : Code} {A : Nat → Prop} {Q : State → Prop} {D : va_G} {cy : Nat → ClassId} (o : Nat) (d : Nat → Nat) (letters_ : Int32) (tests_ : Int32) (inputLength_ : Int32) (at_ : Int32) (signed_ : Int32) (newParts_ : Int32) (machineParts_ : Int32) (firstParts_ : Int32) (firstTruth_ : Int32) (secondTruth_ : Int32) (isPair_ : Int32) (states_ : Int32) (stateClasses_ : Int32) (elements_ : Int32) (cursor_ : Int32) (hasSnapshot_ : Int32) (isSaving_ : Int32) (wordLength_ : Nat → Int32) (prefixes_ : Nat → Int32) (candidate_ : Nat → Int32) (x4 : Int32) (x7 : Int32) (x8 : Int32) (x9 : Int32) (word_ : Nat → Int32) (x10 : Int32) (o1 : ((Nat → Int32) × Int32) ⊕ ((Nat → Int32))) (X : Cx p m c cX12_separate 11 s args wsX12_separate RX12 A D cy (RO_X12_separate cy o d letters_ tests_ inputLength_ at_ signed_ newParts_ machineParts_ firstParts_ firstTruth_ secondTruth_ isPair_ states_ stateClasses_ elements_ cursor_ hasSnapshot_ isSaving_)) (h : b_X12_separate_149 candidate_ x4 x9 word_ x10 = some o1) (K : Sum.elim (fun v : (Nat → Int32) × Int32 => ∀ (H : Heap) (locs : List Loc) (ls : Array Slot), St A D s (RW_X12_separate cy o d wordLength_ v.1 prefixes_ candidate_) H locs → lv_has ls 11 [(0, .ref o), (4, .int x4), (7, .int x7), (8, .int x8), (9, .int x9), (10, .int v.2)] → W p l e rm_X12_separate s m args below meth c H locs 0 0 Q (F0 m 149 ls [])) (fun v : (Nat → Int32) => ∀ (H : Heap) (locs : List Loc) (ls : Array Slot), St A D s (RW_X12_separate cy o d wordLength_ v prefixes_ candidate_) H locs → lv_has ls 11 [(7, .int x7), (8, .int x8)] → W p l e rm_X12_separate s m args below meth c H locs 0 0 Q (F0 m 182 ls [])) o1) : ∀ (H : Heap) (locs : List Loc) (ls : Array Slot), St A D s (RW_X12_separate cy o d wordLength_ word_ prefixes_ candidate_) H locs → lv_has ls 11 [(0, .ref o), (4, .int x4), (7, .int x7), (8, .int x8), (9, .int x9), (10, .int x10)] → W p l e rm_X12_separate s m args below meth c H locs 0 0 Q (F0 m 149 ls []) := by
  intro H locs ls Z hl
  have hx := X.1.1
  have hb := X.1.2.1
  unfold b_X12_separate_149 at h
  refine lv_iload hx hb dX12_separate_149 (lv_at hl 5 rfl) ?_
  refine lv_iload hx hb dX12_separate_151 (lv_at hl 1 rfl) ?_
  refine lv_icmp_ge (tgt := 182) hx hb dX12_separate_153 (by decide) (fun cnd => ?_) (fun cnd => ?_)
  · replace h := ifp h cnd
    obtain rfl := Option.some.inj h
    exact (sk_r K) H locs ls Z (lv_sub hl [2, 3] rfl)
  · replace h := ifn h cnd
    refine lv_aload_n hx hb dX12_separate_156 rfl (lv_at hl 0 rfl) ?_
    refine x_getO X Z 0 2 (v := .ref (d 2)) rfl rfl lk_X12_separate_X12_word dX12_separate_157 ?_
    refine lv_bipush (v := (12 : Int32)) hx hb dX12_separate_160 (by decide) ?_
    refine lv_iload hx hb dX12_separate_162 (lv_at hl 4 rfl) ?_
    refine lv_imul hx hb dX12_separate_164 ?_
    refine lv_iload hx hb dX12_separate_165 (lv_at hl 5 rfl) ?_
    refine lv_iadd hx hb dX12_separate_167 ?_
    refine lv_aload_n hx hb dX12_separate_168 rfl (lv_at hl 0 rfl) ?_
    refine x_getO X Z 0 4 (v := .ref (d 4)) rfl rfl lk_X12_separate_X12_candidate dX12_separate_169 ?_
    refine lv_iload hx hb dX12_separate_172 (lv_at hl 5 rfl) ?_
    obtain ⟨hin7, v8, hv9, h⟩ := ld_b h
    refine x_iald X Z 3 rfl hin7 hv9 dX12_separate_174 ?_
    obtain ⟨hin10, word_11, hv12, h⟩ := st_b h
    refine x_iast X Z 1 (RW_X12_separate cy o d wordLength_ word_11 prefixes_ candidate_) rfl hin10 hv12 rfl dX12_separate_175 (fun H locs Z => ?_)
    refine lv_iinc (v := (x10 + (1 : Int32))) (lv' := [(10, .int (x10 + (1 : Int32))), (0, .ref o), (4, .int x4), (7, .int x7), (8, .int x8), (9, .int x9)]) hx hb dX12_separate_176 hl (k := 5) rfl rfl (by decide) rfl (fun ls hl => ?_)
    refine lv_goto (tgt := 149) hx hb dX12_separate_179 (by decide) ?_
    obtain rfl := Option.some.inj h
    exact sk_l K H locs ls Z (lv_sub hl [1, 2, 3, 4, 5, 0] rfl)
set_option maxHeartbeats 4000000 in
set_option maxRecDepth 100000 in
theorem wl_X12_separate_149 {p : Program} {l : Launch} {e : Env} {s : State} {m : MethodId} {args : Array Value} {below : List Frame} {meth : Method} {c : Code} {A : Nat → Prop} {Q : State → Prop} {D : va_G} {cy : Nat → ClassId} (o : Nat) (d : Nat → Nat) (letters_ : Int32) (tests_ : Int32) (inputLength_ : Int32) (at_ : Int32) (signed_ : Int32) (newParts_ : Int32) (machineParts_ : Int32) (firstParts_ : Int32) (firstTruth_ : Int32) (secondTruth_ : Int32) (isPair_ : Int32) (states_ : Int32) (stateClasses_ : Int32) (elements_ : Int32) (cursor_ : Int32) (hasSnapshot_ : Int32) (isSaving_ : Int32) (wordLength_ : Nat → Int32) (prefixes_ : Nat → Int32) (candidate_ : Nat → Int32) (x4 : Int32) (x7 : Int32) (x8 : Int32) (x9 : Int32) (n : Nat) (v : (Nat → Int32) × Int32) (x : (Nat → Int32)) (X : Cx p m c cX12_separate 11 s args wsX12_separate RX12 A D cy (RO_X12_separate cy o d letters_ tests_ inputLength_ at_ signed_ newParts_ machineParts_ firstParts_ firstTruth_ secondTruth_ isPair_ states_ stateClasses_ elements_ cursor_ hasSnapshot_ isSaving_)) (h : loopN (fun v => b_X12_separate_149 candidate_ x4 x9 v.1 v.2) n v = some x) (K : ∀ (H : Heap) (locs : List Loc) (ls : Array Slot), St A D s (RW_X12_separate cy o d wordLength_ x prefixes_ candidate_) H locs → lv_has ls 11 [(7, .int x7), (8, .int x8)] → W p l e rm_X12_separate s m args below meth c H locs 0 0 Q (F0 m 182 ls [])) : ∀ (H : Heap) (locs : List Loc) (ls : Array Slot), St A D s (RW_X12_separate cy o d wordLength_ v.1 prefixes_ candidate_) H locs → lv_has ls 11 [(0, .ref o), (4, .int x4), (7, .int x7), (8, .int x8), (9, .int x9), (10, .int v.2)] → W p l e rm_X12_separate s m args below meth c H locs 0 0 Q (F0 m 149 ls []) :=
  loop_gen (B := (fun v => b_X12_separate_149 candidate_ x4 x9 v.1 v.2)) (Head := fun v : (Nat → Int32) × Int32 => ∀ (H : Heap) (locs : List Loc) (ls : Array Slot), St A D s (RW_X12_separate cy o d wordLength_ v.1 prefixes_ candidate_) H locs → lv_has ls 11 [(0, .ref o), (4, .int x4), (7, .int x7), (8, .int x8), (9, .int x9), (10, .int v.2)] → W p l e rm_X12_separate s m args below meth c H locs 0 0 Q (F0 m 149 ls [])) (Exit := fun v : (Nat → Int32) => ∀ (H : Heap) (locs : List Loc) (ls : Array Slot), St A D s (RW_X12_separate cy o d wordLength_ v prefixes_ candidate_) H locs → lv_has ls 11 [(7, .int x7), (8, .int x8)] → W p l e rm_X12_separate s m args below meth c H locs 0 0 Q (F0 m 182 ls [])) (fun v o9 hb1 K1 => wb_X12_separate_149 o d letters_ tests_ inputLength_ at_ signed_ newParts_ machineParts_ firstParts_ firstTruth_ secondTruth_ isPair_ states_ stateClasses_ elements_ cursor_ hasSnapshot_ isSaving_ wordLength_ prefixes_ candidate_ x4 x7 x8 x9 v.1 v.2 o9 X hb1 K1) n v x h K
def b_X12_separate_58 (letters_ : Int32) (candidate_ : Nat → Int32) (x6 : Int32) (x7 : Int32) : Option (((Nat → Int32) × Int32 × Int32) ⊕ ((Nat → Int32))) :=
  if x7 < 0 then
  (some (.inr candidate_))
  else
  (rmI x6 letters_ (fun v14 =>
  stA candidate_ 4 x7 v14 (fun candidate_17 =>
  dvI x6 letters_ (fun v20 =>
  some (.inl (candidate_17, v20, (x7 + (-1 : Int32))))))))
set_option maxHeartbeats 4000000 in
set_option maxRecDepth 100000 in
theorem wb_X12_separate_58 {p : Program} {l : Launch} {e : Env} {s : State} {m : MethodId} {args : Array Value} {below : List Frame} {meth : Method} {c : Code} {A : Nat → Prop} {Q : State → Prop} {D : va_G} {cy : Nat → ClassId} (o : Nat) (d : Nat → Nat) (letters_ : Int32) (tests_ : Int32) (inputLength_ : Int32) (at_ : Int32) (signed_ : Int32) (newParts_ : Int32) (machineParts_ : Int32) (firstParts_ : Int32) (firstTruth_ : Int32) (secondTruth_ : Int32) (isPair_ : Int32) (states_ : Int32) (stateClasses_ : Int32) (elements_ : Int32) (cursor_ : Int32) (hasSnapshot_ : Int32) (isSaving_ : Int32) (wordLength_ : Nat → Int32) (word_ : Nat → Int32) (prefixes_ : Nat → Int32) (x1 : Int32) (x2 : Int32) (x3 : Int32) (x4 : Int32) (x5 : Int32) (candidate_ : Nat → Int32) (x6 : Int32) (x7 : Int32) (o1 : ((Nat → Int32) × Int32 × Int32) ⊕ ((Nat → Int32))) (X : Cx p m c cX12_separate 11 s args wsX12_separate RX12 A D cy (RO_X12_separate cy o d letters_ tests_ inputLength_ at_ signed_ newParts_ machineParts_ firstParts_ firstTruth_ secondTruth_ isPair_ states_ stateClasses_ elements_ cursor_ hasSnapshot_ isSaving_)) (h : b_X12_separate_58 letters_ candidate_ x6 x7 = some o1) (K : Sum.elim (fun v : (Nat → Int32) × Int32 × Int32 => ∀ (H : Heap) (locs : List Loc) (ls : Array Slot), St A D s (RW_X12_separate cy o d wordLength_ word_ prefixes_ v.1) H locs → lv_has ls 11 [(0, .ref o), (1, .int x1), (2, .int x2), (3, .int x3), (4, .int x4), (5, .int x5), (6, .int v.2.1), (7, .int v.2.2)] → W p l e rm_X12_separate s m args below meth c H locs 0 0 Q (F0 m 58 ls [])) (fun v : (Nat → Int32) => ∀ (H : Heap) (locs : List Loc) (ls : Array Slot), St A D s (RW_X12_separate cy o d wordLength_ word_ prefixes_ v) H locs → lv_has ls 11 [(0, .ref o), (1, .int x1), (2, .int x2), (3, .int x3), (4, .int x4), (5, .int x5)] → W p l e rm_X12_separate s m args below meth c H locs 0 0 Q (F0 m 92 ls [])) o1) : ∀ (H : Heap) (locs : List Loc) (ls : Array Slot), St A D s (RW_X12_separate cy o d wordLength_ word_ prefixes_ candidate_) H locs → lv_has ls 11 [(0, .ref o), (1, .int x1), (2, .int x2), (3, .int x3), (4, .int x4), (5, .int x5), (6, .int x6), (7, .int x7)] → W p l e rm_X12_separate s m args below meth c H locs 0 0 Q (F0 m 58 ls []) := by
  intro H locs ls Z hl
  have hx := X.1.1
  have hb := X.1.2.1
  unfold b_X12_separate_58 at h
  refine lv_iload hx hb dX12_separate_58 (lv_at hl 7 rfl) ?_
  refine lv_if_lt (tgt := 92) hx hb dX12_separate_60 (by decide) (fun cnd => ?_) (fun cnd => ?_)
  · replace h := ifp h cnd
    obtain rfl := Option.some.inj h
    exact (sk_r K) H locs ls Z (lv_sub hl [0, 1, 2, 3, 4, 5] rfl)
  · replace h := ifn h cnd
    refine lv_aload_n hx hb dX12_separate_63 rfl (lv_at hl 0 rfl) ?_
    refine x_getO X Z 0 4 (v := .ref (d 4)) rfl rfl lk_X12_separate_X12_candidate dX12_separate_64 ?_
    refine lv_iload hx hb dX12_separate_67 (lv_at hl 7 rfl) ?_
    refine lv_iload hx hb dX12_separate_69 (lv_at hl 6 rfl) ?_
    refine lv_aload_n hx hb dX12_separate_71 rfl (lv_at hl 0 rfl) ?_
    refine x_getO X Z 0 0 (v := .int letters_) rfl rfl lk_X12_separate_X12_letters dX12_separate_72 ?_
    obtain ⟨hz13, v14, hv15, h⟩ := rm_b h
    refine lv_irem hx hb dX12_separate_75 hz13 ?_
    rw [hv15]
    obtain ⟨hin16, candidate_17, hv18, h⟩ := st_b h
    refine x_iast X Z 3 (RW_X12_separate cy o d wordLength_ word_ prefixes_ candidate_17) rfl hin16 hv18 rfl dX12_separate_76 (fun H locs Z => ?_)
    refine lv_iload hx hb dX12_separate_77 (lv_at hl 6 rfl) ?_
    refine lv_aload_n hx hb dX12_separate_79 rfl (lv_at hl 0 rfl) ?_
    refine x_getO X Z 0 0 (v := .int letters_) rfl rfl lk_X12_separate_X12_letters dX12_separate_80 ?_
    obtain ⟨hz19, v20, hv21, h⟩ := dv_b h
    refine lv_idiv hx hb dX12_separate_83 hz19 ?_
    rw [hv21]
    refine lv_istore (lv' := [(6, .int v20), (0, .ref o), (1, .int x1), (2, .int x2), (3, .int x3), (4, .int x4), (5, .int x5), (7, .int x7)]) hx hb dX12_separate_84 hl (by decide) rfl (fun ls hl => ?_)
    refine lv_iinc (v := (x7 + (-1 : Int32))) (lv' := [(7, .int (x7 + (-1 : Int32))), (6, .int v20), (0, .ref o), (1, .int x1), (2, .int x2), (3, .int x3), (4, .int x4), (5, .int x5)]) hx hb dX12_separate_86 hl (k := 7) rfl rfl (by decide) rfl (fun ls hl => ?_)
    refine lv_goto (tgt := 58) hx hb dX12_separate_89 (by decide) ?_
    obtain rfl := Option.some.inj h
    exact sk_l K H locs ls Z (lv_sub hl [2, 3, 4, 5, 6, 7, 1, 0] rfl)
set_option maxHeartbeats 4000000 in
set_option maxRecDepth 100000 in
theorem wl_X12_separate_58 {p : Program} {l : Launch} {e : Env} {s : State} {m : MethodId} {args : Array Value} {below : List Frame} {meth : Method} {c : Code} {A : Nat → Prop} {Q : State → Prop} {D : va_G} {cy : Nat → ClassId} (o : Nat) (d : Nat → Nat) (letters_ : Int32) (tests_ : Int32) (inputLength_ : Int32) (at_ : Int32) (signed_ : Int32) (newParts_ : Int32) (machineParts_ : Int32) (firstParts_ : Int32) (firstTruth_ : Int32) (secondTruth_ : Int32) (isPair_ : Int32) (states_ : Int32) (stateClasses_ : Int32) (elements_ : Int32) (cursor_ : Int32) (hasSnapshot_ : Int32) (isSaving_ : Int32) (wordLength_ : Nat → Int32) (word_ : Nat → Int32) (prefixes_ : Nat → Int32) (x1 : Int32) (x2 : Int32) (x3 : Int32) (x4 : Int32) (x5 : Int32) (n : Nat) (v : (Nat → Int32) × Int32 × Int32) (x : (Nat → Int32)) (X : Cx p m c cX12_separate 11 s args wsX12_separate RX12 A D cy (RO_X12_separate cy o d letters_ tests_ inputLength_ at_ signed_ newParts_ machineParts_ firstParts_ firstTruth_ secondTruth_ isPair_ states_ stateClasses_ elements_ cursor_ hasSnapshot_ isSaving_)) (h : loopN (fun v => b_X12_separate_58 letters_ v.1 v.2.1 v.2.2) n v = some x) (K : ∀ (H : Heap) (locs : List Loc) (ls : Array Slot), St A D s (RW_X12_separate cy o d wordLength_ word_ prefixes_ x) H locs → lv_has ls 11 [(0, .ref o), (1, .int x1), (2, .int x2), (3, .int x3), (4, .int x4), (5, .int x5)] → W p l e rm_X12_separate s m args below meth c H locs 0 0 Q (F0 m 92 ls [])) : ∀ (H : Heap) (locs : List Loc) (ls : Array Slot), St A D s (RW_X12_separate cy o d wordLength_ word_ prefixes_ v.1) H locs → lv_has ls 11 [(0, .ref o), (1, .int x1), (2, .int x2), (3, .int x3), (4, .int x4), (5, .int x5), (6, .int v.2.1), (7, .int v.2.2)] → W p l e rm_X12_separate s m args below meth c H locs 0 0 Q (F0 m 58 ls []) :=
  loop_gen (B := (fun v => b_X12_separate_58 letters_ v.1 v.2.1 v.2.2)) (Head := fun v : (Nat → Int32) × Int32 × Int32 => ∀ (H : Heap) (locs : List Loc) (ls : Array Slot), St A D s (RW_X12_separate cy o d wordLength_ word_ prefixes_ v.1) H locs → lv_has ls 11 [(0, .ref o), (1, .int x1), (2, .int x2), (3, .int x3), (4, .int x4), (5, .int x5), (6, .int v.2.1), (7, .int v.2.2)] → W p l e rm_X12_separate s m args below meth c H locs 0 0 Q (F0 m 58 ls [])) (Exit := fun v : (Nat → Int32) => ∀ (H : Heap) (locs : List Loc) (ls : Array Slot), St A D s (RW_X12_separate cy o d wordLength_ word_ prefixes_ v) H locs → lv_has ls 11 [(0, .ref o), (1, .int x1), (2, .int x2), (3, .int x3), (4, .int x4), (5, .int x5)] → W p l e rm_X12_separate s m args below meth c H locs 0 0 Q (F0 m 92 ls [])) (fun v o9 hb1 K1 => wb_X12_separate_58 o d letters_ tests_ inputLength_ at_ signed_ newParts_ machineParts_ firstParts_ firstTruth_ secondTruth_ isPair_ states_ stateClasses_ elements_ cursor_ hasSnapshot_ isSaving_ wordLength_ word_ prefixes_ x1 x2 x3 x4 x5 v.1 v.2.1 v.2.2 o9 X hb1 K1) n v x h K
def b_X12_separate_42 (letters_ : Int32) (wordLength_ : Nat → Int32) (word_ : Nat → Int32) (x1 : Int32) (x2 : Int32) (x3 : Int32) (x4 : Int32) (prefixes_ : Nat → Int32) (candidate_ : Nat → Int32) (x5 : Int32) : Option (((Nat → Int32) × (Nat → Int32) × Int32) ⊕ (((Nat → Int32) × (Nat → Int32) × Int32 × Int32) ⊕ ((Nat → Int32) × (Nat → Int32)))) :=
  if x3 ≤ x5 then
  (some (.inr (.inr (prefixes_, candidate_))))
  else
  ((loopN (fun v => b_X12_separate_58 letters_ v.1 v.2.1 v.2.2) FU (candidate_, x5, (x4 - (1 : Int32)))).bind (fun u22 =>
  (f_X12_occurrencesIn (0 : Int32) x4 x1 4 u22 wordLength_ word_ prefixes_).bind (fun u24 =>
  (f_X12_occurrencesIn (0 : Int32) x4 x2 4 u22 wordLength_ word_ u24.2).bind (fun u26 =>
  if u24.1 = u26.1 then
  (some (.inl (u26.2, u22, (x5 + (1 : Int32)))))
  else
  (some (.inr (.inl (u26.2, u22, u24.1, u26.1))))))))
set_option maxHeartbeats 4000000 in
set_option maxRecDepth 100000 in
theorem wb_X12_separate_42 {p : Program} {l : Launch} {e : Env} {s : State} {m : MethodId} {args : Array Value} {below : List Frame} {meth : Method} {c : Code} {A : Nat → Prop} {Q : State → Prop} {D : va_G} {cy : Nat → ClassId} (o : Nat) (d : Nat → Nat) (letters_ : Int32) (tests_ : Int32) (inputLength_ : Int32) (at_ : Int32) (signed_ : Int32) (newParts_ : Int32) (machineParts_ : Int32) (firstParts_ : Int32) (firstTruth_ : Int32) (secondTruth_ : Int32) (isPair_ : Int32) (states_ : Int32) (stateClasses_ : Int32) (elements_ : Int32) (cursor_ : Int32) (hasSnapshot_ : Int32) (isSaving_ : Int32) (wordLength_ : Nat → Int32) (word_ : Nat → Int32) (x1 : Int32) (x2 : Int32) (x3 : Int32) (x4 : Int32) (prefixes_ : Nat → Int32) (candidate_ : Nat → Int32) (x5 : Int32) (o1 : ((Nat → Int32) × (Nat → Int32) × Int32) ⊕ (((Nat → Int32) × (Nat → Int32) × Int32 × Int32) ⊕ ((Nat → Int32) × (Nat → Int32)))) (X : Cx p m c cX12_separate 11 s args wsX12_separate RX12 A D cy (RO_X12_separate cy o d letters_ tests_ inputLength_ at_ signed_ newParts_ machineParts_ firstParts_ firstTruth_ secondTruth_ isPair_ states_ stateClasses_ elements_ cursor_ hasSnapshot_ isSaving_)) (h : b_X12_separate_42 letters_ wordLength_ word_ x1 x2 x3 x4 prefixes_ candidate_ x5 = some o1) (K : Sum.elim (fun v : (Nat → Int32) × (Nat → Int32) × Int32 => ∀ (H : Heap) (locs : List Loc) (ls : Array Slot), St A D s (RW_X12_separate cy o d wordLength_ word_ v.1 v.2.1) H locs → lv_has ls 11 [(0, .ref o), (1, .int x1), (2, .int x2), (3, .int x3), (4, .int x4), (5, .int v.2.2)] → W p l e rm_X12_separate s m args below meth c H locs 0 0 Q (F0 m 42 ls [])) (fun v : ((Nat → Int32) × (Nat → Int32) × Int32 × Int32) ⊕ ((Nat → Int32) × (Nat → Int32)) => Sum.elim (fun w : (Nat → Int32) × (Nat → Int32) × Int32 × Int32 => ∀ (H : Heap) (locs : List Loc) (ls : Array Slot), St A D s (RW_X12_separate cy o d wordLength_ word_ w.1 w.2.1) H locs → lv_has ls 11 [(0, .ref o), (1, .int x1), (2, .int x2), (4, .int x4), (7, .int w.2.2.1), (8, .int w.2.2.2)] → W p l e rm_X12_separate s m args below meth c H locs 0 0 Q (F0 m 130 ls [])) (fun w => ∀ (H : Heap) (locs : List Loc) (ls : Array Slot), St A D s (RW_X12_separate cy o d wordLength_ word_ w.1 w.2) H locs → lv_has ls 11 [(0, .ref o), (1, .int x1), (2, .int x2), (3, .int x3), (4, .int x4)] → W p l e rm_X12_separate s m args below meth c H locs 0 0 Q (F0 m 213 ls [])) v) o1) : ∀ (H : Heap) (locs : List Loc) (ls : Array Slot), St A D s (RW_X12_separate cy o d wordLength_ word_ prefixes_ candidate_) H locs → lv_has ls 11 [(0, .ref o), (1, .int x1), (2, .int x2), (3, .int x3), (4, .int x4), (5, .int x5)] → W p l e rm_X12_separate s m args below meth c H locs 0 0 Q (F0 m 42 ls []) := by
  intro H locs ls Z hl
  have hx := X.1.1
  have hb := X.1.2.1
  unfold b_X12_separate_42 at h
  refine lv_iload hx hb dX12_separate_42 (lv_at hl 5 rfl) ?_
  refine lv_iload_n hx hb dX12_separate_44 rfl (lv_at hl 3 rfl) ?_
  refine lv_icmp_ge (tgt := 213) hx hb dX12_separate_45 (by decide) (fun cnd => ?_) (fun cnd => ?_)
  · replace h := ifp h cnd
    obtain rfl := Option.some.inj h
    exact (sk_r (sk_r K)) H locs ls Z (lv_sub hl [0, 1, 2, 3, 4] rfl)
  · replace h := ifn h cnd
    refine lv_iload hx hb dX12_separate_48 (lv_at hl 5 rfl) ?_
    refine lv_istore (lv' := [(6, .int x5), (0, .ref o), (1, .int x1), (2, .int x2), (3, .int x3), (4, .int x4), (5, .int x5)]) hx hb dX12_separate_50 hl (by decide) rfl (fun ls hl => ?_)
    refine lv_iload hx hb dX12_separate_52 (lv_at hl 5 rfl) ?_
    refine lv_iconst (v := (1 : Int32)) hx hb dX12_separate_54 (by decide) ?_
    refine lv_isub hx hb dX12_separate_55 ?_
    refine lv_istore (lv' := [(7, .int (x4 - (1 : Int32))), (6, .int x5), (0, .ref o), (1, .int x1), (2, .int x2), (3, .int x3), (4, .int x4), (5, .int x5)]) hx hb dX12_separate_56 hl (by decide) rfl (fun ls hl => ?_)
    obtain ⟨u22, hL23, h⟩ := ob_some h
    refine wl_X12_separate_58 o d letters_ tests_ inputLength_ at_ signed_ newParts_ machineParts_ firstParts_ firstTruth_ secondTruth_ isPair_ states_ stateClasses_ elements_ cursor_ hasSnapshot_ isSaving_ wordLength_ word_ prefixes_ x1 x2 x3 x4 x5 FU (candidate_, x5, (x4 - (1 : Int32))) u22 X hL23 (fun H locs ls Z hl => ?_) H locs ls Z (lv_sub hl [2, 3, 4, 5, 6, 7, 1, 0] rfl)
    refine lv_aload_n hx hb dX12_separate_92 rfl (lv_at hl 0 rfl) ?_
    refine lv_aload_n hx hb dX12_separate_93 rfl (lv_at hl 0 rfl) ?_
    refine x_getO X Z 0 4 (v := .ref (d 4)) rfl rfl lk_X12_separate_X12_candidate dX12_separate_94 ?_
    refine lv_iconst (v := (0 : Int32)) hx hb dX12_separate_97 (by decide) ?_
    refine lv_iload hx hb dX12_separate_98 (lv_at hl 4 rfl) ?_
    refine lv_iload_n hx hb dX12_separate_100 rfl (lv_at hl 1 rfl) ?_
    obtain ⟨u24, hc25, h⟩ := ob_some h
    refine x_runVi (RW' := (RW_X12_separate cy o d wordLength_ word_ u24.2 u22)) (wr := [((d 1), aI cy 3 wordLength_), ((d 2), aI cy 36 word_), ((d 4), aI cy 4 u22)]) (isC := [2]) (isR := [0, 1, 3]) (isF := [0, 1, 3, 2]) (rest := []) (As := [.ref (d 4), .int (0 : Int32), .int x4, .int x1]) (n := 4) X Z (c_X12_occurrencesIn l D cy o (d 4) 4 d letters_ tests_ inputLength_ at_ signed_ newParts_ machineParts_ firstParts_ firstTruth_ secondTruth_ isPair_ states_ stateClasses_ elements_ cursor_ hasSnapshot_ isSaving_ u22 wordLength_ word_ prefixes_ (0 : Int32) x4 x1 u24 hc25) gX12_separate_X12_occurrencesIn rfl (by decide +kernel) ⟨Nat.le_of_ble_eq_true rfl, Nat.le_of_ble_eq_true rfl⟩ ⟨rfl, rfl⟩ ⟨Nat.le_of_ble_eq_true rfl, Nat.le_of_ble_eq_true rfl⟩ (x_rvO X Z 0 rfl rfl) ⟨rfl, rfl, (roC (Or.inr (mem_at 0 rfl)) (roC (Or.inl (mem_at 2 rfl)) (roC (Or.inl (mem_at 0 rfl)) (roC (Or.inl (mem_at 1 rfl)) roN)))), rfl, rfl, by decide⟩ ⟨rfl, rfl⟩ rfl hl.1 rfl (Nat.le_of_ble_eq_true rfl) dX12_separate_101 (fun H locs Z => ?_)
    refine lv_istore (lv' := [(7, .int u24.1), (0, .ref o), (1, .int x1), (2, .int x2), (3, .int x3), (4, .int x4), (5, .int x5)]) hx hb dX12_separate_104 hl (by decide) rfl (fun ls hl => ?_)
    refine lv_aload_n hx hb dX12_separate_106 rfl (lv_at hl 1 rfl) ?_
    refine lv_aload_n hx hb dX12_separate_107 rfl (lv_at hl 1 rfl) ?_
    refine x_getO X Z 0 4 (v := .ref (d 4)) rfl rfl lk_X12_separate_X12_candidate dX12_separate_108 ?_
    refine lv_iconst (v := (0 : Int32)) hx hb dX12_separate_111 (by decide) ?_
    refine lv_iload hx hb dX12_separate_112 (lv_at hl 5 rfl) ?_
    refine lv_iload_n hx hb dX12_separate_114 rfl (lv_at hl 3 rfl) ?_
    obtain ⟨u26, hc27, h⟩ := ob_some h
    refine x_runVi (RW' := (RW_X12_separate cy o d wordLength_ word_ u26.2 u22)) (wr := [((d 1), aI cy 3 wordLength_), ((d 2), aI cy 36 word_), ((d 4), aI cy 4 u22)]) (isC := [2]) (isR := [0, 1, 3]) (isF := [0, 1, 3, 2]) (rest := []) (As := [.ref (d 4), .int (0 : Int32), .int x4, .int x2]) (n := 4) X Z (c_X12_occurrencesIn l D cy o (d 4) 4 d letters_ tests_ inputLength_ at_ signed_ newParts_ machineParts_ firstParts_ firstTruth_ secondTruth_ isPair_ states_ stateClasses_ elements_ cursor_ hasSnapshot_ isSaving_ u22 wordLength_ word_ u24.2 (0 : Int32) x4 x2 u26 hc27) gX12_separate_X12_occurrencesIn rfl (by decide +kernel) ⟨Nat.le_of_ble_eq_true rfl, Nat.le_of_ble_eq_true rfl⟩ ⟨rfl, rfl⟩ ⟨Nat.le_of_ble_eq_true rfl, Nat.le_of_ble_eq_true rfl⟩ (x_rvO X Z 0 rfl rfl) ⟨rfl, rfl, (roC (Or.inr (mem_at 0 rfl)) (roC (Or.inl (mem_at 2 rfl)) (roC (Or.inl (mem_at 0 rfl)) (roC (Or.inl (mem_at 1 rfl)) roN)))), rfl, rfl, by decide⟩ ⟨rfl, rfl⟩ rfl hl.1 rfl (Nat.le_of_ble_eq_true rfl) dX12_separate_115 (fun H locs Z => ?_)
    refine lv_istore (lv' := [(8, .int u26.1), (7, .int u24.1), (0, .ref o), (1, .int x1), (2, .int x2), (3, .int x3), (4, .int x4), (5, .int x5)]) hx hb dX12_separate_118 hl (by decide) rfl (fun ls hl => ?_)
    refine lv_iload hx hb dX12_separate_120 (lv_at hl 1 rfl) ?_
    refine lv_iload hx hb dX12_separate_122 (lv_at hl 0 rfl) ?_
    refine lv_icmp_ne (tgt := 130) hx hb dX12_separate_124 (by decide) (fun cnd => ?_) (fun cnd => ?_)
    · replace h := ifn h cnd
      obtain rfl := Option.some.inj h
      exact (sk_l (sk_r K)) H locs ls Z (lv_sub hl [2, 3, 4, 6, 1, 0] rfl)
    · replace h := ifp h cnd
      refine lv_goto (tgt := 207) hx hb dX12_separate_127 (by decide) ?_
      refine lv_iinc (v := (x5 + (1 : Int32))) (lv' := [(5, .int (x5 + (1 : Int32))), (8, .int u26.1), (7, .int u24.1), (0, .ref o), (1, .int x1), (2, .int x2), (3, .int x3), (4, .int x4)]) hx hb dX12_separate_207 hl (k := 7) rfl rfl (by decide) rfl (fun ls hl => ?_)
      refine lv_goto (tgt := 42) hx hb dX12_separate_210 (by decide) ?_
      obtain rfl := Option.some.inj h
      exact sk_l K H locs ls Z (lv_sub hl [3, 4, 5, 6, 7, 0] rfl)
set_option maxHeartbeats 4000000 in
set_option maxRecDepth 100000 in
theorem wl_X12_separate_42 {p : Program} {l : Launch} {e : Env} {s : State} {m : MethodId} {args : Array Value} {below : List Frame} {meth : Method} {c : Code} {A : Nat → Prop} {Q : State → Prop} {D : va_G} {cy : Nat → ClassId} (o : Nat) (d : Nat → Nat) (letters_ : Int32) (tests_ : Int32) (inputLength_ : Int32) (at_ : Int32) (signed_ : Int32) (newParts_ : Int32) (machineParts_ : Int32) (firstParts_ : Int32) (firstTruth_ : Int32) (secondTruth_ : Int32) (isPair_ : Int32) (states_ : Int32) (stateClasses_ : Int32) (elements_ : Int32) (cursor_ : Int32) (hasSnapshot_ : Int32) (isSaving_ : Int32) (wordLength_ : Nat → Int32) (word_ : Nat → Int32) (x1 : Int32) (x2 : Int32) (x3 : Int32) (x4 : Int32) (n : Nat) (v : (Nat → Int32) × (Nat → Int32) × Int32) (x : ((Nat → Int32) × (Nat → Int32) × Int32 × Int32) ⊕ ((Nat → Int32) × (Nat → Int32))) (X : Cx p m c cX12_separate 11 s args wsX12_separate RX12 A D cy (RO_X12_separate cy o d letters_ tests_ inputLength_ at_ signed_ newParts_ machineParts_ firstParts_ firstTruth_ secondTruth_ isPair_ states_ stateClasses_ elements_ cursor_ hasSnapshot_ isSaving_)) (h : loopN (fun v => b_X12_separate_42 letters_ wordLength_ word_ x1 x2 x3 x4 v.1 v.2.1 v.2.2) n v = some x) (K : Sum.elim (fun w : (Nat → Int32) × (Nat → Int32) × Int32 × Int32 => ∀ (H : Heap) (locs : List Loc) (ls : Array Slot), St A D s (RW_X12_separate cy o d wordLength_ word_ w.1 w.2.1) H locs → lv_has ls 11 [(0, .ref o), (1, .int x1), (2, .int x2), (4, .int x4), (7, .int w.2.2.1), (8, .int w.2.2.2)] → W p l e rm_X12_separate s m args below meth c H locs 0 0 Q (F0 m 130 ls [])) (fun w => ∀ (H : Heap) (locs : List Loc) (ls : Array Slot), St A D s (RW_X12_separate cy o d wordLength_ word_ w.1 w.2) H locs → lv_has ls 11 [(0, .ref o), (1, .int x1), (2, .int x2), (3, .int x3), (4, .int x4)] → W p l e rm_X12_separate s m args below meth c H locs 0 0 Q (F0 m 213 ls [])) x) : ∀ (H : Heap) (locs : List Loc) (ls : Array Slot), St A D s (RW_X12_separate cy o d wordLength_ word_ v.1 v.2.1) H locs → lv_has ls 11 [(0, .ref o), (1, .int x1), (2, .int x2), (3, .int x3), (4, .int x4), (5, .int v.2.2)] → W p l e rm_X12_separate s m args below meth c H locs 0 0 Q (F0 m 42 ls []) :=
  loop_gen (B := (fun v => b_X12_separate_42 letters_ wordLength_ word_ x1 x2 x3 x4 v.1 v.2.1 v.2.2)) (Head := fun v : (Nat → Int32) × (Nat → Int32) × Int32 => ∀ (H : Heap) (locs : List Loc) (ls : Array Slot), St A D s (RW_X12_separate cy o d wordLength_ word_ v.1 v.2.1) H locs → lv_has ls 11 [(0, .ref o), (1, .int x1), (2, .int x2), (3, .int x3), (4, .int x4), (5, .int v.2.2)] → W p l e rm_X12_separate s m args below meth c H locs 0 0 Q (F0 m 42 ls [])) (Exit := fun v : ((Nat → Int32) × (Nat → Int32) × Int32 × Int32) ⊕ ((Nat → Int32) × (Nat → Int32)) => Sum.elim (fun w : (Nat → Int32) × (Nat → Int32) × Int32 × Int32 => ∀ (H : Heap) (locs : List Loc) (ls : Array Slot), St A D s (RW_X12_separate cy o d wordLength_ word_ w.1 w.2.1) H locs → lv_has ls 11 [(0, .ref o), (1, .int x1), (2, .int x2), (4, .int x4), (7, .int w.2.2.1), (8, .int w.2.2.2)] → W p l e rm_X12_separate s m args below meth c H locs 0 0 Q (F0 m 130 ls [])) (fun w => ∀ (H : Heap) (locs : List Loc) (ls : Array Slot), St A D s (RW_X12_separate cy o d wordLength_ word_ w.1 w.2) H locs → lv_has ls 11 [(0, .ref o), (1, .int x1), (2, .int x2), (3, .int x3), (4, .int x4)] → W p l e rm_X12_separate s m args below meth c H locs 0 0 Q (F0 m 213 ls [])) v) (fun v o9 hb1 K1 => wb_X12_separate_42 o d letters_ tests_ inputLength_ at_ signed_ newParts_ machineParts_ firstParts_ firstTruth_ secondTruth_ isPair_ states_ stateClasses_ elements_ cursor_ hasSnapshot_ isSaving_ wordLength_ word_ x1 x2 x3 x4 v.1 v.2.1 v.2.2 o9 X hb1 K1) n v x h K
def b_X12_separate_26 (letters_ : Int32) (wordLength_ : Nat → Int32) (word_ : Nat → Int32) (x1 : Int32) (x2 : Int32) (prefixes_ : Nat → Int32) (candidate_ : Nat → Int32) (x3 : Int32) (x4 : Int32) : Option (((Nat → Int32) × (Nat → Int32) × Int32 × Int32) ⊕ (((Nat → Int32) × (Nat → Int32) × Int32 × Int32 × Int32) ⊕ ((Nat → Int32) × (Nat → Int32)))) :=
  if (4 : Int32) < x4 then
  (some (.inr (.inr (prefixes_, candidate_))))
  else
  ((loopN (fun v => b_X12_separate_42 letters_ wordLength_ word_ x1 x2 (x3 * letters_) x4 v.1 v.2.1 v.2.2) FU (prefixes_, candidate_, (0 : Int32))).bind (fun u28 =>
  Sum.elim (fun u28 =>
  some (.inr (.inl (u28.1, u28.2.1, x4, u28.2.2.1, u28.2.2.2)))) (fun u28 =>
  some (.inl (u28.1, u28.2, (x3 * letters_), (x4 + (1 : Int32))))) u28))
set_option maxHeartbeats 4000000 in
set_option maxRecDepth 100000 in
theorem wb_X12_separate_26 {p : Program} {l : Launch} {e : Env} {s : State} {m : MethodId} {args : Array Value} {below : List Frame} {meth : Method} {c : Code} {A : Nat → Prop} {Q : State → Prop} {D : va_G} {cy : Nat → ClassId} (o : Nat) (d : Nat → Nat) (letters_ : Int32) (tests_ : Int32) (inputLength_ : Int32) (at_ : Int32) (signed_ : Int32) (newParts_ : Int32) (machineParts_ : Int32) (firstParts_ : Int32) (firstTruth_ : Int32) (secondTruth_ : Int32) (isPair_ : Int32) (states_ : Int32) (stateClasses_ : Int32) (elements_ : Int32) (cursor_ : Int32) (hasSnapshot_ : Int32) (isSaving_ : Int32) (wordLength_ : Nat → Int32) (word_ : Nat → Int32) (x1 : Int32) (x2 : Int32) (prefixes_ : Nat → Int32) (candidate_ : Nat → Int32) (x3 : Int32) (x4 : Int32) (o1 : ((Nat → Int32) × (Nat → Int32) × Int32 × Int32) ⊕ (((Nat → Int32) × (Nat → Int32) × Int32 × Int32 × Int32) ⊕ ((Nat → Int32) × (Nat → Int32)))) (X : Cx p m c cX12_separate 11 s args wsX12_separate RX12 A D cy (RO_X12_separate cy o d letters_ tests_ inputLength_ at_ signed_ newParts_ machineParts_ firstParts_ firstTruth_ secondTruth_ isPair_ states_ stateClasses_ elements_ cursor_ hasSnapshot_ isSaving_)) (h : b_X12_separate_26 letters_ wordLength_ word_ x1 x2 prefixes_ candidate_ x3 x4 = some o1) (K : Sum.elim (fun v : (Nat → Int32) × (Nat → Int32) × Int32 × Int32 => ∀ (H : Heap) (locs : List Loc) (ls : Array Slot), St A D s (RW_X12_separate cy o d wordLength_ word_ v.1 v.2.1) H locs → lv_has ls 11 [(0, .ref o), (1, .int x1), (2, .int x2), (3, .int v.2.2.1), (4, .int v.2.2.2)] → W p l e rm_X12_separate s m args below meth c H locs 0 0 Q (F0 m 26 ls [])) (fun v : ((Nat → Int32) × (Nat → Int32) × Int32 × Int32 × Int32) ⊕ ((Nat → Int32) × (Nat → Int32)) => Sum.elim (fun w : (Nat → Int32) × (Nat → Int32) × Int32 × Int32 × Int32 => ∀ (H : Heap) (locs : List Loc) (ls : Array Slot), St A D s (RW_X12_separate cy o d wordLength_ word_ w.1 w.2.1) H locs → lv_has ls 11 [(0, .ref o), (1, .int x1), (2, .int x2), (4, .int w.2.2.1), (7, .int w.2.2.2.1), (8, .int w.2.2.2.2)] → W p l e rm_X12_separate s m args below meth c H locs 0 0 Q (F0 m 130 ls [])) (fun w => ∀ (H : Heap) (locs : List Loc) (ls : Array Slot), St A D s (RW_X12_separate cy o d wordLength_ word_ w.1 w.2) H locs → lv_has ls 11 [] → W p l e rm_X12_separate s m args below meth c H locs 0 0 Q (F0 m 219 ls [])) v) o1) : ∀ (H : Heap) (locs : List Loc) (ls : Array Slot), St A D s (RW_X12_separate cy o d wordLength_ word_ prefixes_ candidate_) H locs → lv_has ls 11 [(0, .ref o), (1, .int x1), (2, .int x2), (3, .int x3), (4, .int x4)] → W p l e rm_X12_separate s m args below meth c H locs 0 0 Q (F0 m 26 ls []) := by
  intro H locs ls Z hl
  have hx := X.1.1
  have hb := X.1.2.1
  unfold b_X12_separate_26 at h
  refine lv_iload hx hb dX12_separate_26 (lv_at hl 4 rfl) ?_
  refine lv_iconst (v := (4 : Int32)) hx hb dX12_separate_28 (by decide) ?_
  refine lv_icmp_gt (tgt := 219) hx hb dX12_separate_29 (by decide) (fun cnd => ?_) (fun cnd => ?_)
  · replace h := ifp h cnd
    obtain rfl := Option.some.inj h
    exact (sk_r (sk_r K)) H locs ls Z (lv_sub hl [] rfl)
  · replace h := ifn h cnd
    refine lv_iload_n hx hb dX12_separate_32 rfl (lv_at hl 3 rfl) ?_
    refine lv_aload_n hx hb dX12_separate_33 rfl (lv_at hl 0 rfl) ?_
    refine x_getO X Z 0 0 (v := .int letters_) rfl rfl lk_X12_separate_X12_letters dX12_separate_34 ?_
    refine lv_imul hx hb dX12_separate_37 ?_
    refine lv_istore_n (lv' := [(3, .int (x3 * letters_)), (0, .ref o), (1, .int x1), (2, .int x2), (4, .int x4)]) hx hb dX12_separate_38 rfl hl (by decide) rfl (fun ls hl => ?_)
    refine lv_iconst (v := (0 : Int32)) hx hb dX12_separate_39 (by decide) ?_
    refine lv_istore (lv' := [(5, .int (0 : Int32)), (3, .int (x3 * letters_)), (0, .ref o), (1, .int x1), (2, .int x2), (4, .int x4)]) hx hb dX12_separate_40 hl (by decide) rfl (fun ls hl => ?_)
    obtain ⟨u28, hL29, h⟩ := ob_some h
    rcases u28 with u28 | u28
    · replace h := se_l h
      refine wl_X12_separate_42 o d letters_ tests_ inputLength_ at_ signed_ newParts_ machineParts_ firstParts_ firstTruth_ secondTruth_ isPair_ states_ stateClasses_ elements_ cursor_ hasSnapshot_ isSaving_ wordLength_ word_ x1 x2 (x3 * letters_) x4 FU (prefixes_, candidate_, (0 : Int32)) (.inl u28) X hL29 (sk_li (fun H locs ls Z hl => ?_)) H locs ls Z (lv_sub hl [2, 3, 4, 1, 5, 0] rfl)
      obtain rfl := Option.some.inj h
      exact (sk_l (sk_r K)) H locs ls Z (lv_sub hl [0, 1, 2, 3, 4, 5] rfl)
    · replace h := se_r h
      refine wl_X12_separate_42 o d letters_ tests_ inputLength_ at_ signed_ newParts_ machineParts_ firstParts_ firstTruth_ secondTruth_ isPair_ states_ stateClasses_ elements_ cursor_ hasSnapshot_ isSaving_ wordLength_ word_ x1 x2 (x3 * letters_) x4 FU (prefixes_, candidate_, (0 : Int32)) (.inr u28) X hL29 (sk_ri (fun H locs ls Z hl => ?_)) H locs ls Z (lv_sub hl [2, 3, 4, 1, 5, 0] rfl)
      refine lv_iinc (v := (x4 + (1 : Int32))) (lv' := [(4, .int (x4 + (1 : Int32))), (0, .ref o), (1, .int x1), (2, .int x2), (3, .int (x3 * letters_))]) hx hb dX12_separate_213 hl (k := 4) rfl rfl (by decide) rfl (fun ls hl => ?_)
      refine lv_goto (tgt := 26) hx hb dX12_separate_216 (by decide) ?_
      obtain rfl := Option.some.inj h
      exact sk_l K H locs ls Z (lv_sub hl [1, 2, 3, 4, 0] rfl)
set_option maxHeartbeats 4000000 in
set_option maxRecDepth 100000 in
theorem wl_X12_separate_26 {p : Program} {l : Launch} {e : Env} {s : State} {m : MethodId} {args : Array Value} {below : List Frame} {meth : Method} {c : Code} {A : Nat → Prop} {Q : State → Prop} {D : va_G} {cy : Nat → ClassId} (o : Nat) (d : Nat → Nat) (letters_ : Int32) (tests_ : Int32) (inputLength_ : Int32) (at_ : Int32) (signed_ : Int32) (newParts_ : Int32) (machineParts_ : Int32) (firstParts_ : Int32) (firstTruth_ : Int32) (secondTruth_ : Int32) (isPair_ : Int32) (states_ : Int32) (stateClasses_ : Int32) (elements_ : Int32) (cursor_ : Int32) (hasSnapshot_ : Int32) (isSaving_ : Int32) (wordLength_ : Nat → Int32) (word_ : Nat → Int32) (x1 : Int32) (x2 : Int32) (n : Nat) (v : (Nat → Int32) × (Nat → Int32) × Int32 × Int32) (x : ((Nat → Int32) × (Nat → Int32) × Int32 × Int32 × Int32) ⊕ ((Nat → Int32) × (Nat → Int32))) (X : Cx p m c cX12_separate 11 s args wsX12_separate RX12 A D cy (RO_X12_separate cy o d letters_ tests_ inputLength_ at_ signed_ newParts_ machineParts_ firstParts_ firstTruth_ secondTruth_ isPair_ states_ stateClasses_ elements_ cursor_ hasSnapshot_ isSaving_)) (h : loopN (fun v => b_X12_separate_26 letters_ wordLength_ word_ x1 x2 v.1 v.2.1 v.2.2.1 v.2.2.2) n v = some x) (K : Sum.elim (fun w : (Nat → Int32) × (Nat → Int32) × Int32 × Int32 × Int32 => ∀ (H : Heap) (locs : List Loc) (ls : Array Slot), St A D s (RW_X12_separate cy o d wordLength_ word_ w.1 w.2.1) H locs → lv_has ls 11 [(0, .ref o), (1, .int x1), (2, .int x2), (4, .int w.2.2.1), (7, .int w.2.2.2.1), (8, .int w.2.2.2.2)] → W p l e rm_X12_separate s m args below meth c H locs 0 0 Q (F0 m 130 ls [])) (fun w => ∀ (H : Heap) (locs : List Loc) (ls : Array Slot), St A D s (RW_X12_separate cy o d wordLength_ word_ w.1 w.2) H locs → lv_has ls 11 [] → W p l e rm_X12_separate s m args below meth c H locs 0 0 Q (F0 m 219 ls [])) x) : ∀ (H : Heap) (locs : List Loc) (ls : Array Slot), St A D s (RW_X12_separate cy o d wordLength_ word_ v.1 v.2.1) H locs → lv_has ls 11 [(0, .ref o), (1, .int x1), (2, .int x2), (3, .int v.2.2.1), (4, .int v.2.2.2)] → W p l e rm_X12_separate s m args below meth c H locs 0 0 Q (F0 m 26 ls []) :=
  loop_gen (B := (fun v => b_X12_separate_26 letters_ wordLength_ word_ x1 x2 v.1 v.2.1 v.2.2.1 v.2.2.2)) (Head := fun v : (Nat → Int32) × (Nat → Int32) × Int32 × Int32 => ∀ (H : Heap) (locs : List Loc) (ls : Array Slot), St A D s (RW_X12_separate cy o d wordLength_ word_ v.1 v.2.1) H locs → lv_has ls 11 [(0, .ref o), (1, .int x1), (2, .int x2), (3, .int v.2.2.1), (4, .int v.2.2.2)] → W p l e rm_X12_separate s m args below meth c H locs 0 0 Q (F0 m 26 ls [])) (Exit := fun v : ((Nat → Int32) × (Nat → Int32) × Int32 × Int32 × Int32) ⊕ ((Nat → Int32) × (Nat → Int32)) => Sum.elim (fun w : (Nat → Int32) × (Nat → Int32) × Int32 × Int32 × Int32 => ∀ (H : Heap) (locs : List Loc) (ls : Array Slot), St A D s (RW_X12_separate cy o d wordLength_ word_ w.1 w.2.1) H locs → lv_has ls 11 [(0, .ref o), (1, .int x1), (2, .int x2), (4, .int w.2.2.1), (7, .int w.2.2.2.1), (8, .int w.2.2.2.2)] → W p l e rm_X12_separate s m args below meth c H locs 0 0 Q (F0 m 130 ls [])) (fun w => ∀ (H : Heap) (locs : List Loc) (ls : Array Slot), St A D s (RW_X12_separate cy o d wordLength_ word_ w.1 w.2) H locs → lv_has ls 11 [] → W p l e rm_X12_separate s m args below meth c H locs 0 0 Q (F0 m 219 ls [])) v) (fun v o9 hb1 K1 => wb_X12_separate_26 o d letters_ tests_ inputLength_ at_ signed_ newParts_ machineParts_ firstParts_ firstTruth_ secondTruth_ isPair_ states_ stateClasses_ elements_ cursor_ hasSnapshot_ isSaving_ wordLength_ word_ x1 x2 v.1 v.2.1 v.2.2.1 v.2.2.2 o9 X hb1 K1) n v x h K
def f_X12_separate (x1 : Int32) (x2 : Int32) (letters_ : Int32) (wordLength_ : Nat → Int32) (word_ : Nat → Int32) (prefixes_ : Nat → Int32) (candidate_ : Nat → Int32) : Option (Int32 × (Nat → Int32) × (Nat → Int32) × (Nat → Int32) × (Nat → Int32)) :=
  (f_X12_isWord x1).bind (fun u30 =>
  if u30 = 0 then
  (some ((-1 : Int32), wordLength_, word_, prefixes_, candidate_))
  else
  ((f_X12_isWord x2).bind (fun u32 =>
  if u32 = 0 then
  (some ((-1 : Int32), wordLength_, word_, prefixes_, candidate_))
  else
  (if x1 = x2 then
  (some ((-1 : Int32), wordLength_, word_, prefixes_, candidate_))
  else
  ((loopN (fun v => b_X12_separate_26 letters_ wordLength_ word_ x1 x2 v.1 v.2.1 v.2.2.1 v.2.2.2) FU (prefixes_, candidate_, (1 : Int32), (1 : Int32))).bind (fun u34 =>
  Sum.elim (fun u34 =>
  stA wordLength_ 3 (((3 : Int32) - x1) - x2) u34.2.2.1 (fun wordLength_37 =>
  (loopN (fun v => b_X12_separate_149 u34.2.1 u34.2.2.1 (((3 : Int32) - x1) - x2) v.1 v.2) FU (word_, (0 : Int32))).bind (fun u39 =>
  (loopN (fun v => b_X12_separate_185 u34.2.2.2.1 u34.2.2.2.2 v) FU (2 : Int32)).bind (fun u41 =>
  some (u41, wordLength_37, u39, u34.1, u34.2.1))))) (fun u34 =>
  some ((-2 : Int32), wordLength_, word_, u34.1, u34.2)) u34))))))
set_option maxHeartbeats 4000000 in
set_option maxRecDepth 100000 in
theorem wt_X12_separate {p : Program} {l : Launch} {e : Env} {s : State} {m : MethodId} {args : Array Value} {below : List Frame} {meth : Method} {c : Code} {A : Nat → Prop} {Q : State → Prop} {D : va_G} {cy : Nat → ClassId} (o : Nat) (d : Nat → Nat) (letters_ : Int32) (tests_ : Int32) (inputLength_ : Int32) (at_ : Int32) (signed_ : Int32) (newParts_ : Int32) (machineParts_ : Int32) (firstParts_ : Int32) (firstTruth_ : Int32) (secondTruth_ : Int32) (isPair_ : Int32) (states_ : Int32) (stateClasses_ : Int32) (elements_ : Int32) (cursor_ : Int32) (hasSnapshot_ : Int32) (isSaving_ : Int32) (wordLength_ : Nat → Int32) (word_ : Nat → Int32) (prefixes_ : Nat → Int32) (candidate_ : Nat → Int32) (x1 : Int32) (x2 : Int32) (out : Int32 × (Nat → Int32) × (Nat → Int32) × (Nat → Int32) × (Nat → Int32)) (X : Cx p m c cX12_separate 11 s args wsX12_separate RX12 A D cy (RO_X12_separate cy o d letters_ tests_ inputLength_ at_ signed_ newParts_ machineParts_ firstParts_ firstTruth_ secondTruth_ isPair_ states_ stateClasses_ elements_ cursor_ hasSnapshot_ isSaving_)) (h : f_X12_separate x1 x2 letters_ wordLength_ word_ prefixes_ candidate_ = some out) (K : ∀ (H : Heap) (locs : List Loc) (ls : Array Slot) (pc : Nat), decode cX12_separate pc = .ok (.ireturn, 1) → St A D s (RW_X12_separate cy o d out.2.1 out.2.2.1 out.2.2.2.1 out.2.2.2.2) H locs → W p l e rm_X12_separate s m args below meth c H locs 0 0 Q (F0 m pc ls [.int out.1])) : ∀ (H : Heap) (locs : List Loc) (ls : Array Slot), St A D s (RW_X12_separate cy o d wordLength_ word_ prefixes_ candidate_) H locs → lv_has ls 11 [(0, .ref o), (1, .int x1), (2, .int x2)] → W p l e rm_X12_separate s m args below meth c H locs 0 0 Q (F0 m 0 ls []) := by
  intro H locs ls Z hl
  have hx := X.1.1
  have hb := X.1.2.1
  unfold f_X12_separate at h
  refine lv_iload_n hx hb dX12_separate_0 rfl (lv_at hl 1 rfl) ?_
  obtain ⟨u30, hc31, h⟩ := ob_some h
  refine x_runSi (RW' := (RW_X12_separate cy o d wordLength_ word_ prefixes_ candidate_)) (wr := [((d 1), aI cy 3 wordLength_), ((d 2), aI cy 36 word_), ((d 3), aI cy 13 prefixes_), ((d 4), aI cy 4 candidate_)]) (isC := []) (isR := [0, 1, 2, 3]) (isF := [0, 1, 2, 3]) (rest := []) (As := [.int x1]) (n := 1) X Z (c_X12_isWord l D cy x1 u30 hc31) gX12_separate_X12_isWord rfl (by decide +kernel) ⟨Nat.le_of_ble_eq_true rfl, Nat.le_of_ble_eq_true rfl⟩ ⟨rfl, rfl⟩ ⟨Nat.le_of_ble_eq_true rfl, Nat.le_of_ble_eq_true rfl⟩ ⟨rfl, rfl, roN, rfl, rfl, by decide⟩ ⟨rfl, rfl⟩ rfl hl.1 rfl (Nat.le_of_ble_eq_true rfl) dX12_separate_1 (fun H locs Z => ?_)
  refine lv_if_eq (tgt := 19) hx hb dX12_separate_4 (by decide) (fun cnd => ?_) (fun cnd => ?_)
  · replace h := ifp h cnd
    refine lv_iconst (v := (-1 : Int32)) hx hb dX12_separate_19 (by decide) ?_
    obtain rfl := Option.some.inj h
    exact K H locs ls _ dX12_separate_20 Z
  · replace h := ifn h cnd
    refine lv_iload_n hx hb dX12_separate_7 rfl (lv_at hl 2 rfl) ?_
    obtain ⟨u32, hc33, h⟩ := ob_some h
    refine x_runSi (RW' := (RW_X12_separate cy o d wordLength_ word_ prefixes_ candidate_)) (wr := [((d 1), aI cy 3 wordLength_), ((d 2), aI cy 36 word_), ((d 3), aI cy 13 prefixes_), ((d 4), aI cy 4 candidate_)]) (isC := []) (isR := [0, 1, 2, 3]) (isF := [0, 1, 2, 3]) (rest := []) (As := [.int x2]) (n := 1) X Z (c_X12_isWord l D cy x2 u32 hc33) gX12_separate_X12_isWord rfl (by decide +kernel) ⟨Nat.le_of_ble_eq_true rfl, Nat.le_of_ble_eq_true rfl⟩ ⟨rfl, rfl⟩ ⟨Nat.le_of_ble_eq_true rfl, Nat.le_of_ble_eq_true rfl⟩ ⟨rfl, rfl, roN, rfl, rfl, by decide⟩ ⟨rfl, rfl⟩ rfl hl.1 rfl (Nat.le_of_ble_eq_true rfl) dX12_separate_8 (fun H locs Z => ?_)
    refine lv_if_eq (tgt := 19) hx hb dX12_separate_11 (by decide) (fun cnd => ?_) (fun cnd => ?_)
    · replace h := ifp h cnd
      refine lv_iconst (v := (-1 : Int32)) hx hb dX12_separate_19 (by decide) ?_
      obtain rfl := Option.some.inj h
      exact K H locs ls _ dX12_separate_20 Z
    · replace h := ifn h cnd
      refine lv_iload_n hx hb dX12_separate_14 rfl (lv_at hl 1 rfl) ?_
      refine lv_iload_n hx hb dX12_separate_15 rfl (lv_at hl 2 rfl) ?_
      refine lv_icmp_ne (tgt := 21) hx hb dX12_separate_16 (by decide) (fun cnd => ?_) (fun cnd => ?_)
      · replace h := ifn h cnd
        refine lv_iconst (v := (1 : Int32)) hx hb dX12_separate_21 (by decide) ?_
        refine lv_istore_n (lv' := [(3, .int (1 : Int32)), (0, .ref o), (1, .int x1), (2, .int x2)]) hx hb dX12_separate_22 rfl hl (by decide) rfl (fun ls hl => ?_)
        refine lv_iconst (v := (1 : Int32)) hx hb dX12_separate_23 (by decide) ?_
        refine lv_istore (lv' := [(4, .int (1 : Int32)), (3, .int (1 : Int32)), (0, .ref o), (1, .int x1), (2, .int x2)]) hx hb dX12_separate_24 hl (by decide) rfl (fun ls hl => ?_)
        obtain ⟨u34, hL35, h⟩ := ob_some h
        rcases u34 with u34 | u34
        · replace h := se_l h
          refine wl_X12_separate_26 o d letters_ tests_ inputLength_ at_ signed_ newParts_ machineParts_ firstParts_ firstTruth_ secondTruth_ isPair_ states_ stateClasses_ elements_ cursor_ hasSnapshot_ isSaving_ wordLength_ word_ x1 x2 FU (prefixes_, candidate_, (1 : Int32), (1 : Int32)) (.inl u34) X hL35 (sk_li (fun H locs ls Z hl => ?_)) H locs ls Z (lv_sub hl [2, 3, 4, 1, 0] rfl)
          refine lv_iconst (v := (3 : Int32)) hx hb dX12_separate_130 (by decide) ?_
          refine lv_iload_n hx hb dX12_separate_131 rfl (lv_at hl 1 rfl) ?_
          refine lv_isub hx hb dX12_separate_132 ?_
          refine lv_iload_n hx hb dX12_separate_133 rfl (lv_at hl 2 rfl) ?_
          refine lv_isub hx hb dX12_separate_134 ?_
          refine lv_istore (lv' := [(9, .int (((3 : Int32) - x1) - x2)), (0, .ref o), (1, .int x1), (2, .int x2), (4, .int u34.2.2.1), (7, .int u34.2.2.2.1), (8, .int u34.2.2.2.2)]) hx hb dX12_separate_135 hl (by decide) rfl (fun ls hl => ?_)
          refine lv_aload_n hx hb dX12_separate_137 rfl (lv_at hl 1 rfl) ?_
          refine x_getO X Z 0 1 (v := .ref (d 1)) rfl rfl lk_X12_separate_X12_wordLength dX12_separate_138 ?_
          refine lv_iload hx hb dX12_separate_141 (lv_at hl 0 rfl) ?_
          refine lv_iload hx hb dX12_separate_143 (lv_at hl 4 rfl) ?_
          obtain ⟨hin36, wordLength_37, hv38, h⟩ := st_b h
          refine x_iast X Z 0 (RW_X12_separate cy o d wordLength_37 word_ u34.1 u34.2.1) rfl hin36 hv38 rfl dX12_separate_145 (fun H locs Z => ?_)
          refine lv_iconst (v := (0 : Int32)) hx hb dX12_separate_146 (by decide) ?_
          refine lv_istore (lv' := [(10, .int (0 : Int32)), (9, .int (((3 : Int32) - x1) - x2)), (0, .ref o), (1, .int x1), (2, .int x2), (4, .int u34.2.2.1), (7, .int u34.2.2.2.1), (8, .int u34.2.2.2.2)]) hx hb dX12_separate_147 hl (by decide) rfl (fun ls hl => ?_)
          obtain ⟨u39, hL40, h⟩ := ob_some h
          refine wl_X12_separate_149 o d letters_ tests_ inputLength_ at_ signed_ newParts_ machineParts_ firstParts_ firstTruth_ secondTruth_ isPair_ states_ stateClasses_ elements_ cursor_ hasSnapshot_ isSaving_ wordLength_37 u34.1 u34.2.1 u34.2.2.1 u34.2.2.2.1 u34.2.2.2.2 (((3 : Int32) - x1) - x2) FU (word_, (0 : Int32)) u39 X hL40 (fun H locs ls Z hl => ?_) H locs ls Z (lv_sub hl [2, 5, 6, 7, 1, 0] rfl)
          refine lv_iconst (v := (2 : Int32)) hx hb dX12_separate_182 (by decide) ?_
          refine lv_istore (lv' := [(10, .int (2 : Int32)), (7, .int u34.2.2.2.1), (8, .int u34.2.2.2.2)]) hx hb dX12_separate_183 hl (by decide) rfl (fun ls hl => ?_)
          obtain ⟨u41, hL42, h⟩ := ob_some h
          refine wl_X12_separate_185 o d letters_ tests_ inputLength_ at_ signed_ newParts_ machineParts_ firstParts_ firstTruth_ secondTruth_ isPair_ states_ stateClasses_ elements_ cursor_ hasSnapshot_ isSaving_ wordLength_37 u39 u34.1 u34.2.1 u34.2.2.2.1 u34.2.2.2.2 FU (2 : Int32) u41 X hL42 (fun H locs ls Z hl => ?_) H locs ls Z (lv_sub hl [1, 2, 0] rfl)
          refine lv_iload hx hb dX12_separate_204 (lv_at hl 0 rfl) ?_
          obtain rfl := Option.some.inj h
          exact K H locs ls _ dX12_separate_206 Z
        · replace h := se_r h
          refine wl_X12_separate_26 o d letters_ tests_ inputLength_ at_ signed_ newParts_ machineParts_ firstParts_ firstTruth_ secondTruth_ isPair_ states_ stateClasses_ elements_ cursor_ hasSnapshot_ isSaving_ wordLength_ word_ x1 x2 FU (prefixes_, candidate_, (1 : Int32), (1 : Int32)) (.inr u34) X hL35 (sk_ri (fun H locs ls Z hl => ?_)) H locs ls Z (lv_sub hl [2, 3, 4, 1, 0] rfl)
          refine lv_bipush (v := (-2 : Int32)) hx hb dX12_separate_219 (by decide) ?_
          obtain rfl := Option.some.inj h
          exact K H locs ls _ dX12_separate_221 Z
      · replace h := ifp h cnd
        refine lv_iconst (v := (-1 : Int32)) hx hb dX12_separate_19 (by decide) ?_
        obtain rfl := Option.some.inj h
        exact K H locs ls _ dX12_separate_20 Z
theorem c_X12_separate (l : Launch) (D : va_G) (cy : Nat → ClassId) (o : Nat) (d : Nat → Nat) (letters_ : Int32) (tests_ : Int32) (inputLength_ : Int32) (at_ : Int32) (signed_ : Int32) (newParts_ : Int32) (machineParts_ : Int32) (firstParts_ : Int32) (firstTruth_ : Int32) (secondTruth_ : Int32) (isPair_ : Int32) (states_ : Int32) (stateClasses_ : Int32) (elements_ : Int32) (cursor_ : Int32) (hasSnapshot_ : Int32) (isSaving_ : Int32) (wordLength_ : Nat → Int32) (word_ : Nat → Int32) (prefixes_ : Nat → Int32) (candidate_ : Nat → Int32) (x1 : Int32) (x2 : Int32) (out : Int32 × (Nat → Int32) × (Nat → Int32) × (Nat → Int32) × (Nat → Int32)) (h : f_X12_separate x1 x2 letters_ wordLength_ word_ prefixes_ candidate_ = some out) : CtI l yX12_separate wsX12_separate rm_X12_separate D cy [.ref o, .int x1, .int x2] (RW_X12_separate cy o d wordLength_ word_ prefixes_ candidate_) (RO_X12_separate cy o d letters_ tests_ inputLength_ at_ signed_ newParts_ machineParts_ firstParts_ firstTruth_ secondTruth_ isPair_ states_ stateClasses_ elements_ cursor_ hasSnapshot_ isSaving_) (RW_X12_separate cy o d out.2.1 out.2.2.1 out.2.2.2.1 out.2.2.2.2) out.1 :=
  mk_i (ty := .int) (by decide) rfl rfl (Nat.le_of_ble_eq_true rfl) (fun p e s m args below meth c A Q X K H locs ls Z hl => wt_X12_separate o d letters_ tests_ inputLength_ at_ signed_ newParts_ machineParts_ firstParts_ firstTruth_ secondTruth_ isPair_ states_ stateClasses_ elements_ cursor_ hasSnapshot_ isSaving_ wordLength_ word_ prefixes_ candidate_ x1 x2 out X h K H locs ls Z hl)
/-! SubwordCounterModel isTest (I)Z -/
abbrev rm_X12_isTest : Room := { frames := 1, cells := 0, slots := 0, locals := 22 }
def RW_X12_isTest (cy : Nat → ClassId) (o : Nat) (d : Nat → Nat)  : va_W := []
def RO_X12_isTest (cy : Nat → ClassId) (o : Nat) (d : Nat → Nat) (letters_ : Int32) (tests_ : Int32) (inputLength_ : Int32) (at_ : Int32) (signed_ : Int32) (newParts_ : Int32) (machineParts_ : Int32) (firstParts_ : Int32) (firstTruth_ : Int32) (secondTruth_ : Int32) (isPair_ : Int32) (states_ : Int32) (stateClasses_ : Int32) (elements_ : Int32) (cursor_ : Int32) (hasSnapshot_ : Int32) (isSaving_ : Int32) : va_W := [(o, ob 11 (oX12 d letters_ tests_ inputLength_ at_ signed_ newParts_ machineParts_ firstParts_ firstTruth_ secondTruth_ isPair_ states_ stateClasses_ elements_ cursor_ hasSnapshot_ isSaving_))]
theorem in_X12_isTest_X12 : ∀ w ∈ u_ws RX12 TX12 68, w ∈ wsX12_isTest := fun w h => (List.mem_cons_of_mem _ (List.mem_append_right _ h))
theorem lk_X12_isTest_X12_tests : Lk wsX12_isTest RX12 173 11 10 := ⟨RX12, TX12, 68, rfl, by decide, in_X12_isTest_X12, mem_at 1 rfl⟩
def f_X12_isTest (x1 : Int32) (tests_ : Int32) : Option (Int32) :=
  (f_X12_isBetween x1 (0 : Int32) (tests_ - (1 : Int32))).bind (fun u1 =>
  bitZ u1 (some u1))
set_option maxHeartbeats 4000000 in
set_option maxRecDepth 100000 in
theorem wt_X12_isTest {p : Program} {l : Launch} {e : Env} {s : State} {m : MethodId} {args : Array Value} {below : List Frame} {meth : Method} {c : Code} {A : Nat → Prop} {Q : State → Prop} {D : va_G} {cy : Nat → ClassId} (o : Nat) (d : Nat → Nat) (letters_ : Int32) (tests_ : Int32) (inputLength_ : Int32) (at_ : Int32) (signed_ : Int32) (newParts_ : Int32) (machineParts_ : Int32) (firstParts_ : Int32) (firstTruth_ : Int32) (secondTruth_ : Int32) (isPair_ : Int32) (states_ : Int32) (stateClasses_ : Int32) (elements_ : Int32) (cursor_ : Int32) (hasSnapshot_ : Int32) (isSaving_ : Int32)  (x1 : Int32) (out : Int32) (X : Cx p m c cX12_isTest 2 s args wsX12_isTest RX12 A D cy (RO_X12_isTest cy o d letters_ tests_ inputLength_ at_ signed_ newParts_ machineParts_ firstParts_ firstTruth_ secondTruth_ isPair_ states_ stateClasses_ elements_ cursor_ hasSnapshot_ isSaving_)) (h : f_X12_isTest x1 tests_ = some out) (K : ∀ (H : Heap) (locs : List Loc) (ls : Array Slot) (pc : Nat), decode cX12_isTest pc = .ok (.ireturn, 1) → (out = 0 ∨ out = 1) → St A D s (RW_X12_isTest cy o d) H locs → W p l e rm_X12_isTest s m args below meth c H locs 0 0 Q (F0 m pc ls [.int out])) : ∀ (H : Heap) (locs : List Loc) (ls : Array Slot), St A D s (RW_X12_isTest cy o d) H locs → lv_has ls 2 [(0, .ref o), (1, .int x1)] → W p l e rm_X12_isTest s m args below meth c H locs 0 0 Q (F0 m 0 ls []) := by
  intro H locs ls Z hl
  have hx := X.1.1
  have hb := X.1.2.1
  unfold f_X12_isTest at h
  refine lv_iload_n hx hb dX12_isTest_0 rfl (lv_at hl 1 rfl) ?_
  refine lv_iconst (v := (0 : Int32)) hx hb dX12_isTest_1 (by decide) ?_
  refine lv_aload_n hx hb dX12_isTest_2 rfl (lv_at hl 0 rfl) ?_
  refine x_getO X Z 0 10 (v := .int tests_) rfl rfl lk_X12_isTest_X12_tests dX12_isTest_3 ?_
  refine lv_iconst (v := (1 : Int32)) hx hb dX12_isTest_6 (by decide) ?_
  refine lv_isub hx hb dX12_isTest_7 ?_
  obtain ⟨u1, hc2, h⟩ := ob_some h
  refine x_runSi (RW' := (RW_X12_isTest cy o d)) (wr := []) (isC := []) (isR := []) (isF := []) (rest := []) (As := [.int x1, .int (0 : Int32), .int (tests_ - (1 : Int32))]) (n := 3) X Z (c_X12_isBetween l D cy x1 (0 : Int32) (tests_ - (1 : Int32)) u1 hc2) gX12_isTest_X12_isBetween rfl (by decide +kernel) ⟨Nat.le_of_ble_eq_true rfl, Nat.le_of_ble_eq_true rfl⟩ ⟨rfl, rfl⟩ ⟨Nat.le_of_ble_eq_true rfl, Nat.le_of_ble_eq_true rfl⟩ ⟨rfl, rfl, roN, rfl, rfl, by decide⟩ ⟨rfl, rfl⟩ rfl hl.1 rfl (Nat.le_of_ble_eq_true rfl) dX12_isTest_8 (fun H locs Z => ?_)
  obtain ⟨hz3, h⟩ := bz_b h
  obtain rfl := Option.some.inj h
  exact K H locs ls _ dX12_isTest_11 hz3 Z
theorem c_X12_isTest (l : Launch) (D : va_G) (cy : Nat → ClassId) (o : Nat) (d : Nat → Nat) (letters_ : Int32) (tests_ : Int32) (inputLength_ : Int32) (at_ : Int32) (signed_ : Int32) (newParts_ : Int32) (machineParts_ : Int32) (firstParts_ : Int32) (firstTruth_ : Int32) (secondTruth_ : Int32) (isPair_ : Int32) (states_ : Int32) (stateClasses_ : Int32) (elements_ : Int32) (cursor_ : Int32) (hasSnapshot_ : Int32) (isSaving_ : Int32)  (x1 : Int32) (out : Int32) (h : f_X12_isTest x1 tests_ = some out) : CtI l yX12_isTest wsX12_isTest rm_X12_isTest D cy [.ref o, .int x1] (RW_X12_isTest cy o d) (RO_X12_isTest cy o d letters_ tests_ inputLength_ at_ signed_ newParts_ machineParts_ firstParts_ firstTruth_ secondTruth_ isPair_ states_ stateClasses_ elements_ cursor_ hasSnapshot_ isSaving_) (RW_X12_isTest cy o d) out :=
  mk_z (by decide) rfl (Nat.le_of_ble_eq_true rfl) (fun p e s m args below meth c A Q X K H locs ls Z hl => wt_X12_isTest o d letters_ tests_ inputLength_ at_ signed_ newParts_ machineParts_ firstParts_ firstTruth_ secondTruth_ isPair_ states_ stateClasses_ elements_ cursor_ hasSnapshot_ isSaving_ x1 out X h K H locs ls Z hl)
/-! SubwordCounterModel feed (I)I -/
abbrev rm_X12_feed : Room := { frames := 1, cells := 0, slots := 0, locals := 22 }
def RW_X12_feed (cy : Nat → ClassId) (o : Nat) (d : Nat → Nat) (letters_ : Int32) (tests_ : Int32) (inputLength_ : Int32) (at_ : Int32) (signed_ : Int32) (newParts_ : Int32) (machineParts_ : Int32) (firstParts_ : Int32) (firstTruth_ : Int32) (secondTruth_ : Int32) (isPair_ : Int32) (states_ : Int32) (stateClasses_ : Int32) (elements_ : Int32) (cursor_ : Int32) (hasSnapshot_ : Int32) (isSaving_ : Int32) (input_ : Nat → Int32) : va_W := [(o, ob 11 (oX12 d letters_ tests_ inputLength_ at_ signed_ newParts_ machineParts_ firstParts_ firstTruth_ secondTruth_ isPair_ states_ stateClasses_ elements_ cursor_ hasSnapshot_ isSaving_)), ((d 9), aI cy 8 input_)]
def RO_X12_feed (cy : Nat → ClassId) (o : Nat) (d : Nat → Nat)  : va_W := []
theorem in_X12_feed_X12 : ∀ w ∈ u_ws RX12 TX12 68, w ∈ wsX12_feed := fun w h => (List.mem_cons_of_mem _ (List.mem_append_right _ h))
theorem lk_X12_feed_X12_inputLength : Lk wsX12_feed RX12 184 11 11 := ⟨RX12, TX12, 68, rfl, by decide, in_X12_feed_X12, mem_at 1 rfl⟩
theorem lk_X12_feed_X12_input : Lk wsX12_feed RX12 38 11 9 := ⟨RX12, TX12, 68, rfl, by decide, in_X12_feed_X12, mem_at 2 rfl⟩
theorem lp_X12_feed_X12_inputLength : Lp wsX12_feed RX12 184 11 11 .int := ⟨RX12, TX12, 68, tyX12, rfl, by decide, in_X12_feed_X12, mem_at 1 rfl, tyX12_ok, nmX12, rfl, by decide +kernel⟩
def f_X12_feed (x1 : Int32) (inputLength_ : Int32) (input_ : Nat → Int32) : Option (Int32 × Int32 × (Nat → Int32)) :=
  (f_X12_isBetween x1 (1 : Int32) (127 : Int32)).bind (fun u1 =>
  if u1 = 0 then
  (some ((-1 : Int32), inputLength_, input_))
  else
  (if inputLength_ = (8 : Int32) then
  (some ((-3 : Int32), inputLength_, input_))
  else
  (stA input_ 8 inputLength_ x1 (fun input_4 =>
  some ((inputLength_ + (1 : Int32)), (inputLength_ + (1 : Int32)), input_4)))))
set_option maxHeartbeats 4000000 in
set_option maxRecDepth 100000 in
theorem wt_X12_feed {p : Program} {l : Launch} {e : Env} {s : State} {m : MethodId} {args : Array Value} {below : List Frame} {meth : Method} {c : Code} {A : Nat → Prop} {Q : State → Prop} {D : va_G} {cy : Nat → ClassId} (o : Nat) (d : Nat → Nat)  (letters_ : Int32) (tests_ : Int32) (inputLength_ : Int32) (at_ : Int32) (signed_ : Int32) (newParts_ : Int32) (machineParts_ : Int32) (firstParts_ : Int32) (firstTruth_ : Int32) (secondTruth_ : Int32) (isPair_ : Int32) (states_ : Int32) (stateClasses_ : Int32) (elements_ : Int32) (cursor_ : Int32) (hasSnapshot_ : Int32) (isSaving_ : Int32) (input_ : Nat → Int32) (x1 : Int32) (out : Int32 × Int32 × (Nat → Int32)) (X : Cx p m c cX12_feed 2 s args wsX12_feed RX12 A D cy (RO_X12_feed cy o d)) (h : f_X12_feed x1 inputLength_ input_ = some out) (K : ∀ (H : Heap) (locs : List Loc) (ls : Array Slot) (pc : Nat), decode cX12_feed pc = .ok (.ireturn, 1) → St A D s (RW_X12_feed cy o d letters_ tests_ out.2.1 at_ signed_ newParts_ machineParts_ firstParts_ firstTruth_ secondTruth_ isPair_ states_ stateClasses_ elements_ cursor_ hasSnapshot_ isSaving_ out.2.2) H locs → W p l e rm_X12_feed s m args below meth c H locs 0 0 Q (F0 m pc ls [.int out.1])) : ∀ (H : Heap) (locs : List Loc) (ls : Array Slot), St A D s (RW_X12_feed cy o d letters_ tests_ inputLength_ at_ signed_ newParts_ machineParts_ firstParts_ firstTruth_ secondTruth_ isPair_ states_ stateClasses_ elements_ cursor_ hasSnapshot_ isSaving_ input_) H locs → lv_has ls 2 [(0, .ref o), (1, .int x1)] → W p l e rm_X12_feed s m args below meth c H locs 0 0 Q (F0 m 0 ls []) := by
  intro H locs ls Z hl
  have hx := X.1.1
  have hb := X.1.2.1
  unfold f_X12_feed at h
  refine lv_iload_n hx hb dX12_feed_0 rfl (lv_at hl 1 rfl) ?_
  refine lv_iconst (v := (1 : Int32)) hx hb dX12_feed_1 (by decide) ?_
  refine lv_bipush (v := (127 : Int32)) hx hb dX12_feed_2 (by decide) ?_
  obtain ⟨u1, hc2, h⟩ := ob_some h
  refine x_runSi (RW' := (RW_X12_feed cy o d letters_ tests_ inputLength_ at_ signed_ newParts_ machineParts_ firstParts_ firstTruth_ secondTruth_ isPair_ states_ stateClasses_ elements_ cursor_ hasSnapshot_ isSaving_ input_)) (wr := [(o, ob 11 (oX12 d letters_ tests_ inputLength_ at_ signed_ newParts_ machineParts_ firstParts_ firstTruth_ secondTruth_ isPair_ states_ stateClasses_ elements_ cursor_ hasSnapshot_ isSaving_)), ((d 9), aI cy 8 input_)]) (isC := []) (isR := [0, 1]) (isF := [0, 1]) (rest := []) (As := [.int x1, .int (1 : Int32), .int (127 : Int32)]) (n := 3) X Z (c_X12_isBetween l D cy x1 (1 : Int32) (127 : Int32) u1 hc2) gX12_feed_X12_isBetween rfl (by decide +kernel) ⟨Nat.le_of_ble_eq_true rfl, Nat.le_of_ble_eq_true rfl⟩ ⟨rfl, rfl⟩ ⟨Nat.le_of_ble_eq_true rfl, Nat.le_of_ble_eq_true rfl⟩ ⟨rfl, rfl, roN, rfl, rfl, by decide⟩ ⟨rfl, rfl⟩ rfl hl.1 rfl (Nat.le_of_ble_eq_true rfl) dX12_feed_4 (fun H locs Z => ?_)
  refine lv_if_ne (tgt := 12) hx hb dX12_feed_7 (by decide) (fun cnd => ?_) (fun cnd => ?_)
  · replace h := ifn h cnd
    refine lv_aload_n hx hb dX12_feed_12 rfl (lv_at hl 0 rfl) ?_
    refine x_get X Z 0 11 (v := .int inputLength_) rfl rfl lk_X12_feed_X12_inputLength dX12_feed_13 ?_
    refine lv_bipush (v := (8 : Int32)) hx hb dX12_feed_16 (by decide) ?_
    refine lv_icmp_ne (tgt := 24) hx hb dX12_feed_18 (by decide) (fun cnd => ?_) (fun cnd => ?_)
    · replace h := ifn h cnd
      refine lv_aload_n hx hb dX12_feed_24 rfl (lv_at hl 0 rfl) ?_
      refine x_get X Z 0 9 (v := .ref (d 9)) rfl rfl lk_X12_feed_X12_input dX12_feed_25 ?_
      refine lv_aload_n hx hb dX12_feed_28 rfl (lv_at hl 0 rfl) ?_
      refine x_get X Z 0 11 (v := .int inputLength_) rfl rfl lk_X12_feed_X12_inputLength dX12_feed_29 ?_
      refine lv_iload_n hx hb dX12_feed_32 rfl (lv_at hl 1 rfl) ?_
      obtain ⟨hin3, input_4, hv5, h⟩ := st_b h
      refine x_iast X Z 1 (RW_X12_feed cy o d letters_ tests_ inputLength_ at_ signed_ newParts_ machineParts_ firstParts_ firstTruth_ secondTruth_ isPair_ states_ stateClasses_ elements_ cursor_ hasSnapshot_ isSaving_ input_4) rfl hin3 hv5 rfl dX12_feed_33 (fun H locs Z => ?_)
      refine lv_aload_n hx hb dX12_feed_34 rfl (lv_at hl 0 rfl) ?_
      refine lv_dup hx hb dX12_feed_35 rfl ?_
      refine x_get X Z 0 11 (v := .int inputLength_) rfl rfl lk_X12_feed_X12_inputLength dX12_feed_36 ?_
      refine lv_iconst (v := (1 : Int32)) hx hb dX12_feed_39 (by decide) ?_
      refine lv_iadd hx hb dX12_feed_40 ?_
      refine x_put X Z 0 11 (RW_X12_feed cy o d letters_ tests_ (inputLength_ + (1 : Int32)) at_ signed_ newParts_ machineParts_ firstParts_ firstTruth_ secondTruth_ isPair_ states_ stateClasses_ elements_ cursor_ hasSnapshot_ isSaving_ input_4) rfl lp_X12_feed_X12_inputLength (Nat.le_of_ble_eq_true rfl) rfl dX12_feed_41 (fun H locs Z => ?_)
      refine lv_aload_n hx hb dX12_feed_44 rfl (lv_at hl 0 rfl) ?_
      refine x_get X Z 0 11 (v := .int (inputLength_ + (1 : Int32))) rfl rfl lk_X12_feed_X12_inputLength dX12_feed_45 ?_
      obtain rfl := Option.some.inj h
      exact K H locs ls _ dX12_feed_48 Z
    · replace h := ifp h cnd
      refine lv_bipush (v := (-3 : Int32)) hx hb dX12_feed_21 (by decide) ?_
      obtain rfl := Option.some.inj h
      exact K H locs ls _ dX12_feed_23 Z
  · replace h := ifp h cnd
    refine lv_iconst (v := (-1 : Int32)) hx hb dX12_feed_10 (by decide) ?_
    obtain rfl := Option.some.inj h
    exact K H locs ls _ dX12_feed_11 Z
theorem c_X12_feed (l : Launch) (D : va_G) (cy : Nat → ClassId) (o : Nat) (d : Nat → Nat)  (letters_ : Int32) (tests_ : Int32) (inputLength_ : Int32) (at_ : Int32) (signed_ : Int32) (newParts_ : Int32) (machineParts_ : Int32) (firstParts_ : Int32) (firstTruth_ : Int32) (secondTruth_ : Int32) (isPair_ : Int32) (states_ : Int32) (stateClasses_ : Int32) (elements_ : Int32) (cursor_ : Int32) (hasSnapshot_ : Int32) (isSaving_ : Int32) (input_ : Nat → Int32) (x1 : Int32) (out : Int32 × Int32 × (Nat → Int32)) (h : f_X12_feed x1 inputLength_ input_ = some out) : CtI l yX12_feed wsX12_feed rm_X12_feed D cy [.ref o, .int x1] (RW_X12_feed cy o d letters_ tests_ inputLength_ at_ signed_ newParts_ machineParts_ firstParts_ firstTruth_ secondTruth_ isPair_ states_ stateClasses_ elements_ cursor_ hasSnapshot_ isSaving_ input_) (RO_X12_feed cy o d) (RW_X12_feed cy o d letters_ tests_ out.2.1 at_ signed_ newParts_ machineParts_ firstParts_ firstTruth_ secondTruth_ isPair_ states_ stateClasses_ elements_ cursor_ hasSnapshot_ isSaving_ out.2.2) out.1 :=
  mk_i (ty := .int) (by decide) rfl rfl (Nat.le_of_ble_eq_true rfl) (fun p e s m args below meth c A Q X K H locs ls Z hl => wt_X12_feed o d letters_ tests_ inputLength_ at_ signed_ newParts_ machineParts_ firstParts_ firstTruth_ secondTruth_ isPair_ states_ stateClasses_ elements_ cursor_ hasSnapshot_ isSaving_ input_ x1 out X h K H locs ls Z hl)
/-! SubwordCounterModel isAt (II)Z -/
abbrev rm_X12_isAt : Room := { frames := 1, cells := 0, slots := 0, locals := 22 }
def RW_X12_isAt (cy : Nat → ClassId) (o : Nat) (d : Nat → Nat)  : va_W := []
def RO_X12_isAt (cy : Nat → ClassId) (o : Nat) (d : Nat → Nat) (letters_ : Int32) (tests_ : Int32) (inputLength_ : Int32) (at_ : Int32) (signed_ : Int32) (newParts_ : Int32) (machineParts_ : Int32) (firstParts_ : Int32) (firstTruth_ : Int32) (secondTruth_ : Int32) (isPair_ : Int32) (states_ : Int32) (stateClasses_ : Int32) (elements_ : Int32) (cursor_ : Int32) (hasSnapshot_ : Int32) (isSaving_ : Int32) (input_ : Nat → Int32) : va_W := [(o, ob 11 (oX12 d letters_ tests_ inputLength_ at_ signed_ newParts_ machineParts_ firstParts_ firstTruth_ secondTruth_ isPair_ states_ stateClasses_ elements_ cursor_ hasSnapshot_ isSaving_)), ((d 9), aI cy 8 input_)]
theorem in_X12_isAt_X12 : ∀ w ∈ u_ws RX12 TX12 68, w ∈ wsX12_isAt := fun w h => (List.mem_cons_of_mem _ (List.mem_append_right _ h))
theorem lk_X12_isAt_X12_at : Lk wsX12_isAt RX12 187 11 12 := ⟨RX12, TX12, 68, rfl, by decide, in_X12_isAt_X12, mem_at 1 rfl⟩
theorem lk_X12_isAt_X12_inputLength : Lk wsX12_isAt RX12 184 11 11 := ⟨RX12, TX12, 68, rfl, by decide, in_X12_isAt_X12, mem_at 2 rfl⟩
theorem lk_X12_isAt_X12_input : Lk wsX12_isAt RX12 38 11 9 := ⟨RX12, TX12, 68, rfl, by decide, in_X12_isAt_X12, mem_at 3 rfl⟩
def f_X12_isAt (x1 : Int32) (x2 : Int32) (inputLength_ : Int32) (at_ : Int32) (input_ : Nat → Int32) : Option (Int32) :=
  if inputLength_ ≤ at_ then
  (some (0 : Int32))
  else
  (ldA input_ 8 at_ (fun v2 =>
  (f_X12_isBetween v2 x1 x2).bind (fun u4 =>
  if u4 = 0 then
  (some (0 : Int32))
  else
  (some (1 : Int32)))))
set_option maxHeartbeats 4000000 in
set_option maxRecDepth 100000 in
theorem wt_X12_isAt {p : Program} {l : Launch} {e : Env} {s : State} {m : MethodId} {args : Array Value} {below : List Frame} {meth : Method} {c : Code} {A : Nat → Prop} {Q : State → Prop} {D : va_G} {cy : Nat → ClassId} (o : Nat) (d : Nat → Nat) (letters_ : Int32) (tests_ : Int32) (inputLength_ : Int32) (at_ : Int32) (signed_ : Int32) (newParts_ : Int32) (machineParts_ : Int32) (firstParts_ : Int32) (firstTruth_ : Int32) (secondTruth_ : Int32) (isPair_ : Int32) (states_ : Int32) (stateClasses_ : Int32) (elements_ : Int32) (cursor_ : Int32) (hasSnapshot_ : Int32) (isSaving_ : Int32) (input_ : Nat → Int32)  (x1 : Int32) (x2 : Int32) (out : Int32) (X : Cx p m c cX12_isAt 3 s args wsX12_isAt RX12 A D cy (RO_X12_isAt cy o d letters_ tests_ inputLength_ at_ signed_ newParts_ machineParts_ firstParts_ firstTruth_ secondTruth_ isPair_ states_ stateClasses_ elements_ cursor_ hasSnapshot_ isSaving_ input_)) (h : f_X12_isAt x1 x2 inputLength_ at_ input_ = some out) (K : ∀ (H : Heap) (locs : List Loc) (ls : Array Slot) (pc : Nat), decode cX12_isAt pc = .ok (.ireturn, 1) → (out = 0 ∨ out = 1) → St A D s (RW_X12_isAt cy o d) H locs → W p l e rm_X12_isAt s m args below meth c H locs 0 0 Q (F0 m pc ls [.int out])) : ∀ (H : Heap) (locs : List Loc) (ls : Array Slot), St A D s (RW_X12_isAt cy o d) H locs → lv_has ls 3 [(0, .ref o), (1, .int x1), (2, .int x2)] → W p l e rm_X12_isAt s m args below meth c H locs 0 0 Q (F0 m 0 ls []) := by
  intro H locs ls Z hl
  have hx := X.1.1
  have hb := X.1.2.1
  unfold f_X12_isAt at h
  refine lv_aload_n hx hb dX12_isAt_0 rfl (lv_at hl 0 rfl) ?_
  refine x_getO X Z 0 12 (v := .int at_) rfl rfl lk_X12_isAt_X12_at dX12_isAt_1 ?_
  refine lv_aload_n hx hb dX12_isAt_4 rfl (lv_at hl 0 rfl) ?_
  refine x_getO X Z 0 11 (v := .int inputLength_) rfl rfl lk_X12_isAt_X12_inputLength dX12_isAt_5 ?_
  refine lv_icmp_ge (tgt := 32) hx hb dX12_isAt_8 (by decide) (fun cnd => ?_) (fun cnd => ?_)
  · replace h := ifp h cnd
    refine lv_iconst (v := (0 : Int32)) hx hb dX12_isAt_32 (by decide) ?_
    obtain rfl := Option.some.inj h
    exact K H locs ls _ dX12_isAt_33 (Or.inl rfl) Z
  · replace h := ifn h cnd
    refine lv_aload_n hx hb dX12_isAt_11 rfl (lv_at hl 0 rfl) ?_
    refine x_getO X Z 0 9 (v := .ref (d 9)) rfl rfl lk_X12_isAt_X12_input dX12_isAt_12 ?_
    refine lv_aload_n hx hb dX12_isAt_15 rfl (lv_at hl 0 rfl) ?_
    refine x_getO X Z 0 12 (v := .int at_) rfl rfl lk_X12_isAt_X12_at dX12_isAt_16 ?_
    obtain ⟨hin1, v2, hv3, h⟩ := ld_b h
    refine x_ialdO X Z 1 rfl hin1 hv3 dX12_isAt_19 ?_
    refine lv_iload_n hx hb dX12_isAt_20 rfl (lv_at hl 1 rfl) ?_
    refine lv_iload_n hx hb dX12_isAt_21 rfl (lv_at hl 2 rfl) ?_
    obtain ⟨u4, hc5, h⟩ := ob_some h
    refine x_runSi (RW' := (RW_X12_isAt cy o d)) (wr := []) (isC := []) (isR := []) (isF := []) (rest := []) (As := [.int v2, .int x1, .int x2]) (n := 3) X Z (c_X12_isBetween l D cy v2 x1 x2 u4 hc5) gX12_isAt_X12_isBetween rfl (by decide +kernel) ⟨Nat.le_of_ble_eq_true rfl, Nat.le_of_ble_eq_true rfl⟩ ⟨rfl, rfl⟩ ⟨Nat.le_of_ble_eq_true rfl, Nat.le_of_ble_eq_true rfl⟩ ⟨rfl, rfl, roN, rfl, rfl, by decide⟩ ⟨rfl, rfl⟩ rfl hl.1 rfl (Nat.le_of_ble_eq_true rfl) dX12_isAt_22 (fun H locs Z => ?_)
    refine lv_if_eq (tgt := 32) hx hb dX12_isAt_25 (by decide) (fun cnd => ?_) (fun cnd => ?_)
    · replace h := ifp h cnd
      refine lv_iconst (v := (0 : Int32)) hx hb dX12_isAt_32 (by decide) ?_
      obtain rfl := Option.some.inj h
      exact K H locs ls _ dX12_isAt_33 (Or.inl rfl) Z
    · replace h := ifn h cnd
      refine lv_iconst (v := (1 : Int32)) hx hb dX12_isAt_28 (by decide) ?_
      refine lv_goto (tgt := 33) hx hb dX12_isAt_29 (by decide) ?_
      obtain rfl := Option.some.inj h
      exact K H locs ls _ dX12_isAt_33 (Or.inr rfl) Z
theorem c_X12_isAt (l : Launch) (D : va_G) (cy : Nat → ClassId) (o : Nat) (d : Nat → Nat) (letters_ : Int32) (tests_ : Int32) (inputLength_ : Int32) (at_ : Int32) (signed_ : Int32) (newParts_ : Int32) (machineParts_ : Int32) (firstParts_ : Int32) (firstTruth_ : Int32) (secondTruth_ : Int32) (isPair_ : Int32) (states_ : Int32) (stateClasses_ : Int32) (elements_ : Int32) (cursor_ : Int32) (hasSnapshot_ : Int32) (isSaving_ : Int32) (input_ : Nat → Int32)  (x1 : Int32) (x2 : Int32) (out : Int32) (h : f_X12_isAt x1 x2 inputLength_ at_ input_ = some out) : CtI l yX12_isAt wsX12_isAt rm_X12_isAt D cy [.ref o, .int x1, .int x2] (RW_X12_isAt cy o d) (RO_X12_isAt cy o d letters_ tests_ inputLength_ at_ signed_ newParts_ machineParts_ firstParts_ firstTruth_ secondTruth_ isPair_ states_ stateClasses_ elements_ cursor_ hasSnapshot_ isSaving_ input_) (RW_X12_isAt cy o d) out :=
  mk_z (by decide) rfl (Nat.le_of_ble_eq_true rfl) (fun p e s m args below meth c A Q X K H locs ls Z hl => wt_X12_isAt o d letters_ tests_ inputLength_ at_ signed_ newParts_ machineParts_ firstParts_ firstTruth_ secondTruth_ isPair_ states_ stateClasses_ elements_ cursor_ hasSnapshot_ isSaving_ input_ x1 x2 out X h K H locs ls Z hl)
