set_option linter.unusedVariables false
/-! SubwordCounterModel isBetween (III)Z -/
abbrev rm_X12_isBetween : Room := { frames := 0, cells := 0, slots := 0, locals := 0 }
def RW_X12_isBetween (cy : Nat → ClassId)   : va_W := []
def RO_X12_isBetween (cy : Nat → ClassId)   : va_W := []
def f_X12_isBetween (x0 : Int32) (x1 : Int32) (x2 : Int32)  : Option (Int32) :=
  if x0 < x1 then
  (some (0 : Int32))
  else
  (if x2 < x0 then
  (some (0 : Int32))
  else
  (some (1 : Int32)))
set_option maxHeartbeats 4000000 in
set_option maxRecDepth 100000 in
theorem wt_X12_isBetween {p : Program} {l : Launch} {e : Env} {s : State} {m : MethodId} {args : Array Value} {below : List Frame} {meth : Method} {c : Code} {A : Nat → Prop} {Q : State → Prop} {D : va_G} {cy : Nat → ClassId}    (x0 : Int32) (x1 : Int32) (x2 : Int32) (out : Int32) (X : Cx p m c cX12_isBetween 3 s args wsX12_isBetween RX12 A D cy (RO_X12_isBetween cy )) (h : f_X12_isBetween x0 x1 x2 = some out) (K : ∀ (H : Heap) (locs : List Loc) (ls : Array Slot) (pc : Nat), decode cX12_isBetween pc = .ok (.ireturn, 1) → (out = 0 ∨ out = 1) → St A D s (RW_X12_isBetween cy ) H locs → W p l e rm_X12_isBetween s m args below meth c H locs 0 0 Q (F0 m pc ls [.int out])) : ∀ (H : Heap) (locs : List Loc) (ls : Array Slot), St A D s (RW_X12_isBetween cy ) H locs → lv_has ls 3 [(0, .int x0), (1, .int x1), (2, .int x2)] → W p l e rm_X12_isBetween s m args below meth c H locs 0 0 Q (F0 m 0 ls []) := by
  intro H locs ls Z hl
  have hx := X.1.1
  have hb := X.1.2.1
  unfold f_X12_isBetween at h
  refine lv_iload_n hx hb dX12_isBetween_0 rfl (lv_at hl 0 rfl) ?_
  refine lv_iload_n hx hb dX12_isBetween_1 rfl (lv_at hl 1 rfl) ?_
  refine lv_icmp_lt (tgt := 14) hx hb dX12_isBetween_2 (by decide) (fun cnd => ?_) (fun cnd => ?_)
  · replace h := ifp h cnd
    refine lv_iconst (v := (0 : Int32)) hx hb dX12_isBetween_14 (by decide) ?_
    obtain rfl := Option.some.inj h
    exact K H locs ls _ dX12_isBetween_15 (Or.inl rfl) Z
  · replace h := ifn h cnd
    refine lv_iload_n hx hb dX12_isBetween_5 rfl (lv_at hl 0 rfl) ?_
    refine lv_iload_n hx hb dX12_isBetween_6 rfl (lv_at hl 2 rfl) ?_
    refine lv_icmp_gt (tgt := 14) hx hb dX12_isBetween_7 (by decide) (fun cnd => ?_) (fun cnd => ?_)
    · replace h := ifp h cnd
      refine lv_iconst (v := (0 : Int32)) hx hb dX12_isBetween_14 (by decide) ?_
      obtain rfl := Option.some.inj h
      exact K H locs ls _ dX12_isBetween_15 (Or.inl rfl) Z
    · replace h := ifn h cnd
      refine lv_iconst (v := (1 : Int32)) hx hb dX12_isBetween_10 (by decide) ?_
      refine lv_goto (tgt := 15) hx hb dX12_isBetween_11 (by decide) ?_
      obtain rfl := Option.some.inj h
      exact K H locs ls _ dX12_isBetween_15 (Or.inr rfl) Z
theorem c_X12_isBetween (l : Launch) (D : va_G) (cy : Nat → ClassId)    (x0 : Int32) (x1 : Int32) (x2 : Int32) (out : Int32) (h : f_X12_isBetween x0 x1 x2 = some out) : CtI l yX12_isBetween wsX12_isBetween rm_X12_isBetween D cy [.int x0, .int x1, .int x2] (RW_X12_isBetween cy ) (RO_X12_isBetween cy ) (RW_X12_isBetween cy ) out :=
  mk_z (by decide) rfl (Nat.le_of_ble_eq_true rfl) (fun p e s m args below meth c A Q X K H locs ls Z hl => wt_X12_isBetween  x0 x1 x2 out X h K H locs ls Z hl)
/-! SubwordCounterModel isWord (I)Z -/
abbrev rm_X12_isWord : Room := { frames := 1, cells := 0, slots := 0, locals := 22 }
def RW_X12_isWord (cy : Nat → ClassId)   : va_W := []
def RO_X12_isWord (cy : Nat → ClassId)   : va_W := []
def f_X12_isWord (x0 : Int32)  : Option (Int32) :=
  (f_X12_isBetween x0 (0 : Int32) (2 : Int32)).bind (fun u1 =>
  bitZ u1 (some u1))
set_option maxHeartbeats 4000000 in
set_option maxRecDepth 100000 in
theorem wt_X12_isWord {p : Program} {l : Launch} {e : Env} {s : State} {m : MethodId} {args : Array Value} {below : List Frame} {meth : Method} {c : Code} {A : Nat → Prop} {Q : State → Prop} {D : va_G} {cy : Nat → ClassId}    (x0 : Int32) (out : Int32) (X : Cx p m c cX12_isWord 1 s args wsX12_isWord RX12 A D cy (RO_X12_isWord cy )) (h : f_X12_isWord x0 = some out) (K : ∀ (H : Heap) (locs : List Loc) (ls : Array Slot) (pc : Nat), decode cX12_isWord pc = .ok (.ireturn, 1) → (out = 0 ∨ out = 1) → St A D s (RW_X12_isWord cy ) H locs → W p l e rm_X12_isWord s m args below meth c H locs 0 0 Q (F0 m pc ls [.int out])) : ∀ (H : Heap) (locs : List Loc) (ls : Array Slot), St A D s (RW_X12_isWord cy ) H locs → lv_has ls 1 [(0, .int x0)] → W p l e rm_X12_isWord s m args below meth c H locs 0 0 Q (F0 m 0 ls []) := by
  intro H locs ls Z hl
  have hx := X.1.1
  have hb := X.1.2.1
  unfold f_X12_isWord at h
  refine lv_iload_n hx hb dX12_isWord_0 rfl (lv_at hl 0 rfl) ?_
  refine lv_iconst (v := (0 : Int32)) hx hb dX12_isWord_1 (by decide) ?_
  refine lv_iconst (v := (2 : Int32)) hx hb dX12_isWord_2 (by decide) ?_
  obtain ⟨u1, hc2, h⟩ := ob_some h
  refine x_runSi (RW' := (RW_X12_isWord cy )) (wr := []) (isC := []) (isR := []) (isO := []) (isF := []) (rest := []) (As := [.int x0, .int (0 : Int32), .int (2 : Int32)]) (n := 3) X Z (c_X12_isBetween l D cy x0 (0 : Int32) (2 : Int32) u1 hc2) gX12_isWord_X12_isBetween rfl (by decide +kernel) ⟨Nat.le_of_ble_eq_true rfl, Nat.le_of_ble_eq_true rfl⟩ ⟨rfl, rfl⟩ ⟨Nat.le_of_ble_eq_true rfl, Nat.le_of_ble_eq_true rfl⟩ ⟨rfl, rfl, rfl, rfl, rfl, by decide⟩ ⟨rfl, rfl⟩ rfl hl.1 rfl (Nat.le_of_ble_eq_true rfl) dX12_isWord_3 (fun H locs Z => ?_)
  obtain ⟨hz3, h⟩ := bz_b h
  obtain rfl := Option.some.inj h
  exact K H locs ls _ dX12_isWord_6 hz3 Z
theorem c_X12_isWord (l : Launch) (D : va_G) (cy : Nat → ClassId)    (x0 : Int32) (out : Int32) (h : f_X12_isWord x0 = some out) : CtI l yX12_isWord wsX12_isWord rm_X12_isWord D cy [.int x0] (RW_X12_isWord cy ) (RO_X12_isWord cy ) (RW_X12_isWord cy ) out :=
  mk_z (by decide) rfl (Nat.le_of_ble_eq_true rfl) (fun p e s m args below meth c A Q X K H locs ls Z hl => wt_X12_isWord  x0 out X h K H locs ls Z hl)
/-! SubwordCounterModel setLetters (I)I -/
abbrev rm_X12_setLetters : Room := { frames := 1, cells := 0, slots := 0, locals := 22 }
def RW_X12_setLetters (cy : Nat → ClassId) (o : Nat) (d : Nat → Nat) (letters_ : Int32) (tests_ : Int32) (inputLength_ : Int32) (at_ : Int32) (signed_ : Int32) (newParts_ : Int32) (machineParts_ : Int32) (firstParts_ : Int32) (firstTruth_ : Int32) (secondTruth_ : Int32) (isPair_ : Int32) (states_ : Int32) (stateClasses_ : Int32) (elements_ : Int32) (cursor_ : Int32) (hasSnapshot_ : Int32) (isSaving_ : Int32) (wordLength_ : Nat → Int32) (form_ : Nat → Int32) : va_W := [(o, ob 11 (oX12 d letters_ tests_ inputLength_ at_ signed_ newParts_ machineParts_ firstParts_ firstTruth_ secondTruth_ isPair_ states_ stateClasses_ elements_ cursor_ hasSnapshot_ isSaving_)), ((d 1), aI cy 3 wordLength_), ((d 16), aI cy 4 form_)]
def RO_X12_setLetters (cy : Nat → ClassId) (o : Nat) (d : Nat → Nat)  : va_W := []
theorem in_X12_setLetters_X12 : ∀ w ∈ u_ws RX12 TX12 68, w ∈ wsX12_setLetters := fun w h => (List.mem_cons_of_mem _ (List.mem_append_right _ h))
theorem lk_X12_setLetters_X12_form : Lk wsX12_setLetters RX12 47 11 16 := ⟨RX12, TX12, 68, rfl, by decide, in_X12_setLetters_X12, mem_at 3 rfl⟩
theorem lk_X12_setLetters_X12_wordLength : Lk wsX12_setLetters RX12 13 11 1 := ⟨RX12, TX12, 68, rfl, by decide, in_X12_setLetters_X12, mem_at 2 rfl⟩
theorem lk_X12_setLetters_X12_letters : Lk wsX12_setLetters RX12 7 11 0 := ⟨RX12, TX12, 68, rfl, by decide, in_X12_setLetters_X12, mem_at 1 rfl⟩
theorem lp_X12_setLetters_X12_letters : Lp wsX12_setLetters RX12 7 11 0 .int := ⟨RX12, TX12, 68, tyX12, rfl, by decide, in_X12_setLetters_X12, mem_at 1 rfl, tyX12_ok, nmX12, rfl, by decide +kernel⟩
theorem lp_X12_setLetters_X12_tests : Lp wsX12_setLetters RX12 173 11 10 .int := ⟨RX12, TX12, 68, tyX12, rfl, by decide, in_X12_setLetters_X12, mem_at 4 rfl, tyX12_ok, nmX12, rfl, by decide +kernel⟩
def b_X12_setLetters_43  (form_ : Nat → Int32) (x3 : Int32) : Option (((Nat → Int32) × Int32) ⊕ ((Nat → Int32))) :=
  if (4 : Int32) ≤ x3 then
  (some (.inr form_))
  else
  (stA form_ 4 x3 (-1 : Int32) (fun form_2 =>
  some (.inl (form_2, (x3 + (1 : Int32))))))
set_option maxHeartbeats 4000000 in
set_option maxRecDepth 100000 in
theorem wb_X12_setLetters_43 {p : Program} {l : Launch} {e : Env} {s : State} {m : MethodId} {args : Array Value} {below : List Frame} {meth : Method} {c : Code} {A : Nat → Prop} {Q : State → Prop} {D : va_G} {cy : Nat → ClassId} (o : Nat) (d : Nat → Nat)  (letters_ : Int32) (tests_ : Int32) (inputLength_ : Int32) (at_ : Int32) (signed_ : Int32) (newParts_ : Int32) (machineParts_ : Int32) (firstParts_ : Int32) (firstTruth_ : Int32) (secondTruth_ : Int32) (isPair_ : Int32) (states_ : Int32) (stateClasses_ : Int32) (elements_ : Int32) (cursor_ : Int32) (hasSnapshot_ : Int32) (isSaving_ : Int32) (wordLength_ : Nat → Int32) (x2 : Int32) (form_ : Nat → Int32) (x3 : Int32) (o1 : ((Nat → Int32) × Int32) ⊕ ((Nat → Int32))) (X : Cx p m c cX12_setLetters 4 s args wsX12_setLetters RX12 A D cy (RO_X12_setLetters cy o d)) (h : b_X12_setLetters_43 form_ x3 = some o1) (K : Sum.elim (fun v : (Nat → Int32) × Int32 => ∀ (H : Heap) (locs : List Loc) (ls : Array Slot), St A D s (RW_X12_setLetters cy o d letters_ tests_ inputLength_ at_ signed_ newParts_ machineParts_ firstParts_ firstTruth_ secondTruth_ isPair_ states_ stateClasses_ elements_ cursor_ hasSnapshot_ isSaving_ wordLength_ v.1) H locs → lv_has ls 4 [(0, .ref o), (2, .int x2), (3, .int v.2)] → W p l e rm_X12_setLetters s m args below meth c H locs 0 0 Q (F0 m 43 ls [])) (fun v : (Nat → Int32) => ∀ (H : Heap) (locs : List Loc) (ls : Array Slot), St A D s (RW_X12_setLetters cy o d letters_ tests_ inputLength_ at_ signed_ newParts_ machineParts_ firstParts_ firstTruth_ secondTruth_ isPair_ states_ stateClasses_ elements_ cursor_ hasSnapshot_ isSaving_ wordLength_ v) H locs → lv_has ls 4 [(0, .ref o), (2, .int x2)] → W p l e rm_X12_setLetters s m args below meth c H locs 0 0 Q (F0 m 61 ls [])) o1) : ∀ (H : Heap) (locs : List Loc) (ls : Array Slot), St A D s (RW_X12_setLetters cy o d letters_ tests_ inputLength_ at_ signed_ newParts_ machineParts_ firstParts_ firstTruth_ secondTruth_ isPair_ states_ stateClasses_ elements_ cursor_ hasSnapshot_ isSaving_ wordLength_ form_) H locs → lv_has ls 4 [(0, .ref o), (2, .int x2), (3, .int x3)] → W p l e rm_X12_setLetters s m args below meth c H locs 0 0 Q (F0 m 43 ls []) := by
  intro H locs ls Z hl
  have hx := X.1.1
  have hb := X.1.2.1
  unfold b_X12_setLetters_43 at h
  refine lv_iload_n hx hb dX12_setLetters_43 rfl (lv_at hl 2 rfl) ?_
  refine lv_iconst (v := (4 : Int32)) hx hb dX12_setLetters_44 (by decide) ?_
  refine lv_icmp_ge (tgt := 61) hx hb dX12_setLetters_45 (by decide) (fun cnd => ?_) (fun cnd => ?_)
  · replace h := ifp h cnd
    obtain rfl := Option.some.inj h
    exact (sk_r K) H locs ls Z (lv_sub hl [0, 1] rfl)
  · replace h := ifn h cnd
    refine lv_aload_n hx hb dX12_setLetters_48 rfl (lv_at hl 0 rfl) ?_
    refine x_get X Z 0 16 (v := .ref (d 16)) rfl rfl lk_X12_setLetters_X12_form dX12_setLetters_49 ?_
    refine lv_iload_n hx hb dX12_setLetters_52 rfl (lv_at hl 2 rfl) ?_
    refine lv_iconst (v := (-1 : Int32)) hx hb dX12_setLetters_53 (by decide) ?_
    obtain ⟨hin1, form_2, hv3, h⟩ := st_b h
    refine x_iast X Z 2 (RW_X12_setLetters cy o d letters_ tests_ inputLength_ at_ signed_ newParts_ machineParts_ firstParts_ firstTruth_ secondTruth_ isPair_ states_ stateClasses_ elements_ cursor_ hasSnapshot_ isSaving_ wordLength_ form_2) rfl hin1 hv3 rfl dX12_setLetters_54 (fun H locs Z => ?_)
    refine lv_iinc (v := (x3 + (1 : Int32))) (lv' := [(3, .int (x3 + (1 : Int32))), (0, .ref o), (2, .int x2)]) hx hb dX12_setLetters_55 hl (k := 2) rfl rfl (by decide) rfl (fun ls hl => ?_)
    refine lv_goto (tgt := 43) hx hb dX12_setLetters_58 (by decide) ?_
    obtain rfl := Option.some.inj h
    exact sk_l K H locs ls Z (lv_sub hl [1, 2, 0] rfl)
set_option maxHeartbeats 4000000 in
set_option maxRecDepth 100000 in
theorem wl_X12_setLetters_43 {p : Program} {l : Launch} {e : Env} {s : State} {m : MethodId} {args : Array Value} {below : List Frame} {meth : Method} {c : Code} {A : Nat → Prop} {Q : State → Prop} {D : va_G} {cy : Nat → ClassId} (o : Nat) (d : Nat → Nat)  (letters_ : Int32) (tests_ : Int32) (inputLength_ : Int32) (at_ : Int32) (signed_ : Int32) (newParts_ : Int32) (machineParts_ : Int32) (firstParts_ : Int32) (firstTruth_ : Int32) (secondTruth_ : Int32) (isPair_ : Int32) (states_ : Int32) (stateClasses_ : Int32) (elements_ : Int32) (cursor_ : Int32) (hasSnapshot_ : Int32) (isSaving_ : Int32) (wordLength_ : Nat → Int32) (x2 : Int32) (n : Nat) (v : (Nat → Int32) × Int32) (x : (Nat → Int32)) (X : Cx p m c cX12_setLetters 4 s args wsX12_setLetters RX12 A D cy (RO_X12_setLetters cy o d)) (h : loopN (fun v => b_X12_setLetters_43 v.1 v.2) n v = some x) (K : ∀ (H : Heap) (locs : List Loc) (ls : Array Slot), St A D s (RW_X12_setLetters cy o d letters_ tests_ inputLength_ at_ signed_ newParts_ machineParts_ firstParts_ firstTruth_ secondTruth_ isPair_ states_ stateClasses_ elements_ cursor_ hasSnapshot_ isSaving_ wordLength_ x) H locs → lv_has ls 4 [(0, .ref o), (2, .int x2)] → W p l e rm_X12_setLetters s m args below meth c H locs 0 0 Q (F0 m 61 ls [])) : ∀ (H : Heap) (locs : List Loc) (ls : Array Slot), St A D s (RW_X12_setLetters cy o d letters_ tests_ inputLength_ at_ signed_ newParts_ machineParts_ firstParts_ firstTruth_ secondTruth_ isPair_ states_ stateClasses_ elements_ cursor_ hasSnapshot_ isSaving_ wordLength_ v.1) H locs → lv_has ls 4 [(0, .ref o), (2, .int x2), (3, .int v.2)] → W p l e rm_X12_setLetters s m args below meth c H locs 0 0 Q (F0 m 43 ls []) :=
  loop_gen (B := (fun v => b_X12_setLetters_43 v.1 v.2)) (Head := fun v : (Nat → Int32) × Int32 => ∀ (H : Heap) (locs : List Loc) (ls : Array Slot), St A D s (RW_X12_setLetters cy o d letters_ tests_ inputLength_ at_ signed_ newParts_ machineParts_ firstParts_ firstTruth_ secondTruth_ isPair_ states_ stateClasses_ elements_ cursor_ hasSnapshot_ isSaving_ wordLength_ v.1) H locs → lv_has ls 4 [(0, .ref o), (2, .int x2), (3, .int v.2)] → W p l e rm_X12_setLetters s m args below meth c H locs 0 0 Q (F0 m 43 ls [])) (Exit := fun v : (Nat → Int32) => ∀ (H : Heap) (locs : List Loc) (ls : Array Slot), St A D s (RW_X12_setLetters cy o d letters_ tests_ inputLength_ at_ signed_ newParts_ machineParts_ firstParts_ firstTruth_ secondTruth_ isPair_ states_ stateClasses_ elements_ cursor_ hasSnapshot_ isSaving_ wordLength_ v) H locs → lv_has ls 4 [(0, .ref o), (2, .int x2)] → W p l e rm_X12_setLetters s m args below meth c H locs 0 0 Q (F0 m 61 ls [])) (fun v o hb1 K1 => wb_X12_setLetters_43 o d letters_ tests_ inputLength_ at_ signed_ newParts_ machineParts_ firstParts_ firstTruth_ secondTruth_ isPair_ states_ stateClasses_ elements_ cursor_ hasSnapshot_ isSaving_ wordLength_ x2 v.1 v.2 o X hb1 K1) n v x h K
def b_X12_setLetters_23  (wordLength_ : Nat → Int32) (x3 : Int32) : Option (((Nat → Int32) × Int32) ⊕ ((Nat → Int32))) :=
  if (3 : Int32) ≤ x3 then
  (some (.inr wordLength_))
  else
  (stA wordLength_ 3 x3 (0 : Int32) (fun wordLength_5 =>
  some (.inl (wordLength_5, (x3 + (1 : Int32))))))
set_option maxHeartbeats 4000000 in
set_option maxRecDepth 100000 in
theorem wb_X12_setLetters_23 {p : Program} {l : Launch} {e : Env} {s : State} {m : MethodId} {args : Array Value} {below : List Frame} {meth : Method} {c : Code} {A : Nat → Prop} {Q : State → Prop} {D : va_G} {cy : Nat → ClassId} (o : Nat) (d : Nat → Nat)  (letters_ : Int32) (tests_ : Int32) (inputLength_ : Int32) (at_ : Int32) (signed_ : Int32) (newParts_ : Int32) (machineParts_ : Int32) (firstParts_ : Int32) (firstTruth_ : Int32) (secondTruth_ : Int32) (isPair_ : Int32) (states_ : Int32) (stateClasses_ : Int32) (elements_ : Int32) (cursor_ : Int32) (hasSnapshot_ : Int32) (isSaving_ : Int32) (form_ : Nat → Int32) (x2 : Int32) (wordLength_ : Nat → Int32) (x3 : Int32) (o1 : ((Nat → Int32) × Int32) ⊕ ((Nat → Int32))) (X : Cx p m c cX12_setLetters 4 s args wsX12_setLetters RX12 A D cy (RO_X12_setLetters cy o d)) (h : b_X12_setLetters_23 wordLength_ x3 = some o1) (K : Sum.elim (fun v : (Nat → Int32) × Int32 => ∀ (H : Heap) (locs : List Loc) (ls : Array Slot), St A D s (RW_X12_setLetters cy o d letters_ tests_ inputLength_ at_ signed_ newParts_ machineParts_ firstParts_ firstTruth_ secondTruth_ isPair_ states_ stateClasses_ elements_ cursor_ hasSnapshot_ isSaving_ v.1 form_) H locs → lv_has ls 4 [(0, .ref o), (2, .int x2), (3, .int v.2)] → W p l e rm_X12_setLetters s m args below meth c H locs 0 0 Q (F0 m 23 ls [])) (fun v : (Nat → Int32) => ∀ (H : Heap) (locs : List Loc) (ls : Array Slot), St A D s (RW_X12_setLetters cy o d letters_ tests_ inputLength_ at_ signed_ newParts_ machineParts_ firstParts_ firstTruth_ secondTruth_ isPair_ states_ stateClasses_ elements_ cursor_ hasSnapshot_ isSaving_ v form_) H locs → lv_has ls 4 [(0, .ref o), (2, .int x2)] → W p l e rm_X12_setLetters s m args below meth c H locs 0 0 Q (F0 m 41 ls [])) o1) : ∀ (H : Heap) (locs : List Loc) (ls : Array Slot), St A D s (RW_X12_setLetters cy o d letters_ tests_ inputLength_ at_ signed_ newParts_ machineParts_ firstParts_ firstTruth_ secondTruth_ isPair_ states_ stateClasses_ elements_ cursor_ hasSnapshot_ isSaving_ wordLength_ form_) H locs → lv_has ls 4 [(0, .ref o), (2, .int x2), (3, .int x3)] → W p l e rm_X12_setLetters s m args below meth c H locs 0 0 Q (F0 m 23 ls []) := by
  intro H locs ls Z hl
  have hx := X.1.1
  have hb := X.1.2.1
  unfold b_X12_setLetters_23 at h
  refine lv_iload_n hx hb dX12_setLetters_23 rfl (lv_at hl 2 rfl) ?_
  refine lv_iconst (v := (3 : Int32)) hx hb dX12_setLetters_24 (by decide) ?_
  refine lv_icmp_ge (tgt := 41) hx hb dX12_setLetters_25 (by decide) (fun cnd => ?_) (fun cnd => ?_)
  · replace h := ifp h cnd
    obtain rfl := Option.some.inj h
    exact (sk_r K) H locs ls Z (lv_sub hl [0, 1] rfl)
  · replace h := ifn h cnd
    refine lv_aload_n hx hb dX12_setLetters_28 rfl (lv_at hl 0 rfl) ?_
    refine x_get X Z 0 1 (v := .ref (d 1)) rfl rfl lk_X12_setLetters_X12_wordLength dX12_setLetters_29 ?_
    refine lv_iload_n hx hb dX12_setLetters_32 rfl (lv_at hl 2 rfl) ?_
    refine lv_iconst (v := (0 : Int32)) hx hb dX12_setLetters_33 (by decide) ?_
    obtain ⟨hin4, wordLength_5, hv6, h⟩ := st_b h
    refine x_iast X Z 1 (RW_X12_setLetters cy o d letters_ tests_ inputLength_ at_ signed_ newParts_ machineParts_ firstParts_ firstTruth_ secondTruth_ isPair_ states_ stateClasses_ elements_ cursor_ hasSnapshot_ isSaving_ wordLength_5 form_) rfl hin4 hv6 rfl dX12_setLetters_34 (fun H locs Z => ?_)
    refine lv_iinc (v := (x3 + (1 : Int32))) (lv' := [(3, .int (x3 + (1 : Int32))), (0, .ref o), (2, .int x2)]) hx hb dX12_setLetters_35 hl (k := 2) rfl rfl (by decide) rfl (fun ls hl => ?_)
    refine lv_goto (tgt := 23) hx hb dX12_setLetters_38 (by decide) ?_
    obtain rfl := Option.some.inj h
    exact sk_l K H locs ls Z (lv_sub hl [1, 2, 0] rfl)
set_option maxHeartbeats 4000000 in
set_option maxRecDepth 100000 in
theorem wl_X12_setLetters_23 {p : Program} {l : Launch} {e : Env} {s : State} {m : MethodId} {args : Array Value} {below : List Frame} {meth : Method} {c : Code} {A : Nat → Prop} {Q : State → Prop} {D : va_G} {cy : Nat → ClassId} (o : Nat) (d : Nat → Nat)  (letters_ : Int32) (tests_ : Int32) (inputLength_ : Int32) (at_ : Int32) (signed_ : Int32) (newParts_ : Int32) (machineParts_ : Int32) (firstParts_ : Int32) (firstTruth_ : Int32) (secondTruth_ : Int32) (isPair_ : Int32) (states_ : Int32) (stateClasses_ : Int32) (elements_ : Int32) (cursor_ : Int32) (hasSnapshot_ : Int32) (isSaving_ : Int32) (form_ : Nat → Int32) (x2 : Int32) (n : Nat) (v : (Nat → Int32) × Int32) (x : (Nat → Int32)) (X : Cx p m c cX12_setLetters 4 s args wsX12_setLetters RX12 A D cy (RO_X12_setLetters cy o d)) (h : loopN (fun v => b_X12_setLetters_23 v.1 v.2) n v = some x) (K : ∀ (H : Heap) (locs : List Loc) (ls : Array Slot), St A D s (RW_X12_setLetters cy o d letters_ tests_ inputLength_ at_ signed_ newParts_ machineParts_ firstParts_ firstTruth_ secondTruth_ isPair_ states_ stateClasses_ elements_ cursor_ hasSnapshot_ isSaving_ x form_) H locs → lv_has ls 4 [(0, .ref o), (2, .int x2)] → W p l e rm_X12_setLetters s m args below meth c H locs 0 0 Q (F0 m 41 ls [])) : ∀ (H : Heap) (locs : List Loc) (ls : Array Slot), St A D s (RW_X12_setLetters cy o d letters_ tests_ inputLength_ at_ signed_ newParts_ machineParts_ firstParts_ firstTruth_ secondTruth_ isPair_ states_ stateClasses_ elements_ cursor_ hasSnapshot_ isSaving_ v.1 form_) H locs → lv_has ls 4 [(0, .ref o), (2, .int x2), (3, .int v.2)] → W p l e rm_X12_setLetters s m args below meth c H locs 0 0 Q (F0 m 23 ls []) :=
  loop_gen (B := (fun v => b_X12_setLetters_23 v.1 v.2)) (Head := fun v : (Nat → Int32) × Int32 => ∀ (H : Heap) (locs : List Loc) (ls : Array Slot), St A D s (RW_X12_setLetters cy o d letters_ tests_ inputLength_ at_ signed_ newParts_ machineParts_ firstParts_ firstTruth_ secondTruth_ isPair_ states_ stateClasses_ elements_ cursor_ hasSnapshot_ isSaving_ v.1 form_) H locs → lv_has ls 4 [(0, .ref o), (2, .int x2), (3, .int v.2)] → W p l e rm_X12_setLetters s m args below meth c H locs 0 0 Q (F0 m 23 ls [])) (Exit := fun v : (Nat → Int32) => ∀ (H : Heap) (locs : List Loc) (ls : Array Slot), St A D s (RW_X12_setLetters cy o d letters_ tests_ inputLength_ at_ signed_ newParts_ machineParts_ firstParts_ firstTruth_ secondTruth_ isPair_ states_ stateClasses_ elements_ cursor_ hasSnapshot_ isSaving_ v form_) H locs → lv_has ls 4 [(0, .ref o), (2, .int x2)] → W p l e rm_X12_setLetters s m args below meth c H locs 0 0 Q (F0 m 41 ls [])) (fun v o hb1 K1 => wb_X12_setLetters_23 o d letters_ tests_ inputLength_ at_ signed_ newParts_ machineParts_ firstParts_ firstTruth_ secondTruth_ isPair_ states_ stateClasses_ elements_ cursor_ hasSnapshot_ isSaving_ form_ x2 v.1 v.2 o X hb1 K1) n v x h K
def f_X12_setLetters (x1 : Int32) (letters_ : Int32) (tests_ : Int32) (wordLength_ : Nat → Int32) (form_ : Nat → Int32) : Option (Int32 × Int32 × Int32 × (Nat → Int32) × (Nat → Int32)) :=
  (f_X12_isBetween x1 (1 : Int32) (3 : Int32)).bind (fun u7 =>
  if u7 = 0 then
  (some ((-1 : Int32), letters_, tests_, wordLength_, form_))
  else
  ((loopN (fun v => b_X12_setLetters_23 v.1 v.2) FU (wordLength_, (0 : Int32))).bind (fun u9 =>
  (loopN (fun v => b_X12_setLetters_43 v.1 v.2) FU (form_, (0 : Int32))).bind (fun u11 =>
  some (letters_, x1, (0 : Int32), u9, u11)))))
set_option maxHeartbeats 4000000 in
set_option maxRecDepth 100000 in
theorem wt_X12_setLetters {p : Program} {l : Launch} {e : Env} {s : State} {m : MethodId} {args : Array Value} {below : List Frame} {meth : Method} {c : Code} {A : Nat → Prop} {Q : State → Prop} {D : va_G} {cy : Nat → ClassId} (o : Nat) (d : Nat → Nat)  (letters_ : Int32) (tests_ : Int32) (inputLength_ : Int32) (at_ : Int32) (signed_ : Int32) (newParts_ : Int32) (machineParts_ : Int32) (firstParts_ : Int32) (firstTruth_ : Int32) (secondTruth_ : Int32) (isPair_ : Int32) (states_ : Int32) (stateClasses_ : Int32) (elements_ : Int32) (cursor_ : Int32) (hasSnapshot_ : Int32) (isSaving_ : Int32) (wordLength_ : Nat → Int32) (form_ : Nat → Int32) (x1 : Int32) (out : Int32 × Int32 × Int32 × (Nat → Int32) × (Nat → Int32)) (X : Cx p m c cX12_setLetters 4 s args wsX12_setLetters RX12 A D cy (RO_X12_setLetters cy o d)) (h : f_X12_setLetters x1 letters_ tests_ wordLength_ form_ = some out) (K : ∀ (H : Heap) (locs : List Loc) (ls : Array Slot) (pc : Nat), decode cX12_setLetters pc = .ok (.ireturn, 1) → St A D s (RW_X12_setLetters cy o d out.2.1 out.2.2.1 inputLength_ at_ signed_ newParts_ machineParts_ firstParts_ firstTruth_ secondTruth_ isPair_ states_ stateClasses_ elements_ cursor_ hasSnapshot_ isSaving_ out.2.2.2.1 out.2.2.2.2) H locs → W p l e rm_X12_setLetters s m args below meth c H locs 0 0 Q (F0 m pc ls [.int out.1])) : ∀ (H : Heap) (locs : List Loc) (ls : Array Slot), St A D s (RW_X12_setLetters cy o d letters_ tests_ inputLength_ at_ signed_ newParts_ machineParts_ firstParts_ firstTruth_ secondTruth_ isPair_ states_ stateClasses_ elements_ cursor_ hasSnapshot_ isSaving_ wordLength_ form_) H locs → lv_has ls 4 [(0, .ref o), (1, .int x1)] → W p l e rm_X12_setLetters s m args below meth c H locs 0 0 Q (F0 m 0 ls []) := by
  intro H locs ls Z hl
  have hx := X.1.1
  have hb := X.1.2.1
  unfold f_X12_setLetters at h
  refine lv_iload_n hx hb dX12_setLetters_0 rfl (lv_at hl 1 rfl) ?_
  refine lv_iconst (v := (1 : Int32)) hx hb dX12_setLetters_1 (by decide) ?_
  refine lv_iconst (v := (3 : Int32)) hx hb dX12_setLetters_2 (by decide) ?_
  obtain ⟨u7, hc8, h⟩ := ob_some h
  refine x_runSi (RW' := (RW_X12_setLetters cy o d letters_ tests_ inputLength_ at_ signed_ newParts_ machineParts_ firstParts_ firstTruth_ secondTruth_ isPair_ states_ stateClasses_ elements_ cursor_ hasSnapshot_ isSaving_ wordLength_ form_)) (wr := [(o, ob 11 (oX12 d letters_ tests_ inputLength_ at_ signed_ newParts_ machineParts_ firstParts_ firstTruth_ secondTruth_ isPair_ states_ stateClasses_ elements_ cursor_ hasSnapshot_ isSaving_)), ((d 1), aI cy 3 wordLength_), ((d 16), aI cy 4 form_)]) (isC := []) (isR := [0, 1, 2]) (isO := []) (isF := [0, 1, 2]) (rest := []) (As := [.int x1, .int (1 : Int32), .int (3 : Int32)]) (n := 3) X Z (c_X12_isBetween l D cy x1 (1 : Int32) (3 : Int32) u7 hc8) gX12_setLetters_X12_isBetween rfl (by decide +kernel) ⟨Nat.le_of_ble_eq_true rfl, Nat.le_of_ble_eq_true rfl⟩ ⟨rfl, rfl⟩ ⟨Nat.le_of_ble_eq_true rfl, Nat.le_of_ble_eq_true rfl⟩ ⟨rfl, rfl, rfl, rfl, rfl, by decide⟩ ⟨rfl, rfl⟩ rfl hl.1 rfl (Nat.le_of_ble_eq_true rfl) dX12_setLetters_3 (fun H locs Z => ?_)
  refine lv_if_ne (tgt := 11) hx hb dX12_setLetters_6 (by decide) (fun cnd => ?_) (fun cnd => ?_)
  · replace h := ifn h cnd
    refine lv_aload_n hx hb dX12_setLetters_11 rfl (lv_at hl 0 rfl) ?_
    refine x_get X Z 0 0 (v := .int letters_) rfl rfl lk_X12_setLetters_X12_letters dX12_setLetters_12 ?_
    refine lv_istore_n (lv' := [(2, .int letters_), (0, .ref o), (1, .int x1)]) hx hb dX12_setLetters_15 rfl hl (by decide) rfl (fun ls hl => ?_)
    refine lv_aload_n hx hb dX12_setLetters_16 rfl (lv_at hl 1 rfl) ?_
    refine lv_iload_n hx hb dX12_setLetters_17 rfl (lv_at hl 2 rfl) ?_
    refine x_put X Z 0 0 (RW_X12_setLetters cy o d x1 tests_ inputLength_ at_ signed_ newParts_ machineParts_ firstParts_ firstTruth_ secondTruth_ isPair_ states_ stateClasses_ elements_ cursor_ hasSnapshot_ isSaving_ wordLength_ form_) rfl lp_X12_setLetters_X12_letters (Nat.le_of_ble_eq_true rfl) rfl dX12_setLetters_18 (fun H locs Z => ?_)
    refine lv_iconst (v := (0 : Int32)) hx hb dX12_setLetters_21 (by decide) ?_
    refine lv_istore_n (lv' := [(3, .int (0 : Int32)), (2, .int letters_), (0, .ref o), (1, .int x1)]) hx hb dX12_setLetters_22 rfl hl (by decide) rfl (fun ls hl => ?_)
    obtain ⟨u9, hL10, h⟩ := ob_some h
    refine wl_X12_setLetters_23 o d x1 tests_ inputLength_ at_ signed_ newParts_ machineParts_ firstParts_ firstTruth_ secondTruth_ isPair_ states_ stateClasses_ elements_ cursor_ hasSnapshot_ isSaving_ form_ letters_ FU (wordLength_, (0 : Int32)) u9 X hL10 (fun H locs ls Z hl => ?_) H locs ls Z (lv_sub hl [2, 1, 0] rfl)
    refine lv_iconst (v := (0 : Int32)) hx hb dX12_setLetters_41 (by decide) ?_
    refine lv_istore_n (lv' := [(3, .int (0 : Int32)), (0, .ref o), (2, .int letters_)]) hx hb dX12_setLetters_42 rfl hl (by decide) rfl (fun ls hl => ?_)
    obtain ⟨u11, hL12, h⟩ := ob_some h
    refine wl_X12_setLetters_43 o d x1 tests_ inputLength_ at_ signed_ newParts_ machineParts_ firstParts_ firstTruth_ secondTruth_ isPair_ states_ stateClasses_ elements_ cursor_ hasSnapshot_ isSaving_ u9 letters_ FU (form_, (0 : Int32)) u11 X hL12 (fun H locs ls Z hl => ?_) H locs ls Z (lv_sub hl [1, 2, 0] rfl)
    refine lv_aload_n hx hb dX12_setLetters_61 rfl (lv_at hl 0 rfl) ?_
    refine lv_iconst (v := (0 : Int32)) hx hb dX12_setLetters_62 (by decide) ?_
    refine x_put X Z 0 10 (RW_X12_setLetters cy o d x1 (0 : Int32) inputLength_ at_ signed_ newParts_ machineParts_ firstParts_ firstTruth_ secondTruth_ isPair_ states_ stateClasses_ elements_ cursor_ hasSnapshot_ isSaving_ u9 u11) rfl lp_X12_setLetters_X12_tests (Nat.le_of_ble_eq_true rfl) rfl dX12_setLetters_63 (fun H locs Z => ?_)
    refine lv_iload_n hx hb dX12_setLetters_66 rfl (lv_at hl 1 rfl) ?_
    obtain rfl := Option.some.inj h
    exact K H locs ls _ dX12_setLetters_67 Z
  · replace h := ifp h cnd
    refine lv_iconst (v := (-1 : Int32)) hx hb dX12_setLetters_9 (by decide) ?_
    obtain rfl := Option.some.inj h
    exact K H locs ls _ dX12_setLetters_10 Z
theorem c_X12_setLetters (l : Launch) (D : va_G) (cy : Nat → ClassId) (o : Nat) (d : Nat → Nat)  (letters_ : Int32) (tests_ : Int32) (inputLength_ : Int32) (at_ : Int32) (signed_ : Int32) (newParts_ : Int32) (machineParts_ : Int32) (firstParts_ : Int32) (firstTruth_ : Int32) (secondTruth_ : Int32) (isPair_ : Int32) (states_ : Int32) (stateClasses_ : Int32) (elements_ : Int32) (cursor_ : Int32) (hasSnapshot_ : Int32) (isSaving_ : Int32) (wordLength_ : Nat → Int32) (form_ : Nat → Int32) (x1 : Int32) (out : Int32 × Int32 × Int32 × (Nat → Int32) × (Nat → Int32)) (h : f_X12_setLetters x1 letters_ tests_ wordLength_ form_ = some out) : CtI l yX12_setLetters wsX12_setLetters rm_X12_setLetters D cy [.ref o, .int x1] (RW_X12_setLetters cy o d letters_ tests_ inputLength_ at_ signed_ newParts_ machineParts_ firstParts_ firstTruth_ secondTruth_ isPair_ states_ stateClasses_ elements_ cursor_ hasSnapshot_ isSaving_ wordLength_ form_) (RO_X12_setLetters cy o d) (RW_X12_setLetters cy o d out.2.1 out.2.2.1 inputLength_ at_ signed_ newParts_ machineParts_ firstParts_ firstTruth_ secondTruth_ isPair_ states_ stateClasses_ elements_ cursor_ hasSnapshot_ isSaving_ out.2.2.2.1 out.2.2.2.2) out.1 :=
  mk_i (ty := .int) (by decide) rfl rfl (Nat.le_of_ble_eq_true rfl) (fun p e s m args below meth c A Q X K H locs ls Z hl => wt_X12_setLetters o d letters_ tests_ inputLength_ at_ signed_ newParts_ machineParts_ firstParts_ firstTruth_ secondTruth_ isPair_ states_ stateClasses_ elements_ cursor_ hasSnapshot_ isSaving_ wordLength_ form_ x1 out X h K H locs ls Z hl)
/-! SubwordCounterModel letters ()I -/
abbrev rm_X12_letters : Room := { frames := 0, cells := 0, slots := 0, locals := 0 }
def RW_X12_letters (cy : Nat → ClassId) (o : Nat) (d : Nat → Nat)  : va_W := []
def RO_X12_letters (cy : Nat → ClassId) (o : Nat) (d : Nat → Nat) (letters_ : Int32) (tests_ : Int32) (inputLength_ : Int32) (at_ : Int32) (signed_ : Int32) (newParts_ : Int32) (machineParts_ : Int32) (firstParts_ : Int32) (firstTruth_ : Int32) (secondTruth_ : Int32) (isPair_ : Int32) (states_ : Int32) (stateClasses_ : Int32) (elements_ : Int32) (cursor_ : Int32) (hasSnapshot_ : Int32) (isSaving_ : Int32) : va_W := [(o, ob 11 (oX12 d letters_ tests_ inputLength_ at_ signed_ newParts_ machineParts_ firstParts_ firstTruth_ secondTruth_ isPair_ states_ stateClasses_ elements_ cursor_ hasSnapshot_ isSaving_))]
theorem in_X12_letters_X12 : ∀ w ∈ u_ws RX12 TX12 68, w ∈ wsX12_letters := fun w h => (List.mem_cons_of_mem _ (List.mem_append_right _ h))
theorem lk_X12_letters_X12_letters : Lk wsX12_letters RX12 7 11 0 := ⟨RX12, TX12, 68, rfl, by decide, in_X12_letters_X12, mem_at 1 rfl⟩
def f_X12_letters (letters_ : Int32) : Option (Int32) :=
  some letters_
set_option maxHeartbeats 4000000 in
set_option maxRecDepth 100000 in
theorem wt_X12_letters {p : Program} {l : Launch} {e : Env} {s : State} {m : MethodId} {args : Array Value} {below : List Frame} {meth : Method} {c : Code} {A : Nat → Prop} {Q : State → Prop} {D : va_G} {cy : Nat → ClassId} (o : Nat) (d : Nat → Nat) (letters_ : Int32) (tests_ : Int32) (inputLength_ : Int32) (at_ : Int32) (signed_ : Int32) (newParts_ : Int32) (machineParts_ : Int32) (firstParts_ : Int32) (firstTruth_ : Int32) (secondTruth_ : Int32) (isPair_ : Int32) (states_ : Int32) (stateClasses_ : Int32) (elements_ : Int32) (cursor_ : Int32) (hasSnapshot_ : Int32) (isSaving_ : Int32)  (out : Int32) (X : Cx p m c cX12_letters 1 s args wsX12_letters RX12 A D cy (RO_X12_letters cy o d letters_ tests_ inputLength_ at_ signed_ newParts_ machineParts_ firstParts_ firstTruth_ secondTruth_ isPair_ states_ stateClasses_ elements_ cursor_ hasSnapshot_ isSaving_)) (h : f_X12_letters letters_ = some out) (K : ∀ (H : Heap) (locs : List Loc) (ls : Array Slot) (pc : Nat), decode cX12_letters pc = .ok (.ireturn, 1) → St A D s (RW_X12_letters cy o d) H locs → W p l e rm_X12_letters s m args below meth c H locs 0 0 Q (F0 m pc ls [.int out])) : ∀ (H : Heap) (locs : List Loc) (ls : Array Slot), St A D s (RW_X12_letters cy o d) H locs → lv_has ls 1 [(0, .ref o)] → W p l e rm_X12_letters s m args below meth c H locs 0 0 Q (F0 m 0 ls []) := by
  intro H locs ls Z hl
  have hx := X.1.1
  have hb := X.1.2.1
  unfold f_X12_letters at h
  refine lv_aload_n hx hb dX12_letters_0 rfl (lv_at hl 0 rfl) ?_
  refine x_getO X Z 0 0 (v := .int letters_) rfl rfl lk_X12_letters_X12_letters dX12_letters_1 ?_
  obtain rfl := Option.some.inj h
  exact K H locs ls _ dX12_letters_4 Z
theorem c_X12_letters (l : Launch) (D : va_G) (cy : Nat → ClassId) (o : Nat) (d : Nat → Nat) (letters_ : Int32) (tests_ : Int32) (inputLength_ : Int32) (at_ : Int32) (signed_ : Int32) (newParts_ : Int32) (machineParts_ : Int32) (firstParts_ : Int32) (firstTruth_ : Int32) (secondTruth_ : Int32) (isPair_ : Int32) (states_ : Int32) (stateClasses_ : Int32) (elements_ : Int32) (cursor_ : Int32) (hasSnapshot_ : Int32) (isSaving_ : Int32)  (out : Int32) (h : f_X12_letters letters_ = some out) : CtI l yX12_letters wsX12_letters rm_X12_letters D cy [.ref o] (RW_X12_letters cy o d) (RO_X12_letters cy o d letters_ tests_ inputLength_ at_ signed_ newParts_ machineParts_ firstParts_ firstTruth_ secondTruth_ isPair_ states_ stateClasses_ elements_ cursor_ hasSnapshot_ isSaving_) (RW_X12_letters cy o d) out :=
  mk_i (ty := .int) (by decide) rfl rfl (Nat.le_of_ble_eq_true rfl) (fun p e s m args below meth c A Q X K H locs ls Z hl => wt_X12_letters o d letters_ tests_ inputLength_ at_ signed_ newParts_ machineParts_ firstParts_ firstTruth_ secondTruth_ isPair_ states_ stateClasses_ elements_ cursor_ hasSnapshot_ isSaving_ out X h K H locs ls Z hl)
/-! SubwordCounterModel append (II)I -/
abbrev rm_X12_append : Room := { frames := 2, cells := 0, slots := 0, locals := 42 }
def RW_X12_append (cy : Nat → ClassId) (o : Nat) (d : Nat → Nat) (wordLength_ : Nat → Int32) (word_ : Nat → Int32) : va_W := [((d 1), aI cy 3 wordLength_), ((d 2), aI cy 36 word_)]
def RO_X12_append (cy : Nat → ClassId) (o : Nat) (d : Nat → Nat) (letters_ : Int32) (tests_ : Int32) (inputLength_ : Int32) (at_ : Int32) (signed_ : Int32) (newParts_ : Int32) (machineParts_ : Int32) (firstParts_ : Int32) (firstTruth_ : Int32) (secondTruth_ : Int32) (isPair_ : Int32) (states_ : Int32) (stateClasses_ : Int32) (elements_ : Int32) (cursor_ : Int32) (hasSnapshot_ : Int32) (isSaving_ : Int32) : va_W := [(o, ob 11 (oX12 d letters_ tests_ inputLength_ at_ signed_ newParts_ machineParts_ firstParts_ firstTruth_ secondTruth_ isPair_ states_ stateClasses_ elements_ cursor_ hasSnapshot_ isSaving_))]
theorem in_X12_append_X12 : ∀ w ∈ u_ws RX12 TX12 68, w ∈ wsX12_append := fun w h => (List.mem_cons_of_mem _ (List.mem_append_right _ h))
theorem lk_X12_append_X12_letters : Lk wsX12_append RX12 7 11 0 := ⟨RX12, TX12, 68, rfl, by decide, in_X12_append_X12, mem_at 1 rfl⟩
theorem lk_X12_append_X12_wordLength : Lk wsX12_append RX12 13 11 1 := ⟨RX12, TX12, 68, rfl, by decide, in_X12_append_X12, mem_at 2 rfl⟩
theorem lk_X12_append_X12_word : Lk wsX12_append RX12 17 11 2 := ⟨RX12, TX12, 68, rfl, by decide, in_X12_append_X12, mem_at 3 rfl⟩
def f_X12_append (x1 : Int32) (x2 : Int32) (letters_ : Int32) (wordLength_ : Nat → Int32) (word_ : Nat → Int32) : Option (Int32 × (Nat → Int32) × (Nat → Int32)) :=
  (f_X12_isWord x1).bind (fun u1 =>
  if u1 = 0 then
  (some ((-1 : Int32), wordLength_, word_))
  else
  ((f_X12_isBetween x2 (0 : Int32) (letters_ - (1 : Int32))).bind (fun u3 =>
  if u3 = 0 then
  (some ((-1 : Int32), wordLength_, word_))
  else
  (ldA wordLength_ 3 x1 (fun v6 =>
  if v6 = (12 : Int32) then
  (some ((-3 : Int32), wordLength_, word_))
  else
  (ldA wordLength_ 3 x1 (fun v9 =>
  stA word_ 36 (((12 : Int32) * x1) + v9) x2 (fun word_12 =>
  ldA wordLength_ 3 x1 (fun v15 =>
  stA wordLength_ 3 x1 (v15 + (1 : Int32)) (fun wordLength_18 =>
  ldA wordLength_18 3 x1 (fun v21 =>
  some (v21, wordLength_18, word_12))))))))))))
set_option maxHeartbeats 4000000 in
set_option maxRecDepth 100000 in
theorem wt_X12_append {p : Program} {l : Launch} {e : Env} {s : State} {m : MethodId} {args : Array Value} {below : List Frame} {meth : Method} {c : Code} {A : Nat → Prop} {Q : State → Prop} {D : va_G} {cy : Nat → ClassId} (o : Nat) (d : Nat → Nat) (letters_ : Int32) (tests_ : Int32) (inputLength_ : Int32) (at_ : Int32) (signed_ : Int32) (newParts_ : Int32) (machineParts_ : Int32) (firstParts_ : Int32) (firstTruth_ : Int32) (secondTruth_ : Int32) (isPair_ : Int32) (states_ : Int32) (stateClasses_ : Int32) (elements_ : Int32) (cursor_ : Int32) (hasSnapshot_ : Int32) (isSaving_ : Int32) (wordLength_ : Nat → Int32) (word_ : Nat → Int32) (x1 : Int32) (x2 : Int32) (out : Int32 × (Nat → Int32) × (Nat → Int32)) (X : Cx p m c cX12_append 3 s args wsX12_append RX12 A D cy (RO_X12_append cy o d letters_ tests_ inputLength_ at_ signed_ newParts_ machineParts_ firstParts_ firstTruth_ secondTruth_ isPair_ states_ stateClasses_ elements_ cursor_ hasSnapshot_ isSaving_)) (h : f_X12_append x1 x2 letters_ wordLength_ word_ = some out) (K : ∀ (H : Heap) (locs : List Loc) (ls : Array Slot) (pc : Nat), decode cX12_append pc = .ok (.ireturn, 1) → St A D s (RW_X12_append cy o d out.2.1 out.2.2) H locs → W p l e rm_X12_append s m args below meth c H locs 0 0 Q (F0 m pc ls [.int out.1])) : ∀ (H : Heap) (locs : List Loc) (ls : Array Slot), St A D s (RW_X12_append cy o d wordLength_ word_) H locs → lv_has ls 3 [(0, .ref o), (1, .int x1), (2, .int x2)] → W p l e rm_X12_append s m args below meth c H locs 0 0 Q (F0 m 0 ls []) := by
  intro H locs ls Z hl
  have hx := X.1.1
  have hb := X.1.2.1
  unfold f_X12_append at h
  refine lv_iload_n hx hb dX12_append_0 rfl (lv_at hl 1 rfl) ?_
  obtain ⟨u1, hc2, h⟩ := ob_some h
  refine x_runSi (RW' := (RW_X12_append cy o d wordLength_ word_)) (wr := [((d 1), aI cy 3 wordLength_), ((d 2), aI cy 36 word_)]) (isC := []) (isR := [0, 1]) (isO := []) (isF := [0, 1]) (rest := []) (As := [.int x1]) (n := 1) X Z (c_X12_isWord l D cy x1 u1 hc2) gX12_append_X12_isWord rfl (by decide +kernel) ⟨Nat.le_of_ble_eq_true rfl, Nat.le_of_ble_eq_true rfl⟩ ⟨rfl, rfl⟩ ⟨Nat.le_of_ble_eq_true rfl, Nat.le_of_ble_eq_true rfl⟩ ⟨rfl, rfl, rfl, rfl, rfl, by decide⟩ ⟨rfl, rfl⟩ rfl hl.1 rfl (Nat.le_of_ble_eq_true rfl) dX12_append_1 (fun H locs Z => ?_)
  refine lv_if_eq (tgt := 21) hx hb dX12_append_4 (by decide) (fun cnd => ?_) (fun cnd => ?_)
  · replace h := ifp h cnd
    refine lv_iconst (v := (-1 : Int32)) hx hb dX12_append_21 (by decide) ?_
    obtain rfl := Option.some.inj h
    exact K H locs ls _ dX12_append_22 Z
  · replace h := ifn h cnd
    refine lv_iload_n hx hb dX12_append_7 rfl (lv_at hl 2 rfl) ?_
    refine lv_iconst (v := (0 : Int32)) hx hb dX12_append_8 (by decide) ?_
    refine lv_aload_n hx hb dX12_append_9 rfl (lv_at hl 0 rfl) ?_
    refine x_getO X Z 0 0 (v := .int letters_) rfl rfl lk_X12_append_X12_letters dX12_append_10 ?_
    refine lv_iconst (v := (1 : Int32)) hx hb dX12_append_13 (by decide) ?_
    refine lv_isub hx hb dX12_append_14 ?_
    obtain ⟨u3, hc4, h⟩ := ob_some h
    refine x_runSi (RW' := (RW_X12_append cy o d wordLength_ word_)) (wr := [((d 1), aI cy 3 wordLength_), ((d 2), aI cy 36 word_)]) (isC := []) (isR := [0, 1]) (isO := []) (isF := [0, 1]) (rest := []) (As := [.int x2, .int (0 : Int32), .int (letters_ - (1 : Int32))]) (n := 3) X Z (c_X12_isBetween l D cy x2 (0 : Int32) (letters_ - (1 : Int32)) u3 hc4) gX12_append_X12_isBetween rfl (by decide +kernel) ⟨Nat.le_of_ble_eq_true rfl, Nat.le_of_ble_eq_true rfl⟩ ⟨rfl, rfl⟩ ⟨Nat.le_of_ble_eq_true rfl, Nat.le_of_ble_eq_true rfl⟩ ⟨rfl, rfl, rfl, rfl, rfl, by decide⟩ ⟨rfl, rfl⟩ rfl hl.1 rfl (Nat.le_of_ble_eq_true rfl) dX12_append_15 (fun H locs Z => ?_)
    refine lv_if_ne (tgt := 23) hx hb dX12_append_18 (by decide) (fun cnd => ?_) (fun cnd => ?_)
    · replace h := ifn h cnd
      refine lv_aload_n hx hb dX12_append_23 rfl (lv_at hl 0 rfl) ?_
      refine x_getO X Z 0 1 (v := .ref (d 1)) rfl rfl lk_X12_append_X12_wordLength dX12_append_24 ?_
      refine lv_iload_n hx hb dX12_append_27 rfl (lv_at hl 1 rfl) ?_
      obtain ⟨hin5, v6, hv7, h⟩ := ld_b h
      refine x_iald X Z 0 rfl hin5 hv7 dX12_append_28 ?_
      refine lv_bipush (v := (12 : Int32)) hx hb dX12_append_29 (by decide) ?_
      refine lv_icmp_ne (tgt := 37) hx hb dX12_append_31 (by decide) (fun cnd => ?_) (fun cnd => ?_)
      · replace h := ifn h cnd
        refine lv_aload_n hx hb dX12_append_37 rfl (lv_at hl 0 rfl) ?_
        refine x_getO X Z 0 2 (v := .ref (d 2)) rfl rfl lk_X12_append_X12_word dX12_append_38 ?_
        refine lv_bipush (v := (12 : Int32)) hx hb dX12_append_41 (by decide) ?_
        refine lv_iload_n hx hb dX12_append_43 rfl (lv_at hl 1 rfl) ?_
        refine lv_imul hx hb dX12_append_44 ?_
        refine lv_aload_n hx hb dX12_append_45 rfl (lv_at hl 0 rfl) ?_
        refine x_getO X Z 0 1 (v := .ref (d 1)) rfl rfl lk_X12_append_X12_wordLength dX12_append_46 ?_
        refine lv_iload_n hx hb dX12_append_49 rfl (lv_at hl 1 rfl) ?_
        obtain ⟨hin8, v9, hv10, h⟩ := ld_b h
        refine x_iald X Z 0 rfl hin8 hv10 dX12_append_50 ?_
        refine lv_iadd hx hb dX12_append_51 ?_
        refine lv_iload_n hx hb dX12_append_52 rfl (lv_at hl 2 rfl) ?_
        obtain ⟨hin11, word_12, hv13, h⟩ := st_b h
        refine x_iast X Z 1 (RW_X12_append cy o d wordLength_ word_12) rfl hin11 hv13 rfl dX12_append_53 (fun H locs Z => ?_)
        refine lv_aload_n hx hb dX12_append_54 rfl (lv_at hl 0 rfl) ?_
        refine x_getO X Z 0 1 (v := .ref (d 1)) rfl rfl lk_X12_append_X12_wordLength dX12_append_55 ?_
        refine lv_iload_n hx hb dX12_append_58 rfl (lv_at hl 1 rfl) ?_
        refine lv_dup2_11 hx hb dX12_append_59 rfl rfl ?_
        obtain ⟨hin14, v15, hv16, h⟩ := ld_b h
        refine x_iald X Z 0 rfl hin14 hv16 dX12_append_60 ?_
        refine lv_iconst (v := (1 : Int32)) hx hb dX12_append_61 (by decide) ?_
        refine lv_iadd hx hb dX12_append_62 ?_
        obtain ⟨hin17, wordLength_18, hv19, h⟩ := st_b h
        refine x_iast X Z 0 (RW_X12_append cy o d wordLength_18 word_12) rfl hin17 hv19 rfl dX12_append_63 (fun H locs Z => ?_)
        refine lv_aload_n hx hb dX12_append_64 rfl (lv_at hl 0 rfl) ?_
        refine x_getO X Z 0 1 (v := .ref (d 1)) rfl rfl lk_X12_append_X12_wordLength dX12_append_65 ?_
        refine lv_iload_n hx hb dX12_append_68 rfl (lv_at hl 1 rfl) ?_
        obtain ⟨hin20, v21, hv22, h⟩ := ld_b h
        refine x_iald X Z 0 rfl hin20 hv22 dX12_append_69 ?_
        obtain rfl := Option.some.inj h
        exact K H locs ls _ dX12_append_70 Z
      · replace h := ifp h cnd
        refine lv_bipush (v := (-3 : Int32)) hx hb dX12_append_34 (by decide) ?_
        obtain rfl := Option.some.inj h
        exact K H locs ls _ dX12_append_36 Z
    · replace h := ifp h cnd
      refine lv_iconst (v := (-1 : Int32)) hx hb dX12_append_21 (by decide) ?_
      obtain rfl := Option.some.inj h
      exact K H locs ls _ dX12_append_22 Z
theorem c_X12_append (l : Launch) (D : va_G) (cy : Nat → ClassId) (o : Nat) (d : Nat → Nat) (letters_ : Int32) (tests_ : Int32) (inputLength_ : Int32) (at_ : Int32) (signed_ : Int32) (newParts_ : Int32) (machineParts_ : Int32) (firstParts_ : Int32) (firstTruth_ : Int32) (secondTruth_ : Int32) (isPair_ : Int32) (states_ : Int32) (stateClasses_ : Int32) (elements_ : Int32) (cursor_ : Int32) (hasSnapshot_ : Int32) (isSaving_ : Int32) (wordLength_ : Nat → Int32) (word_ : Nat → Int32) (x1 : Int32) (x2 : Int32) (out : Int32 × (Nat → Int32) × (Nat → Int32)) (h : f_X12_append x1 x2 letters_ wordLength_ word_ = some out) : CtI l yX12_append wsX12_append rm_X12_append D cy [.ref o, .int x1, .int x2] (RW_X12_append cy o d wordLength_ word_) (RO_X12_append cy o d letters_ tests_ inputLength_ at_ signed_ newParts_ machineParts_ firstParts_ firstTruth_ secondTruth_ isPair_ states_ stateClasses_ elements_ cursor_ hasSnapshot_ isSaving_) (RW_X12_append cy o d out.2.1 out.2.2) out.1 :=
  mk_i (ty := .int) (by decide) rfl rfl (Nat.le_of_ble_eq_true rfl) (fun p e s m args below meth c A Q X K H locs ls Z hl => wt_X12_append o d letters_ tests_ inputLength_ at_ signed_ newParts_ machineParts_ firstParts_ firstTruth_ secondTruth_ isPair_ states_ stateClasses_ elements_ cursor_ hasSnapshot_ isSaving_ wordLength_ word_ x1 x2 out X h K H locs ls Z hl)
/-! SubwordCounterModel clearWord (I)I -/
abbrev rm_X12_clearWord : Room := { frames := 2, cells := 0, slots := 0, locals := 42 }
def RW_X12_clearWord (cy : Nat → ClassId) (o : Nat) (d : Nat → Nat) (wordLength_ : Nat → Int32) : va_W := [((d 1), aI cy 3 wordLength_)]
def RO_X12_clearWord (cy : Nat → ClassId) (o : Nat) (d : Nat → Nat) (letters_ : Int32) (tests_ : Int32) (inputLength_ : Int32) (at_ : Int32) (signed_ : Int32) (newParts_ : Int32) (machineParts_ : Int32) (firstParts_ : Int32) (firstTruth_ : Int32) (secondTruth_ : Int32) (isPair_ : Int32) (states_ : Int32) (stateClasses_ : Int32) (elements_ : Int32) (cursor_ : Int32) (hasSnapshot_ : Int32) (isSaving_ : Int32) : va_W := [(o, ob 11 (oX12 d letters_ tests_ inputLength_ at_ signed_ newParts_ machineParts_ firstParts_ firstTruth_ secondTruth_ isPair_ states_ stateClasses_ elements_ cursor_ hasSnapshot_ isSaving_))]
theorem in_X12_clearWord_X12 : ∀ w ∈ u_ws RX12 TX12 68, w ∈ wsX12_clearWord := fun w h => (List.mem_cons_of_mem _ (List.mem_append_right _ h))
theorem lk_X12_clearWord_X12_wordLength : Lk wsX12_clearWord RX12 13 11 1 := ⟨RX12, TX12, 68, rfl, by decide, in_X12_clearWord_X12, mem_at 1 rfl⟩
def f_X12_clearWord (x1 : Int32) (wordLength_ : Nat → Int32) : Option (Int32 × (Nat → Int32)) :=
  (f_X12_isWord x1).bind (fun u1 =>
  if u1 = 0 then
  (some ((-1 : Int32), wordLength_))
  else
  (ldA wordLength_ 3 x1 (fun v4 =>
  stA wordLength_ 3 x1 (0 : Int32) (fun wordLength_7 =>
  some (v4, wordLength_7)))))
set_option maxHeartbeats 4000000 in
set_option maxRecDepth 100000 in
theorem wt_X12_clearWord {p : Program} {l : Launch} {e : Env} {s : State} {m : MethodId} {args : Array Value} {below : List Frame} {meth : Method} {c : Code} {A : Nat → Prop} {Q : State → Prop} {D : va_G} {cy : Nat → ClassId} (o : Nat) (d : Nat → Nat) (letters_ : Int32) (tests_ : Int32) (inputLength_ : Int32) (at_ : Int32) (signed_ : Int32) (newParts_ : Int32) (machineParts_ : Int32) (firstParts_ : Int32) (firstTruth_ : Int32) (secondTruth_ : Int32) (isPair_ : Int32) (states_ : Int32) (stateClasses_ : Int32) (elements_ : Int32) (cursor_ : Int32) (hasSnapshot_ : Int32) (isSaving_ : Int32) (wordLength_ : Nat → Int32) (x1 : Int32) (out : Int32 × (Nat → Int32)) (X : Cx p m c cX12_clearWord 3 s args wsX12_clearWord RX12 A D cy (RO_X12_clearWord cy o d letters_ tests_ inputLength_ at_ signed_ newParts_ machineParts_ firstParts_ firstTruth_ secondTruth_ isPair_ states_ stateClasses_ elements_ cursor_ hasSnapshot_ isSaving_)) (h : f_X12_clearWord x1 wordLength_ = some out) (K : ∀ (H : Heap) (locs : List Loc) (ls : Array Slot) (pc : Nat), decode cX12_clearWord pc = .ok (.ireturn, 1) → St A D s (RW_X12_clearWord cy o d out.2) H locs → W p l e rm_X12_clearWord s m args below meth c H locs 0 0 Q (F0 m pc ls [.int out.1])) : ∀ (H : Heap) (locs : List Loc) (ls : Array Slot), St A D s (RW_X12_clearWord cy o d wordLength_) H locs → lv_has ls 3 [(0, .ref o), (1, .int x1)] → W p l e rm_X12_clearWord s m args below meth c H locs 0 0 Q (F0 m 0 ls []) := by
  intro H locs ls Z hl
  have hx := X.1.1
  have hb := X.1.2.1
  unfold f_X12_clearWord at h
  refine lv_iload_n hx hb dX12_clearWord_0 rfl (lv_at hl 1 rfl) ?_
  obtain ⟨u1, hc2, h⟩ := ob_some h
  refine x_runSi (RW' := (RW_X12_clearWord cy o d wordLength_)) (wr := [((d 1), aI cy 3 wordLength_)]) (isC := []) (isR := [0]) (isO := []) (isF := [0]) (rest := []) (As := [.int x1]) (n := 1) X Z (c_X12_isWord l D cy x1 u1 hc2) gX12_clearWord_X12_isWord rfl (by decide +kernel) ⟨Nat.le_of_ble_eq_true rfl, Nat.le_of_ble_eq_true rfl⟩ ⟨rfl, rfl⟩ ⟨Nat.le_of_ble_eq_true rfl, Nat.le_of_ble_eq_true rfl⟩ ⟨rfl, rfl, rfl, rfl, rfl, by decide⟩ ⟨rfl, rfl⟩ rfl hl.1 rfl (Nat.le_of_ble_eq_true rfl) dX12_clearWord_1 (fun H locs Z => ?_)
  refine lv_if_ne (tgt := 9) hx hb dX12_clearWord_4 (by decide) (fun cnd => ?_) (fun cnd => ?_)
  · replace h := ifn h cnd
    refine lv_aload_n hx hb dX12_clearWord_9 rfl (lv_at hl 0 rfl) ?_
    refine x_getO X Z 0 1 (v := .ref (d 1)) rfl rfl lk_X12_clearWord_X12_wordLength dX12_clearWord_10 ?_
    refine lv_iload_n hx hb dX12_clearWord_13 rfl (lv_at hl 1 rfl) ?_
    obtain ⟨hin3, v4, hv5, h⟩ := ld_b h
    refine x_iald X Z 0 rfl hin3 hv5 dX12_clearWord_14 ?_
    refine lv_istore_n (lv' := [(2, .int v4), (0, .ref o), (1, .int x1)]) hx hb dX12_clearWord_15 rfl hl (by decide) rfl (fun ls hl => ?_)
    refine lv_aload_n hx hb dX12_clearWord_16 rfl (lv_at hl 1 rfl) ?_
    refine x_getO X Z 0 1 (v := .ref (d 1)) rfl rfl lk_X12_clearWord_X12_wordLength dX12_clearWord_17 ?_
    refine lv_iload_n hx hb dX12_clearWord_20 rfl (lv_at hl 2 rfl) ?_
    refine lv_iconst (v := (0 : Int32)) hx hb dX12_clearWord_21 (by decide) ?_
    obtain ⟨hin6, wordLength_7, hv8, h⟩ := st_b h
    refine x_iast X Z 0 (RW_X12_clearWord cy o d wordLength_7) rfl hin6 hv8 rfl dX12_clearWord_22 (fun H locs Z => ?_)
    refine lv_iload_n hx hb dX12_clearWord_23 rfl (lv_at hl 0 rfl) ?_
    obtain rfl := Option.some.inj h
    exact K H locs ls _ dX12_clearWord_24 Z
  · replace h := ifp h cnd
    refine lv_iconst (v := (-1 : Int32)) hx hb dX12_clearWord_7 (by decide) ?_
    obtain rfl := Option.some.inj h
    exact K H locs ls _ dX12_clearWord_8 Z
theorem c_X12_clearWord (l : Launch) (D : va_G) (cy : Nat → ClassId) (o : Nat) (d : Nat → Nat) (letters_ : Int32) (tests_ : Int32) (inputLength_ : Int32) (at_ : Int32) (signed_ : Int32) (newParts_ : Int32) (machineParts_ : Int32) (firstParts_ : Int32) (firstTruth_ : Int32) (secondTruth_ : Int32) (isPair_ : Int32) (states_ : Int32) (stateClasses_ : Int32) (elements_ : Int32) (cursor_ : Int32) (hasSnapshot_ : Int32) (isSaving_ : Int32) (wordLength_ : Nat → Int32) (x1 : Int32) (out : Int32 × (Nat → Int32)) (h : f_X12_clearWord x1 wordLength_ = some out) : CtI l yX12_clearWord wsX12_clearWord rm_X12_clearWord D cy [.ref o, .int x1] (RW_X12_clearWord cy o d wordLength_) (RO_X12_clearWord cy o d letters_ tests_ inputLength_ at_ signed_ newParts_ machineParts_ firstParts_ firstTruth_ secondTruth_ isPair_ states_ stateClasses_ elements_ cursor_ hasSnapshot_ isSaving_) (RW_X12_clearWord cy o d out.2) out.1 :=
  mk_i (ty := .int) (by decide) rfl rfl (Nat.le_of_ble_eq_true rfl) (fun p e s m args below meth c A Q X K H locs ls Z hl => wt_X12_clearWord o d letters_ tests_ inputLength_ at_ signed_ newParts_ machineParts_ firstParts_ firstTruth_ secondTruth_ isPair_ states_ stateClasses_ elements_ cursor_ hasSnapshot_ isSaving_ wordLength_ x1 out X h K H locs ls Z hl)
/-! SubwordCounterModel length (I)I -/
abbrev rm_X12_length : Room := { frames := 2, cells := 0, slots := 0, locals := 42 }
def RW_X12_length (cy : Nat → ClassId) (o : Nat) (d : Nat → Nat)  : va_W := []
def RO_X12_length (cy : Nat → ClassId) (o : Nat) (d : Nat → Nat) (letters_ : Int32) (tests_ : Int32) (inputLength_ : Int32) (at_ : Int32) (signed_ : Int32) (newParts_ : Int32) (machineParts_ : Int32) (firstParts_ : Int32) (firstTruth_ : Int32) (secondTruth_ : Int32) (isPair_ : Int32) (states_ : Int32) (stateClasses_ : Int32) (elements_ : Int32) (cursor_ : Int32) (hasSnapshot_ : Int32) (isSaving_ : Int32) (wordLength_ : Nat → Int32) : va_W := [(o, ob 11 (oX12 d letters_ tests_ inputLength_ at_ signed_ newParts_ machineParts_ firstParts_ firstTruth_ secondTruth_ isPair_ states_ stateClasses_ elements_ cursor_ hasSnapshot_ isSaving_)), ((d 1), aI cy 3 wordLength_)]
theorem in_X12_length_X12 : ∀ w ∈ u_ws RX12 TX12 68, w ∈ wsX12_length := fun w h => (List.mem_cons_of_mem _ (List.mem_append_right _ h))
theorem lk_X12_length_X12_wordLength : Lk wsX12_length RX12 13 11 1 := ⟨RX12, TX12, 68, rfl, by decide, in_X12_length_X12, mem_at 1 rfl⟩
def f_X12_length (x1 : Int32) (wordLength_ : Nat → Int32) : Option (Int32) :=
  (f_X12_isWord x1).bind (fun u1 =>
  if u1 = 0 then
  (some (-1 : Int32))
  else
  (ldA wordLength_ 3 x1 (fun v4 =>
  some v4)))
set_option maxHeartbeats 4000000 in
set_option maxRecDepth 100000 in
theorem wt_X12_length {p : Program} {l : Launch} {e : Env} {s : State} {m : MethodId} {args : Array Value} {below : List Frame} {meth : Method} {c : Code} {A : Nat → Prop} {Q : State → Prop} {D : va_G} {cy : Nat → ClassId} (o : Nat) (d : Nat → Nat) (letters_ : Int32) (tests_ : Int32) (inputLength_ : Int32) (at_ : Int32) (signed_ : Int32) (newParts_ : Int32) (machineParts_ : Int32) (firstParts_ : Int32) (firstTruth_ : Int32) (secondTruth_ : Int32) (isPair_ : Int32) (states_ : Int32) (stateClasses_ : Int32) (elements_ : Int32) (cursor_ : Int32) (hasSnapshot_ : Int32) (isSaving_ : Int32) (wordLength_ : Nat → Int32)  (x1 : Int32) (out : Int32) (X : Cx p m c cX12_length 2 s args wsX12_length RX12 A D cy (RO_X12_length cy o d letters_ tests_ inputLength_ at_ signed_ newParts_ machineParts_ firstParts_ firstTruth_ secondTruth_ isPair_ states_ stateClasses_ elements_ cursor_ hasSnapshot_ isSaving_ wordLength_)) (h : f_X12_length x1 wordLength_ = some out) (K : ∀ (H : Heap) (locs : List Loc) (ls : Array Slot) (pc : Nat), decode cX12_length pc = .ok (.ireturn, 1) → St A D s (RW_X12_length cy o d) H locs → W p l e rm_X12_length s m args below meth c H locs 0 0 Q (F0 m pc ls [.int out])) : ∀ (H : Heap) (locs : List Loc) (ls : Array Slot), St A D s (RW_X12_length cy o d) H locs → lv_has ls 2 [(0, .ref o), (1, .int x1)] → W p l e rm_X12_length s m args below meth c H locs 0 0 Q (F0 m 0 ls []) := by
  intro H locs ls Z hl
  have hx := X.1.1
  have hb := X.1.2.1
  unfold f_X12_length at h
  refine lv_iload_n hx hb dX12_length_0 rfl (lv_at hl 1 rfl) ?_
  obtain ⟨u1, hc2, h⟩ := ob_some h
  refine x_runSi (RW' := (RW_X12_length cy o d)) (wr := []) (isC := []) (isR := []) (isO := []) (isF := []) (rest := []) (As := [.int x1]) (n := 1) X Z (c_X12_isWord l D cy x1 u1 hc2) gX12_length_X12_isWord rfl (by decide +kernel) ⟨Nat.le_of_ble_eq_true rfl, Nat.le_of_ble_eq_true rfl⟩ ⟨rfl, rfl⟩ ⟨Nat.le_of_ble_eq_true rfl, Nat.le_of_ble_eq_true rfl⟩ ⟨rfl, rfl, rfl, rfl, rfl, by decide⟩ ⟨rfl, rfl⟩ rfl hl.1 rfl (Nat.le_of_ble_eq_true rfl) dX12_length_1 (fun H locs Z => ?_)
  refine lv_if_eq (tgt := 16) hx hb dX12_length_4 (by decide) (fun cnd => ?_) (fun cnd => ?_)
  · replace h := ifp h cnd
    refine lv_iconst (v := (-1 : Int32)) hx hb dX12_length_16 (by decide) ?_
    obtain rfl := Option.some.inj h
    exact K H locs ls _ dX12_length_17 Z
  · replace h := ifn h cnd
    refine lv_aload_n hx hb dX12_length_7 rfl (lv_at hl 0 rfl) ?_
    refine x_getO X Z 0 1 (v := .ref (d 1)) rfl rfl lk_X12_length_X12_wordLength dX12_length_8 ?_
    refine lv_iload_n hx hb dX12_length_11 rfl (lv_at hl 1 rfl) ?_
    obtain ⟨hin3, v4, hv5, h⟩ := ld_b h
    refine x_ialdO X Z 1 rfl hin3 hv5 dX12_length_12 ?_
    refine lv_goto (tgt := 17) hx hb dX12_length_13 (by decide) ?_
    obtain rfl := Option.some.inj h
    exact K H locs ls _ dX12_length_17 Z
theorem c_X12_length (l : Launch) (D : va_G) (cy : Nat → ClassId) (o : Nat) (d : Nat → Nat) (letters_ : Int32) (tests_ : Int32) (inputLength_ : Int32) (at_ : Int32) (signed_ : Int32) (newParts_ : Int32) (machineParts_ : Int32) (firstParts_ : Int32) (firstTruth_ : Int32) (secondTruth_ : Int32) (isPair_ : Int32) (states_ : Int32) (stateClasses_ : Int32) (elements_ : Int32) (cursor_ : Int32) (hasSnapshot_ : Int32) (isSaving_ : Int32) (wordLength_ : Nat → Int32)  (x1 : Int32) (out : Int32) (h : f_X12_length x1 wordLength_ = some out) : CtI l yX12_length wsX12_length rm_X12_length D cy [.ref o, .int x1] (RW_X12_length cy o d) (RO_X12_length cy o d letters_ tests_ inputLength_ at_ signed_ newParts_ machineParts_ firstParts_ firstTruth_ secondTruth_ isPair_ states_ stateClasses_ elements_ cursor_ hasSnapshot_ isSaving_ wordLength_) (RW_X12_length cy o d) out :=
  mk_i (ty := .int) (by decide) rfl rfl (Nat.le_of_ble_eq_true rfl) (fun p e s m args below meth c A Q X K H locs ls Z hl => wt_X12_length o d letters_ tests_ inputLength_ at_ signed_ newParts_ machineParts_ firstParts_ firstTruth_ secondTruth_ isPair_ states_ stateClasses_ elements_ cursor_ hasSnapshot_ isSaving_ wordLength_ x1 out X h K H locs ls Z hl)
