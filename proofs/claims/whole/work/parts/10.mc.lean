set_option linter.unusedVariables false
/-! SubwordCounterModel findCollision ()I -/
abbrev rm_X12_findCollision : Room := { frames := 5, cells := 0, slots := 0, locals := 121 }
def RW_X12_findCollision (cy : Nat → ClassId) (o : Nat) (d : Nat → Nat) (letters_ : Int32) (tests_ : Int32) (inputLength_ : Int32) (at_ : Int32) (signed_ : Int32) (newParts_ : Int32) (machineParts_ : Int32) (firstParts_ : Int32) (firstTruth_ : Int32) (secondTruth_ : Int32) (isPair_ : Int32) (states_ : Int32) (stateClasses_ : Int32) (elements_ : Int32) (cursor_ : Int32) (hasSnapshot_ : Int32) (isSaving_ : Int32) (wordLength_ : Nat → Int32) (word_ : Nat → Int32) (prefixes_ : Nat → Int32) (signatures_ : Nat → Int32) (held_ : Nat → Int32) : va_W := [(o, ob 11 (oX12 d letters_ tests_ inputLength_ at_ signed_ newParts_ machineParts_ firstParts_ firstTruth_ secondTruth_ isPair_ states_ stateClasses_ elements_ cursor_ hasSnapshot_ isSaving_)), ((d 1), aI cy 3 wordLength_), ((d 2), aI cy 36 word_), ((d 3), aI cy 13 prefixes_), ((d 13), aI cy 2187 signatures_), ((d 14), aI cy 12 held_)]
def RO_X12_findCollision (cy : Nat → ClassId) (o : Nat) (d : Nat → Nat) (kind_ : Nat → Int32) (bound_ : Nat → Int32) (patternLength_ : Nat → Int32) (pattern_ : Nat → Int32) : va_W := [((d 5), aI cy 6 kind_), ((d 6), aI cy 6 bound_), ((d 7), aI cy 6 patternLength_), ((d 8), aI cy 24 pattern_)]
theorem in_X12_findCollision_X12 : ∀ w ∈ u_ws RX12 TX12 68, w ∈ wsX12_findCollision := fun w h => (List.mem_cons_of_mem _ (List.mem_append_right _ h))
theorem lk_X12_findCollision_X12_signed : Lk wsX12_findCollision RX12 216 11 15 := ⟨RX12, TX12, 68, rfl, by decide, in_X12_findCollision_X12, mem_at 1 rfl⟩
theorem lk_X12_findCollision_X12_signatures : Lk wsX12_findCollision RX12 41 11 13 := ⟨RX12, TX12, 68, rfl, by decide, in_X12_findCollision_X12, mem_at 2 rfl⟩
def b_X12_findCollision_27 (signed_ : Int32) (signatures_ : Nat → Int32) (x2 : Int32)  (x3 : Int32) : Option ((Int32) ⊕ ((Int32) ⊕ (Unit))) :=
  if signed_ ≤ x3 then
  (some (.inr (.inr ())))
  else
  (ldA signatures_ 2187 x2 (fun v2 =>
  ldA signatures_ 2187 x3 (fun v5 =>
  if v2 = v5 then
  (some (.inr (.inl x3)))
  else
  (some (.inl (x3 + (1 : Int32)))))))
set_option maxHeartbeats 4000000 in
set_option maxRecDepth 100000 in
theorem wb_X12_findCollision_27 {p : Program} {l : Launch} {e : Env} {s : State} {m : MethodId} {args : Array Value} {below : List Frame} {meth : Method} {c : Code} {A : Nat → Prop} {Q : State → Prop} {D : va_G} {cy : Nat → ClassId} (o : Nat) (d : Nat → Nat) (kind_ : Nat → Int32) (bound_ : Nat → Int32) (patternLength_ : Nat → Int32) (pattern_ : Nat → Int32) (letters_ : Int32) (tests_ : Int32) (inputLength_ : Int32) (at_ : Int32) (signed_ : Int32) (newParts_ : Int32) (machineParts_ : Int32) (firstParts_ : Int32) (firstTruth_ : Int32) (secondTruth_ : Int32) (isPair_ : Int32) (states_ : Int32) (stateClasses_ : Int32) (elements_ : Int32) (cursor_ : Int32) (hasSnapshot_ : Int32) (isSaving_ : Int32) (wordLength_ : Nat → Int32) (word_ : Nat → Int32) (prefixes_ : Nat → Int32) (signatures_ : Nat → Int32) (held_ : Nat → Int32) (x1 : Int32) (x2 : Int32)  (x3 : Int32) (o1 : (Int32) ⊕ ((Int32) ⊕ (Unit))) (X : Cx p m c cX12_findCollision 4 s args wsX12_findCollision RX12 A D cy (RO_X12_findCollision cy o d kind_ bound_ patternLength_ pattern_)) (h : b_X12_findCollision_27 signed_ signatures_ x2 x3 = some o1) (K : Sum.elim (fun v : Int32 => ∀ (H : Heap) (locs : List Loc) (ls : Array Slot), St A D s (RW_X12_findCollision cy o d letters_ tests_ inputLength_ at_ signed_ newParts_ machineParts_ firstParts_ firstTruth_ secondTruth_ isPair_ states_ stateClasses_ elements_ cursor_ hasSnapshot_ isSaving_ wordLength_ word_ prefixes_ signatures_ held_) H locs → lv_has ls 4 [(0, .ref o), (1, .int x1), (2, .int x2), (3, .int v)] → W p l e rm_X12_findCollision s m args below meth c H locs 0 0 Q (F0 m 27 ls [])) (fun v : (Int32) ⊕ (Unit) => Sum.elim (fun w : Int32 => ∀ (H : Heap) (locs : List Loc) (ls : Array Slot), St A D s (RW_X12_findCollision cy o d letters_ tests_ inputLength_ at_ signed_ newParts_ machineParts_ firstParts_ firstTruth_ secondTruth_ isPair_ states_ stateClasses_ elements_ cursor_ hasSnapshot_ isSaving_ wordLength_ word_ prefixes_ signatures_ held_) H locs → lv_has ls 4 [(0, .ref o), (1, .int x1), (2, .int x2), (3, .int w)] → W p l e rm_X12_findCollision s m args below meth c H locs 0 0 Q (F0 m 53 ls [])) (fun w => ∀ (H : Heap) (locs : List Loc) (ls : Array Slot), St A D s (RW_X12_findCollision cy o d letters_ tests_ inputLength_ at_ signed_ newParts_ machineParts_ firstParts_ firstTruth_ secondTruth_ isPair_ states_ stateClasses_ elements_ cursor_ hasSnapshot_ isSaving_ wordLength_ word_ prefixes_ signatures_ held_) H locs → lv_has ls 4 [(0, .ref o), (1, .int x1), (2, .int x2)] → W p l e rm_X12_findCollision s m args below meth c H locs 0 0 Q (F0 m 75 ls [])) v) o1) : ∀ (H : Heap) (locs : List Loc) (ls : Array Slot), St A D s (RW_X12_findCollision cy o d letters_ tests_ inputLength_ at_ signed_ newParts_ machineParts_ firstParts_ firstTruth_ secondTruth_ isPair_ states_ stateClasses_ elements_ cursor_ hasSnapshot_ isSaving_ wordLength_ word_ prefixes_ signatures_ held_) H locs → lv_has ls 4 [(0, .ref o), (1, .int x1), (2, .int x2), (3, .int x3)] → W p l e rm_X12_findCollision s m args below meth c H locs 0 0 Q (F0 m 27 ls []) := by
  intro H locs ls Z hl
  have hx := X.1.1
  have hb := X.1.2.1
  unfold b_X12_findCollision_27 at h
  refine lv_iload_n hx hb dX12_findCollision_27 rfl (lv_at hl 3 rfl) ?_
  refine lv_aload_n hx hb dX12_findCollision_28 rfl (lv_at hl 0 rfl) ?_
  refine x_get X Z 0 15 (v := .int signed_) rfl rfl lk_X12_findCollision_X12_signed dX12_findCollision_29 ?_
  refine lv_icmp_ge (tgt := 75) hx hb dX12_findCollision_32 (by decide) (fun cnd => ?_) (fun cnd => ?_)
  · replace h := ifp h cnd
    obtain rfl := Option.some.inj h
    exact (sk_r (sk_r K)) H locs ls Z (lv_sub hl [0, 1, 2] rfl)
  · replace h := ifn h cnd
    refine lv_aload_n hx hb dX12_findCollision_35 rfl (lv_at hl 0 rfl) ?_
    refine x_get X Z 0 13 (v := .ref (d 13)) rfl rfl lk_X12_findCollision_X12_signatures dX12_findCollision_36 ?_
    refine lv_iload_n hx hb dX12_findCollision_39 rfl (lv_at hl 2 rfl) ?_
    obtain ⟨hin1, v2, hv3, h⟩ := ld_b h
    refine x_iald X Z 4 rfl hin1 hv3 dX12_findCollision_40 ?_
    refine lv_aload_n hx hb dX12_findCollision_41 rfl (lv_at hl 0 rfl) ?_
    refine x_get X Z 0 13 (v := .ref (d 13)) rfl rfl lk_X12_findCollision_X12_signatures dX12_findCollision_42 ?_
    refine lv_iload_n hx hb dX12_findCollision_45 rfl (lv_at hl 3 rfl) ?_
    obtain ⟨hin4, v5, hv6, h⟩ := ld_b h
    refine x_iald X Z 4 rfl hin4 hv6 dX12_findCollision_46 ?_
    refine lv_icmp_eq (tgt := 53) hx hb dX12_findCollision_47 (by decide) (fun cnd => ?_) (fun cnd => ?_)
    · replace h := ifp h cnd
      obtain rfl := Option.some.inj h
      exact (sk_l (sk_r K)) H locs ls Z (lv_sub hl [0, 1, 2, 3] rfl)
    · replace h := ifn h cnd
      refine lv_goto (tgt := 69) hx hb dX12_findCollision_50 (by decide) ?_
      refine lv_iinc (v := (x3 + (1 : Int32))) (lv' := [(3, .int (x3 + (1 : Int32))), (0, .ref o), (1, .int x1), (2, .int x2)]) hx hb dX12_findCollision_69 hl (k := 3) rfl rfl (by decide) rfl (fun ls hl => ?_)
      refine lv_goto (tgt := 27) hx hb dX12_findCollision_72 (by decide) ?_
      obtain rfl := Option.some.inj h
      exact sk_l K H locs ls Z (lv_sub hl [1, 2, 3, 0] rfl)
set_option maxHeartbeats 4000000 in
set_option maxRecDepth 100000 in
theorem wl_X12_findCollision_27 {p : Program} {l : Launch} {e : Env} {s : State} {m : MethodId} {args : Array Value} {below : List Frame} {meth : Method} {c : Code} {A : Nat → Prop} {Q : State → Prop} {D : va_G} {cy : Nat → ClassId} (o : Nat) (d : Nat → Nat) (kind_ : Nat → Int32) (bound_ : Nat → Int32) (patternLength_ : Nat → Int32) (pattern_ : Nat → Int32) (letters_ : Int32) (tests_ : Int32) (inputLength_ : Int32) (at_ : Int32) (signed_ : Int32) (newParts_ : Int32) (machineParts_ : Int32) (firstParts_ : Int32) (firstTruth_ : Int32) (secondTruth_ : Int32) (isPair_ : Int32) (states_ : Int32) (stateClasses_ : Int32) (elements_ : Int32) (cursor_ : Int32) (hasSnapshot_ : Int32) (isSaving_ : Int32) (wordLength_ : Nat → Int32) (word_ : Nat → Int32) (prefixes_ : Nat → Int32) (signatures_ : Nat → Int32) (held_ : Nat → Int32) (x1 : Int32) (x2 : Int32) (n : Nat) (v : Int32) (x : (Int32) ⊕ (Unit)) (X : Cx p m c cX12_findCollision 4 s args wsX12_findCollision RX12 A D cy (RO_X12_findCollision cy o d kind_ bound_ patternLength_ pattern_)) (h : loopN (fun v => b_X12_findCollision_27 signed_ signatures_ x2 v) n v = some x) (K : Sum.elim (fun w : Int32 => ∀ (H : Heap) (locs : List Loc) (ls : Array Slot), St A D s (RW_X12_findCollision cy o d letters_ tests_ inputLength_ at_ signed_ newParts_ machineParts_ firstParts_ firstTruth_ secondTruth_ isPair_ states_ stateClasses_ elements_ cursor_ hasSnapshot_ isSaving_ wordLength_ word_ prefixes_ signatures_ held_) H locs → lv_has ls 4 [(0, .ref o), (1, .int x1), (2, .int x2), (3, .int w)] → W p l e rm_X12_findCollision s m args below meth c H locs 0 0 Q (F0 m 53 ls [])) (fun w => ∀ (H : Heap) (locs : List Loc) (ls : Array Slot), St A D s (RW_X12_findCollision cy o d letters_ tests_ inputLength_ at_ signed_ newParts_ machineParts_ firstParts_ firstTruth_ secondTruth_ isPair_ states_ stateClasses_ elements_ cursor_ hasSnapshot_ isSaving_ wordLength_ word_ prefixes_ signatures_ held_) H locs → lv_has ls 4 [(0, .ref o), (1, .int x1), (2, .int x2)] → W p l e rm_X12_findCollision s m args below meth c H locs 0 0 Q (F0 m 75 ls [])) x) : ∀ (H : Heap) (locs : List Loc) (ls : Array Slot), St A D s (RW_X12_findCollision cy o d letters_ tests_ inputLength_ at_ signed_ newParts_ machineParts_ firstParts_ firstTruth_ secondTruth_ isPair_ states_ stateClasses_ elements_ cursor_ hasSnapshot_ isSaving_ wordLength_ word_ prefixes_ signatures_ held_) H locs → lv_has ls 4 [(0, .ref o), (1, .int x1), (2, .int x2), (3, .int v)] → W p l e rm_X12_findCollision s m args below meth c H locs 0 0 Q (F0 m 27 ls []) :=
  loop_gen (B := (fun v => b_X12_findCollision_27 signed_ signatures_ x2 v)) (Head := fun v : Int32 => ∀ (H : Heap) (locs : List Loc) (ls : Array Slot), St A D s (RW_X12_findCollision cy o d letters_ tests_ inputLength_ at_ signed_ newParts_ machineParts_ firstParts_ firstTruth_ secondTruth_ isPair_ states_ stateClasses_ elements_ cursor_ hasSnapshot_ isSaving_ wordLength_ word_ prefixes_ signatures_ held_) H locs → lv_has ls 4 [(0, .ref o), (1, .int x1), (2, .int x2), (3, .int v)] → W p l e rm_X12_findCollision s m args below meth c H locs 0 0 Q (F0 m 27 ls [])) (Exit := fun v : (Int32) ⊕ (Unit) => Sum.elim (fun w : Int32 => ∀ (H : Heap) (locs : List Loc) (ls : Array Slot), St A D s (RW_X12_findCollision cy o d letters_ tests_ inputLength_ at_ signed_ newParts_ machineParts_ firstParts_ firstTruth_ secondTruth_ isPair_ states_ stateClasses_ elements_ cursor_ hasSnapshot_ isSaving_ wordLength_ word_ prefixes_ signatures_ held_) H locs → lv_has ls 4 [(0, .ref o), (1, .int x1), (2, .int x2), (3, .int w)] → W p l e rm_X12_findCollision s m args below meth c H locs 0 0 Q (F0 m 53 ls [])) (fun w => ∀ (H : Heap) (locs : List Loc) (ls : Array Slot), St A D s (RW_X12_findCollision cy o d letters_ tests_ inputLength_ at_ signed_ newParts_ machineParts_ firstParts_ firstTruth_ secondTruth_ isPair_ states_ stateClasses_ elements_ cursor_ hasSnapshot_ isSaving_ wordLength_ word_ prefixes_ signatures_ held_) H locs → lv_has ls 4 [(0, .ref o), (1, .int x1), (2, .int x2)] → W p l e rm_X12_findCollision s m args below meth c H locs 0 0 Q (F0 m 75 ls [])) v) (fun v o9 hb1 K1 => wb_X12_findCollision_27 o d kind_ bound_ patternLength_ pattern_ letters_ tests_ inputLength_ at_ signed_ newParts_ machineParts_ firstParts_ firstTruth_ secondTruth_ isPair_ states_ stateClasses_ elements_ cursor_ hasSnapshot_ isSaving_ wordLength_ word_ prefixes_ signatures_ held_ x1 x2 v o9 X hb1 K1) n v x h K
def b_X12_findCollision_15 (signed_ : Int32) (signatures_ : Nat → Int32)  (x2 : Int32) : Option ((Int32) ⊕ ((Int32 × Int32) ⊕ (Unit))) :=
  if signed_ ≤ x2 then
  (some (.inr (.inr ())))
  else
  ((loopN (fun v => b_X12_findCollision_27 signed_ signatures_ x2 v) FU (x2 + (1 : Int32))).bind (fun u7 =>
  Sum.elim (fun u7 =>
  some (.inr (.inl (x2, u7)))) (fun u7 =>
  some (.inl (x2 + (1 : Int32)))) u7))
set_option maxHeartbeats 4000000 in
set_option maxRecDepth 100000 in
theorem wb_X12_findCollision_15 {p : Program} {l : Launch} {e : Env} {s : State} {m : MethodId} {args : Array Value} {below : List Frame} {meth : Method} {c : Code} {A : Nat → Prop} {Q : State → Prop} {D : va_G} {cy : Nat → ClassId} (o : Nat) (d : Nat → Nat) (kind_ : Nat → Int32) (bound_ : Nat → Int32) (patternLength_ : Nat → Int32) (pattern_ : Nat → Int32) (letters_ : Int32) (tests_ : Int32) (inputLength_ : Int32) (at_ : Int32) (signed_ : Int32) (newParts_ : Int32) (machineParts_ : Int32) (firstParts_ : Int32) (firstTruth_ : Int32) (secondTruth_ : Int32) (isPair_ : Int32) (states_ : Int32) (stateClasses_ : Int32) (elements_ : Int32) (cursor_ : Int32) (hasSnapshot_ : Int32) (isSaving_ : Int32) (wordLength_ : Nat → Int32) (word_ : Nat → Int32) (prefixes_ : Nat → Int32) (signatures_ : Nat → Int32) (held_ : Nat → Int32) (x1 : Int32)  (x2 : Int32) (o1 : (Int32) ⊕ ((Int32 × Int32) ⊕ (Unit))) (X : Cx p m c cX12_findCollision 4 s args wsX12_findCollision RX12 A D cy (RO_X12_findCollision cy o d kind_ bound_ patternLength_ pattern_)) (h : b_X12_findCollision_15 signed_ signatures_ x2 = some o1) (K : Sum.elim (fun v : Int32 => ∀ (H : Heap) (locs : List Loc) (ls : Array Slot), St A D s (RW_X12_findCollision cy o d letters_ tests_ inputLength_ at_ signed_ newParts_ machineParts_ firstParts_ firstTruth_ secondTruth_ isPair_ states_ stateClasses_ elements_ cursor_ hasSnapshot_ isSaving_ wordLength_ word_ prefixes_ signatures_ held_) H locs → lv_has ls 4 [(0, .ref o), (1, .int x1), (2, .int v)] → W p l e rm_X12_findCollision s m args below meth c H locs 0 0 Q (F0 m 15 ls [])) (fun v : (Int32 × Int32) ⊕ (Unit) => Sum.elim (fun w : Int32 × Int32 => ∀ (H : Heap) (locs : List Loc) (ls : Array Slot), St A D s (RW_X12_findCollision cy o d letters_ tests_ inputLength_ at_ signed_ newParts_ machineParts_ firstParts_ firstTruth_ secondTruth_ isPair_ states_ stateClasses_ elements_ cursor_ hasSnapshot_ isSaving_ wordLength_ word_ prefixes_ signatures_ held_) H locs → lv_has ls 4 [(0, .ref o), (1, .int x1), (2, .int w.1), (3, .int w.2)] → W p l e rm_X12_findCollision s m args below meth c H locs 0 0 Q (F0 m 53 ls [])) (fun w => ∀ (H : Heap) (locs : List Loc) (ls : Array Slot), St A D s (RW_X12_findCollision cy o d letters_ tests_ inputLength_ at_ signed_ newParts_ machineParts_ firstParts_ firstTruth_ secondTruth_ isPair_ states_ stateClasses_ elements_ cursor_ hasSnapshot_ isSaving_ wordLength_ word_ prefixes_ signatures_ held_) H locs → lv_has ls 4 [(0, .ref o), (1, .int x1)] → W p l e rm_X12_findCollision s m args below meth c H locs 0 0 Q (F0 m 81 ls [])) v) o1) : ∀ (H : Heap) (locs : List Loc) (ls : Array Slot), St A D s (RW_X12_findCollision cy o d letters_ tests_ inputLength_ at_ signed_ newParts_ machineParts_ firstParts_ firstTruth_ secondTruth_ isPair_ states_ stateClasses_ elements_ cursor_ hasSnapshot_ isSaving_ wordLength_ word_ prefixes_ signatures_ held_) H locs → lv_has ls 4 [(0, .ref o), (1, .int x1), (2, .int x2)] → W p l e rm_X12_findCollision s m args below meth c H locs 0 0 Q (F0 m 15 ls []) := by
  intro H locs ls Z hl
  have hx := X.1.1
  have hb := X.1.2.1
  unfold b_X12_findCollision_15 at h
  refine lv_iload_n hx hb dX12_findCollision_15 rfl (lv_at hl 2 rfl) ?_
  refine lv_aload_n hx hb dX12_findCollision_16 rfl (lv_at hl 0 rfl) ?_
  refine x_get X Z 0 15 (v := .int signed_) rfl rfl lk_X12_findCollision_X12_signed dX12_findCollision_17 ?_
  refine lv_icmp_ge (tgt := 81) hx hb dX12_findCollision_20 (by decide) (fun cnd => ?_) (fun cnd => ?_)
  · replace h := ifp h cnd
    obtain rfl := Option.some.inj h
    exact (sk_r (sk_r K)) H locs ls Z (lv_sub hl [0, 1] rfl)
  · replace h := ifn h cnd
    refine lv_iload_n hx hb dX12_findCollision_23 rfl (lv_at hl 2 rfl) ?_
    refine lv_iconst (v := (1 : Int32)) hx hb dX12_findCollision_24 (by decide) ?_
    refine lv_iadd hx hb dX12_findCollision_25 ?_
    refine lv_istore_n (lv' := [(3, .int (x2 + (1 : Int32))), (0, .ref o), (1, .int x1), (2, .int x2)]) hx hb dX12_findCollision_26 rfl hl (by decide) rfl (fun ls hl => ?_)
    obtain ⟨u7, hL8, h⟩ := ob_some h
    rcases u7 with u7 | u7
    · replace h := se_l h
      refine wl_X12_findCollision_27 o d kind_ bound_ patternLength_ pattern_ letters_ tests_ inputLength_ at_ signed_ newParts_ machineParts_ firstParts_ firstTruth_ secondTruth_ isPair_ states_ stateClasses_ elements_ cursor_ hasSnapshot_ isSaving_ wordLength_ word_ prefixes_ signatures_ held_ x1 x2 FU (x2 + (1 : Int32)) (.inl u7) X hL8 (sk_li (fun H locs ls Z hl => ?_)) H locs ls Z (lv_sub hl [1, 2, 3, 0] rfl)
      obtain rfl := Option.some.inj h
      exact (sk_l (sk_r K)) H locs ls Z (lv_sub hl [0, 1, 2, 3] rfl)
    · replace h := se_r h
      refine wl_X12_findCollision_27 o d kind_ bound_ patternLength_ pattern_ letters_ tests_ inputLength_ at_ signed_ newParts_ machineParts_ firstParts_ firstTruth_ secondTruth_ isPair_ states_ stateClasses_ elements_ cursor_ hasSnapshot_ isSaving_ wordLength_ word_ prefixes_ signatures_ held_ x1 x2 FU (x2 + (1 : Int32)) (.inr u7) X hL8 (sk_ri (fun H locs ls Z hl => ?_)) H locs ls Z (lv_sub hl [1, 2, 3, 0] rfl)
      refine lv_iinc (v := (x2 + (1 : Int32))) (lv' := [(2, .int (x2 + (1 : Int32))), (0, .ref o), (1, .int x1)]) hx hb dX12_findCollision_75 hl (k := 2) rfl rfl (by decide) rfl (fun ls hl => ?_)
      refine lv_goto (tgt := 15) hx hb dX12_findCollision_78 (by decide) ?_
      obtain rfl := Option.some.inj h
      exact sk_l K H locs ls Z (lv_sub hl [1, 2, 0] rfl)
set_option maxHeartbeats 4000000 in
set_option maxRecDepth 100000 in
theorem wl_X12_findCollision_15 {p : Program} {l : Launch} {e : Env} {s : State} {m : MethodId} {args : Array Value} {below : List Frame} {meth : Method} {c : Code} {A : Nat → Prop} {Q : State → Prop} {D : va_G} {cy : Nat → ClassId} (o : Nat) (d : Nat → Nat) (kind_ : Nat → Int32) (bound_ : Nat → Int32) (patternLength_ : Nat → Int32) (pattern_ : Nat → Int32) (letters_ : Int32) (tests_ : Int32) (inputLength_ : Int32) (at_ : Int32) (signed_ : Int32) (newParts_ : Int32) (machineParts_ : Int32) (firstParts_ : Int32) (firstTruth_ : Int32) (secondTruth_ : Int32) (isPair_ : Int32) (states_ : Int32) (stateClasses_ : Int32) (elements_ : Int32) (cursor_ : Int32) (hasSnapshot_ : Int32) (isSaving_ : Int32) (wordLength_ : Nat → Int32) (word_ : Nat → Int32) (prefixes_ : Nat → Int32) (signatures_ : Nat → Int32) (held_ : Nat → Int32) (x1 : Int32) (n : Nat) (v : Int32) (x : (Int32 × Int32) ⊕ (Unit)) (X : Cx p m c cX12_findCollision 4 s args wsX12_findCollision RX12 A D cy (RO_X12_findCollision cy o d kind_ bound_ patternLength_ pattern_)) (h : loopN (fun v => b_X12_findCollision_15 signed_ signatures_ v) n v = some x) (K : Sum.elim (fun w : Int32 × Int32 => ∀ (H : Heap) (locs : List Loc) (ls : Array Slot), St A D s (RW_X12_findCollision cy o d letters_ tests_ inputLength_ at_ signed_ newParts_ machineParts_ firstParts_ firstTruth_ secondTruth_ isPair_ states_ stateClasses_ elements_ cursor_ hasSnapshot_ isSaving_ wordLength_ word_ prefixes_ signatures_ held_) H locs → lv_has ls 4 [(0, .ref o), (1, .int x1), (2, .int w.1), (3, .int w.2)] → W p l e rm_X12_findCollision s m args below meth c H locs 0 0 Q (F0 m 53 ls [])) (fun w => ∀ (H : Heap) (locs : List Loc) (ls : Array Slot), St A D s (RW_X12_findCollision cy o d letters_ tests_ inputLength_ at_ signed_ newParts_ machineParts_ firstParts_ firstTruth_ secondTruth_ isPair_ states_ stateClasses_ elements_ cursor_ hasSnapshot_ isSaving_ wordLength_ word_ prefixes_ signatures_ held_) H locs → lv_has ls 4 [(0, .ref o), (1, .int x1)] → W p l e rm_X12_findCollision s m args below meth c H locs 0 0 Q (F0 m 81 ls [])) x) : ∀ (H : Heap) (locs : List Loc) (ls : Array Slot), St A D s (RW_X12_findCollision cy o d letters_ tests_ inputLength_ at_ signed_ newParts_ machineParts_ firstParts_ firstTruth_ secondTruth_ isPair_ states_ stateClasses_ elements_ cursor_ hasSnapshot_ isSaving_ wordLength_ word_ prefixes_ signatures_ held_) H locs → lv_has ls 4 [(0, .ref o), (1, .int x1), (2, .int v)] → W p l e rm_X12_findCollision s m args below meth c H locs 0 0 Q (F0 m 15 ls []) :=
  loop_gen (B := (fun v => b_X12_findCollision_15 signed_ signatures_ v)) (Head := fun v : Int32 => ∀ (H : Heap) (locs : List Loc) (ls : Array Slot), St A D s (RW_X12_findCollision cy o d letters_ tests_ inputLength_ at_ signed_ newParts_ machineParts_ firstParts_ firstTruth_ secondTruth_ isPair_ states_ stateClasses_ elements_ cursor_ hasSnapshot_ isSaving_ wordLength_ word_ prefixes_ signatures_ held_) H locs → lv_has ls 4 [(0, .ref o), (1, .int x1), (2, .int v)] → W p l e rm_X12_findCollision s m args below meth c H locs 0 0 Q (F0 m 15 ls [])) (Exit := fun v : (Int32 × Int32) ⊕ (Unit) => Sum.elim (fun w : Int32 × Int32 => ∀ (H : Heap) (locs : List Loc) (ls : Array Slot), St A D s (RW_X12_findCollision cy o d letters_ tests_ inputLength_ at_ signed_ newParts_ machineParts_ firstParts_ firstTruth_ secondTruth_ isPair_ states_ stateClasses_ elements_ cursor_ hasSnapshot_ isSaving_ wordLength_ word_ prefixes_ signatures_ held_) H locs → lv_has ls 4 [(0, .ref o), (1, .int x1), (2, .int w.1), (3, .int w.2)] → W p l e rm_X12_findCollision s m args below meth c H locs 0 0 Q (F0 m 53 ls [])) (fun w => ∀ (H : Heap) (locs : List Loc) (ls : Array Slot), St A D s (RW_X12_findCollision cy o d letters_ tests_ inputLength_ at_ signed_ newParts_ machineParts_ firstParts_ firstTruth_ secondTruth_ isPair_ states_ stateClasses_ elements_ cursor_ hasSnapshot_ isSaving_ wordLength_ word_ prefixes_ signatures_ held_) H locs → lv_has ls 4 [(0, .ref o), (1, .int x1)] → W p l e rm_X12_findCollision s m args below meth c H locs 0 0 Q (F0 m 81 ls [])) v) (fun v o9 hb1 K1 => wb_X12_findCollision_15 o d kind_ bound_ patternLength_ pattern_ letters_ tests_ inputLength_ at_ signed_ newParts_ machineParts_ firstParts_ firstTruth_ secondTruth_ isPair_ states_ stateClasses_ elements_ cursor_ hasSnapshot_ isSaving_ wordLength_ word_ prefixes_ signatures_ held_ x1 v o9 X hb1 K1) n v x h K
def b_X12_findCollision_2 (kind_ : Nat → Int32) (bound_ : Nat → Int32) (patternLength_ : Nat → Int32) (pattern_ : Nat → Int32) (letters_ : Int32) (tests_ : Int32) (signed_ : Int32) (wordLength_ : Nat → Int32) (word_ : Nat → Int32) (prefixes_ : Nat → Int32) (signatures_ : Nat → Int32) (held_ : Nat → Int32) (x1 : Int32) : Option ((Int32 × (Nat → Int32) × (Nat → Int32) × (Nat → Int32) × (Nat → Int32) × (Nat → Int32) × Int32) ⊕ ((Int32 × (Nat → Int32) × (Nat → Int32) × (Nat → Int32) × (Nat → Int32) × (Nat → Int32) × Int32 × Int32 × Int32) ⊕ (Int32 × (Nat → Int32) × (Nat → Int32) × (Nat → Int32) × (Nat → Int32) × (Nat → Int32)))) :=
  if (7 : Int32) < x1 then
  (some (.inr (.inr (signed_, wordLength_, word_, prefixes_, signatures_, held_))))
  else
  ((f_X12_findSignatures x1 kind_ bound_ patternLength_ pattern_ letters_ tests_ signed_ wordLength_ word_ prefixes_ signatures_ held_).bind (fun u9 =>
  (loopN (fun v => b_X12_findCollision_15 u9.1 u9.2.2.2.2.1 v) FU (0 : Int32)).bind (fun u11 =>
  Sum.elim (fun u11 =>
  some (.inr (.inl (u9.1, u9.2.1, u9.2.2.1, u9.2.2.2.1, u9.2.2.2.2.1, u9.2.2.2.2.2, x1, u11.1, u11.2)))) (fun u11 =>
  some (.inl (u9.1, u9.2.1, u9.2.2.1, u9.2.2.2.1, u9.2.2.2.2.1, u9.2.2.2.2.2, (x1 + (1 : Int32))))) u11)))
set_option maxHeartbeats 4000000 in
set_option maxRecDepth 100000 in
theorem wb_X12_findCollision_2 {p : Program} {l : Launch} {e : Env} {s : State} {m : MethodId} {args : Array Value} {below : List Frame} {meth : Method} {c : Code} {A : Nat → Prop} {Q : State → Prop} {D : va_G} {cy : Nat → ClassId} (o : Nat) (d : Nat → Nat) (kind_ : Nat → Int32) (bound_ : Nat → Int32) (patternLength_ : Nat → Int32) (pattern_ : Nat → Int32) (letters_ : Int32) (tests_ : Int32) (inputLength_ : Int32) (at_ : Int32) (newParts_ : Int32) (machineParts_ : Int32) (firstParts_ : Int32) (firstTruth_ : Int32) (secondTruth_ : Int32) (isPair_ : Int32) (states_ : Int32) (stateClasses_ : Int32) (elements_ : Int32) (cursor_ : Int32) (hasSnapshot_ : Int32) (isSaving_ : Int32) (signed_ : Int32) (wordLength_ : Nat → Int32) (word_ : Nat → Int32) (prefixes_ : Nat → Int32) (signatures_ : Nat → Int32) (held_ : Nat → Int32) (x1 : Int32) (o1 : (Int32 × (Nat → Int32) × (Nat → Int32) × (Nat → Int32) × (Nat → Int32) × (Nat → Int32) × Int32) ⊕ ((Int32 × (Nat → Int32) × (Nat → Int32) × (Nat → Int32) × (Nat → Int32) × (Nat → Int32) × Int32 × Int32 × Int32) ⊕ (Int32 × (Nat → Int32) × (Nat → Int32) × (Nat → Int32) × (Nat → Int32) × (Nat → Int32)))) (X : Cx p m c cX12_findCollision 4 s args wsX12_findCollision RX12 A D cy (RO_X12_findCollision cy o d kind_ bound_ patternLength_ pattern_)) (h : b_X12_findCollision_2 kind_ bound_ patternLength_ pattern_ letters_ tests_ signed_ wordLength_ word_ prefixes_ signatures_ held_ x1 = some o1) (K : Sum.elim (fun v : Int32 × (Nat → Int32) × (Nat → Int32) × (Nat → Int32) × (Nat → Int32) × (Nat → Int32) × Int32 => ∀ (H : Heap) (locs : List Loc) (ls : Array Slot), St A D s (RW_X12_findCollision cy o d letters_ tests_ inputLength_ at_ v.1 newParts_ machineParts_ firstParts_ firstTruth_ secondTruth_ isPair_ states_ stateClasses_ elements_ cursor_ hasSnapshot_ isSaving_ v.2.1 v.2.2.1 v.2.2.2.1 v.2.2.2.2.1 v.2.2.2.2.2.1) H locs → lv_has ls 4 [(0, .ref o), (1, .int v.2.2.2.2.2.2)] → W p l e rm_X12_findCollision s m args below meth c H locs 0 0 Q (F0 m 2 ls [])) (fun v : (Int32 × (Nat → Int32) × (Nat → Int32) × (Nat → Int32) × (Nat → Int32) × (Nat → Int32) × Int32 × Int32 × Int32) ⊕ (Int32 × (Nat → Int32) × (Nat → Int32) × (Nat → Int32) × (Nat → Int32) × (Nat → Int32)) => Sum.elim (fun w : Int32 × (Nat → Int32) × (Nat → Int32) × (Nat → Int32) × (Nat → Int32) × (Nat → Int32) × Int32 × Int32 × Int32 => ∀ (H : Heap) (locs : List Loc) (ls : Array Slot), St A D s (RW_X12_findCollision cy o d letters_ tests_ inputLength_ at_ w.1 newParts_ machineParts_ firstParts_ firstTruth_ secondTruth_ isPair_ states_ stateClasses_ elements_ cursor_ hasSnapshot_ isSaving_ w.2.1 w.2.2.1 w.2.2.2.1 w.2.2.2.2.1 w.2.2.2.2.2.1) H locs → lv_has ls 4 [(0, .ref o), (1, .int w.2.2.2.2.2.2.1), (2, .int w.2.2.2.2.2.2.2.1), (3, .int w.2.2.2.2.2.2.2.2)] → W p l e rm_X12_findCollision s m args below meth c H locs 0 0 Q (F0 m 53 ls [])) (fun w => ∀ (H : Heap) (locs : List Loc) (ls : Array Slot), St A D s (RW_X12_findCollision cy o d letters_ tests_ inputLength_ at_ w.1 newParts_ machineParts_ firstParts_ firstTruth_ secondTruth_ isPair_ states_ stateClasses_ elements_ cursor_ hasSnapshot_ isSaving_ w.2.1 w.2.2.1 w.2.2.2.1 w.2.2.2.2.1 w.2.2.2.2.2) H locs → lv_has ls 4 [] → W p l e rm_X12_findCollision s m args below meth c H locs 0 0 Q (F0 m 87 ls [])) v) o1) : ∀ (H : Heap) (locs : List Loc) (ls : Array Slot), St A D s (RW_X12_findCollision cy o d letters_ tests_ inputLength_ at_ signed_ newParts_ machineParts_ firstParts_ firstTruth_ secondTruth_ isPair_ states_ stateClasses_ elements_ cursor_ hasSnapshot_ isSaving_ wordLength_ word_ prefixes_ signatures_ held_) H locs → lv_has ls 4 [(0, .ref o), (1, .int x1)] → W p l e rm_X12_findCollision s m args below meth c H locs 0 0 Q (F0 m 2 ls []) := by
  intro H locs ls Z hl
  have hx := X.1.1
  have hb := X.1.2.1
  unfold b_X12_findCollision_2 at h
  refine lv_iload_n hx hb dX12_findCollision_2 rfl (lv_at hl 1 rfl) ?_
  refine lv_bipush (v := (7 : Int32)) hx hb dX12_findCollision_3 (by decide) ?_
  refine lv_icmp_gt (tgt := 87) hx hb dX12_findCollision_5 (by decide) (fun cnd => ?_) (fun cnd => ?_)
  · replace h := ifp h cnd
    obtain rfl := Option.some.inj h
    exact (sk_r (sk_r K)) H locs ls Z (lv_sub hl [] rfl)
  · replace h := ifn h cnd
    refine lv_aload_n hx hb dX12_findCollision_8 rfl (lv_at hl 0 rfl) ?_
    refine lv_iload_n hx hb dX12_findCollision_9 rfl (lv_at hl 1 rfl) ?_
    obtain ⟨u9, hc10, h⟩ := ob_some h
    refine x_runVv (RW' := (RW_X12_findCollision cy o d letters_ tests_ inputLength_ at_ u9.1 newParts_ machineParts_ firstParts_ firstTruth_ secondTruth_ isPair_ states_ stateClasses_ elements_ cursor_ hasSnapshot_ isSaving_ u9.2.1 u9.2.2.1 u9.2.2.2.1 u9.2.2.2.2.1 u9.2.2.2.2.2)) (wr := []) (isC := [0, 1, 2, 3, 4, 5]) (isR := []) (isF := [0, 1, 2, 3, 4, 5]) (rest := []) (As := [.int x1]) (n := 1) X Z (c_X12_findSignatures l D cy o d kind_ bound_ patternLength_ pattern_ letters_ tests_ inputLength_ at_ signed_ newParts_ machineParts_ firstParts_ firstTruth_ secondTruth_ isPair_ states_ stateClasses_ elements_ cursor_ hasSnapshot_ isSaving_ wordLength_ word_ prefixes_ signatures_ held_ x1 u9 hc10) gX12_findCollision_X12_findSignatures rfl (by decide +kernel) ⟨Nat.le_of_ble_eq_true rfl, Nat.le_of_ble_eq_true rfl⟩ ⟨rfl, rfl⟩ ⟨Nat.le_of_ble_eq_true rfl, Nat.le_of_ble_eq_true rfl⟩ (x_rv X Z 0 rfl rfl) ⟨rfl, rfl, (roC (Or.inr (mem_at 0 rfl)) (roC (Or.inr (mem_at 1 rfl)) (roC (Or.inr (mem_at 2 rfl)) (roC (Or.inr (mem_at 3 rfl)) roN)))), rfl, rfl, by decide⟩ ⟨rfl, rfl⟩ rfl hl.1 rfl (Nat.le_of_ble_eq_true rfl) dX12_findCollision_10 (fun H locs Z => ?_)
    refine lv_iconst (v := (0 : Int32)) hx hb dX12_findCollision_13 (by decide) ?_
    refine lv_istore_n (lv' := [(2, .int (0 : Int32)), (0, .ref o), (1, .int x1)]) hx hb dX12_findCollision_14 rfl hl (by decide) rfl (fun ls hl => ?_)
    obtain ⟨u11, hL12, h⟩ := ob_some h
    rcases u11 with u11 | u11
    · replace h := se_l h
      refine wl_X12_findCollision_15 o d kind_ bound_ patternLength_ pattern_ letters_ tests_ inputLength_ at_ u9.1 newParts_ machineParts_ firstParts_ firstTruth_ secondTruth_ isPair_ states_ stateClasses_ elements_ cursor_ hasSnapshot_ isSaving_ u9.2.1 u9.2.2.1 u9.2.2.2.1 u9.2.2.2.2.1 u9.2.2.2.2.2 x1 FU (0 : Int32) (.inl u11) X hL12 (sk_li (fun H locs ls Z hl => ?_)) H locs ls Z (lv_sub hl [1, 2, 0] rfl)
      obtain rfl := Option.some.inj h
      exact (sk_l (sk_r K)) H locs ls Z (lv_sub hl [0, 1, 2, 3] rfl)
    · replace h := se_r h
      refine wl_X12_findCollision_15 o d kind_ bound_ patternLength_ pattern_ letters_ tests_ inputLength_ at_ u9.1 newParts_ machineParts_ firstParts_ firstTruth_ secondTruth_ isPair_ states_ stateClasses_ elements_ cursor_ hasSnapshot_ isSaving_ u9.2.1 u9.2.2.1 u9.2.2.2.1 u9.2.2.2.2.1 u9.2.2.2.2.2 x1 FU (0 : Int32) (.inr u11) X hL12 (sk_ri (fun H locs ls Z hl => ?_)) H locs ls Z (lv_sub hl [1, 2, 0] rfl)
      refine lv_iinc (v := (x1 + (1 : Int32))) (lv' := [(1, .int (x1 + (1 : Int32))), (0, .ref o)]) hx hb dX12_findCollision_81 hl (k := 1) rfl rfl (by decide) rfl (fun ls hl => ?_)
      refine lv_goto (tgt := 2) hx hb dX12_findCollision_84 (by decide) ?_
      obtain rfl := Option.some.inj h
      exact sk_l K H locs ls Z (lv_sub hl [1, 0] rfl)
set_option maxHeartbeats 4000000 in
set_option maxRecDepth 100000 in
theorem wl_X12_findCollision_2 {p : Program} {l : Launch} {e : Env} {s : State} {m : MethodId} {args : Array Value} {below : List Frame} {meth : Method} {c : Code} {A : Nat → Prop} {Q : State → Prop} {D : va_G} {cy : Nat → ClassId} (o : Nat) (d : Nat → Nat) (kind_ : Nat → Int32) (bound_ : Nat → Int32) (patternLength_ : Nat → Int32) (pattern_ : Nat → Int32) (letters_ : Int32) (tests_ : Int32) (inputLength_ : Int32) (at_ : Int32) (newParts_ : Int32) (machineParts_ : Int32) (firstParts_ : Int32) (firstTruth_ : Int32) (secondTruth_ : Int32) (isPair_ : Int32) (states_ : Int32) (stateClasses_ : Int32) (elements_ : Int32) (cursor_ : Int32) (hasSnapshot_ : Int32) (isSaving_ : Int32) (n : Nat) (v : Int32 × (Nat → Int32) × (Nat → Int32) × (Nat → Int32) × (Nat → Int32) × (Nat → Int32) × Int32) (x : (Int32 × (Nat → Int32) × (Nat → Int32) × (Nat → Int32) × (Nat → Int32) × (Nat → Int32) × Int32 × Int32 × Int32) ⊕ (Int32 × (Nat → Int32) × (Nat → Int32) × (Nat → Int32) × (Nat → Int32) × (Nat → Int32))) (X : Cx p m c cX12_findCollision 4 s args wsX12_findCollision RX12 A D cy (RO_X12_findCollision cy o d kind_ bound_ patternLength_ pattern_)) (h : loopN (fun v => b_X12_findCollision_2 kind_ bound_ patternLength_ pattern_ letters_ tests_ v.1 v.2.1 v.2.2.1 v.2.2.2.1 v.2.2.2.2.1 v.2.2.2.2.2.1 v.2.2.2.2.2.2) n v = some x) (K : Sum.elim (fun w : Int32 × (Nat → Int32) × (Nat → Int32) × (Nat → Int32) × (Nat → Int32) × (Nat → Int32) × Int32 × Int32 × Int32 => ∀ (H : Heap) (locs : List Loc) (ls : Array Slot), St A D s (RW_X12_findCollision cy o d letters_ tests_ inputLength_ at_ w.1 newParts_ machineParts_ firstParts_ firstTruth_ secondTruth_ isPair_ states_ stateClasses_ elements_ cursor_ hasSnapshot_ isSaving_ w.2.1 w.2.2.1 w.2.2.2.1 w.2.2.2.2.1 w.2.2.2.2.2.1) H locs → lv_has ls 4 [(0, .ref o), (1, .int w.2.2.2.2.2.2.1), (2, .int w.2.2.2.2.2.2.2.1), (3, .int w.2.2.2.2.2.2.2.2)] → W p l e rm_X12_findCollision s m args below meth c H locs 0 0 Q (F0 m 53 ls [])) (fun w => ∀ (H : Heap) (locs : List Loc) (ls : Array Slot), St A D s (RW_X12_findCollision cy o d letters_ tests_ inputLength_ at_ w.1 newParts_ machineParts_ firstParts_ firstTruth_ secondTruth_ isPair_ states_ stateClasses_ elements_ cursor_ hasSnapshot_ isSaving_ w.2.1 w.2.2.1 w.2.2.2.1 w.2.2.2.2.1 w.2.2.2.2.2) H locs → lv_has ls 4 [] → W p l e rm_X12_findCollision s m args below meth c H locs 0 0 Q (F0 m 87 ls [])) x) : ∀ (H : Heap) (locs : List Loc) (ls : Array Slot), St A D s (RW_X12_findCollision cy o d letters_ tests_ inputLength_ at_ v.1 newParts_ machineParts_ firstParts_ firstTruth_ secondTruth_ isPair_ states_ stateClasses_ elements_ cursor_ hasSnapshot_ isSaving_ v.2.1 v.2.2.1 v.2.2.2.1 v.2.2.2.2.1 v.2.2.2.2.2.1) H locs → lv_has ls 4 [(0, .ref o), (1, .int v.2.2.2.2.2.2)] → W p l e rm_X12_findCollision s m args below meth c H locs 0 0 Q (F0 m 2 ls []) :=
  loop_gen (B := (fun v => b_X12_findCollision_2 kind_ bound_ patternLength_ pattern_ letters_ tests_ v.1 v.2.1 v.2.2.1 v.2.2.2.1 v.2.2.2.2.1 v.2.2.2.2.2.1 v.2.2.2.2.2.2)) (Head := fun v : Int32 × (Nat → Int32) × (Nat → Int32) × (Nat → Int32) × (Nat → Int32) × (Nat → Int32) × Int32 => ∀ (H : Heap) (locs : List Loc) (ls : Array Slot), St A D s (RW_X12_findCollision cy o d letters_ tests_ inputLength_ at_ v.1 newParts_ machineParts_ firstParts_ firstTruth_ secondTruth_ isPair_ states_ stateClasses_ elements_ cursor_ hasSnapshot_ isSaving_ v.2.1 v.2.2.1 v.2.2.2.1 v.2.2.2.2.1 v.2.2.2.2.2.1) H locs → lv_has ls 4 [(0, .ref o), (1, .int v.2.2.2.2.2.2)] → W p l e rm_X12_findCollision s m args below meth c H locs 0 0 Q (F0 m 2 ls [])) (Exit := fun v : (Int32 × (Nat → Int32) × (Nat → Int32) × (Nat → Int32) × (Nat → Int32) × (Nat → Int32) × Int32 × Int32 × Int32) ⊕ (Int32 × (Nat → Int32) × (Nat → Int32) × (Nat → Int32) × (Nat → Int32) × (Nat → Int32)) => Sum.elim (fun w : Int32 × (Nat → Int32) × (Nat → Int32) × (Nat → Int32) × (Nat → Int32) × (Nat → Int32) × Int32 × Int32 × Int32 => ∀ (H : Heap) (locs : List Loc) (ls : Array Slot), St A D s (RW_X12_findCollision cy o d letters_ tests_ inputLength_ at_ w.1 newParts_ machineParts_ firstParts_ firstTruth_ secondTruth_ isPair_ states_ stateClasses_ elements_ cursor_ hasSnapshot_ isSaving_ w.2.1 w.2.2.1 w.2.2.2.1 w.2.2.2.2.1 w.2.2.2.2.2.1) H locs → lv_has ls 4 [(0, .ref o), (1, .int w.2.2.2.2.2.2.1), (2, .int w.2.2.2.2.2.2.2.1), (3, .int w.2.2.2.2.2.2.2.2)] → W p l e rm_X12_findCollision s m args below meth c H locs 0 0 Q (F0 m 53 ls [])) (fun w => ∀ (H : Heap) (locs : List Loc) (ls : Array Slot), St A D s (RW_X12_findCollision cy o d letters_ tests_ inputLength_ at_ w.1 newParts_ machineParts_ firstParts_ firstTruth_ secondTruth_ isPair_ states_ stateClasses_ elements_ cursor_ hasSnapshot_ isSaving_ w.2.1 w.2.2.1 w.2.2.2.1 w.2.2.2.2.1 w.2.2.2.2.2) H locs → lv_has ls 4 [] → W p l e rm_X12_findCollision s m args below meth c H locs 0 0 Q (F0 m 87 ls [])) v) (fun v o9 hb1 K1 => wb_X12_findCollision_2 o d kind_ bound_ patternLength_ pattern_ letters_ tests_ inputLength_ at_ newParts_ machineParts_ firstParts_ firstTruth_ secondTruth_ isPair_ states_ stateClasses_ elements_ cursor_ hasSnapshot_ isSaving_ v.1 v.2.1 v.2.2.1 v.2.2.2.1 v.2.2.2.2.1 v.2.2.2.2.2.1 v.2.2.2.2.2.2 o9 X hb1 K1) n v x h K
def f_X12_findCollision (kind_ : Nat → Int32) (bound_ : Nat → Int32) (patternLength_ : Nat → Int32) (pattern_ : Nat → Int32) (letters_ : Int32) (tests_ : Int32) (signed_ : Int32) (wordLength_ : Nat → Int32) (word_ : Nat → Int32) (prefixes_ : Nat → Int32) (signatures_ : Nat → Int32) (held_ : Nat → Int32) : Option (Int32 × Int32 × (Nat → Int32) × (Nat → Int32) × (Nat → Int32) × (Nat → Int32) × (Nat → Int32)) :=
  (loopN (fun v => b_X12_findCollision_2 kind_ bound_ patternLength_ pattern_ letters_ tests_ v.1 v.2.1 v.2.2.1 v.2.2.2.1 v.2.2.2.2.1 v.2.2.2.2.2.1 v.2.2.2.2.2.2) FU (signed_, wordLength_, word_, prefixes_, signatures_, held_, (1 : Int32))).bind (fun u13 =>
  Sum.elim (fun u13 =>
  (f_X12_spell (0 : Int32) u13.2.2.2.2.2.2.1 u13.2.2.2.2.2.2.2.1 letters_ u13.2.1 u13.2.2.1).bind (fun u15 =>
  (f_X12_spell (1 : Int32) u13.2.2.2.2.2.2.1 u13.2.2.2.2.2.2.2.2 letters_ u15.1 u15.2).bind (fun u17 =>
  some (u13.2.2.2.2.2.2.1, u13.1, u17.1, u17.2, u13.2.2.2.1, u13.2.2.2.2.1, u13.2.2.2.2.2.1)))) (fun u13 =>
  some ((-2 : Int32), u13.1, u13.2.1, u13.2.2.1, u13.2.2.2.1, u13.2.2.2.2.1, u13.2.2.2.2.2)) u13)
set_option maxHeartbeats 4000000 in
set_option maxRecDepth 100000 in
theorem wt_X12_findCollision {p : Program} {l : Launch} {e : Env} {s : State} {m : MethodId} {args : Array Value} {below : List Frame} {meth : Method} {c : Code} {A : Nat → Prop} {Q : State → Prop} {D : va_G} {cy : Nat → ClassId} (o : Nat) (d : Nat → Nat) (kind_ : Nat → Int32) (bound_ : Nat → Int32) (patternLength_ : Nat → Int32) (pattern_ : Nat → Int32) (letters_ : Int32) (tests_ : Int32) (inputLength_ : Int32) (at_ : Int32) (signed_ : Int32) (newParts_ : Int32) (machineParts_ : Int32) (firstParts_ : Int32) (firstTruth_ : Int32) (secondTruth_ : Int32) (isPair_ : Int32) (states_ : Int32) (stateClasses_ : Int32) (elements_ : Int32) (cursor_ : Int32) (hasSnapshot_ : Int32) (isSaving_ : Int32) (wordLength_ : Nat → Int32) (word_ : Nat → Int32) (prefixes_ : Nat → Int32) (signatures_ : Nat → Int32) (held_ : Nat → Int32) (out : Int32 × Int32 × (Nat → Int32) × (Nat → Int32) × (Nat → Int32) × (Nat → Int32) × (Nat → Int32)) (X : Cx p m c cX12_findCollision 4 s args wsX12_findCollision RX12 A D cy (RO_X12_findCollision cy o d kind_ bound_ patternLength_ pattern_)) (h : f_X12_findCollision kind_ bound_ patternLength_ pattern_ letters_ tests_ signed_ wordLength_ word_ prefixes_ signatures_ held_ = some out) (K : ∀ (H : Heap) (locs : List Loc) (ls : Array Slot) (pc : Nat), decode cX12_findCollision pc = .ok (.ireturn, 1) → St A D s (RW_X12_findCollision cy o d letters_ tests_ inputLength_ at_ out.2.1 newParts_ machineParts_ firstParts_ firstTruth_ secondTruth_ isPair_ states_ stateClasses_ elements_ cursor_ hasSnapshot_ isSaving_ out.2.2.1 out.2.2.2.1 out.2.2.2.2.1 out.2.2.2.2.2.1 out.2.2.2.2.2.2) H locs → W p l e rm_X12_findCollision s m args below meth c H locs 0 0 Q (F0 m pc ls [.int out.1])) : ∀ (H : Heap) (locs : List Loc) (ls : Array Slot), St A D s (RW_X12_findCollision cy o d letters_ tests_ inputLength_ at_ signed_ newParts_ machineParts_ firstParts_ firstTruth_ secondTruth_ isPair_ states_ stateClasses_ elements_ cursor_ hasSnapshot_ isSaving_ wordLength_ word_ prefixes_ signatures_ held_) H locs → lv_has ls 4 [(0, .ref o)] → W p l e rm_X12_findCollision s m args below meth c H locs 0 0 Q (F0 m 0 ls []) := by
  intro H locs ls Z hl
  have hx := X.1.1
  have hb := X.1.2.1
  unfold f_X12_findCollision at h
  refine lv_iconst (v := (1 : Int32)) hx hb dX12_findCollision_0 (by decide) ?_
  refine lv_istore_n (lv' := [(1, .int (1 : Int32)), (0, .ref o)]) hx hb dX12_findCollision_1 rfl hl (by decide) rfl (fun ls hl => ?_)
  obtain ⟨u13, hL14, h⟩ := ob_some h
  rcases u13 with u13 | u13
  · replace h := se_l h
    refine wl_X12_findCollision_2 o d kind_ bound_ patternLength_ pattern_ letters_ tests_ inputLength_ at_ newParts_ machineParts_ firstParts_ firstTruth_ secondTruth_ isPair_ states_ stateClasses_ elements_ cursor_ hasSnapshot_ isSaving_ FU (signed_, wordLength_, word_, prefixes_, signatures_, held_, (1 : Int32)) (.inl u13) X hL14 (sk_li (fun H locs ls Z hl => ?_)) H locs ls Z (lv_sub hl [1, 0] rfl)
    refine lv_aload_n hx hb dX12_findCollision_53 rfl (lv_at hl 0 rfl) ?_
    refine lv_iconst (v := (0 : Int32)) hx hb dX12_findCollision_54 (by decide) ?_
    refine lv_iload_n hx hb dX12_findCollision_55 rfl (lv_at hl 1 rfl) ?_
    refine lv_iload_n hx hb dX12_findCollision_56 rfl (lv_at hl 2 rfl) ?_
    obtain ⟨u15, hc16, h⟩ := ob_some h
    refine x_runVv (RW' := (RW_X12_findCollision cy o d letters_ tests_ inputLength_ at_ u13.1 newParts_ machineParts_ firstParts_ firstTruth_ secondTruth_ isPair_ states_ stateClasses_ elements_ cursor_ hasSnapshot_ isSaving_ u15.1 u15.2 u13.2.2.2.1 u13.2.2.2.2.1 u13.2.2.2.2.2.1)) (wr := [(o, ob 11 (oX12 d letters_ tests_ inputLength_ at_ u13.1 newParts_ machineParts_ firstParts_ firstTruth_ secondTruth_ isPair_ states_ stateClasses_ elements_ cursor_ hasSnapshot_ isSaving_)), ((d 3), aI cy 13 u13.2.2.2.1), ((d 13), aI cy 2187 u13.2.2.2.2.1), ((d 14), aI cy 12 u13.2.2.2.2.2.1)]) (isC := [1, 2]) (isR := [0, 3, 4, 5]) (isF := [0, 4, 5, 1, 2, 3]) (rest := []) (As := [.int (0 : Int32), .int u13.2.2.2.2.2.2.1, .int u13.2.2.2.2.2.2.2.1]) (n := 3) X Z (c_X12_spell l D cy o d letters_ tests_ inputLength_ at_ u13.1 newParts_ machineParts_ firstParts_ firstTruth_ secondTruth_ isPair_ states_ stateClasses_ elements_ cursor_ hasSnapshot_ isSaving_ u13.2.1 u13.2.2.1 (0 : Int32) u13.2.2.2.2.2.2.1 u13.2.2.2.2.2.2.2.1 u15 hc16) gX12_findCollision_X12_spell rfl (by decide +kernel) ⟨Nat.le_of_ble_eq_true rfl, Nat.le_of_ble_eq_true rfl⟩ ⟨rfl, rfl⟩ ⟨Nat.le_of_ble_eq_true rfl, Nat.le_of_ble_eq_true rfl⟩ (x_rv X Z 0 rfl rfl) ⟨rfl, rfl, (roC (Or.inl (mem_at 0 rfl)) roN), rfl, rfl, by decide⟩ ⟨rfl, rfl⟩ rfl hl.1 rfl (Nat.le_of_ble_eq_true rfl) dX12_findCollision_57 (fun H locs Z => ?_)
    refine lv_aload_n hx hb dX12_findCollision_60 rfl (lv_at hl 0 rfl) ?_
    refine lv_iconst (v := (1 : Int32)) hx hb dX12_findCollision_61 (by decide) ?_
    refine lv_iload_n hx hb dX12_findCollision_62 rfl (lv_at hl 1 rfl) ?_
    refine lv_iload_n hx hb dX12_findCollision_63 rfl (lv_at hl 3 rfl) ?_
    obtain ⟨u17, hc18, h⟩ := ob_some h
    refine x_runVv (RW' := (RW_X12_findCollision cy o d letters_ tests_ inputLength_ at_ u13.1 newParts_ machineParts_ firstParts_ firstTruth_ secondTruth_ isPair_ states_ stateClasses_ elements_ cursor_ hasSnapshot_ isSaving_ u17.1 u17.2 u13.2.2.2.1 u13.2.2.2.2.1 u13.2.2.2.2.2.1)) (wr := [(o, ob 11 (oX12 d letters_ tests_ inputLength_ at_ u13.1 newParts_ machineParts_ firstParts_ firstTruth_ secondTruth_ isPair_ states_ stateClasses_ elements_ cursor_ hasSnapshot_ isSaving_)), ((d 3), aI cy 13 u13.2.2.2.1), ((d 13), aI cy 2187 u13.2.2.2.2.1), ((d 14), aI cy 12 u13.2.2.2.2.2.1)]) (isC := [1, 2]) (isR := [0, 3, 4, 5]) (isF := [0, 4, 5, 1, 2, 3]) (rest := []) (As := [.int (1 : Int32), .int u13.2.2.2.2.2.2.1, .int u13.2.2.2.2.2.2.2.2]) (n := 3) X Z (c_X12_spell l D cy o d letters_ tests_ inputLength_ at_ u13.1 newParts_ machineParts_ firstParts_ firstTruth_ secondTruth_ isPair_ states_ stateClasses_ elements_ cursor_ hasSnapshot_ isSaving_ u15.1 u15.2 (1 : Int32) u13.2.2.2.2.2.2.1 u13.2.2.2.2.2.2.2.2 u17 hc18) gX12_findCollision_X12_spell rfl (by decide +kernel) ⟨Nat.le_of_ble_eq_true rfl, Nat.le_of_ble_eq_true rfl⟩ ⟨rfl, rfl⟩ ⟨Nat.le_of_ble_eq_true rfl, Nat.le_of_ble_eq_true rfl⟩ (x_rv X Z 0 rfl rfl) ⟨rfl, rfl, (roC (Or.inl (mem_at 0 rfl)) roN), rfl, rfl, by decide⟩ ⟨rfl, rfl⟩ rfl hl.1 rfl (Nat.le_of_ble_eq_true rfl) dX12_findCollision_64 (fun H locs Z => ?_)
    refine lv_iload_n hx hb dX12_findCollision_67 rfl (lv_at hl 1 rfl) ?_
    obtain rfl := Option.some.inj h
    exact K H locs ls _ dX12_findCollision_68 Z
  · replace h := se_r h
    refine wl_X12_findCollision_2 o d kind_ bound_ patternLength_ pattern_ letters_ tests_ inputLength_ at_ newParts_ machineParts_ firstParts_ firstTruth_ secondTruth_ isPair_ states_ stateClasses_ elements_ cursor_ hasSnapshot_ isSaving_ FU (signed_, wordLength_, word_, prefixes_, signatures_, held_, (1 : Int32)) (.inr u13) X hL14 (sk_ri (fun H locs ls Z hl => ?_)) H locs ls Z (lv_sub hl [1, 0] rfl)
    refine lv_bipush (v := (-2 : Int32)) hx hb dX12_findCollision_87 (by decide) ?_
    obtain rfl := Option.some.inj h
    exact K H locs ls _ dX12_findCollision_89 Z
theorem c_X12_findCollision (l : Launch) (D : va_G) (cy : Nat → ClassId) (o : Nat) (d : Nat → Nat) (kind_ : Nat → Int32) (bound_ : Nat → Int32) (patternLength_ : Nat → Int32) (pattern_ : Nat → Int32) (letters_ : Int32) (tests_ : Int32) (inputLength_ : Int32) (at_ : Int32) (signed_ : Int32) (newParts_ : Int32) (machineParts_ : Int32) (firstParts_ : Int32) (firstTruth_ : Int32) (secondTruth_ : Int32) (isPair_ : Int32) (states_ : Int32) (stateClasses_ : Int32) (elements_ : Int32) (cursor_ : Int32) (hasSnapshot_ : Int32) (isSaving_ : Int32) (wordLength_ : Nat → Int32) (word_ : Nat → Int32) (prefixes_ : Nat → Int32) (signatures_ : Nat → Int32) (held_ : Nat → Int32) (out : Int32 × Int32 × (Nat → Int32) × (Nat → Int32) × (Nat → Int32) × (Nat → Int32) × (Nat → Int32)) (h : f_X12_findCollision kind_ bound_ patternLength_ pattern_ letters_ tests_ signed_ wordLength_ word_ prefixes_ signatures_ held_ = some out) : CtI l yX12_findCollision wsX12_findCollision rm_X12_findCollision D cy [.ref o] (RW_X12_findCollision cy o d letters_ tests_ inputLength_ at_ signed_ newParts_ machineParts_ firstParts_ firstTruth_ secondTruth_ isPair_ states_ stateClasses_ elements_ cursor_ hasSnapshot_ isSaving_ wordLength_ word_ prefixes_ signatures_ held_) (RO_X12_findCollision cy o d kind_ bound_ patternLength_ pattern_) (RW_X12_findCollision cy o d letters_ tests_ inputLength_ at_ out.2.1 newParts_ machineParts_ firstParts_ firstTruth_ secondTruth_ isPair_ states_ stateClasses_ elements_ cursor_ hasSnapshot_ isSaving_ out.2.2.1 out.2.2.2.1 out.2.2.2.2.1 out.2.2.2.2.2.1 out.2.2.2.2.2.2) out.1 :=
  mk_i (ty := .int) (by decide) rfl rfl (Nat.le_of_ble_eq_true rfl) (fun p e s m args below meth c A Q X K H locs ls Z hl => wt_X12_findCollision o d kind_ bound_ patternLength_ pattern_ letters_ tests_ inputLength_ at_ signed_ newParts_ machineParts_ firstParts_ firstTruth_ secondTruth_ isPair_ states_ stateClasses_ elements_ cursor_ hasSnapshot_ isSaving_ wordLength_ word_ prefixes_ signatures_ held_ out X h K H locs ls Z hl)
/-! SubwordCounterModel isLanguage (I)Z -/
abbrev rm_X12_isLanguage : Room := { frames := 1, cells := 0, slots := 0, locals := 22 }
def RW_X12_isLanguage (cy : Nat → ClassId)   : va_W := []
def RO_X12_isLanguage (cy : Nat → ClassId)   : va_W := []
def f_X12_isLanguage (x0 : Int32)  : Option (Int32) :=
  (f_X12_isBetween x0 (0 : Int32) (3 : Int32)).bind (fun u1 =>
  bitZ u1 (some u1))
set_option maxHeartbeats 4000000 in
set_option maxRecDepth 100000 in
theorem wt_X12_isLanguage {p : Program} {l : Launch} {e : Env} {s : State} {m : MethodId} {args : Array Value} {below : List Frame} {meth : Method} {c : Code} {A : Nat → Prop} {Q : State → Prop} {D : va_G} {cy : Nat → ClassId}    (x0 : Int32) (out : Int32) (X : Cx p m c cX12_isLanguage 1 s args wsX12_isLanguage RX12 A D cy (RO_X12_isLanguage cy )) (h : f_X12_isLanguage x0 = some out) (K : ∀ (H : Heap) (locs : List Loc) (ls : Array Slot) (pc : Nat), decode cX12_isLanguage pc = .ok (.ireturn, 1) → (out = 0 ∨ out = 1) → St A D s (RW_X12_isLanguage cy ) H locs → W p l e rm_X12_isLanguage s m args below meth c H locs 0 0 Q (F0 m pc ls [.int out])) : ∀ (H : Heap) (locs : List Loc) (ls : Array Slot), St A D s (RW_X12_isLanguage cy ) H locs → lv_has ls 1 [(0, .int x0)] → W p l e rm_X12_isLanguage s m args below meth c H locs 0 0 Q (F0 m 0 ls []) := by
  intro H locs ls Z hl
  have hx := X.1.1
  have hb := X.1.2.1
  unfold f_X12_isLanguage at h
  refine lv_iload_n hx hb dX12_isLanguage_0 rfl (lv_at hl 0 rfl) ?_
  refine lv_iconst (v := (0 : Int32)) hx hb dX12_isLanguage_1 (by decide) ?_
  refine lv_iconst (v := (3 : Int32)) hx hb dX12_isLanguage_2 (by decide) ?_
  obtain ⟨u1, hc2, h⟩ := ob_some h
  refine x_runSi (RW' := (RW_X12_isLanguage cy )) (wr := []) (isC := []) (isR := []) (isF := []) (rest := []) (As := [.int x0, .int (0 : Int32), .int (3 : Int32)]) (n := 3) X Z (c_X12_isBetween l D cy x0 (0 : Int32) (3 : Int32) u1 hc2) gX12_isLanguage_X12_isBetween rfl (by decide +kernel) ⟨Nat.le_of_ble_eq_true rfl, Nat.le_of_ble_eq_true rfl⟩ ⟨rfl, rfl⟩ ⟨Nat.le_of_ble_eq_true rfl, Nat.le_of_ble_eq_true rfl⟩ ⟨rfl, rfl, roN, rfl, rfl, by decide⟩ ⟨rfl, rfl⟩ rfl hl.1 rfl (Nat.le_of_ble_eq_true rfl) dX12_isLanguage_3 (fun H locs Z => ?_)
  obtain ⟨hz3, h⟩ := bz_b h
  obtain rfl := Option.some.inj h
  exact K H locs ls _ dX12_isLanguage_6 hz3 Z
theorem c_X12_isLanguage (l : Launch) (D : va_G) (cy : Nat → ClassId)    (x0 : Int32) (out : Int32) (h : f_X12_isLanguage x0 = some out) : CtI l yX12_isLanguage wsX12_isLanguage rm_X12_isLanguage D cy [.int x0] (RW_X12_isLanguage cy ) (RO_X12_isLanguage cy ) (RW_X12_isLanguage cy ) out :=
  mk_z (by decide) rfl (Nat.le_of_ble_eq_true rfl) (fun p e s m args below meth c A Q X K H locs ls Z hl => wt_X12_isLanguage  x0 out X h K H locs ls Z hl)
/-! SubwordCounterModel setBasic (III)I -/
abbrev rm_X12_setBasic : Room := { frames := 2, cells := 0, slots := 0, locals := 43 }
def RW_X12_setBasic (cy : Nat → ClassId) (o : Nat) (d : Nat → Nat) (form_ : Nat → Int32) (parts_ : Nat → Int32) (truth_ : Nat → Int32) (partKind_ : Nat → Int32) (partBound_ : Nat → Int32) (partLength_ : Nat → Int32) (partValue_ : Nat → Int32) (partPattern_ : Nat → Int32) : va_W := [((d 16), aI cy 4 form_), ((d 17), aI cy 4 parts_), ((d 18), aI cy 4 truth_), ((d 19), aI cy 16 partKind_), ((d 20), aI cy 16 partBound_), ((d 21), aI cy 16 partLength_), ((d 22), aI cy 16 partValue_), ((d 23), aI cy 64 partPattern_)]
def RO_X12_setBasic (cy : Nat → ClassId) (o : Nat) (d : Nat → Nat) (letters_ : Int32) (tests_ : Int32) (inputLength_ : Int32) (at_ : Int32) (signed_ : Int32) (newParts_ : Int32) (machineParts_ : Int32) (firstParts_ : Int32) (firstTruth_ : Int32) (secondTruth_ : Int32) (isPair_ : Int32) (states_ : Int32) (stateClasses_ : Int32) (elements_ : Int32) (cursor_ : Int32) (hasSnapshot_ : Int32) (isSaving_ : Int32) (kind_ : Nat → Int32) (bound_ : Nat → Int32) (patternLength_ : Nat → Int32) (pattern_ : Nat → Int32) : va_W := [(o, ob 11 (oX12 d letters_ tests_ inputLength_ at_ signed_ newParts_ machineParts_ firstParts_ firstTruth_ secondTruth_ isPair_ states_ stateClasses_ elements_ cursor_ hasSnapshot_ isSaving_)), ((d 5), aI cy 6 kind_), ((d 6), aI cy 6 bound_), ((d 7), aI cy 6 patternLength_), ((d 8), aI cy 24 pattern_)]
theorem in_X12_setBasic_X12 : ∀ w ∈ u_ws RX12 TX12 68, w ∈ wsX12_setBasic := fun w h => (List.mem_cons_of_mem _ (List.mem_append_right _ h))
theorem lk_X12_setBasic_X12_partPattern : Lk wsX12_setBasic RX12 68 11 23 := ⟨RX12, TX12, 68, rfl, by decide, in_X12_setBasic_X12, mem_at 11 rfl⟩
theorem lk_X12_setBasic_X12_pattern : Lk wsX12_setBasic RX12 35 11 8 := ⟨RX12, TX12, 68, rfl, by decide, in_X12_setBasic_X12, mem_at 12 rfl⟩
theorem lk_X12_setBasic_X12_form : Lk wsX12_setBasic RX12 47 11 16 := ⟨RX12, TX12, 68, rfl, by decide, in_X12_setBasic_X12, mem_at 1 rfl⟩
theorem lk_X12_setBasic_X12_parts : Lk wsX12_setBasic RX12 50 11 17 := ⟨RX12, TX12, 68, rfl, by decide, in_X12_setBasic_X12, mem_at 2 rfl⟩
theorem lk_X12_setBasic_X12_truth : Lk wsX12_setBasic RX12 53 11 18 := ⟨RX12, TX12, 68, rfl, by decide, in_X12_setBasic_X12, mem_at 3 rfl⟩
theorem lk_X12_setBasic_X12_partKind : Lk wsX12_setBasic RX12 56 11 19 := ⟨RX12, TX12, 68, rfl, by decide, in_X12_setBasic_X12, mem_at 4 rfl⟩
theorem lk_X12_setBasic_X12_kind : Lk wsX12_setBasic RX12 26 11 5 := ⟨RX12, TX12, 68, rfl, by decide, in_X12_setBasic_X12, mem_at 5 rfl⟩
theorem lk_X12_setBasic_X12_partBound : Lk wsX12_setBasic RX12 59 11 20 := ⟨RX12, TX12, 68, rfl, by decide, in_X12_setBasic_X12, mem_at 6 rfl⟩
theorem lk_X12_setBasic_X12_bound : Lk wsX12_setBasic RX12 29 11 6 := ⟨RX12, TX12, 68, rfl, by decide, in_X12_setBasic_X12, mem_at 7 rfl⟩
theorem lk_X12_setBasic_X12_partLength : Lk wsX12_setBasic RX12 62 11 21 := ⟨RX12, TX12, 68, rfl, by decide, in_X12_setBasic_X12, mem_at 8 rfl⟩
theorem lk_X12_setBasic_X12_patternLength : Lk wsX12_setBasic RX12 32 11 7 := ⟨RX12, TX12, 68, rfl, by decide, in_X12_setBasic_X12, mem_at 9 rfl⟩
theorem lk_X12_setBasic_X12_partValue : Lk wsX12_setBasic RX12 65 11 22 := ⟨RX12, TX12, 68, rfl, by decide, in_X12_setBasic_X12, mem_at 10 rfl⟩
def b_X12_setBasic_108 (pattern_ : Nat → Int32) (x2 : Int32) (x4 : Int32) (partPattern_ : Nat → Int32) (x5 : Int32) : Option (((Nat → Int32) × Int32) ⊕ ((Nat → Int32))) :=
  if (4 : Int32) ≤ x5 then
  (some (.inr partPattern_))
  else
  (ldA pattern_ 24 (((4 : Int32) * x2) + x5) (fun v2 =>
  stA partPattern_ 64 (((4 : Int32) * x4) + x5) v2 (fun partPattern_5 =>
  some (.inl (partPattern_5, (x5 + (1 : Int32)))))))
set_option maxHeartbeats 4000000 in
set_option maxRecDepth 100000 in
theorem wb_X12_setBasic_108 {p : Program} {l : Launch} {e : Env} {s : State} {m : MethodId} {args : Array Value} {below : List Frame} {meth : Method} {c : Code} {A : Nat → Prop} {Q : State → Prop} {D : va_G} {cy : Nat → ClassId} (o : Nat) (d : Nat → Nat) (letters_ : Int32) (tests_ : Int32) (inputLength_ : Int32) (at_ : Int32) (signed_ : Int32) (newParts_ : Int32) (machineParts_ : Int32) (firstParts_ : Int32) (firstTruth_ : Int32) (secondTruth_ : Int32) (isPair_ : Int32) (states_ : Int32) (stateClasses_ : Int32) (elements_ : Int32) (cursor_ : Int32) (hasSnapshot_ : Int32) (isSaving_ : Int32) (kind_ : Nat → Int32) (bound_ : Nat → Int32) (patternLength_ : Nat → Int32) (pattern_ : Nat → Int32) (form_ : Nat → Int32) (parts_ : Nat → Int32) (truth_ : Nat → Int32) (partKind_ : Nat → Int32) (partBound_ : Nat → Int32) (partLength_ : Nat → Int32) (partValue_ : Nat → Int32) (x2 : Int32) (x4 : Int32) (partPattern_ : Nat → Int32) (x5 : Int32) (o1 : ((Nat → Int32) × Int32) ⊕ ((Nat → Int32))) (X : Cx p m c cX12_setBasic 6 s args wsX12_setBasic RX12 A D cy (RO_X12_setBasic cy o d letters_ tests_ inputLength_ at_ signed_ newParts_ machineParts_ firstParts_ firstTruth_ secondTruth_ isPair_ states_ stateClasses_ elements_ cursor_ hasSnapshot_ isSaving_ kind_ bound_ patternLength_ pattern_)) (h : b_X12_setBasic_108 pattern_ x2 x4 partPattern_ x5 = some o1) (K : Sum.elim (fun v : (Nat → Int32) × Int32 => ∀ (H : Heap) (locs : List Loc) (ls : Array Slot), St A D s (RW_X12_setBasic cy o d form_ parts_ truth_ partKind_ partBound_ partLength_ partValue_ v.1) H locs → lv_has ls 6 [(0, .ref o), (2, .int x2), (4, .int x4), (5, .int v.2)] → W p l e rm_X12_setBasic s m args below meth c H locs 0 0 Q (F0 m 108 ls [])) (fun v : (Nat → Int32) => ∀ (H : Heap) (locs : List Loc) (ls : Array Slot), St A D s (RW_X12_setBasic cy o d form_ parts_ truth_ partKind_ partBound_ partLength_ partValue_ v) H locs → lv_has ls 6 [] → W p l e rm_X12_setBasic s m args below meth c H locs 0 0 Q (F0 m 143 ls [])) o1) : ∀ (H : Heap) (locs : List Loc) (ls : Array Slot), St A D s (RW_X12_setBasic cy o d form_ parts_ truth_ partKind_ partBound_ partLength_ partValue_ partPattern_) H locs → lv_has ls 6 [(0, .ref o), (2, .int x2), (4, .int x4), (5, .int x5)] → W p l e rm_X12_setBasic s m args below meth c H locs 0 0 Q (F0 m 108 ls []) := by
  intro H locs ls Z hl
  have hx := X.1.1
  have hb := X.1.2.1
  unfold b_X12_setBasic_108 at h
  refine lv_iload hx hb dX12_setBasic_108 (lv_at hl 3 rfl) ?_
  refine lv_iconst (v := (4 : Int32)) hx hb dX12_setBasic_110 (by decide) ?_
  refine lv_icmp_ge (tgt := 143) hx hb dX12_setBasic_111 (by decide) (fun cnd => ?_) (fun cnd => ?_)
  · replace h := ifp h cnd
    obtain rfl := Option.some.inj h
    exact (sk_r K) H locs ls Z (lv_sub hl [] rfl)
  · replace h := ifn h cnd
    refine lv_aload_n hx hb dX12_setBasic_114 rfl (lv_at hl 0 rfl) ?_
    refine x_getO X Z 0 23 (v := .ref (d 23)) rfl rfl lk_X12_setBasic_X12_partPattern dX12_setBasic_115 ?_
    refine lv_iconst (v := (4 : Int32)) hx hb dX12_setBasic_118 (by decide) ?_
    refine lv_iload hx hb dX12_setBasic_119 (lv_at hl 2 rfl) ?_
    refine lv_imul hx hb dX12_setBasic_121 ?_
    refine lv_iload hx hb dX12_setBasic_122 (lv_at hl 3 rfl) ?_
    refine lv_iadd hx hb dX12_setBasic_124 ?_
    refine lv_aload_n hx hb dX12_setBasic_125 rfl (lv_at hl 0 rfl) ?_
    refine x_getO X Z 0 8 (v := .ref (d 8)) rfl rfl lk_X12_setBasic_X12_pattern dX12_setBasic_126 ?_
    refine lv_iconst (v := (4 : Int32)) hx hb dX12_setBasic_129 (by decide) ?_
    refine lv_iload_n hx hb dX12_setBasic_130 rfl (lv_at hl 1 rfl) ?_
    refine lv_imul hx hb dX12_setBasic_131 ?_
    refine lv_iload hx hb dX12_setBasic_132 (lv_at hl 3 rfl) ?_
    refine lv_iadd hx hb dX12_setBasic_134 ?_
    obtain ⟨hin1, v2, hv3, h⟩ := ld_b h
    refine x_ialdO X Z 4 rfl hin1 hv3 dX12_setBasic_135 ?_
    obtain ⟨hin4, partPattern_5, hv6, h⟩ := st_b h
    refine x_iast X Z 7 (RW_X12_setBasic cy o d form_ parts_ truth_ partKind_ partBound_ partLength_ partValue_ partPattern_5) rfl hin4 hv6 rfl dX12_setBasic_136 (fun H locs Z => ?_)
    refine lv_iinc (v := (x5 + (1 : Int32))) (lv' := [(5, .int (x5 + (1 : Int32))), (0, .ref o), (2, .int x2), (4, .int x4)]) hx hb dX12_setBasic_137 hl (k := 3) rfl rfl (by decide) rfl (fun ls hl => ?_)
    refine lv_goto (tgt := 108) hx hb dX12_setBasic_140 (by decide) ?_
    obtain rfl := Option.some.inj h
    exact sk_l K H locs ls Z (lv_sub hl [1, 2, 3, 0] rfl)
set_option maxHeartbeats 4000000 in
set_option maxRecDepth 100000 in
theorem wl_X12_setBasic_108 {p : Program} {l : Launch} {e : Env} {s : State} {m : MethodId} {args : Array Value} {below : List Frame} {meth : Method} {c : Code} {A : Nat → Prop} {Q : State → Prop} {D : va_G} {cy : Nat → ClassId} (o : Nat) (d : Nat → Nat) (letters_ : Int32) (tests_ : Int32) (inputLength_ : Int32) (at_ : Int32) (signed_ : Int32) (newParts_ : Int32) (machineParts_ : Int32) (firstParts_ : Int32) (firstTruth_ : Int32) (secondTruth_ : Int32) (isPair_ : Int32) (states_ : Int32) (stateClasses_ : Int32) (elements_ : Int32) (cursor_ : Int32) (hasSnapshot_ : Int32) (isSaving_ : Int32) (kind_ : Nat → Int32) (bound_ : Nat → Int32) (patternLength_ : Nat → Int32) (pattern_ : Nat → Int32) (form_ : Nat → Int32) (parts_ : Nat → Int32) (truth_ : Nat → Int32) (partKind_ : Nat → Int32) (partBound_ : Nat → Int32) (partLength_ : Nat → Int32) (partValue_ : Nat → Int32) (x2 : Int32) (x4 : Int32) (n : Nat) (v : (Nat → Int32) × Int32) (x : (Nat → Int32)) (X : Cx p m c cX12_setBasic 6 s args wsX12_setBasic RX12 A D cy (RO_X12_setBasic cy o d letters_ tests_ inputLength_ at_ signed_ newParts_ machineParts_ firstParts_ firstTruth_ secondTruth_ isPair_ states_ stateClasses_ elements_ cursor_ hasSnapshot_ isSaving_ kind_ bound_ patternLength_ pattern_)) (h : loopN (fun v => b_X12_setBasic_108 pattern_ x2 x4 v.1 v.2) n v = some x) (K : ∀ (H : Heap) (locs : List Loc) (ls : Array Slot), St A D s (RW_X12_setBasic cy o d form_ parts_ truth_ partKind_ partBound_ partLength_ partValue_ x) H locs → lv_has ls 6 [] → W p l e rm_X12_setBasic s m args below meth c H locs 0 0 Q (F0 m 143 ls [])) : ∀ (H : Heap) (locs : List Loc) (ls : Array Slot), St A D s (RW_X12_setBasic cy o d form_ parts_ truth_ partKind_ partBound_ partLength_ partValue_ v.1) H locs → lv_has ls 6 [(0, .ref o), (2, .int x2), (4, .int x4), (5, .int v.2)] → W p l e rm_X12_setBasic s m args below meth c H locs 0 0 Q (F0 m 108 ls []) :=
  loop_gen (B := (fun v => b_X12_setBasic_108 pattern_ x2 x4 v.1 v.2)) (Head := fun v : (Nat → Int32) × Int32 => ∀ (H : Heap) (locs : List Loc) (ls : Array Slot), St A D s (RW_X12_setBasic cy o d form_ parts_ truth_ partKind_ partBound_ partLength_ partValue_ v.1) H locs → lv_has ls 6 [(0, .ref o), (2, .int x2), (4, .int x4), (5, .int v.2)] → W p l e rm_X12_setBasic s m args below meth c H locs 0 0 Q (F0 m 108 ls [])) (Exit := fun v : (Nat → Int32) => ∀ (H : Heap) (locs : List Loc) (ls : Array Slot), St A D s (RW_X12_setBasic cy o d form_ parts_ truth_ partKind_ partBound_ partLength_ partValue_ v) H locs → lv_has ls 6 [] → W p l e rm_X12_setBasic s m args below meth c H locs 0 0 Q (F0 m 143 ls [])) (fun v o9 hb1 K1 => wb_X12_setBasic_108 o d letters_ tests_ inputLength_ at_ signed_ newParts_ machineParts_ firstParts_ firstTruth_ secondTruth_ isPair_ states_ stateClasses_ elements_ cursor_ hasSnapshot_ isSaving_ kind_ bound_ patternLength_ pattern_ form_ parts_ truth_ partKind_ partBound_ partLength_ partValue_ x2 x4 v.1 v.2 o9 X hb1 K1) n v x h K
def f_X12_setBasic (x1 : Int32) (x2 : Int32) (x3 : Int32) (tests_ : Int32) (kind_ : Nat → Int32) (bound_ : Nat → Int32) (patternLength_ : Nat → Int32) (pattern_ : Nat → Int32) (form_ : Nat → Int32) (parts_ : Nat → Int32) (truth_ : Nat → Int32) (partKind_ : Nat → Int32) (partBound_ : Nat → Int32) (partLength_ : Nat → Int32) (partValue_ : Nat → Int32) (partPattern_ : Nat → Int32) : Option (Int32 × (Nat → Int32) × (Nat → Int32) × (Nat → Int32) × (Nat → Int32) × (Nat → Int32) × (Nat → Int32) × (Nat → Int32) × (Nat → Int32)) :=
  (f_X12_isLanguage x1).bind (fun u7 =>
  if u7 = 0 then
  (some ((-1 : Int32), form_, parts_, truth_, partKind_, partBound_, partLength_, partValue_, partPattern_))
  else
  ((f_X12_isTest x2 tests_).bind (fun u9 =>
  if u9 = 0 then
  (some ((-1 : Int32), form_, parts_, truth_, partKind_, partBound_, partLength_, partValue_, partPattern_))
  else
  ((f_X12_rangeOf x2 kind_ bound_).bind (fun u11 =>
  (f_X12_isBetween x3 (0 : Int32) (u11 - (1 : Int32))).bind (fun u13 =>
  if u13 = 0 then
  (some ((-1 : Int32), form_, parts_, truth_, partKind_, partBound_, partLength_, partValue_, partPattern_))
  else
  (stA form_ 4 x1 (0 : Int32) (fun form_16 =>
  stA parts_ 4 x1 (1 : Int32) (fun parts_19 =>
  stA truth_ 4 x1 (2 : Int32) (fun truth_22 =>
  ldA kind_ 6 x2 (fun v25 =>
  stA partKind_ 16 ((4 : Int32) * x1) v25 (fun partKind_28 =>
  ldA bound_ 6 x2 (fun v31 =>
  stA partBound_ 16 ((4 : Int32) * x1) v31 (fun partBound_34 =>
  ldA patternLength_ 6 x2 (fun v37 =>
  stA partLength_ 16 ((4 : Int32) * x1) v37 (fun partLength_40 =>
  stA partValue_ 16 ((4 : Int32) * x1) x3 (fun partValue_43 =>
  (loopN (fun v => b_X12_setBasic_108 pattern_ x2 ((4 : Int32) * x1) v.1 v.2) FU (partPattern_, (0 : Int32))).bind (fun u45 =>
  some ((1 : Int32), form_16, parts_19, truth_22, partKind_28, partBound_34, partLength_40, partValue_43, u45)))))))))))))))))))
set_option maxHeartbeats 4000000 in
set_option maxRecDepth 100000 in
theorem wt_X12_setBasic {p : Program} {l : Launch} {e : Env} {s : State} {m : MethodId} {args : Array Value} {below : List Frame} {meth : Method} {c : Code} {A : Nat → Prop} {Q : State → Prop} {D : va_G} {cy : Nat → ClassId} (o : Nat) (d : Nat → Nat) (letters_ : Int32) (tests_ : Int32) (inputLength_ : Int32) (at_ : Int32) (signed_ : Int32) (newParts_ : Int32) (machineParts_ : Int32) (firstParts_ : Int32) (firstTruth_ : Int32) (secondTruth_ : Int32) (isPair_ : Int32) (states_ : Int32) (stateClasses_ : Int32) (elements_ : Int32) (cursor_ : Int32) (hasSnapshot_ : Int32) (isSaving_ : Int32) (kind_ : Nat → Int32) (bound_ : Nat → Int32) (patternLength_ : Nat → Int32) (pattern_ : Nat → Int32) (form_ : Nat → Int32) (parts_ : Nat → Int32) (truth_ : Nat → Int32) (partKind_ : Nat → Int32) (partBound_ : Nat → Int32) (partLength_ : Nat → Int32) (partValue_ : Nat → Int32) (partPattern_ : Nat → Int32) (x1 : Int32) (x2 : Int32) (x3 : Int32) (out : Int32 × (Nat → Int32) × (Nat → Int32) × (Nat → Int32) × (Nat → Int32) × (Nat → Int32) × (Nat → Int32) × (Nat → Int32) × (Nat → Int32)) (X : Cx p m c cX12_setBasic 6 s args wsX12_setBasic RX12 A D cy (RO_X12_setBasic cy o d letters_ tests_ inputLength_ at_ signed_ newParts_ machineParts_ firstParts_ firstTruth_ secondTruth_ isPair_ states_ stateClasses_ elements_ cursor_ hasSnapshot_ isSaving_ kind_ bound_ patternLength_ pattern_)) (h : f_X12_setBasic x1 x2 x3 tests_ kind_ bound_ patternLength_ pattern_ form_ parts_ truth_ partKind_ partBound_ partLength_ partValue_ partPattern_ = some out) (K : ∀ (H : Heap) (locs : List Loc) (ls : Array Slot) (pc : Nat), decode cX12_setBasic pc = .ok (.ireturn, 1) → St A D s (RW_X12_setBasic cy o d out.2.1 out.2.2.1 out.2.2.2.1 out.2.2.2.2.1 out.2.2.2.2.2.1 out.2.2.2.2.2.2.1 out.2.2.2.2.2.2.2.1 out.2.2.2.2.2.2.2.2) H locs → W p l e rm_X12_setBasic s m args below meth c H locs 0 0 Q (F0 m pc ls [.int out.1])) : ∀ (H : Heap) (locs : List Loc) (ls : Array Slot), St A D s (RW_X12_setBasic cy o d form_ parts_ truth_ partKind_ partBound_ partLength_ partValue_ partPattern_) H locs → lv_has ls 6 [(0, .ref o), (1, .int x1), (2, .int x2), (3, .int x3)] → W p l e rm_X12_setBasic s m args below meth c H locs 0 0 Q (F0 m 0 ls []) := by
  intro H locs ls Z hl
  have hx := X.1.1
  have hb := X.1.2.1
  unfold f_X12_setBasic at h
  refine lv_iload_n hx hb dX12_setBasic_0 rfl (lv_at hl 1 rfl) ?_
  obtain ⟨u7, hc8, h⟩ := ob_some h
  refine x_runSi (RW' := (RW_X12_setBasic cy o d form_ parts_ truth_ partKind_ partBound_ partLength_ partValue_ partPattern_)) (wr := [((d 16), aI cy 4 form_), ((d 17), aI cy 4 parts_), ((d 18), aI cy 4 truth_), ((d 19), aI cy 16 partKind_), ((d 20), aI cy 16 partBound_), ((d 21), aI cy 16 partLength_), ((d 22), aI cy 16 partValue_), ((d 23), aI cy 64 partPattern_)]) (isC := []) (isR := [0, 1, 2, 3, 4, 5, 6, 7]) (isF := [0, 1, 2, 3, 4, 5, 6, 7]) (rest := []) (As := [.int x1]) (n := 1) X Z (c_X12_isLanguage l D cy x1 u7 hc8) gX12_setBasic_X12_isLanguage rfl (by decide +kernel) ⟨Nat.le_of_ble_eq_true rfl, Nat.le_of_ble_eq_true rfl⟩ ⟨rfl, rfl⟩ ⟨Nat.le_of_ble_eq_true rfl, Nat.le_of_ble_eq_true rfl⟩ ⟨rfl, rfl, roN, rfl, rfl, by decide⟩ ⟨rfl, rfl⟩ rfl hl.1 rfl (Nat.le_of_ble_eq_true rfl) dX12_setBasic_1 (fun H locs Z => ?_)
  refine lv_if_eq (tgt := 30) hx hb dX12_setBasic_4 (by decide) (fun cnd => ?_) (fun cnd => ?_)
  · replace h := ifp h cnd
    refine lv_iconst (v := (-1 : Int32)) hx hb dX12_setBasic_30 (by decide) ?_
    obtain rfl := Option.some.inj h
    exact K H locs ls _ dX12_setBasic_31 Z
  · replace h := ifn h cnd
    refine lv_aload_n hx hb dX12_setBasic_7 rfl (lv_at hl 0 rfl) ?_
    refine lv_iload_n hx hb dX12_setBasic_8 rfl (lv_at hl 2 rfl) ?_
    obtain ⟨u9, hc10, h⟩ := ob_some h
    refine x_runVi (RW' := (RW_X12_setBasic cy o d form_ parts_ truth_ partKind_ partBound_ partLength_ partValue_ partPattern_)) (wr := [((d 16), aI cy 4 form_), ((d 17), aI cy 4 parts_), ((d 18), aI cy 4 truth_), ((d 19), aI cy 16 partKind_), ((d 20), aI cy 16 partBound_), ((d 21), aI cy 16 partLength_), ((d 22), aI cy 16 partValue_), ((d 23), aI cy 64 partPattern_)]) (isC := []) (isR := [0, 1, 2, 3, 4, 5, 6, 7]) (isF := [0, 1, 2, 3, 4, 5, 6, 7]) (rest := []) (As := [.int x2]) (n := 1) X Z (c_X12_isTest l D cy o d letters_ tests_ inputLength_ at_ signed_ newParts_ machineParts_ firstParts_ firstTruth_ secondTruth_ isPair_ states_ stateClasses_ elements_ cursor_ hasSnapshot_ isSaving_ x2 u9 hc10) gX12_setBasic_X12_isTest rfl (by decide +kernel) ⟨Nat.le_of_ble_eq_true rfl, Nat.le_of_ble_eq_true rfl⟩ ⟨rfl, rfl⟩ ⟨Nat.le_of_ble_eq_true rfl, Nat.le_of_ble_eq_true rfl⟩ (x_rvO X Z 0 rfl rfl) ⟨rfl, rfl, (roC (Or.inr (mem_at 0 rfl)) roN), rfl, rfl, by decide⟩ ⟨rfl, rfl⟩ rfl hl.1 rfl (Nat.le_of_ble_eq_true rfl) dX12_setBasic_9 (fun H locs Z => ?_)
    refine lv_if_eq (tgt := 30) hx hb dX12_setBasic_12 (by decide) (fun cnd => ?_) (fun cnd => ?_)
    · replace h := ifp h cnd
      refine lv_iconst (v := (-1 : Int32)) hx hb dX12_setBasic_30 (by decide) ?_
      obtain rfl := Option.some.inj h
      exact K H locs ls _ dX12_setBasic_31 Z
    · replace h := ifn h cnd
      refine lv_iload_n hx hb dX12_setBasic_15 rfl (lv_at hl 3 rfl) ?_
      refine lv_iconst (v := (0 : Int32)) hx hb dX12_setBasic_16 (by decide) ?_
      refine lv_aload_n hx hb dX12_setBasic_17 rfl (lv_at hl 0 rfl) ?_
      refine lv_iload_n hx hb dX12_setBasic_18 rfl (lv_at hl 2 rfl) ?_
      obtain ⟨u11, hc12, h⟩ := ob_some h
      refine x_runVi (RW' := (RW_X12_setBasic cy o d form_ parts_ truth_ partKind_ partBound_ partLength_ partValue_ partPattern_)) (wr := [((d 16), aI cy 4 form_), ((d 17), aI cy 4 parts_), ((d 18), aI cy 4 truth_), ((d 19), aI cy 16 partKind_), ((d 20), aI cy 16 partBound_), ((d 21), aI cy 16 partLength_), ((d 22), aI cy 16 partValue_), ((d 23), aI cy 64 partPattern_)]) (isC := []) (isR := [0, 1, 2, 3, 4, 5, 6, 7]) (isF := [0, 1, 2, 3, 4, 5, 6, 7]) (rest := [.int (0 : Int32), .int x3]) (As := [.int x2]) (n := 1) X Z (c_X12_rangeOf l D cy o d letters_ tests_ inputLength_ at_ signed_ newParts_ machineParts_ firstParts_ firstTruth_ secondTruth_ isPair_ states_ stateClasses_ elements_ cursor_ hasSnapshot_ isSaving_ kind_ bound_ x2 u11 hc12) gX12_setBasic_X12_rangeOf rfl (by decide +kernel) ⟨Nat.le_of_ble_eq_true rfl, Nat.le_of_ble_eq_true rfl⟩ ⟨rfl, rfl⟩ ⟨Nat.le_of_ble_eq_true rfl, Nat.le_of_ble_eq_true rfl⟩ (x_rvO X Z 0 rfl rfl) ⟨rfl, rfl, (roC (Or.inr (mem_at 0 rfl)) (roC (Or.inr (mem_at 1 rfl)) (roC (Or.inr (mem_at 2 rfl)) roN))), rfl, rfl, by decide⟩ ⟨rfl, rfl⟩ rfl hl.1 rfl (Nat.le_of_ble_eq_true rfl) dX12_setBasic_19 (fun H locs Z => ?_)
      refine lv_iconst (v := (1 : Int32)) hx hb dX12_setBasic_22 (by decide) ?_
      refine lv_isub hx hb dX12_setBasic_23 ?_
      obtain ⟨u13, hc14, h⟩ := ob_some h
      refine x_runSi (RW' := (RW_X12_setBasic cy o d form_ parts_ truth_ partKind_ partBound_ partLength_ partValue_ partPattern_)) (wr := [((d 16), aI cy 4 form_), ((d 17), aI cy 4 parts_), ((d 18), aI cy 4 truth_), ((d 19), aI cy 16 partKind_), ((d 20), aI cy 16 partBound_), ((d 21), aI cy 16 partLength_), ((d 22), aI cy 16 partValue_), ((d 23), aI cy 64 partPattern_)]) (isC := []) (isR := [0, 1, 2, 3, 4, 5, 6, 7]) (isF := [0, 1, 2, 3, 4, 5, 6, 7]) (rest := []) (As := [.int x3, .int (0 : Int32), .int (u11 - (1 : Int32))]) (n := 3) X Z (c_X12_isBetween l D cy x3 (0 : Int32) (u11 - (1 : Int32)) u13 hc14) gX12_setBasic_X12_isBetween rfl (by decide +kernel) ⟨Nat.le_of_ble_eq_true rfl, Nat.le_of_ble_eq_true rfl⟩ ⟨rfl, rfl⟩ ⟨Nat.le_of_ble_eq_true rfl, Nat.le_of_ble_eq_true rfl⟩ ⟨rfl, rfl, roN, rfl, rfl, by decide⟩ ⟨rfl, rfl⟩ rfl hl.1 rfl (Nat.le_of_ble_eq_true rfl) dX12_setBasic_24 (fun H locs Z => ?_)
      refine lv_if_ne (tgt := 32) hx hb dX12_setBasic_27 (by decide) (fun cnd => ?_) (fun cnd => ?_)
      · replace h := ifn h cnd
        refine lv_iconst (v := (4 : Int32)) hx hb dX12_setBasic_32 (by decide) ?_
        refine lv_iload_n hx hb dX12_setBasic_33 rfl (lv_at hl 1 rfl) ?_
        refine lv_imul hx hb dX12_setBasic_34 ?_
        refine lv_istore (lv' := [(4, .int ((4 : Int32) * x1)), (0, .ref o), (1, .int x1), (2, .int x2), (3, .int x3)]) hx hb dX12_setBasic_35 hl (by decide) rfl (fun ls hl => ?_)
        refine lv_aload_n hx hb dX12_setBasic_37 rfl (lv_at hl 1 rfl) ?_
        refine x_getO X Z 0 16 (v := .ref (d 16)) rfl rfl lk_X12_setBasic_X12_form dX12_setBasic_38 ?_
        refine lv_iload_n hx hb dX12_setBasic_41 rfl (lv_at hl 2 rfl) ?_
        refine lv_iconst (v := (0 : Int32)) hx hb dX12_setBasic_42 (by decide) ?_
        obtain ⟨hin15, form_16, hv17, h⟩ := st_b h
        refine x_iast X Z 0 (RW_X12_setBasic cy o d form_16 parts_ truth_ partKind_ partBound_ partLength_ partValue_ partPattern_) rfl hin15 hv17 rfl dX12_setBasic_43 (fun H locs Z => ?_)
        refine lv_aload_n hx hb dX12_setBasic_44 rfl (lv_at hl 1 rfl) ?_
        refine x_getO X Z 0 17 (v := .ref (d 17)) rfl rfl lk_X12_setBasic_X12_parts dX12_setBasic_45 ?_
        refine lv_iload_n hx hb dX12_setBasic_48 rfl (lv_at hl 2 rfl) ?_
        refine lv_iconst (v := (1 : Int32)) hx hb dX12_setBasic_49 (by decide) ?_
        obtain ⟨hin18, parts_19, hv20, h⟩ := st_b h
        refine x_iast X Z 1 (RW_X12_setBasic cy o d form_16 parts_19 truth_ partKind_ partBound_ partLength_ partValue_ partPattern_) rfl hin18 hv20 rfl dX12_setBasic_50 (fun H locs Z => ?_)
        refine lv_aload_n hx hb dX12_setBasic_51 rfl (lv_at hl 1 rfl) ?_
        refine x_getO X Z 0 18 (v := .ref (d 18)) rfl rfl lk_X12_setBasic_X12_truth dX12_setBasic_52 ?_
        refine lv_iload_n hx hb dX12_setBasic_55 rfl (lv_at hl 2 rfl) ?_
        refine lv_iconst (v := (2 : Int32)) hx hb dX12_setBasic_56 (by decide) ?_
        obtain ⟨hin21, truth_22, hv23, h⟩ := st_b h
        refine x_iast X Z 2 (RW_X12_setBasic cy o d form_16 parts_19 truth_22 partKind_ partBound_ partLength_ partValue_ partPattern_) rfl hin21 hv23 rfl dX12_setBasic_57 (fun H locs Z => ?_)
        refine lv_aload_n hx hb dX12_setBasic_58 rfl (lv_at hl 1 rfl) ?_
        refine x_getO X Z 0 19 (v := .ref (d 19)) rfl rfl lk_X12_setBasic_X12_partKind dX12_setBasic_59 ?_
        refine lv_iload hx hb dX12_setBasic_62 (lv_at hl 0 rfl) ?_
        refine lv_aload_n hx hb dX12_setBasic_64 rfl (lv_at hl 1 rfl) ?_
        refine x_getO X Z 0 5 (v := .ref (d 5)) rfl rfl lk_X12_setBasic_X12_kind dX12_setBasic_65 ?_
        refine lv_iload_n hx hb dX12_setBasic_68 rfl (lv_at hl 3 rfl) ?_
        obtain ⟨hin24, v25, hv26, h⟩ := ld_b h
        refine x_ialdO X Z 1 rfl hin24 hv26 dX12_setBasic_69 ?_
        obtain ⟨hin27, partKind_28, hv29, h⟩ := st_b h
        refine x_iast X Z 3 (RW_X12_setBasic cy o d form_16 parts_19 truth_22 partKind_28 partBound_ partLength_ partValue_ partPattern_) rfl hin27 hv29 rfl dX12_setBasic_70 (fun H locs Z => ?_)
        refine lv_aload_n hx hb dX12_setBasic_71 rfl (lv_at hl 1 rfl) ?_
        refine x_getO X Z 0 20 (v := .ref (d 20)) rfl rfl lk_X12_setBasic_X12_partBound dX12_setBasic_72 ?_
        refine lv_iload hx hb dX12_setBasic_75 (lv_at hl 0 rfl) ?_
        refine lv_aload_n hx hb dX12_setBasic_77 rfl (lv_at hl 1 rfl) ?_
        refine x_getO X Z 0 6 (v := .ref (d 6)) rfl rfl lk_X12_setBasic_X12_bound dX12_setBasic_78 ?_
        refine lv_iload_n hx hb dX12_setBasic_81 rfl (lv_at hl 3 rfl) ?_
        obtain ⟨hin30, v31, hv32, h⟩ := ld_b h
        refine x_ialdO X Z 2 rfl hin30 hv32 dX12_setBasic_82 ?_
        obtain ⟨hin33, partBound_34, hv35, h⟩ := st_b h
        refine x_iast X Z 4 (RW_X12_setBasic cy o d form_16 parts_19 truth_22 partKind_28 partBound_34 partLength_ partValue_ partPattern_) rfl hin33 hv35 rfl dX12_setBasic_83 (fun H locs Z => ?_)
        refine lv_aload_n hx hb dX12_setBasic_84 rfl (lv_at hl 1 rfl) ?_
        refine x_getO X Z 0 21 (v := .ref (d 21)) rfl rfl lk_X12_setBasic_X12_partLength dX12_setBasic_85 ?_
        refine lv_iload hx hb dX12_setBasic_88 (lv_at hl 0 rfl) ?_
        refine lv_aload_n hx hb dX12_setBasic_90 rfl (lv_at hl 1 rfl) ?_
        refine x_getO X Z 0 7 (v := .ref (d 7)) rfl rfl lk_X12_setBasic_X12_patternLength dX12_setBasic_91 ?_
        refine lv_iload_n hx hb dX12_setBasic_94 rfl (lv_at hl 3 rfl) ?_
        obtain ⟨hin36, v37, hv38, h⟩ := ld_b h
        refine x_ialdO X Z 3 rfl hin36 hv38 dX12_setBasic_95 ?_
        obtain ⟨hin39, partLength_40, hv41, h⟩ := st_b h
        refine x_iast X Z 5 (RW_X12_setBasic cy o d form_16 parts_19 truth_22 partKind_28 partBound_34 partLength_40 partValue_ partPattern_) rfl hin39 hv41 rfl dX12_setBasic_96 (fun H locs Z => ?_)
        refine lv_aload_n hx hb dX12_setBasic_97 rfl (lv_at hl 1 rfl) ?_
        refine x_getO X Z 0 22 (v := .ref (d 22)) rfl rfl lk_X12_setBasic_X12_partValue dX12_setBasic_98 ?_
        refine lv_iload hx hb dX12_setBasic_101 (lv_at hl 0 rfl) ?_
        refine lv_iload_n hx hb dX12_setBasic_103 rfl (lv_at hl 4 rfl) ?_
        obtain ⟨hin42, partValue_43, hv44, h⟩ := st_b h
        refine x_iast X Z 6 (RW_X12_setBasic cy o d form_16 parts_19 truth_22 partKind_28 partBound_34 partLength_40 partValue_43 partPattern_) rfl hin42 hv44 rfl dX12_setBasic_104 (fun H locs Z => ?_)
        refine lv_iconst (v := (0 : Int32)) hx hb dX12_setBasic_105 (by decide) ?_
        refine lv_istore (lv' := [(5, .int (0 : Int32)), (4, .int ((4 : Int32) * x1)), (0, .ref o), (1, .int x1), (2, .int x2), (3, .int x3)]) hx hb dX12_setBasic_106 hl (by decide) rfl (fun ls hl => ?_)
        obtain ⟨u45, hL46, h⟩ := ob_some h
        refine wl_X12_setBasic_108 o d letters_ tests_ inputLength_ at_ signed_ newParts_ machineParts_ firstParts_ firstTruth_ secondTruth_ isPair_ states_ stateClasses_ elements_ cursor_ hasSnapshot_ isSaving_ kind_ bound_ patternLength_ pattern_ form_16 parts_19 truth_22 partKind_28 partBound_34 partLength_40 partValue_43 x2 ((4 : Int32) * x1) FU (partPattern_, (0 : Int32)) u45 X hL46 (fun H locs ls Z hl => ?_) H locs ls Z (lv_sub hl [2, 4, 1, 0] rfl)
        refine lv_iconst (v := (1 : Int32)) hx hb dX12_setBasic_143 (by decide) ?_
        obtain rfl := Option.some.inj h
        exact K H locs ls _ dX12_setBasic_144 Z
      · replace h := ifp h cnd
        refine lv_iconst (v := (-1 : Int32)) hx hb dX12_setBasic_30 (by decide) ?_
        obtain rfl := Option.some.inj h
        exact K H locs ls _ dX12_setBasic_31 Z
theorem c_X12_setBasic (l : Launch) (D : va_G) (cy : Nat → ClassId) (o : Nat) (d : Nat → Nat) (letters_ : Int32) (tests_ : Int32) (inputLength_ : Int32) (at_ : Int32) (signed_ : Int32) (newParts_ : Int32) (machineParts_ : Int32) (firstParts_ : Int32) (firstTruth_ : Int32) (secondTruth_ : Int32) (isPair_ : Int32) (states_ : Int32) (stateClasses_ : Int32) (elements_ : Int32) (cursor_ : Int32) (hasSnapshot_ : Int32) (isSaving_ : Int32) (kind_ : Nat → Int32) (bound_ : Nat → Int32) (patternLength_ : Nat → Int32) (pattern_ : Nat → Int32) (form_ : Nat → Int32) (parts_ : Nat → Int32) (truth_ : Nat → Int32) (partKind_ : Nat → Int32) (partBound_ : Nat → Int32) (partLength_ : Nat → Int32) (partValue_ : Nat → Int32) (partPattern_ : Nat → Int32) (x1 : Int32) (x2 : Int32) (x3 : Int32) (out : Int32 × (Nat → Int32) × (Nat → Int32) × (Nat → Int32) × (Nat → Int32) × (Nat → Int32) × (Nat → Int32) × (Nat → Int32) × (Nat → Int32)) (h : f_X12_setBasic x1 x2 x3 tests_ kind_ bound_ patternLength_ pattern_ form_ parts_ truth_ partKind_ partBound_ partLength_ partValue_ partPattern_ = some out) : CtI l yX12_setBasic wsX12_setBasic rm_X12_setBasic D cy [.ref o, .int x1, .int x2, .int x3] (RW_X12_setBasic cy o d form_ parts_ truth_ partKind_ partBound_ partLength_ partValue_ partPattern_) (RO_X12_setBasic cy o d letters_ tests_ inputLength_ at_ signed_ newParts_ machineParts_ firstParts_ firstTruth_ secondTruth_ isPair_ states_ stateClasses_ elements_ cursor_ hasSnapshot_ isSaving_ kind_ bound_ patternLength_ pattern_) (RW_X12_setBasic cy o d out.2.1 out.2.2.1 out.2.2.2.1 out.2.2.2.2.1 out.2.2.2.2.2.1 out.2.2.2.2.2.2.1 out.2.2.2.2.2.2.2.1 out.2.2.2.2.2.2.2.2) out.1 :=
  mk_i (ty := .int) (by decide) rfl rfl (Nat.le_of_ble_eq_true rfl) (fun p e s m args below meth c A Q X K H locs ls Z hl => wt_X12_setBasic o d letters_ tests_ inputLength_ at_ signed_ newParts_ machineParts_ firstParts_ firstTruth_ secondTruth_ isPair_ states_ stateClasses_ elements_ cursor_ hasSnapshot_ isSaving_ kind_ bound_ patternLength_ pattern_ form_ parts_ truth_ partKind_ partBound_ partLength_ partValue_ partPattern_ x1 x2 x3 out X h K H locs ls Z hl)
/-! SubwordCounterModel addParts (I)V -/
abbrev rm_X12_addParts : Room := { frames := 0, cells := 0, slots := 0, locals := 0 }
def RW_X12_addParts (cy : Nat → ClassId) (o : Nat) (d : Nat → Nat) (letters_ : Int32) (tests_ : Int32) (inputLength_ : Int32) (at_ : Int32) (signed_ : Int32) (newParts_ : Int32) (machineParts_ : Int32) (firstParts_ : Int32) (firstTruth_ : Int32) (secondTruth_ : Int32) (isPair_ : Int32) (states_ : Int32) (stateClasses_ : Int32) (elements_ : Int32) (cursor_ : Int32) (hasSnapshot_ : Int32) (isSaving_ : Int32) (newKind_ : Nat → Int32) (newBound_ : Nat → Int32) (newLength_ : Nat → Int32) (newValue_ : Nat → Int32) (newPattern_ : Nat → Int32) : va_W := [(o, ob 11 (oX12 d letters_ tests_ inputLength_ at_ signed_ newParts_ machineParts_ firstParts_ firstTruth_ secondTruth_ isPair_ states_ stateClasses_ elements_ cursor_ hasSnapshot_ isSaving_)), ((d 24), aI cy 4 newKind_), ((d 25), aI cy 4 newBound_), ((d 26), aI cy 4 newLength_), ((d 27), aI cy 4 newValue_), ((d 28), aI cy 16 newPattern_)]
def RO_X12_addParts (cy : Nat → ClassId) (o : Nat) (d : Nat → Nat) (parts_ : Nat → Int32) (partKind_ : Nat → Int32) (partBound_ : Nat → Int32) (partLength_ : Nat → Int32) (partValue_ : Nat → Int32) (partPattern_ : Nat → Int32) : va_W := [((d 17), aI cy 4 parts_), ((d 19), aI cy 16 partKind_), ((d 20), aI cy 16 partBound_), ((d 21), aI cy 16 partLength_), ((d 22), aI cy 16 partValue_), ((d 23), aI cy 64 partPattern_)]
theorem in_X12_addParts_X12 : ∀ w ∈ u_ws RX12 TX12 68, w ∈ wsX12_addParts := fun w h => (List.mem_cons_of_mem _ (List.mem_append_right _ h))
theorem lk_X12_addParts_X12_newPattern : Lk wsX12_addParts RX12 83 11 28 := ⟨RX12, TX12, 68, rfl, by decide, in_X12_addParts_X12, mem_at 11 rfl⟩
theorem lk_X12_addParts_X12_newParts : Lk wsX12_addParts RX12 230 11 29 := ⟨RX12, TX12, 68, rfl, by decide, in_X12_addParts_X12, mem_at 3 rfl⟩
theorem lk_X12_addParts_X12_partPattern : Lk wsX12_addParts RX12 68 11 23 := ⟨RX12, TX12, 68, rfl, by decide, in_X12_addParts_X12, mem_at 12 rfl⟩
theorem lk_X12_addParts_X12_parts : Lk wsX12_addParts RX12 50 11 17 := ⟨RX12, TX12, 68, rfl, by decide, in_X12_addParts_X12, mem_at 1 rfl⟩
theorem lk_X12_addParts_X12_newKind : Lk wsX12_addParts RX12 71 11 24 := ⟨RX12, TX12, 68, rfl, by decide, in_X12_addParts_X12, mem_at 2 rfl⟩
theorem lk_X12_addParts_X12_partKind : Lk wsX12_addParts RX12 56 11 19 := ⟨RX12, TX12, 68, rfl, by decide, in_X12_addParts_X12, mem_at 4 rfl⟩
theorem lk_X12_addParts_X12_newBound : Lk wsX12_addParts RX12 74 11 25 := ⟨RX12, TX12, 68, rfl, by decide, in_X12_addParts_X12, mem_at 5 rfl⟩
theorem lk_X12_addParts_X12_partBound : Lk wsX12_addParts RX12 59 11 20 := ⟨RX12, TX12, 68, rfl, by decide, in_X12_addParts_X12, mem_at 6 rfl⟩
theorem lk_X12_addParts_X12_newLength : Lk wsX12_addParts RX12 77 11 26 := ⟨RX12, TX12, 68, rfl, by decide, in_X12_addParts_X12, mem_at 7 rfl⟩
theorem lk_X12_addParts_X12_partLength : Lk wsX12_addParts RX12 62 11 21 := ⟨RX12, TX12, 68, rfl, by decide, in_X12_addParts_X12, mem_at 8 rfl⟩
theorem lk_X12_addParts_X12_newValue : Lk wsX12_addParts RX12 80 11 27 := ⟨RX12, TX12, 68, rfl, by decide, in_X12_addParts_X12, mem_at 9 rfl⟩
theorem lk_X12_addParts_X12_partValue : Lk wsX12_addParts RX12 65 11 22 := ⟨RX12, TX12, 68, rfl, by decide, in_X12_addParts_X12, mem_at 10 rfl⟩
theorem lp_X12_addParts_X12_newParts : Lp wsX12_addParts RX12 230 11 29 .int := ⟨RX12, TX12, 68, tyX12, rfl, by decide, in_X12_addParts_X12, mem_at 3 rfl, tyX12_ok, nmX12, rfl, by decide +kernel⟩
def b_X12_addParts_81 (partPattern_ : Nat → Int32) (newParts_ : Int32) (x3 : Int32) (newPattern_ : Nat → Int32) (x4 : Int32) : Option (((Nat → Int32) × Int32) ⊕ ((Nat → Int32))) :=
  if (4 : Int32) ≤ x4 then
  (some (.inr newPattern_))
  else
  (ldA partPattern_ 64 (((4 : Int32) * x3) + x4) (fun v2 =>
  stA newPattern_ 16 (((4 : Int32) * newParts_) + x4) v2 (fun newPattern_5 =>
  some (.inl (newPattern_5, (x4 + (1 : Int32)))))))
set_option maxHeartbeats 4000000 in
set_option maxRecDepth 100000 in
theorem wb_X12_addParts_81 {p : Program} {l : Launch} {e : Env} {s : State} {m : MethodId} {args : Array Value} {below : List Frame} {meth : Method} {c : Code} {A : Nat → Prop} {Q : State → Prop} {D : va_G} {cy : Nat → ClassId} (o : Nat) (d : Nat → Nat) (parts_ : Nat → Int32) (partKind_ : Nat → Int32) (partBound_ : Nat → Int32) (partLength_ : Nat → Int32) (partValue_ : Nat → Int32) (partPattern_ : Nat → Int32) (letters_ : Int32) (tests_ : Int32) (inputLength_ : Int32) (at_ : Int32) (signed_ : Int32) (newParts_ : Int32) (machineParts_ : Int32) (firstParts_ : Int32) (firstTruth_ : Int32) (secondTruth_ : Int32) (isPair_ : Int32) (states_ : Int32) (stateClasses_ : Int32) (elements_ : Int32) (cursor_ : Int32) (hasSnapshot_ : Int32) (isSaving_ : Int32) (newKind_ : Nat → Int32) (newBound_ : Nat → Int32) (newLength_ : Nat → Int32) (newValue_ : Nat → Int32) (x1 : Int32) (x2 : Int32) (x3 : Int32) (newPattern_ : Nat → Int32) (x4 : Int32) (o1 : ((Nat → Int32) × Int32) ⊕ ((Nat → Int32))) (X : Cx p m c cX12_addParts 5 s args wsX12_addParts RX12 A D cy (RO_X12_addParts cy o d parts_ partKind_ partBound_ partLength_ partValue_ partPattern_)) (h : b_X12_addParts_81 partPattern_ newParts_ x3 newPattern_ x4 = some o1) (K : Sum.elim (fun v : (Nat → Int32) × Int32 => ∀ (H : Heap) (locs : List Loc) (ls : Array Slot), St A D s (RW_X12_addParts cy o d letters_ tests_ inputLength_ at_ signed_ newParts_ machineParts_ firstParts_ firstTruth_ secondTruth_ isPair_ states_ stateClasses_ elements_ cursor_ hasSnapshot_ isSaving_ newKind_ newBound_ newLength_ newValue_ v.1) H locs → lv_has ls 5 [(0, .ref o), (1, .int x1), (2, .int x2), (3, .int x3), (4, .int v.2)] → W p l e rm_X12_addParts s m args below meth c H locs 0 0 Q (F0 m 81 ls [])) (fun v : (Nat → Int32) => ∀ (H : Heap) (locs : List Loc) (ls : Array Slot), St A D s (RW_X12_addParts cy o d letters_ tests_ inputLength_ at_ signed_ newParts_ machineParts_ firstParts_ firstTruth_ secondTruth_ isPair_ states_ stateClasses_ elements_ cursor_ hasSnapshot_ isSaving_ newKind_ newBound_ newLength_ newValue_ v) H locs → lv_has ls 5 [(0, .ref o), (1, .int x1), (2, .int x2)] → W p l e rm_X12_addParts s m args below meth c H locs 0 0 Q (F0 m 118 ls [])) o1) : ∀ (H : Heap) (locs : List Loc) (ls : Array Slot), St A D s (RW_X12_addParts cy o d letters_ tests_ inputLength_ at_ signed_ newParts_ machineParts_ firstParts_ firstTruth_ secondTruth_ isPair_ states_ stateClasses_ elements_ cursor_ hasSnapshot_ isSaving_ newKind_ newBound_ newLength_ newValue_ newPattern_) H locs → lv_has ls 5 [(0, .ref o), (1, .int x1), (2, .int x2), (3, .int x3), (4, .int x4)] → W p l e rm_X12_addParts s m args below meth c H locs 0 0 Q (F0 m 81 ls []) := by
  intro H locs ls Z hl
  have hx := X.1.1
  have hb := X.1.2.1
  unfold b_X12_addParts_81 at h
  refine lv_iload hx hb dX12_addParts_81 (lv_at hl 4 rfl) ?_
  refine lv_iconst (v := (4 : Int32)) hx hb dX12_addParts_83 (by decide) ?_
  refine lv_icmp_ge (tgt := 118) hx hb dX12_addParts_84 (by decide) (fun cnd => ?_) (fun cnd => ?_)
  · replace h := ifp h cnd
    obtain rfl := Option.some.inj h
    exact (sk_r K) H locs ls Z (lv_sub hl [0, 1, 2] rfl)
  · replace h := ifn h cnd
    refine lv_aload_n hx hb dX12_addParts_87 rfl (lv_at hl 0 rfl) ?_
    refine x_get X Z 0 28 (v := .ref (d 28)) rfl rfl lk_X12_addParts_X12_newPattern dX12_addParts_88 ?_
    refine lv_iconst (v := (4 : Int32)) hx hb dX12_addParts_91 (by decide) ?_
    refine lv_aload_n hx hb dX12_addParts_92 rfl (lv_at hl 0 rfl) ?_
    refine x_get X Z 0 29 (v := .int newParts_) rfl rfl lk_X12_addParts_X12_newParts dX12_addParts_93 ?_
    refine lv_imul hx hb dX12_addParts_96 ?_
    refine lv_iload hx hb dX12_addParts_97 (lv_at hl 4 rfl) ?_
    refine lv_iadd hx hb dX12_addParts_99 ?_
    refine lv_aload_n hx hb dX12_addParts_100 rfl (lv_at hl 0 rfl) ?_
    refine x_get X Z 0 23 (v := .ref (d 23)) rfl rfl lk_X12_addParts_X12_partPattern dX12_addParts_101 ?_
    refine lv_iconst (v := (4 : Int32)) hx hb dX12_addParts_104 (by decide) ?_
    refine lv_iload_n hx hb dX12_addParts_105 rfl (lv_at hl 3 rfl) ?_
    refine lv_imul hx hb dX12_addParts_106 ?_
    refine lv_iload hx hb dX12_addParts_107 (lv_at hl 4 rfl) ?_
    refine lv_iadd hx hb dX12_addParts_109 ?_
    obtain ⟨hin1, v2, hv3, h⟩ := ld_b h
    refine x_ialdO X Z 5 rfl hin1 hv3 dX12_addParts_110 ?_
    obtain ⟨hin4, newPattern_5, hv6, h⟩ := st_b h
    refine x_iast X Z 5 (RW_X12_addParts cy o d letters_ tests_ inputLength_ at_ signed_ newParts_ machineParts_ firstParts_ firstTruth_ secondTruth_ isPair_ states_ stateClasses_ elements_ cursor_ hasSnapshot_ isSaving_ newKind_ newBound_ newLength_ newValue_ newPattern_5) rfl hin4 hv6 rfl dX12_addParts_111 (fun H locs Z => ?_)
    refine lv_iinc (v := (x4 + (1 : Int32))) (lv' := [(4, .int (x4 + (1 : Int32))), (0, .ref o), (1, .int x1), (2, .int x2), (3, .int x3)]) hx hb dX12_addParts_112 hl (k := 4) rfl rfl (by decide) rfl (fun ls hl => ?_)
    refine lv_goto (tgt := 81) hx hb dX12_addParts_115 (by decide) ?_
    obtain rfl := Option.some.inj h
    exact sk_l K H locs ls Z (lv_sub hl [1, 2, 3, 4, 0] rfl)
set_option maxHeartbeats 4000000 in
set_option maxRecDepth 100000 in
theorem wl_X12_addParts_81 {p : Program} {l : Launch} {e : Env} {s : State} {m : MethodId} {args : Array Value} {below : List Frame} {meth : Method} {c : Code} {A : Nat → Prop} {Q : State → Prop} {D : va_G} {cy : Nat → ClassId} (o : Nat) (d : Nat → Nat) (parts_ : Nat → Int32) (partKind_ : Nat → Int32) (partBound_ : Nat → Int32) (partLength_ : Nat → Int32) (partValue_ : Nat → Int32) (partPattern_ : Nat → Int32) (letters_ : Int32) (tests_ : Int32) (inputLength_ : Int32) (at_ : Int32) (signed_ : Int32) (newParts_ : Int32) (machineParts_ : Int32) (firstParts_ : Int32) (firstTruth_ : Int32) (secondTruth_ : Int32) (isPair_ : Int32) (states_ : Int32) (stateClasses_ : Int32) (elements_ : Int32) (cursor_ : Int32) (hasSnapshot_ : Int32) (isSaving_ : Int32) (newKind_ : Nat → Int32) (newBound_ : Nat → Int32) (newLength_ : Nat → Int32) (newValue_ : Nat → Int32) (x1 : Int32) (x2 : Int32) (x3 : Int32) (n : Nat) (v : (Nat → Int32) × Int32) (x : (Nat → Int32)) (X : Cx p m c cX12_addParts 5 s args wsX12_addParts RX12 A D cy (RO_X12_addParts cy o d parts_ partKind_ partBound_ partLength_ partValue_ partPattern_)) (h : loopN (fun v => b_X12_addParts_81 partPattern_ newParts_ x3 v.1 v.2) n v = some x) (K : ∀ (H : Heap) (locs : List Loc) (ls : Array Slot), St A D s (RW_X12_addParts cy o d letters_ tests_ inputLength_ at_ signed_ newParts_ machineParts_ firstParts_ firstTruth_ secondTruth_ isPair_ states_ stateClasses_ elements_ cursor_ hasSnapshot_ isSaving_ newKind_ newBound_ newLength_ newValue_ x) H locs → lv_has ls 5 [(0, .ref o), (1, .int x1), (2, .int x2)] → W p l e rm_X12_addParts s m args below meth c H locs 0 0 Q (F0 m 118 ls [])) : ∀ (H : Heap) (locs : List Loc) (ls : Array Slot), St A D s (RW_X12_addParts cy o d letters_ tests_ inputLength_ at_ signed_ newParts_ machineParts_ firstParts_ firstTruth_ secondTruth_ isPair_ states_ stateClasses_ elements_ cursor_ hasSnapshot_ isSaving_ newKind_ newBound_ newLength_ newValue_ v.1) H locs → lv_has ls 5 [(0, .ref o), (1, .int x1), (2, .int x2), (3, .int x3), (4, .int v.2)] → W p l e rm_X12_addParts s m args below meth c H locs 0 0 Q (F0 m 81 ls []) :=
  loop_gen (B := (fun v => b_X12_addParts_81 partPattern_ newParts_ x3 v.1 v.2)) (Head := fun v : (Nat → Int32) × Int32 => ∀ (H : Heap) (locs : List Loc) (ls : Array Slot), St A D s (RW_X12_addParts cy o d letters_ tests_ inputLength_ at_ signed_ newParts_ machineParts_ firstParts_ firstTruth_ secondTruth_ isPair_ states_ stateClasses_ elements_ cursor_ hasSnapshot_ isSaving_ newKind_ newBound_ newLength_ newValue_ v.1) H locs → lv_has ls 5 [(0, .ref o), (1, .int x1), (2, .int x2), (3, .int x3), (4, .int v.2)] → W p l e rm_X12_addParts s m args below meth c H locs 0 0 Q (F0 m 81 ls [])) (Exit := fun v : (Nat → Int32) => ∀ (H : Heap) (locs : List Loc) (ls : Array Slot), St A D s (RW_X12_addParts cy o d letters_ tests_ inputLength_ at_ signed_ newParts_ machineParts_ firstParts_ firstTruth_ secondTruth_ isPair_ states_ stateClasses_ elements_ cursor_ hasSnapshot_ isSaving_ newKind_ newBound_ newLength_ newValue_ v) H locs → lv_has ls 5 [(0, .ref o), (1, .int x1), (2, .int x2)] → W p l e rm_X12_addParts s m args below meth c H locs 0 0 Q (F0 m 118 ls [])) (fun v o9 hb1 K1 => wb_X12_addParts_81 o d parts_ partKind_ partBound_ partLength_ partValue_ partPattern_ letters_ tests_ inputLength_ at_ signed_ newParts_ machineParts_ firstParts_ firstTruth_ secondTruth_ isPair_ states_ stateClasses_ elements_ cursor_ hasSnapshot_ isSaving_ newKind_ newBound_ newLength_ newValue_ x1 x2 x3 v.1 v.2 o9 X hb1 K1) n v x h K
def b_X12_addParts_2 (parts_ : Nat → Int32) (partKind_ : Nat → Int32) (partBound_ : Nat → Int32) (partLength_ : Nat → Int32) (partValue_ : Nat → Int32) (partPattern_ : Nat → Int32) (x1 : Int32) (newParts_ : Int32) (newKind_ : Nat → Int32) (newBound_ : Nat → Int32) (newLength_ : Nat → Int32) (newValue_ : Nat → Int32) (newPattern_ : Nat → Int32) (x2 : Int32) : Option ((Int32 × (Nat → Int32) × (Nat → Int32) × (Nat → Int32) × (Nat → Int32) × (Nat → Int32) × Int32) ⊕ (Int32 × (Nat → Int32) × (Nat → Int32) × (Nat → Int32) × (Nat → Int32) × (Nat → Int32))) :=
  ldA parts_ 4 x1 (fun v8 =>
  if v8 ≤ x2 then
  (some (.inr (newParts_, newKind_, newBound_, newLength_, newValue_, newPattern_)))
  else
  (ldA partKind_ 16 (((4 : Int32) * x1) + x2) (fun v11 =>
  stA newKind_ 4 newParts_ v11 (fun newKind_14 =>
  ldA partBound_ 16 (((4 : Int32) * x1) + x2) (fun v17 =>
  stA newBound_ 4 newParts_ v17 (fun newBound_20 =>
  ldA partLength_ 16 (((4 : Int32) * x1) + x2) (fun v23 =>
  stA newLength_ 4 newParts_ v23 (fun newLength_26 =>
  ldA partValue_ 16 (((4 : Int32) * x1) + x2) (fun v29 =>
  stA newValue_ 4 newParts_ v29 (fun newValue_32 =>
  (loopN (fun v => b_X12_addParts_81 partPattern_ newParts_ (((4 : Int32) * x1) + x2) v.1 v.2) FU (newPattern_, (0 : Int32))).bind (fun u34 =>
  some (.inl ((newParts_ + (1 : Int32)), newKind_14, newBound_20, newLength_26, newValue_32, u34, (x2 + (1 : Int32)))))))))))))))
set_option maxHeartbeats 4000000 in
set_option maxRecDepth 100000 in
theorem wb_X12_addParts_2 {p : Program} {l : Launch} {e : Env} {s : State} {m : MethodId} {args : Array Value} {below : List Frame} {meth : Method} {c : Code} {A : Nat → Prop} {Q : State → Prop} {D : va_G} {cy : Nat → ClassId} (o : Nat) (d : Nat → Nat) (parts_ : Nat → Int32) (partKind_ : Nat → Int32) (partBound_ : Nat → Int32) (partLength_ : Nat → Int32) (partValue_ : Nat → Int32) (partPattern_ : Nat → Int32) (letters_ : Int32) (tests_ : Int32) (inputLength_ : Int32) (at_ : Int32) (signed_ : Int32) (machineParts_ : Int32) (firstParts_ : Int32) (firstTruth_ : Int32) (secondTruth_ : Int32) (isPair_ : Int32) (states_ : Int32) (stateClasses_ : Int32) (elements_ : Int32) (cursor_ : Int32) (hasSnapshot_ : Int32) (isSaving_ : Int32) (x1 : Int32) (newParts_ : Int32) (newKind_ : Nat → Int32) (newBound_ : Nat → Int32) (newLength_ : Nat → Int32) (newValue_ : Nat → Int32) (newPattern_ : Nat → Int32) (x2 : Int32) (o1 : (Int32 × (Nat → Int32) × (Nat → Int32) × (Nat → Int32) × (Nat → Int32) × (Nat → Int32) × Int32) ⊕ (Int32 × (Nat → Int32) × (Nat → Int32) × (Nat → Int32) × (Nat → Int32) × (Nat → Int32))) (X : Cx p m c cX12_addParts 5 s args wsX12_addParts RX12 A D cy (RO_X12_addParts cy o d parts_ partKind_ partBound_ partLength_ partValue_ partPattern_)) (h : b_X12_addParts_2 parts_ partKind_ partBound_ partLength_ partValue_ partPattern_ x1 newParts_ newKind_ newBound_ newLength_ newValue_ newPattern_ x2 = some o1) (K : Sum.elim (fun v : Int32 × (Nat → Int32) × (Nat → Int32) × (Nat → Int32) × (Nat → Int32) × (Nat → Int32) × Int32 => ∀ (H : Heap) (locs : List Loc) (ls : Array Slot), St A D s (RW_X12_addParts cy o d letters_ tests_ inputLength_ at_ signed_ v.1 machineParts_ firstParts_ firstTruth_ secondTruth_ isPair_ states_ stateClasses_ elements_ cursor_ hasSnapshot_ isSaving_ v.2.1 v.2.2.1 v.2.2.2.1 v.2.2.2.2.1 v.2.2.2.2.2.1) H locs → lv_has ls 5 [(0, .ref o), (1, .int x1), (2, .int v.2.2.2.2.2.2)] → W p l e rm_X12_addParts s m args below meth c H locs 0 0 Q (F0 m 2 ls [])) (fun v : Int32 × (Nat → Int32) × (Nat → Int32) × (Nat → Int32) × (Nat → Int32) × (Nat → Int32) => ∀ (H : Heap) (locs : List Loc) (ls : Array Slot), St A D s (RW_X12_addParts cy o d letters_ tests_ inputLength_ at_ signed_ v.1 machineParts_ firstParts_ firstTruth_ secondTruth_ isPair_ states_ stateClasses_ elements_ cursor_ hasSnapshot_ isSaving_ v.2.1 v.2.2.1 v.2.2.2.1 v.2.2.2.2.1 v.2.2.2.2.2) H locs → lv_has ls 5 [] → W p l e rm_X12_addParts s m args below meth c H locs 0 0 Q (F0 m 134 ls [])) o1) : ∀ (H : Heap) (locs : List Loc) (ls : Array Slot), St A D s (RW_X12_addParts cy o d letters_ tests_ inputLength_ at_ signed_ newParts_ machineParts_ firstParts_ firstTruth_ secondTruth_ isPair_ states_ stateClasses_ elements_ cursor_ hasSnapshot_ isSaving_ newKind_ newBound_ newLength_ newValue_ newPattern_) H locs → lv_has ls 5 [(0, .ref o), (1, .int x1), (2, .int x2)] → W p l e rm_X12_addParts s m args below meth c H locs 0 0 Q (F0 m 2 ls []) := by
  intro H locs ls Z hl
  have hx := X.1.1
  have hb := X.1.2.1
  unfold b_X12_addParts_2 at h
  refine lv_iload_n hx hb dX12_addParts_2 rfl (lv_at hl 2 rfl) ?_
  refine lv_aload_n hx hb dX12_addParts_3 rfl (lv_at hl 0 rfl) ?_
  refine x_get X Z 0 17 (v := .ref (d 17)) rfl rfl lk_X12_addParts_X12_parts dX12_addParts_4 ?_
  refine lv_iload_n hx hb dX12_addParts_7 rfl (lv_at hl 1 rfl) ?_
  obtain ⟨hin7, v8, hv9, h⟩ := ld_b h
  refine x_ialdO X Z 0 rfl hin7 hv9 dX12_addParts_8 ?_
  refine lv_icmp_ge (tgt := 134) hx hb dX12_addParts_9 (by decide) (fun cnd => ?_) (fun cnd => ?_)
  · replace h := ifp h cnd
    obtain rfl := Option.some.inj h
    exact (sk_r K) H locs ls Z (lv_sub hl [] rfl)
  · replace h := ifn h cnd
    refine lv_iconst (v := (4 : Int32)) hx hb dX12_addParts_12 (by decide) ?_
    refine lv_iload_n hx hb dX12_addParts_13 rfl (lv_at hl 1 rfl) ?_
    refine lv_imul hx hb dX12_addParts_14 ?_
    refine lv_iload_n hx hb dX12_addParts_15 rfl (lv_at hl 2 rfl) ?_
    refine lv_iadd hx hb dX12_addParts_16 ?_
    refine lv_istore_n (lv' := [(3, .int (((4 : Int32) * x1) + x2)), (0, .ref o), (1, .int x1), (2, .int x2)]) hx hb dX12_addParts_17 rfl hl (by decide) rfl (fun ls hl => ?_)
    refine lv_aload_n hx hb dX12_addParts_18 rfl (lv_at hl 1 rfl) ?_
    refine x_get X Z 0 24 (v := .ref (d 24)) rfl rfl lk_X12_addParts_X12_newKind dX12_addParts_19 ?_
    refine lv_aload_n hx hb dX12_addParts_22 rfl (lv_at hl 1 rfl) ?_
    refine x_get X Z 0 29 (v := .int newParts_) rfl rfl lk_X12_addParts_X12_newParts dX12_addParts_23 ?_
    refine lv_aload_n hx hb dX12_addParts_26 rfl (lv_at hl 1 rfl) ?_
    refine x_get X Z 0 19 (v := .ref (d 19)) rfl rfl lk_X12_addParts_X12_partKind dX12_addParts_27 ?_
    refine lv_iload_n hx hb dX12_addParts_30 rfl (lv_at hl 0 rfl) ?_
    obtain ⟨hin10, v11, hv12, h⟩ := ld_b h
    refine x_ialdO X Z 1 rfl hin10 hv12 dX12_addParts_31 ?_
    obtain ⟨hin13, newKind_14, hv15, h⟩ := st_b h
    refine x_iast X Z 1 (RW_X12_addParts cy o d letters_ tests_ inputLength_ at_ signed_ newParts_ machineParts_ firstParts_ firstTruth_ secondTruth_ isPair_ states_ stateClasses_ elements_ cursor_ hasSnapshot_ isSaving_ newKind_14 newBound_ newLength_ newValue_ newPattern_) rfl hin13 hv15 rfl dX12_addParts_32 (fun H locs Z => ?_)
    refine lv_aload_n hx hb dX12_addParts_33 rfl (lv_at hl 1 rfl) ?_
    refine x_get X Z 0 25 (v := .ref (d 25)) rfl rfl lk_X12_addParts_X12_newBound dX12_addParts_34 ?_
    refine lv_aload_n hx hb dX12_addParts_37 rfl (lv_at hl 1 rfl) ?_
    refine x_get X Z 0 29 (v := .int newParts_) rfl rfl lk_X12_addParts_X12_newParts dX12_addParts_38 ?_
    refine lv_aload_n hx hb dX12_addParts_41 rfl (lv_at hl 1 rfl) ?_
    refine x_get X Z 0 20 (v := .ref (d 20)) rfl rfl lk_X12_addParts_X12_partBound dX12_addParts_42 ?_
    refine lv_iload_n hx hb dX12_addParts_45 rfl (lv_at hl 0 rfl) ?_
    obtain ⟨hin16, v17, hv18, h⟩ := ld_b h
    refine x_ialdO X Z 2 rfl hin16 hv18 dX12_addParts_46 ?_
    obtain ⟨hin19, newBound_20, hv21, h⟩ := st_b h
    refine x_iast X Z 2 (RW_X12_addParts cy o d letters_ tests_ inputLength_ at_ signed_ newParts_ machineParts_ firstParts_ firstTruth_ secondTruth_ isPair_ states_ stateClasses_ elements_ cursor_ hasSnapshot_ isSaving_ newKind_14 newBound_20 newLength_ newValue_ newPattern_) rfl hin19 hv21 rfl dX12_addParts_47 (fun H locs Z => ?_)
    refine lv_aload_n hx hb dX12_addParts_48 rfl (lv_at hl 1 rfl) ?_
    refine x_get X Z 0 26 (v := .ref (d 26)) rfl rfl lk_X12_addParts_X12_newLength dX12_addParts_49 ?_
    refine lv_aload_n hx hb dX12_addParts_52 rfl (lv_at hl 1 rfl) ?_
    refine x_get X Z 0 29 (v := .int newParts_) rfl rfl lk_X12_addParts_X12_newParts dX12_addParts_53 ?_
    refine lv_aload_n hx hb dX12_addParts_56 rfl (lv_at hl 1 rfl) ?_
    refine x_get X Z 0 21 (v := .ref (d 21)) rfl rfl lk_X12_addParts_X12_partLength dX12_addParts_57 ?_
    refine lv_iload_n hx hb dX12_addParts_60 rfl (lv_at hl 0 rfl) ?_
    obtain ⟨hin22, v23, hv24, h⟩ := ld_b h
    refine x_ialdO X Z 3 rfl hin22 hv24 dX12_addParts_61 ?_
    obtain ⟨hin25, newLength_26, hv27, h⟩ := st_b h
    refine x_iast X Z 3 (RW_X12_addParts cy o d letters_ tests_ inputLength_ at_ signed_ newParts_ machineParts_ firstParts_ firstTruth_ secondTruth_ isPair_ states_ stateClasses_ elements_ cursor_ hasSnapshot_ isSaving_ newKind_14 newBound_20 newLength_26 newValue_ newPattern_) rfl hin25 hv27 rfl dX12_addParts_62 (fun H locs Z => ?_)
    refine lv_aload_n hx hb dX12_addParts_63 rfl (lv_at hl 1 rfl) ?_
    refine x_get X Z 0 27 (v := .ref (d 27)) rfl rfl lk_X12_addParts_X12_newValue dX12_addParts_64 ?_
    refine lv_aload_n hx hb dX12_addParts_67 rfl (lv_at hl 1 rfl) ?_
    refine x_get X Z 0 29 (v := .int newParts_) rfl rfl lk_X12_addParts_X12_newParts dX12_addParts_68 ?_
    refine lv_aload_n hx hb dX12_addParts_71 rfl (lv_at hl 1 rfl) ?_
    refine x_get X Z 0 22 (v := .ref (d 22)) rfl rfl lk_X12_addParts_X12_partValue dX12_addParts_72 ?_
    refine lv_iload_n hx hb dX12_addParts_75 rfl (lv_at hl 0 rfl) ?_
    obtain ⟨hin28, v29, hv30, h⟩ := ld_b h
    refine x_ialdO X Z 4 rfl hin28 hv30 dX12_addParts_76 ?_
    obtain ⟨hin31, newValue_32, hv33, h⟩ := st_b h
    refine x_iast X Z 4 (RW_X12_addParts cy o d letters_ tests_ inputLength_ at_ signed_ newParts_ machineParts_ firstParts_ firstTruth_ secondTruth_ isPair_ states_ stateClasses_ elements_ cursor_ hasSnapshot_ isSaving_ newKind_14 newBound_20 newLength_26 newValue_32 newPattern_) rfl hin31 hv33 rfl dX12_addParts_77 (fun H locs Z => ?_)
    refine lv_iconst (v := (0 : Int32)) hx hb dX12_addParts_78 (by decide) ?_
    refine lv_istore (lv' := [(4, .int (0 : Int32)), (3, .int (((4 : Int32) * x1) + x2)), (0, .ref o), (1, .int x1), (2, .int x2)]) hx hb dX12_addParts_79 hl (by decide) rfl (fun ls hl => ?_)
    obtain ⟨u34, hL35, h⟩ := ob_some h
    refine wl_X12_addParts_81 o d parts_ partKind_ partBound_ partLength_ partValue_ partPattern_ letters_ tests_ inputLength_ at_ signed_ newParts_ machineParts_ firstParts_ firstTruth_ secondTruth_ isPair_ states_ stateClasses_ elements_ cursor_ hasSnapshot_ isSaving_ newKind_14 newBound_20 newLength_26 newValue_32 x1 x2 (((4 : Int32) * x1) + x2) FU (newPattern_, (0 : Int32)) u34 X hL35 (fun H locs ls Z hl => ?_) H locs ls Z (lv_sub hl [2, 3, 4, 1, 0] rfl)
    refine lv_aload_n hx hb dX12_addParts_118 rfl (lv_at hl 0 rfl) ?_
    refine lv_dup hx hb dX12_addParts_119 rfl ?_
    refine x_get X Z 0 29 (v := .int newParts_) rfl rfl lk_X12_addParts_X12_newParts dX12_addParts_120 ?_
    refine lv_iconst (v := (1 : Int32)) hx hb dX12_addParts_123 (by decide) ?_
    refine lv_iadd hx hb dX12_addParts_124 ?_
    refine x_put X Z 0 29 (RW_X12_addParts cy o d letters_ tests_ inputLength_ at_ signed_ (newParts_ + (1 : Int32)) machineParts_ firstParts_ firstTruth_ secondTruth_ isPair_ states_ stateClasses_ elements_ cursor_ hasSnapshot_ isSaving_ newKind_14 newBound_20 newLength_26 newValue_32 u34) rfl lp_X12_addParts_X12_newParts (Nat.le_of_ble_eq_true rfl) rfl dX12_addParts_125 (fun H locs Z => ?_)
    refine lv_iinc (v := (x2 + (1 : Int32))) (lv' := [(2, .int (x2 + (1 : Int32))), (0, .ref o), (1, .int x1)]) hx hb dX12_addParts_128 hl (k := 2) rfl rfl (by decide) rfl (fun ls hl => ?_)
    refine lv_goto (tgt := 2) hx hb dX12_addParts_131 (by decide) ?_
    obtain rfl := Option.some.inj h
    exact sk_l K H locs ls Z (lv_sub hl [1, 2, 0] rfl)
set_option maxHeartbeats 4000000 in
set_option maxRecDepth 100000 in
theorem wl_X12_addParts_2 {p : Program} {l : Launch} {e : Env} {s : State} {m : MethodId} {args : Array Value} {below : List Frame} {meth : Method} {c : Code} {A : Nat → Prop} {Q : State → Prop} {D : va_G} {cy : Nat → ClassId} (o : Nat) (d : Nat → Nat) (parts_ : Nat → Int32) (partKind_ : Nat → Int32) (partBound_ : Nat → Int32) (partLength_ : Nat → Int32) (partValue_ : Nat → Int32) (partPattern_ : Nat → Int32) (letters_ : Int32) (tests_ : Int32) (inputLength_ : Int32) (at_ : Int32) (signed_ : Int32) (machineParts_ : Int32) (firstParts_ : Int32) (firstTruth_ : Int32) (secondTruth_ : Int32) (isPair_ : Int32) (states_ : Int32) (stateClasses_ : Int32) (elements_ : Int32) (cursor_ : Int32) (hasSnapshot_ : Int32) (isSaving_ : Int32) (x1 : Int32) (n : Nat) (v : Int32 × (Nat → Int32) × (Nat → Int32) × (Nat → Int32) × (Nat → Int32) × (Nat → Int32) × Int32) (x : Int32 × (Nat → Int32) × (Nat → Int32) × (Nat → Int32) × (Nat → Int32) × (Nat → Int32)) (X : Cx p m c cX12_addParts 5 s args wsX12_addParts RX12 A D cy (RO_X12_addParts cy o d parts_ partKind_ partBound_ partLength_ partValue_ partPattern_)) (h : loopN (fun v => b_X12_addParts_2 parts_ partKind_ partBound_ partLength_ partValue_ partPattern_ x1 v.1 v.2.1 v.2.2.1 v.2.2.2.1 v.2.2.2.2.1 v.2.2.2.2.2.1 v.2.2.2.2.2.2) n v = some x) (K : ∀ (H : Heap) (locs : List Loc) (ls : Array Slot), St A D s (RW_X12_addParts cy o d letters_ tests_ inputLength_ at_ signed_ x.1 machineParts_ firstParts_ firstTruth_ secondTruth_ isPair_ states_ stateClasses_ elements_ cursor_ hasSnapshot_ isSaving_ x.2.1 x.2.2.1 x.2.2.2.1 x.2.2.2.2.1 x.2.2.2.2.2) H locs → lv_has ls 5 [] → W p l e rm_X12_addParts s m args below meth c H locs 0 0 Q (F0 m 134 ls [])) : ∀ (H : Heap) (locs : List Loc) (ls : Array Slot), St A D s (RW_X12_addParts cy o d letters_ tests_ inputLength_ at_ signed_ v.1 machineParts_ firstParts_ firstTruth_ secondTruth_ isPair_ states_ stateClasses_ elements_ cursor_ hasSnapshot_ isSaving_ v.2.1 v.2.2.1 v.2.2.2.1 v.2.2.2.2.1 v.2.2.2.2.2.1) H locs → lv_has ls 5 [(0, .ref o), (1, .int x1), (2, .int v.2.2.2.2.2.2)] → W p l e rm_X12_addParts s m args below meth c H locs 0 0 Q (F0 m 2 ls []) :=
  loop_gen (B := (fun v => b_X12_addParts_2 parts_ partKind_ partBound_ partLength_ partValue_ partPattern_ x1 v.1 v.2.1 v.2.2.1 v.2.2.2.1 v.2.2.2.2.1 v.2.2.2.2.2.1 v.2.2.2.2.2.2)) (Head := fun v : Int32 × (Nat → Int32) × (Nat → Int32) × (Nat → Int32) × (Nat → Int32) × (Nat → Int32) × Int32 => ∀ (H : Heap) (locs : List Loc) (ls : Array Slot), St A D s (RW_X12_addParts cy o d letters_ tests_ inputLength_ at_ signed_ v.1 machineParts_ firstParts_ firstTruth_ secondTruth_ isPair_ states_ stateClasses_ elements_ cursor_ hasSnapshot_ isSaving_ v.2.1 v.2.2.1 v.2.2.2.1 v.2.2.2.2.1 v.2.2.2.2.2.1) H locs → lv_has ls 5 [(0, .ref o), (1, .int x1), (2, .int v.2.2.2.2.2.2)] → W p l e rm_X12_addParts s m args below meth c H locs 0 0 Q (F0 m 2 ls [])) (Exit := fun v : Int32 × (Nat → Int32) × (Nat → Int32) × (Nat → Int32) × (Nat → Int32) × (Nat → Int32) => ∀ (H : Heap) (locs : List Loc) (ls : Array Slot), St A D s (RW_X12_addParts cy o d letters_ tests_ inputLength_ at_ signed_ v.1 machineParts_ firstParts_ firstTruth_ secondTruth_ isPair_ states_ stateClasses_ elements_ cursor_ hasSnapshot_ isSaving_ v.2.1 v.2.2.1 v.2.2.2.1 v.2.2.2.2.1 v.2.2.2.2.2) H locs → lv_has ls 5 [] → W p l e rm_X12_addParts s m args below meth c H locs 0 0 Q (F0 m 134 ls [])) (fun v o9 hb1 K1 => wb_X12_addParts_2 o d parts_ partKind_ partBound_ partLength_ partValue_ partPattern_ letters_ tests_ inputLength_ at_ signed_ machineParts_ firstParts_ firstTruth_ secondTruth_ isPair_ states_ stateClasses_ elements_ cursor_ hasSnapshot_ isSaving_ x1 v.1 v.2.1 v.2.2.1 v.2.2.2.1 v.2.2.2.2.1 v.2.2.2.2.2.1 v.2.2.2.2.2.2 o9 X hb1 K1) n v x h K
def f_X12_addParts (x1 : Int32) (parts_ : Nat → Int32) (partKind_ : Nat → Int32) (partBound_ : Nat → Int32) (partLength_ : Nat → Int32) (partValue_ : Nat → Int32) (partPattern_ : Nat → Int32) (newParts_ : Int32) (newKind_ : Nat → Int32) (newBound_ : Nat → Int32) (newLength_ : Nat → Int32) (newValue_ : Nat → Int32) (newPattern_ : Nat → Int32) : Option (Int32 × (Nat → Int32) × (Nat → Int32) × (Nat → Int32) × (Nat → Int32) × (Nat → Int32)) :=
  (loopN (fun v => b_X12_addParts_2 parts_ partKind_ partBound_ partLength_ partValue_ partPattern_ x1 v.1 v.2.1 v.2.2.1 v.2.2.2.1 v.2.2.2.2.1 v.2.2.2.2.2.1 v.2.2.2.2.2.2) FU (newParts_, newKind_, newBound_, newLength_, newValue_, newPattern_, (0 : Int32))).bind (fun u36 =>
  some (u36.1, u36.2.1, u36.2.2.1, u36.2.2.2.1, u36.2.2.2.2.1, u36.2.2.2.2.2))
set_option maxHeartbeats 4000000 in
set_option maxRecDepth 100000 in
theorem wt_X12_addParts {p : Program} {l : Launch} {e : Env} {s : State} {m : MethodId} {args : Array Value} {below : List Frame} {meth : Method} {c : Code} {A : Nat → Prop} {Q : State → Prop} {D : va_G} {cy : Nat → ClassId} (o : Nat) (d : Nat → Nat) (parts_ : Nat → Int32) (partKind_ : Nat → Int32) (partBound_ : Nat → Int32) (partLength_ : Nat → Int32) (partValue_ : Nat → Int32) (partPattern_ : Nat → Int32) (letters_ : Int32) (tests_ : Int32) (inputLength_ : Int32) (at_ : Int32) (signed_ : Int32) (newParts_ : Int32) (machineParts_ : Int32) (firstParts_ : Int32) (firstTruth_ : Int32) (secondTruth_ : Int32) (isPair_ : Int32) (states_ : Int32) (stateClasses_ : Int32) (elements_ : Int32) (cursor_ : Int32) (hasSnapshot_ : Int32) (isSaving_ : Int32) (newKind_ : Nat → Int32) (newBound_ : Nat → Int32) (newLength_ : Nat → Int32) (newValue_ : Nat → Int32) (newPattern_ : Nat → Int32) (x1 : Int32) (out : Int32 × (Nat → Int32) × (Nat → Int32) × (Nat → Int32) × (Nat → Int32) × (Nat → Int32)) (X : Cx p m c cX12_addParts 5 s args wsX12_addParts RX12 A D cy (RO_X12_addParts cy o d parts_ partKind_ partBound_ partLength_ partValue_ partPattern_)) (h : f_X12_addParts x1 parts_ partKind_ partBound_ partLength_ partValue_ partPattern_ newParts_ newKind_ newBound_ newLength_ newValue_ newPattern_ = some out) (K : ∀ (H : Heap) (locs : List Loc) (ls : Array Slot) (pc : Nat), decode cX12_addParts pc = .ok (.return_, 1) → St A D s (RW_X12_addParts cy o d letters_ tests_ inputLength_ at_ signed_ out.1 machineParts_ firstParts_ firstTruth_ secondTruth_ isPair_ states_ stateClasses_ elements_ cursor_ hasSnapshot_ isSaving_ out.2.1 out.2.2.1 out.2.2.2.1 out.2.2.2.2.1 out.2.2.2.2.2) H locs → W p l e rm_X12_addParts s m args below meth c H locs 0 0 Q (F0 m pc ls [])) : ∀ (H : Heap) (locs : List Loc) (ls : Array Slot), St A D s (RW_X12_addParts cy o d letters_ tests_ inputLength_ at_ signed_ newParts_ machineParts_ firstParts_ firstTruth_ secondTruth_ isPair_ states_ stateClasses_ elements_ cursor_ hasSnapshot_ isSaving_ newKind_ newBound_ newLength_ newValue_ newPattern_) H locs → lv_has ls 5 [(0, .ref o), (1, .int x1)] → W p l e rm_X12_addParts s m args below meth c H locs 0 0 Q (F0 m 0 ls []) := by
  intro H locs ls Z hl
  have hx := X.1.1
  have hb := X.1.2.1
  unfold f_X12_addParts at h
  refine lv_iconst (v := (0 : Int32)) hx hb dX12_addParts_0 (by decide) ?_
  refine lv_istore_n (lv' := [(2, .int (0 : Int32)), (0, .ref o), (1, .int x1)]) hx hb dX12_addParts_1 rfl hl (by decide) rfl (fun ls hl => ?_)
  obtain ⟨u36, hL37, h⟩ := ob_some h
  refine wl_X12_addParts_2 o d parts_ partKind_ partBound_ partLength_ partValue_ partPattern_ letters_ tests_ inputLength_ at_ signed_ machineParts_ firstParts_ firstTruth_ secondTruth_ isPair_ states_ stateClasses_ elements_ cursor_ hasSnapshot_ isSaving_ x1 FU (newParts_, newKind_, newBound_, newLength_, newValue_, newPattern_, (0 : Int32)) u36 X hL37 (fun H locs ls Z hl => ?_) H locs ls Z (lv_sub hl [1, 2, 0] rfl)
  obtain rfl := Option.some.inj h
  exact K H locs ls _ dX12_addParts_134 Z
theorem c_X12_addParts (l : Launch) (D : va_G) (cy : Nat → ClassId) (o : Nat) (d : Nat → Nat) (parts_ : Nat → Int32) (partKind_ : Nat → Int32) (partBound_ : Nat → Int32) (partLength_ : Nat → Int32) (partValue_ : Nat → Int32) (partPattern_ : Nat → Int32) (letters_ : Int32) (tests_ : Int32) (inputLength_ : Int32) (at_ : Int32) (signed_ : Int32) (newParts_ : Int32) (machineParts_ : Int32) (firstParts_ : Int32) (firstTruth_ : Int32) (secondTruth_ : Int32) (isPair_ : Int32) (states_ : Int32) (stateClasses_ : Int32) (elements_ : Int32) (cursor_ : Int32) (hasSnapshot_ : Int32) (isSaving_ : Int32) (newKind_ : Nat → Int32) (newBound_ : Nat → Int32) (newLength_ : Nat → Int32) (newValue_ : Nat → Int32) (newPattern_ : Nat → Int32) (x1 : Int32) (out : Int32 × (Nat → Int32) × (Nat → Int32) × (Nat → Int32) × (Nat → Int32) × (Nat → Int32)) (h : f_X12_addParts x1 parts_ partKind_ partBound_ partLength_ partValue_ partPattern_ newParts_ newKind_ newBound_ newLength_ newValue_ newPattern_ = some out) : CtV l yX12_addParts wsX12_addParts rm_X12_addParts D cy [.ref o, .int x1] (RW_X12_addParts cy o d letters_ tests_ inputLength_ at_ signed_ newParts_ machineParts_ firstParts_ firstTruth_ secondTruth_ isPair_ states_ stateClasses_ elements_ cursor_ hasSnapshot_ isSaving_ newKind_ newBound_ newLength_ newValue_ newPattern_) (RO_X12_addParts cy o d parts_ partKind_ partBound_ partLength_ partValue_ partPattern_) (RW_X12_addParts cy o d letters_ tests_ inputLength_ at_ signed_ out.1 machineParts_ firstParts_ firstTruth_ secondTruth_ isPair_ states_ stateClasses_ elements_ cursor_ hasSnapshot_ isSaving_ out.2.1 out.2.2.1 out.2.2.2.1 out.2.2.2.2.1 out.2.2.2.2.2) :=
  mk_v (by decide) rfl (Nat.le_of_ble_eq_true rfl) (fun p e s m args below meth c A Q X K H locs ls Z hl => wt_X12_addParts o d parts_ partKind_ partBound_ partLength_ partValue_ partPattern_ letters_ tests_ inputLength_ at_ signed_ newParts_ machineParts_ firstParts_ firstTruth_ secondTruth_ isPair_ states_ stateClasses_ elements_ cursor_ hasSnapshot_ isSaving_ newKind_ newBound_ newLength_ newValue_ newPattern_ x1 out X h K H locs ls Z hl)
/-! SubwordCounterModel put (III)I -/
abbrev rm_X12_put : Room := { frames := 0, cells := 0, slots := 0, locals := 0 }
def RW_X12_put (cy : Nat → ClassId) (o : Nat) (d : Nat → Nat) (form_ : Nat → Int32) (parts_ : Nat → Int32) (truth_ : Nat → Int32) (partKind_ : Nat → Int32) (partBound_ : Nat → Int32) (partLength_ : Nat → Int32) (partValue_ : Nat → Int32) (partPattern_ : Nat → Int32) : va_W := [((d 16), aI cy 4 form_), ((d 17), aI cy 4 parts_), ((d 18), aI cy 4 truth_), ((d 19), aI cy 16 partKind_), ((d 20), aI cy 16 partBound_), ((d 21), aI cy 16 partLength_), ((d 22), aI cy 16 partValue_), ((d 23), aI cy 64 partPattern_)]
def RO_X12_put (cy : Nat → ClassId) (o : Nat) (d : Nat → Nat) (letters_ : Int32) (tests_ : Int32) (inputLength_ : Int32) (at_ : Int32) (signed_ : Int32) (newParts_ : Int32) (machineParts_ : Int32) (firstParts_ : Int32) (firstTruth_ : Int32) (secondTruth_ : Int32) (isPair_ : Int32) (states_ : Int32) (stateClasses_ : Int32) (elements_ : Int32) (cursor_ : Int32) (hasSnapshot_ : Int32) (isSaving_ : Int32) (newKind_ : Nat → Int32) (newBound_ : Nat → Int32) (newLength_ : Nat → Int32) (newValue_ : Nat → Int32) (newPattern_ : Nat → Int32) : va_W := [(o, ob 11 (oX12 d letters_ tests_ inputLength_ at_ signed_ newParts_ machineParts_ firstParts_ firstTruth_ secondTruth_ isPair_ states_ stateClasses_ elements_ cursor_ hasSnapshot_ isSaving_)), ((d 24), aI cy 4 newKind_), ((d 25), aI cy 4 newBound_), ((d 26), aI cy 4 newLength_), ((d 27), aI cy 4 newValue_), ((d 28), aI cy 16 newPattern_)]
theorem in_X12_put_X12 : ∀ w ∈ u_ws RX12 TX12 68, w ∈ wsX12_put := fun w h => (List.mem_cons_of_mem _ (List.mem_append_right _ h))
theorem lk_X12_put_X12_partPattern : Lk wsX12_put RX12 68 11 23 := ⟨RX12, TX12, 68, rfl, by decide, in_X12_put_X12, mem_at 13 rfl⟩
theorem lk_X12_put_X12_newPattern : Lk wsX12_put RX12 83 11 28 := ⟨RX12, TX12, 68, rfl, by decide, in_X12_put_X12, mem_at 14 rfl⟩
theorem lk_X12_put_X12_newParts : Lk wsX12_put RX12 230 11 29 := ⟨RX12, TX12, 68, rfl, by decide, in_X12_put_X12, mem_at 4 rfl⟩
theorem lk_X12_put_X12_partKind : Lk wsX12_put RX12 56 11 19 := ⟨RX12, TX12, 68, rfl, by decide, in_X12_put_X12, mem_at 5 rfl⟩
theorem lk_X12_put_X12_newKind : Lk wsX12_put RX12 71 11 24 := ⟨RX12, TX12, 68, rfl, by decide, in_X12_put_X12, mem_at 6 rfl⟩
theorem lk_X12_put_X12_partBound : Lk wsX12_put RX12 59 11 20 := ⟨RX12, TX12, 68, rfl, by decide, in_X12_put_X12, mem_at 7 rfl⟩
theorem lk_X12_put_X12_newBound : Lk wsX12_put RX12 74 11 25 := ⟨RX12, TX12, 68, rfl, by decide, in_X12_put_X12, mem_at 8 rfl⟩
theorem lk_X12_put_X12_partLength : Lk wsX12_put RX12 62 11 21 := ⟨RX12, TX12, 68, rfl, by decide, in_X12_put_X12, mem_at 9 rfl⟩
theorem lk_X12_put_X12_newLength : Lk wsX12_put RX12 77 11 26 := ⟨RX12, TX12, 68, rfl, by decide, in_X12_put_X12, mem_at 10 rfl⟩
theorem lk_X12_put_X12_partValue : Lk wsX12_put RX12 65 11 22 := ⟨RX12, TX12, 68, rfl, by decide, in_X12_put_X12, mem_at 11 rfl⟩
theorem lk_X12_put_X12_newValue : Lk wsX12_put RX12 80 11 27 := ⟨RX12, TX12, 68, rfl, by decide, in_X12_put_X12, mem_at 12 rfl⟩
theorem lk_X12_put_X12_form : Lk wsX12_put RX12 47 11 16 := ⟨RX12, TX12, 68, rfl, by decide, in_X12_put_X12, mem_at 1 rfl⟩
theorem lk_X12_put_X12_truth : Lk wsX12_put RX12 53 11 18 := ⟨RX12, TX12, 68, rfl, by decide, in_X12_put_X12, mem_at 2 rfl⟩
theorem lk_X12_put_X12_parts : Lk wsX12_put RX12 50 11 17 := ⟨RX12, TX12, 68, rfl, by decide, in_X12_put_X12, mem_at 3 rfl⟩
def b_X12_put_103 (newPattern_ : Nat → Int32) (x4 : Int32) (x5 : Int32) (partPattern_ : Nat → Int32) (x6 : Int32) : Option (((Nat → Int32) × Int32) ⊕ ((Nat → Int32))) :=
  if (4 : Int32) ≤ x6 then
  (some (.inr partPattern_))
  else
  (ldA newPattern_ 16 (((4 : Int32) * x4) + x6) (fun v2 =>
  stA partPattern_ 64 (((4 : Int32) * x5) + x6) v2 (fun partPattern_5 =>
  some (.inl (partPattern_5, (x6 + (1 : Int32)))))))
set_option maxHeartbeats 4000000 in
set_option maxRecDepth 100000 in
theorem wb_X12_put_103 {p : Program} {l : Launch} {e : Env} {s : State} {m : MethodId} {args : Array Value} {below : List Frame} {meth : Method} {c : Code} {A : Nat → Prop} {Q : State → Prop} {D : va_G} {cy : Nat → ClassId} (o : Nat) (d : Nat → Nat) (letters_ : Int32) (tests_ : Int32) (inputLength_ : Int32) (at_ : Int32) (signed_ : Int32) (newParts_ : Int32) (machineParts_ : Int32) (firstParts_ : Int32) (firstTruth_ : Int32) (secondTruth_ : Int32) (isPair_ : Int32) (states_ : Int32) (stateClasses_ : Int32) (elements_ : Int32) (cursor_ : Int32) (hasSnapshot_ : Int32) (isSaving_ : Int32) (newKind_ : Nat → Int32) (newBound_ : Nat → Int32) (newLength_ : Nat → Int32) (newValue_ : Nat → Int32) (newPattern_ : Nat → Int32) (form_ : Nat → Int32) (parts_ : Nat → Int32) (truth_ : Nat → Int32) (partKind_ : Nat → Int32) (partBound_ : Nat → Int32) (partLength_ : Nat → Int32) (partValue_ : Nat → Int32) (x1 : Int32) (x4 : Int32) (x5 : Int32) (partPattern_ : Nat → Int32) (x6 : Int32) (o1 : ((Nat → Int32) × Int32) ⊕ ((Nat → Int32))) (X : Cx p m c cX12_put 7 s args wsX12_put RX12 A D cy (RO_X12_put cy o d letters_ tests_ inputLength_ at_ signed_ newParts_ machineParts_ firstParts_ firstTruth_ secondTruth_ isPair_ states_ stateClasses_ elements_ cursor_ hasSnapshot_ isSaving_ newKind_ newBound_ newLength_ newValue_ newPattern_)) (h : b_X12_put_103 newPattern_ x4 x5 partPattern_ x6 = some o1) (K : Sum.elim (fun v : (Nat → Int32) × Int32 => ∀ (H : Heap) (locs : List Loc) (ls : Array Slot), St A D s (RW_X12_put cy o d form_ parts_ truth_ partKind_ partBound_ partLength_ partValue_ v.1) H locs → lv_has ls 7 [(0, .ref o), (1, .int x1), (4, .int x4), (5, .int x5), (6, .int v.2)] → W p l e rm_X12_put s m args below meth c H locs 0 0 Q (F0 m 103 ls [])) (fun v : (Nat → Int32) => ∀ (H : Heap) (locs : List Loc) (ls : Array Slot), St A D s (RW_X12_put cy o d form_ parts_ truth_ partKind_ partBound_ partLength_ partValue_ v) H locs → lv_has ls 7 [(0, .ref o), (1, .int x1), (4, .int x4)] → W p l e rm_X12_put s m args below meth c H locs 0 0 Q (F0 m 139 ls [])) o1) : ∀ (H : Heap) (locs : List Loc) (ls : Array Slot), St A D s (RW_X12_put cy o d form_ parts_ truth_ partKind_ partBound_ partLength_ partValue_ partPattern_) H locs → lv_has ls 7 [(0, .ref o), (1, .int x1), (4, .int x4), (5, .int x5), (6, .int x6)] → W p l e rm_X12_put s m args below meth c H locs 0 0 Q (F0 m 103 ls []) := by
  intro H locs ls Z hl
  have hx := X.1.1
  have hb := X.1.2.1
  unfold b_X12_put_103 at h
  refine lv_iload hx hb dX12_put_103 (lv_at hl 4 rfl) ?_
  refine lv_iconst (v := (4 : Int32)) hx hb dX12_put_105 (by decide) ?_
  refine lv_icmp_ge (tgt := 139) hx hb dX12_put_106 (by decide) (fun cnd => ?_) (fun cnd => ?_)
  · replace h := ifp h cnd
    obtain rfl := Option.some.inj h
    exact (sk_r K) H locs ls Z (lv_sub hl [0, 1, 2] rfl)
  · replace h := ifn h cnd
    refine lv_aload_n hx hb dX12_put_109 rfl (lv_at hl 0 rfl) ?_
    refine x_getO X Z 0 23 (v := .ref (d 23)) rfl rfl lk_X12_put_X12_partPattern dX12_put_110 ?_
    refine lv_iconst (v := (4 : Int32)) hx hb dX12_put_113 (by decide) ?_
    refine lv_iload hx hb dX12_put_114 (lv_at hl 3 rfl) ?_
    refine lv_imul hx hb dX12_put_116 ?_
    refine lv_iload hx hb dX12_put_117 (lv_at hl 4 rfl) ?_
    refine lv_iadd hx hb dX12_put_119 ?_
    refine lv_aload_n hx hb dX12_put_120 rfl (lv_at hl 0 rfl) ?_
    refine x_getO X Z 0 28 (v := .ref (d 28)) rfl rfl lk_X12_put_X12_newPattern dX12_put_121 ?_
    refine lv_iconst (v := (4 : Int32)) hx hb dX12_put_124 (by decide) ?_
    refine lv_iload hx hb dX12_put_125 (lv_at hl 2 rfl) ?_
    refine lv_imul hx hb dX12_put_127 ?_
    refine lv_iload hx hb dX12_put_128 (lv_at hl 4 rfl) ?_
    refine lv_iadd hx hb dX12_put_130 ?_
    obtain ⟨hin1, v2, hv3, h⟩ := ld_b h
    refine x_ialdO X Z 5 rfl hin1 hv3 dX12_put_131 ?_
    obtain ⟨hin4, partPattern_5, hv6, h⟩ := st_b h
    refine x_iast X Z 7 (RW_X12_put cy o d form_ parts_ truth_ partKind_ partBound_ partLength_ partValue_ partPattern_5) rfl hin4 hv6 rfl dX12_put_132 (fun H locs Z => ?_)
    refine lv_iinc (v := (x6 + (1 : Int32))) (lv' := [(6, .int (x6 + (1 : Int32))), (0, .ref o), (1, .int x1), (4, .int x4), (5, .int x5)]) hx hb dX12_put_133 hl (k := 4) rfl rfl (by decide) rfl (fun ls hl => ?_)
    refine lv_goto (tgt := 103) hx hb dX12_put_136 (by decide) ?_
    obtain rfl := Option.some.inj h
    exact sk_l K H locs ls Z (lv_sub hl [1, 2, 3, 4, 0] rfl)
set_option maxHeartbeats 4000000 in
set_option maxRecDepth 100000 in
theorem wl_X12_put_103 {p : Program} {l : Launch} {e : Env} {s : State} {m : MethodId} {args : Array Value} {below : List Frame} {meth : Method} {c : Code} {A : Nat → Prop} {Q : State → Prop} {D : va_G} {cy : Nat → ClassId} (o : Nat) (d : Nat → Nat) (letters_ : Int32) (tests_ : Int32) (inputLength_ : Int32) (at_ : Int32) (signed_ : Int32) (newParts_ : Int32) (machineParts_ : Int32) (firstParts_ : Int32) (firstTruth_ : Int32) (secondTruth_ : Int32) (isPair_ : Int32) (states_ : Int32) (stateClasses_ : Int32) (elements_ : Int32) (cursor_ : Int32) (hasSnapshot_ : Int32) (isSaving_ : Int32) (newKind_ : Nat → Int32) (newBound_ : Nat → Int32) (newLength_ : Nat → Int32) (newValue_ : Nat → Int32) (newPattern_ : Nat → Int32) (form_ : Nat → Int32) (parts_ : Nat → Int32) (truth_ : Nat → Int32) (partKind_ : Nat → Int32) (partBound_ : Nat → Int32) (partLength_ : Nat → Int32) (partValue_ : Nat → Int32) (x1 : Int32) (x4 : Int32) (x5 : Int32) (n : Nat) (v : (Nat → Int32) × Int32) (x : (Nat → Int32)) (X : Cx p m c cX12_put 7 s args wsX12_put RX12 A D cy (RO_X12_put cy o d letters_ tests_ inputLength_ at_ signed_ newParts_ machineParts_ firstParts_ firstTruth_ secondTruth_ isPair_ states_ stateClasses_ elements_ cursor_ hasSnapshot_ isSaving_ newKind_ newBound_ newLength_ newValue_ newPattern_)) (h : loopN (fun v => b_X12_put_103 newPattern_ x4 x5 v.1 v.2) n v = some x) (K : ∀ (H : Heap) (locs : List Loc) (ls : Array Slot), St A D s (RW_X12_put cy o d form_ parts_ truth_ partKind_ partBound_ partLength_ partValue_ x) H locs → lv_has ls 7 [(0, .ref o), (1, .int x1), (4, .int x4)] → W p l e rm_X12_put s m args below meth c H locs 0 0 Q (F0 m 139 ls [])) : ∀ (H : Heap) (locs : List Loc) (ls : Array Slot), St A D s (RW_X12_put cy o d form_ parts_ truth_ partKind_ partBound_ partLength_ partValue_ v.1) H locs → lv_has ls 7 [(0, .ref o), (1, .int x1), (4, .int x4), (5, .int x5), (6, .int v.2)] → W p l e rm_X12_put s m args below meth c H locs 0 0 Q (F0 m 103 ls []) :=
  loop_gen (B := (fun v => b_X12_put_103 newPattern_ x4 x5 v.1 v.2)) (Head := fun v : (Nat → Int32) × Int32 => ∀ (H : Heap) (locs : List Loc) (ls : Array Slot), St A D s (RW_X12_put cy o d form_ parts_ truth_ partKind_ partBound_ partLength_ partValue_ v.1) H locs → lv_has ls 7 [(0, .ref o), (1, .int x1), (4, .int x4), (5, .int x5), (6, .int v.2)] → W p l e rm_X12_put s m args below meth c H locs 0 0 Q (F0 m 103 ls [])) (Exit := fun v : (Nat → Int32) => ∀ (H : Heap) (locs : List Loc) (ls : Array Slot), St A D s (RW_X12_put cy o d form_ parts_ truth_ partKind_ partBound_ partLength_ partValue_ v) H locs → lv_has ls 7 [(0, .ref o), (1, .int x1), (4, .int x4)] → W p l e rm_X12_put s m args below meth c H locs 0 0 Q (F0 m 139 ls [])) (fun v o9 hb1 K1 => wb_X12_put_103 o d letters_ tests_ inputLength_ at_ signed_ newParts_ machineParts_ firstParts_ firstTruth_ secondTruth_ isPair_ states_ stateClasses_ elements_ cursor_ hasSnapshot_ isSaving_ newKind_ newBound_ newLength_ newValue_ newPattern_ form_ parts_ truth_ partKind_ partBound_ partLength_ partValue_ x1 x4 x5 v.1 v.2 o9 X hb1 K1) n v x h K
def b_X12_put_27 (newParts_ : Int32) (newKind_ : Nat → Int32) (newBound_ : Nat → Int32) (newLength_ : Nat → Int32) (newValue_ : Nat → Int32) (newPattern_ : Nat → Int32) (x1 : Int32) (partKind_ : Nat → Int32) (partBound_ : Nat → Int32) (partLength_ : Nat → Int32) (partValue_ : Nat → Int32) (partPattern_ : Nat → Int32) (x4 : Int32) : Option (((Nat → Int32) × (Nat → Int32) × (Nat → Int32) × (Nat → Int32) × (Nat → Int32) × Int32) ⊕ ((Nat → Int32) × (Nat → Int32) × (Nat → Int32) × (Nat → Int32) × (Nat → Int32))) :=
  if newParts_ ≤ x4 then
  (some (.inr (partKind_, partBound_, partLength_, partValue_, partPattern_)))
  else
  (ldA newKind_ 4 x4 (fun v8 =>
  stA partKind_ 16 (((4 : Int32) * x1) + x4) v8 (fun partKind_11 =>
  ldA newBound_ 4 x4 (fun v14 =>
  stA partBound_ 16 (((4 : Int32) * x1) + x4) v14 (fun partBound_17 =>
  ldA newLength_ 4 x4 (fun v20 =>
  stA partLength_ 16 (((4 : Int32) * x1) + x4) v20 (fun partLength_23 =>
  ldA newValue_ 4 x4 (fun v26 =>
  stA partValue_ 16 (((4 : Int32) * x1) + x4) v26 (fun partValue_29 =>
  (loopN (fun v => b_X12_put_103 newPattern_ x4 (((4 : Int32) * x1) + x4) v.1 v.2) FU (partPattern_, (0 : Int32))).bind (fun u31 =>
  some (.inl (partKind_11, partBound_17, partLength_23, partValue_29, u31, (x4 + (1 : Int32))))))))))))))
set_option maxHeartbeats 4000000 in
set_option maxRecDepth 100000 in
theorem wb_X12_put_27 {p : Program} {l : Launch} {e : Env} {s : State} {m : MethodId} {args : Array Value} {below : List Frame} {meth : Method} {c : Code} {A : Nat → Prop} {Q : State → Prop} {D : va_G} {cy : Nat → ClassId} (o : Nat) (d : Nat → Nat) (letters_ : Int32) (tests_ : Int32) (inputLength_ : Int32) (at_ : Int32) (signed_ : Int32) (newParts_ : Int32) (machineParts_ : Int32) (firstParts_ : Int32) (firstTruth_ : Int32) (secondTruth_ : Int32) (isPair_ : Int32) (states_ : Int32) (stateClasses_ : Int32) (elements_ : Int32) (cursor_ : Int32) (hasSnapshot_ : Int32) (isSaving_ : Int32) (newKind_ : Nat → Int32) (newBound_ : Nat → Int32) (newLength_ : Nat → Int32) (newValue_ : Nat → Int32) (newPattern_ : Nat → Int32) (form_ : Nat → Int32) (parts_ : Nat → Int32) (truth_ : Nat → Int32) (x1 : Int32) (partKind_ : Nat → Int32) (partBound_ : Nat → Int32) (partLength_ : Nat → Int32) (partValue_ : Nat → Int32) (partPattern_ : Nat → Int32) (x4 : Int32) (o1 : ((Nat → Int32) × (Nat → Int32) × (Nat → Int32) × (Nat → Int32) × (Nat → Int32) × Int32) ⊕ ((Nat → Int32) × (Nat → Int32) × (Nat → Int32) × (Nat → Int32) × (Nat → Int32))) (X : Cx p m c cX12_put 7 s args wsX12_put RX12 A D cy (RO_X12_put cy o d letters_ tests_ inputLength_ at_ signed_ newParts_ machineParts_ firstParts_ firstTruth_ secondTruth_ isPair_ states_ stateClasses_ elements_ cursor_ hasSnapshot_ isSaving_ newKind_ newBound_ newLength_ newValue_ newPattern_)) (h : b_X12_put_27 newParts_ newKind_ newBound_ newLength_ newValue_ newPattern_ x1 partKind_ partBound_ partLength_ partValue_ partPattern_ x4 = some o1) (K : Sum.elim (fun v : (Nat → Int32) × (Nat → Int32) × (Nat → Int32) × (Nat → Int32) × (Nat → Int32) × Int32 => ∀ (H : Heap) (locs : List Loc) (ls : Array Slot), St A D s (RW_X12_put cy o d form_ parts_ truth_ v.1 v.2.1 v.2.2.1 v.2.2.2.1 v.2.2.2.2.1) H locs → lv_has ls 7 [(0, .ref o), (1, .int x1), (4, .int v.2.2.2.2.2)] → W p l e rm_X12_put s m args below meth c H locs 0 0 Q (F0 m 27 ls [])) (fun v : (Nat → Int32) × (Nat → Int32) × (Nat → Int32) × (Nat → Int32) × (Nat → Int32) => ∀ (H : Heap) (locs : List Loc) (ls : Array Slot), St A D s (RW_X12_put cy o d form_ parts_ truth_ v.1 v.2.1 v.2.2.1 v.2.2.2.1 v.2.2.2.2) H locs → lv_has ls 7 [(0, .ref o)] → W p l e rm_X12_put s m args below meth c H locs 0 0 Q (F0 m 145 ls [])) o1) : ∀ (H : Heap) (locs : List Loc) (ls : Array Slot), St A D s (RW_X12_put cy o d form_ parts_ truth_ partKind_ partBound_ partLength_ partValue_ partPattern_) H locs → lv_has ls 7 [(0, .ref o), (1, .int x1), (4, .int x4)] → W p l e rm_X12_put s m args below meth c H locs 0 0 Q (F0 m 27 ls []) := by
  intro H locs ls Z hl
  have hx := X.1.1
  have hb := X.1.2.1
  unfold b_X12_put_27 at h
  refine lv_iload hx hb dX12_put_27 (lv_at hl 2 rfl) ?_
  refine lv_aload_n hx hb dX12_put_29 rfl (lv_at hl 0 rfl) ?_
  refine x_getO X Z 0 29 (v := .int newParts_) rfl rfl lk_X12_put_X12_newParts dX12_put_30 ?_
  refine lv_icmp_ge (tgt := 145) hx hb dX12_put_33 (by decide) (fun cnd => ?_) (fun cnd => ?_)
  · replace h := ifp h cnd
    obtain rfl := Option.some.inj h
    exact (sk_r K) H locs ls Z (lv_sub hl [0] rfl)
  · replace h := ifn h cnd
    refine lv_iconst (v := (4 : Int32)) hx hb dX12_put_36 (by decide) ?_
    refine lv_iload_n hx hb dX12_put_37 rfl (lv_at hl 1 rfl) ?_
    refine lv_imul hx hb dX12_put_38 ?_
    refine lv_iload hx hb dX12_put_39 (lv_at hl 2 rfl) ?_
    refine lv_iadd hx hb dX12_put_41 ?_
    refine lv_istore (lv' := [(5, .int (((4 : Int32) * x1) + x4)), (0, .ref o), (1, .int x1), (4, .int x4)]) hx hb dX12_put_42 hl (by decide) rfl (fun ls hl => ?_)
    refine lv_aload_n hx hb dX12_put_44 rfl (lv_at hl 1 rfl) ?_
    refine x_getO X Z 0 19 (v := .ref (d 19)) rfl rfl lk_X12_put_X12_partKind dX12_put_45 ?_
    refine lv_iload hx hb dX12_put_48 (lv_at hl 0 rfl) ?_
    refine lv_aload_n hx hb dX12_put_50 rfl (lv_at hl 1 rfl) ?_
    refine x_getO X Z 0 24 (v := .ref (d 24)) rfl rfl lk_X12_put_X12_newKind dX12_put_51 ?_
    refine lv_iload hx hb dX12_put_54 (lv_at hl 3 rfl) ?_
    obtain ⟨hin7, v8, hv9, h⟩ := ld_b h
    refine x_ialdO X Z 1 rfl hin7 hv9 dX12_put_56 ?_
    obtain ⟨hin10, partKind_11, hv12, h⟩ := st_b h
    refine x_iast X Z 3 (RW_X12_put cy o d form_ parts_ truth_ partKind_11 partBound_ partLength_ partValue_ partPattern_) rfl hin10 hv12 rfl dX12_put_57 (fun H locs Z => ?_)
    refine lv_aload_n hx hb dX12_put_58 rfl (lv_at hl 1 rfl) ?_
    refine x_getO X Z 0 20 (v := .ref (d 20)) rfl rfl lk_X12_put_X12_partBound dX12_put_59 ?_
    refine lv_iload hx hb dX12_put_62 (lv_at hl 0 rfl) ?_
    refine lv_aload_n hx hb dX12_put_64 rfl (lv_at hl 1 rfl) ?_
    refine x_getO X Z 0 25 (v := .ref (d 25)) rfl rfl lk_X12_put_X12_newBound dX12_put_65 ?_
    refine lv_iload hx hb dX12_put_68 (lv_at hl 3 rfl) ?_
    obtain ⟨hin13, v14, hv15, h⟩ := ld_b h
    refine x_ialdO X Z 2 rfl hin13 hv15 dX12_put_70 ?_
    obtain ⟨hin16, partBound_17, hv18, h⟩ := st_b h
    refine x_iast X Z 4 (RW_X12_put cy o d form_ parts_ truth_ partKind_11 partBound_17 partLength_ partValue_ partPattern_) rfl hin16 hv18 rfl dX12_put_71 (fun H locs Z => ?_)
    refine lv_aload_n hx hb dX12_put_72 rfl (lv_at hl 1 rfl) ?_
    refine x_getO X Z 0 21 (v := .ref (d 21)) rfl rfl lk_X12_put_X12_partLength dX12_put_73 ?_
    refine lv_iload hx hb dX12_put_76 (lv_at hl 0 rfl) ?_
    refine lv_aload_n hx hb dX12_put_78 rfl (lv_at hl 1 rfl) ?_
    refine x_getO X Z 0 26 (v := .ref (d 26)) rfl rfl lk_X12_put_X12_newLength dX12_put_79 ?_
    refine lv_iload hx hb dX12_put_82 (lv_at hl 3 rfl) ?_
    obtain ⟨hin19, v20, hv21, h⟩ := ld_b h
    refine x_ialdO X Z 3 rfl hin19 hv21 dX12_put_84 ?_
    obtain ⟨hin22, partLength_23, hv24, h⟩ := st_b h
    refine x_iast X Z 5 (RW_X12_put cy o d form_ parts_ truth_ partKind_11 partBound_17 partLength_23 partValue_ partPattern_) rfl hin22 hv24 rfl dX12_put_85 (fun H locs Z => ?_)
    refine lv_aload_n hx hb dX12_put_86 rfl (lv_at hl 1 rfl) ?_
    refine x_getO X Z 0 22 (v := .ref (d 22)) rfl rfl lk_X12_put_X12_partValue dX12_put_87 ?_
    refine lv_iload hx hb dX12_put_90 (lv_at hl 0 rfl) ?_
    refine lv_aload_n hx hb dX12_put_92 rfl (lv_at hl 1 rfl) ?_
    refine x_getO X Z 0 27 (v := .ref (d 27)) rfl rfl lk_X12_put_X12_newValue dX12_put_93 ?_
    refine lv_iload hx hb dX12_put_96 (lv_at hl 3 rfl) ?_
    obtain ⟨hin25, v26, hv27, h⟩ := ld_b h
    refine x_ialdO X Z 4 rfl hin25 hv27 dX12_put_98 ?_
    obtain ⟨hin28, partValue_29, hv30, h⟩ := st_b h
    refine x_iast X Z 6 (RW_X12_put cy o d form_ parts_ truth_ partKind_11 partBound_17 partLength_23 partValue_29 partPattern_) rfl hin28 hv30 rfl dX12_put_99 (fun H locs Z => ?_)
    refine lv_iconst (v := (0 : Int32)) hx hb dX12_put_100 (by decide) ?_
    refine lv_istore (lv' := [(6, .int (0 : Int32)), (5, .int (((4 : Int32) * x1) + x4)), (0, .ref o), (1, .int x1), (4, .int x4)]) hx hb dX12_put_101 hl (by decide) rfl (fun ls hl => ?_)
    obtain ⟨u31, hL32, h⟩ := ob_some h
    refine wl_X12_put_103 o d letters_ tests_ inputLength_ at_ signed_ newParts_ machineParts_ firstParts_ firstTruth_ secondTruth_ isPair_ states_ stateClasses_ elements_ cursor_ hasSnapshot_ isSaving_ newKind_ newBound_ newLength_ newValue_ newPattern_ form_ parts_ truth_ partKind_11 partBound_17 partLength_23 partValue_29 x1 x4 (((4 : Int32) * x1) + x4) FU (partPattern_, (0 : Int32)) u31 X hL32 (fun H locs ls Z hl => ?_) H locs ls Z (lv_sub hl [2, 3, 4, 1, 0] rfl)
    refine lv_iinc (v := (x4 + (1 : Int32))) (lv' := [(4, .int (x4 + (1 : Int32))), (0, .ref o), (1, .int x1)]) hx hb dX12_put_139 hl (k := 2) rfl rfl (by decide) rfl (fun ls hl => ?_)
    refine lv_goto (tgt := 27) hx hb dX12_put_142 (by decide) ?_
    obtain rfl := Option.some.inj h
    exact sk_l K H locs ls Z (lv_sub hl [1, 2, 0] rfl)
set_option maxHeartbeats 4000000 in
set_option maxRecDepth 100000 in
theorem wl_X12_put_27 {p : Program} {l : Launch} {e : Env} {s : State} {m : MethodId} {args : Array Value} {below : List Frame} {meth : Method} {c : Code} {A : Nat → Prop} {Q : State → Prop} {D : va_G} {cy : Nat → ClassId} (o : Nat) (d : Nat → Nat) (letters_ : Int32) (tests_ : Int32) (inputLength_ : Int32) (at_ : Int32) (signed_ : Int32) (newParts_ : Int32) (machineParts_ : Int32) (firstParts_ : Int32) (firstTruth_ : Int32) (secondTruth_ : Int32) (isPair_ : Int32) (states_ : Int32) (stateClasses_ : Int32) (elements_ : Int32) (cursor_ : Int32) (hasSnapshot_ : Int32) (isSaving_ : Int32) (newKind_ : Nat → Int32) (newBound_ : Nat → Int32) (newLength_ : Nat → Int32) (newValue_ : Nat → Int32) (newPattern_ : Nat → Int32) (form_ : Nat → Int32) (parts_ : Nat → Int32) (truth_ : Nat → Int32) (x1 : Int32) (n : Nat) (v : (Nat → Int32) × (Nat → Int32) × (Nat → Int32) × (Nat → Int32) × (Nat → Int32) × Int32) (x : (Nat → Int32) × (Nat → Int32) × (Nat → Int32) × (Nat → Int32) × (Nat → Int32)) (X : Cx p m c cX12_put 7 s args wsX12_put RX12 A D cy (RO_X12_put cy o d letters_ tests_ inputLength_ at_ signed_ newParts_ machineParts_ firstParts_ firstTruth_ secondTruth_ isPair_ states_ stateClasses_ elements_ cursor_ hasSnapshot_ isSaving_ newKind_ newBound_ newLength_ newValue_ newPattern_)) (h : loopN (fun v => b_X12_put_27 newParts_ newKind_ newBound_ newLength_ newValue_ newPattern_ x1 v.1 v.2.1 v.2.2.1 v.2.2.2.1 v.2.2.2.2.1 v.2.2.2.2.2) n v = some x) (K : ∀ (H : Heap) (locs : List Loc) (ls : Array Slot), St A D s (RW_X12_put cy o d form_ parts_ truth_ x.1 x.2.1 x.2.2.1 x.2.2.2.1 x.2.2.2.2) H locs → lv_has ls 7 [(0, .ref o)] → W p l e rm_X12_put s m args below meth c H locs 0 0 Q (F0 m 145 ls [])) : ∀ (H : Heap) (locs : List Loc) (ls : Array Slot), St A D s (RW_X12_put cy o d form_ parts_ truth_ v.1 v.2.1 v.2.2.1 v.2.2.2.1 v.2.2.2.2.1) H locs → lv_has ls 7 [(0, .ref o), (1, .int x1), (4, .int v.2.2.2.2.2)] → W p l e rm_X12_put s m args below meth c H locs 0 0 Q (F0 m 27 ls []) :=
  loop_gen (B := (fun v => b_X12_put_27 newParts_ newKind_ newBound_ newLength_ newValue_ newPattern_ x1 v.1 v.2.1 v.2.2.1 v.2.2.2.1 v.2.2.2.2.1 v.2.2.2.2.2)) (Head := fun v : (Nat → Int32) × (Nat → Int32) × (Nat → Int32) × (Nat → Int32) × (Nat → Int32) × Int32 => ∀ (H : Heap) (locs : List Loc) (ls : Array Slot), St A D s (RW_X12_put cy o d form_ parts_ truth_ v.1 v.2.1 v.2.2.1 v.2.2.2.1 v.2.2.2.2.1) H locs → lv_has ls 7 [(0, .ref o), (1, .int x1), (4, .int v.2.2.2.2.2)] → W p l e rm_X12_put s m args below meth c H locs 0 0 Q (F0 m 27 ls [])) (Exit := fun v : (Nat → Int32) × (Nat → Int32) × (Nat → Int32) × (Nat → Int32) × (Nat → Int32) => ∀ (H : Heap) (locs : List Loc) (ls : Array Slot), St A D s (RW_X12_put cy o d form_ parts_ truth_ v.1 v.2.1 v.2.2.1 v.2.2.2.1 v.2.2.2.2) H locs → lv_has ls 7 [(0, .ref o)] → W p l e rm_X12_put s m args below meth c H locs 0 0 Q (F0 m 145 ls [])) (fun v o9 hb1 K1 => wb_X12_put_27 o d letters_ tests_ inputLength_ at_ signed_ newParts_ machineParts_ firstParts_ firstTruth_ secondTruth_ isPair_ states_ stateClasses_ elements_ cursor_ hasSnapshot_ isSaving_ newKind_ newBound_ newLength_ newValue_ newPattern_ form_ parts_ truth_ x1 v.1 v.2.1 v.2.2.1 v.2.2.2.1 v.2.2.2.2.1 v.2.2.2.2.2 o9 X hb1 K1) n v x h K
def f_X12_put (x1 : Int32) (x2 : Int32) (x3 : Int32) (newParts_ : Int32) (newKind_ : Nat → Int32) (newBound_ : Nat → Int32) (newLength_ : Nat → Int32) (newValue_ : Nat → Int32) (newPattern_ : Nat → Int32) (form_ : Nat → Int32) (parts_ : Nat → Int32) (truth_ : Nat → Int32) (partKind_ : Nat → Int32) (partBound_ : Nat → Int32) (partLength_ : Nat → Int32) (partValue_ : Nat → Int32) (partPattern_ : Nat → Int32) : Option (Int32 × (Nat → Int32) × (Nat → Int32) × (Nat → Int32) × (Nat → Int32) × (Nat → Int32) × (Nat → Int32) × (Nat → Int32) × (Nat → Int32)) :=
  stA form_ 4 x1 x2 (fun form_34 =>
  stA truth_ 4 x1 x3 (fun truth_37 =>
  stA parts_ 4 x1 newParts_ (fun parts_40 =>
  (loopN (fun v => b_X12_put_27 newParts_ newKind_ newBound_ newLength_ newValue_ newPattern_ x1 v.1 v.2.1 v.2.2.1 v.2.2.2.1 v.2.2.2.2.1 v.2.2.2.2.2) FU (partKind_, partBound_, partLength_, partValue_, partPattern_, (0 : Int32))).bind (fun u42 =>
  some (newParts_, form_34, parts_40, truth_37, u42.1, u42.2.1, u42.2.2.1, u42.2.2.2.1, u42.2.2.2.2)))))
set_option maxHeartbeats 4000000 in
set_option maxRecDepth 100000 in
theorem wt_X12_put {p : Program} {l : Launch} {e : Env} {s : State} {m : MethodId} {args : Array Value} {below : List Frame} {meth : Method} {c : Code} {A : Nat → Prop} {Q : State → Prop} {D : va_G} {cy : Nat → ClassId} (o : Nat) (d : Nat → Nat) (letters_ : Int32) (tests_ : Int32) (inputLength_ : Int32) (at_ : Int32) (signed_ : Int32) (newParts_ : Int32) (machineParts_ : Int32) (firstParts_ : Int32) (firstTruth_ : Int32) (secondTruth_ : Int32) (isPair_ : Int32) (states_ : Int32) (stateClasses_ : Int32) (elements_ : Int32) (cursor_ : Int32) (hasSnapshot_ : Int32) (isSaving_ : Int32) (newKind_ : Nat → Int32) (newBound_ : Nat → Int32) (newLength_ : Nat → Int32) (newValue_ : Nat → Int32) (newPattern_ : Nat → Int32) (form_ : Nat → Int32) (parts_ : Nat → Int32) (truth_ : Nat → Int32) (partKind_ : Nat → Int32) (partBound_ : Nat → Int32) (partLength_ : Nat → Int32) (partValue_ : Nat → Int32) (partPattern_ : Nat → Int32) (x1 : Int32) (x2 : Int32) (x3 : Int32) (out : Int32 × (Nat → Int32) × (Nat → Int32) × (Nat → Int32) × (Nat → Int32) × (Nat → Int32) × (Nat → Int32) × (Nat → Int32) × (Nat → Int32)) (X : Cx p m c cX12_put 7 s args wsX12_put RX12 A D cy (RO_X12_put cy o d letters_ tests_ inputLength_ at_ signed_ newParts_ machineParts_ firstParts_ firstTruth_ secondTruth_ isPair_ states_ stateClasses_ elements_ cursor_ hasSnapshot_ isSaving_ newKind_ newBound_ newLength_ newValue_ newPattern_)) (h : f_X12_put x1 x2 x3 newParts_ newKind_ newBound_ newLength_ newValue_ newPattern_ form_ parts_ truth_ partKind_ partBound_ partLength_ partValue_ partPattern_ = some out) (K : ∀ (H : Heap) (locs : List Loc) (ls : Array Slot) (pc : Nat), decode cX12_put pc = .ok (.ireturn, 1) → St A D s (RW_X12_put cy o d out.2.1 out.2.2.1 out.2.2.2.1 out.2.2.2.2.1 out.2.2.2.2.2.1 out.2.2.2.2.2.2.1 out.2.2.2.2.2.2.2.1 out.2.2.2.2.2.2.2.2) H locs → W p l e rm_X12_put s m args below meth c H locs 0 0 Q (F0 m pc ls [.int out.1])) : ∀ (H : Heap) (locs : List Loc) (ls : Array Slot), St A D s (RW_X12_put cy o d form_ parts_ truth_ partKind_ partBound_ partLength_ partValue_ partPattern_) H locs → lv_has ls 7 [(0, .ref o), (1, .int x1), (2, .int x2), (3, .int x3)] → W p l e rm_X12_put s m args below meth c H locs 0 0 Q (F0 m 0 ls []) := by
  intro H locs ls Z hl
  have hx := X.1.1
  have hb := X.1.2.1
  unfold f_X12_put at h
  refine lv_aload_n hx hb dX12_put_0 rfl (lv_at hl 0 rfl) ?_
  refine x_getO X Z 0 16 (v := .ref (d 16)) rfl rfl lk_X12_put_X12_form dX12_put_1 ?_
  refine lv_iload_n hx hb dX12_put_4 rfl (lv_at hl 1 rfl) ?_
  refine lv_iload_n hx hb dX12_put_5 rfl (lv_at hl 2 rfl) ?_
  obtain ⟨hin33, form_34, hv35, h⟩ := st_b h
  refine x_iast X Z 0 (RW_X12_put cy o d form_34 parts_ truth_ partKind_ partBound_ partLength_ partValue_ partPattern_) rfl hin33 hv35 rfl dX12_put_6 (fun H locs Z => ?_)
  refine lv_aload_n hx hb dX12_put_7 rfl (lv_at hl 0 rfl) ?_
  refine x_getO X Z 0 18 (v := .ref (d 18)) rfl rfl lk_X12_put_X12_truth dX12_put_8 ?_
  refine lv_iload_n hx hb dX12_put_11 rfl (lv_at hl 1 rfl) ?_
  refine lv_iload_n hx hb dX12_put_12 rfl (lv_at hl 3 rfl) ?_
  obtain ⟨hin36, truth_37, hv38, h⟩ := st_b h
  refine x_iast X Z 2 (RW_X12_put cy o d form_34 parts_ truth_37 partKind_ partBound_ partLength_ partValue_ partPattern_) rfl hin36 hv38 rfl dX12_put_13 (fun H locs Z => ?_)
  refine lv_aload_n hx hb dX12_put_14 rfl (lv_at hl 0 rfl) ?_
  refine x_getO X Z 0 17 (v := .ref (d 17)) rfl rfl lk_X12_put_X12_parts dX12_put_15 ?_
  refine lv_iload_n hx hb dX12_put_18 rfl (lv_at hl 1 rfl) ?_
  refine lv_aload_n hx hb dX12_put_19 rfl (lv_at hl 0 rfl) ?_
  refine x_getO X Z 0 29 (v := .int newParts_) rfl rfl lk_X12_put_X12_newParts dX12_put_20 ?_
  obtain ⟨hin39, parts_40, hv41, h⟩ := st_b h
  refine x_iast X Z 1 (RW_X12_put cy o d form_34 parts_40 truth_37 partKind_ partBound_ partLength_ partValue_ partPattern_) rfl hin39 hv41 rfl dX12_put_23 (fun H locs Z => ?_)
  refine lv_iconst (v := (0 : Int32)) hx hb dX12_put_24 (by decide) ?_
  refine lv_istore (lv' := [(4, .int (0 : Int32)), (0, .ref o), (1, .int x1), (2, .int x2), (3, .int x3)]) hx hb dX12_put_25 hl (by decide) rfl (fun ls hl => ?_)
  obtain ⟨u42, hL43, h⟩ := ob_some h
  refine wl_X12_put_27 o d letters_ tests_ inputLength_ at_ signed_ newParts_ machineParts_ firstParts_ firstTruth_ secondTruth_ isPair_ states_ stateClasses_ elements_ cursor_ hasSnapshot_ isSaving_ newKind_ newBound_ newLength_ newValue_ newPattern_ form_34 parts_40 truth_37 x1 FU (partKind_, partBound_, partLength_, partValue_, partPattern_, (0 : Int32)) u42 X hL43 (fun H locs ls Z hl => ?_) H locs ls Z (lv_sub hl [1, 2, 0] rfl)
  refine lv_aload_n hx hb dX12_put_145 rfl (lv_at hl 0 rfl) ?_
  refine x_getO X Z 0 29 (v := .int newParts_) rfl rfl lk_X12_put_X12_newParts dX12_put_146 ?_
  obtain rfl := Option.some.inj h
  exact K H locs ls _ dX12_put_149 Z
theorem c_X12_put (l : Launch) (D : va_G) (cy : Nat → ClassId) (o : Nat) (d : Nat → Nat) (letters_ : Int32) (tests_ : Int32) (inputLength_ : Int32) (at_ : Int32) (signed_ : Int32) (newParts_ : Int32) (machineParts_ : Int32) (firstParts_ : Int32) (firstTruth_ : Int32) (secondTruth_ : Int32) (isPair_ : Int32) (states_ : Int32) (stateClasses_ : Int32) (elements_ : Int32) (cursor_ : Int32) (hasSnapshot_ : Int32) (isSaving_ : Int32) (newKind_ : Nat → Int32) (newBound_ : Nat → Int32) (newLength_ : Nat → Int32) (newValue_ : Nat → Int32) (newPattern_ : Nat → Int32) (form_ : Nat → Int32) (parts_ : Nat → Int32) (truth_ : Nat → Int32) (partKind_ : Nat → Int32) (partBound_ : Nat → Int32) (partLength_ : Nat → Int32) (partValue_ : Nat → Int32) (partPattern_ : Nat → Int32) (x1 : Int32) (x2 : Int32) (x3 : Int32) (out : Int32 × (Nat → Int32) × (Nat → Int32) × (Nat → Int32) × (Nat → Int32) × (Nat → Int32) × (Nat → Int32) × (Nat → Int32) × (Nat → Int32)) (h : f_X12_put x1 x2 x3 newParts_ newKind_ newBound_ newLength_ newValue_ newPattern_ form_ parts_ truth_ partKind_ partBound_ partLength_ partValue_ partPattern_ = some out) : CtI l yX12_put wsX12_put rm_X12_put D cy [.ref o, .int x1, .int x2, .int x3] (RW_X12_put cy o d form_ parts_ truth_ partKind_ partBound_ partLength_ partValue_ partPattern_) (RO_X12_put cy o d letters_ tests_ inputLength_ at_ signed_ newParts_ machineParts_ firstParts_ firstTruth_ secondTruth_ isPair_ states_ stateClasses_ elements_ cursor_ hasSnapshot_ isSaving_ newKind_ newBound_ newLength_ newValue_ newPattern_) (RW_X12_put cy o d out.2.1 out.2.2.1 out.2.2.2.1 out.2.2.2.2.1 out.2.2.2.2.2.1 out.2.2.2.2.2.2.1 out.2.2.2.2.2.2.2.1 out.2.2.2.2.2.2.2.2) out.1 :=
  mk_i (ty := .int) (by decide) rfl rfl (Nat.le_of_ble_eq_true rfl) (fun p e s m args below meth c A Q X K H locs ls Z hl => wt_X12_put o d letters_ tests_ inputLength_ at_ signed_ newParts_ machineParts_ firstParts_ firstTruth_ secondTruth_ isPair_ states_ stateClasses_ elements_ cursor_ hasSnapshot_ isSaving_ newKind_ newBound_ newLength_ newValue_ newPattern_ form_ parts_ truth_ partKind_ partBound_ partLength_ partValue_ partPattern_ x1 x2 x3 out X h K H locs ls Z hl)
/-! SubwordCounterModel complement (II)I -/
abbrev rm_X12_complement : Room := { frames := 2, cells := 0, slots := 0, locals := 42 }
def RW_X12_complement (cy : Nat → ClassId) (o : Nat) (d : Nat → Nat) (letters_ : Int32) (tests_ : Int32) (inputLength_ : Int32) (at_ : Int32) (signed_ : Int32) (newParts_ : Int32) (machineParts_ : Int32) (firstParts_ : Int32) (firstTruth_ : Int32) (secondTruth_ : Int32) (isPair_ : Int32) (states_ : Int32) (stateClasses_ : Int32) (elements_ : Int32) (cursor_ : Int32) (hasSnapshot_ : Int32) (isSaving_ : Int32) (form_ : Nat → Int32) (parts_ : Nat → Int32) (truth_ : Nat → Int32) (partKind_ : Nat → Int32) (partBound_ : Nat → Int32) (partLength_ : Nat → Int32) (partValue_ : Nat → Int32) (partPattern_ : Nat → Int32) (newKind_ : Nat → Int32) (newBound_ : Nat → Int32) (newLength_ : Nat → Int32) (newValue_ : Nat → Int32) (newPattern_ : Nat → Int32) : va_W := [(o, ob 11 (oX12 d letters_ tests_ inputLength_ at_ signed_ newParts_ machineParts_ firstParts_ firstTruth_ secondTruth_ isPair_ states_ stateClasses_ elements_ cursor_ hasSnapshot_ isSaving_)), ((d 16), aI cy 4 form_), ((d 17), aI cy 4 parts_), ((d 18), aI cy 4 truth_), ((d 19), aI cy 16 partKind_), ((d 20), aI cy 16 partBound_), ((d 21), aI cy 16 partLength_), ((d 22), aI cy 16 partValue_), ((d 23), aI cy 64 partPattern_), ((d 24), aI cy 4 newKind_), ((d 25), aI cy 4 newBound_), ((d 26), aI cy 4 newLength_), ((d 27), aI cy 4 newValue_), ((d 28), aI cy 16 newPattern_)]
def RO_X12_complement (cy : Nat → ClassId) (o : Nat) (d : Nat → Nat)  : va_W := []
theorem in_X12_complement_X12 : ∀ w ∈ u_ws RX12 TX12 68, w ∈ wsX12_complement := fun w h => (List.mem_cons_of_mem _ (List.mem_append_right _ h))
theorem lk_X12_complement_X12_form : Lk wsX12_complement RX12 47 11 16 := ⟨RX12, TX12, 68, rfl, by decide, in_X12_complement_X12, mem_at 1 rfl⟩
theorem lp_X12_complement_X12_newParts : Lp wsX12_complement RX12 230 11 29 .int := ⟨RX12, TX12, 68, tyX12, rfl, by decide, in_X12_complement_X12, mem_at 2 rfl, tyX12_ok, nmX12, rfl, by decide +kernel⟩
theorem lk_X12_complement_X12_truth : Lk wsX12_complement RX12 53 11 18 := ⟨RX12, TX12, 68, rfl, by decide, in_X12_complement_X12, mem_at 3 rfl⟩
def f_X12_complement (x1 : Int32) (x2 : Int32) (newParts_ : Int32) (form_ : Nat → Int32) (parts_ : Nat → Int32) (truth_ : Nat → Int32) (partKind_ : Nat → Int32) (partBound_ : Nat → Int32) (partLength_ : Nat → Int32) (partValue_ : Nat → Int32) (partPattern_ : Nat → Int32) (newKind_ : Nat → Int32) (newBound_ : Nat → Int32) (newLength_ : Nat → Int32) (newValue_ : Nat → Int32) (newPattern_ : Nat → Int32) : Option (Int32 × Int32 × (Nat → Int32) × (Nat → Int32) × (Nat → Int32) × (Nat → Int32) × (Nat → Int32) × (Nat → Int32) × (Nat → Int32) × (Nat → Int32) × (Nat → Int32) × (Nat → Int32) × (Nat → Int32) × (Nat → Int32) × (Nat → Int32)) :=
  (f_X12_isLanguage x1).bind (fun u1 =>
  if u1 = 0 then
  (some ((-1 : Int32), newParts_, form_, parts_, truth_, partKind_, partBound_, partLength_, partValue_, partPattern_, newKind_, newBound_, newLength_, newValue_, newPattern_))
  else
  ((f_X12_isLanguage x2).bind (fun u3 =>
  if u3 = 0 then
  (some ((-1 : Int32), newParts_, form_, parts_, truth_, partKind_, partBound_, partLength_, partValue_, partPattern_, newKind_, newBound_, newLength_, newValue_, newPattern_))
  else
  (ldA form_ 4 x2 (fun v6 =>
  if 0 ≤ v6 then
  ((f_X12_addParts x2 parts_ partKind_ partBound_ partLength_ partValue_ partPattern_ (0 : Int32) newKind_ newBound_ newLength_ newValue_ newPattern_).bind (fun u8 =>
  ldA truth_ 4 x2 (fun v11 =>
  (f_X12_put x1 (1 : Int32) (v11 ^^^ (-1 : Int32)) u8.1 u8.2.1 u8.2.2.1 u8.2.2.2.1 u8.2.2.2.2.1 u8.2.2.2.2.2 form_ parts_ truth_ partKind_ partBound_ partLength_ partValue_ partPattern_).bind (fun u13 =>
  some (u13.1, u8.1, u13.2.1, u13.2.2.1, u13.2.2.2.1, u13.2.2.2.2.1, u13.2.2.2.2.2.1, u13.2.2.2.2.2.2.1, u13.2.2.2.2.2.2.2.1, u13.2.2.2.2.2.2.2.2, u8.2.1, u8.2.2.1, u8.2.2.2.1, u8.2.2.2.2.1, u8.2.2.2.2.2)))))
  else
  (some ((-5 : Int32), newParts_, form_, parts_, truth_, partKind_, partBound_, partLength_, partValue_, partPattern_, newKind_, newBound_, newLength_, newValue_, newPattern_)))))))
set_option maxHeartbeats 4000000 in
set_option maxRecDepth 100000 in
theorem wt_X12_complement {p : Program} {l : Launch} {e : Env} {s : State} {m : MethodId} {args : Array Value} {below : List Frame} {meth : Method} {c : Code} {A : Nat → Prop} {Q : State → Prop} {D : va_G} {cy : Nat → ClassId} (o : Nat) (d : Nat → Nat)  (letters_ : Int32) (tests_ : Int32) (inputLength_ : Int32) (at_ : Int32) (signed_ : Int32) (newParts_ : Int32) (machineParts_ : Int32) (firstParts_ : Int32) (firstTruth_ : Int32) (secondTruth_ : Int32) (isPair_ : Int32) (states_ : Int32) (stateClasses_ : Int32) (elements_ : Int32) (cursor_ : Int32) (hasSnapshot_ : Int32) (isSaving_ : Int32) (form_ : Nat → Int32) (parts_ : Nat → Int32) (truth_ : Nat → Int32) (partKind_ : Nat → Int32) (partBound_ : Nat → Int32) (partLength_ : Nat → Int32) (partValue_ : Nat → Int32) (partPattern_ : Nat → Int32) (newKind_ : Nat → Int32) (newBound_ : Nat → Int32) (newLength_ : Nat → Int32) (newValue_ : Nat → Int32) (newPattern_ : Nat → Int32) (x1 : Int32) (x2 : Int32) (out : Int32 × Int32 × (Nat → Int32) × (Nat → Int32) × (Nat → Int32) × (Nat → Int32) × (Nat → Int32) × (Nat → Int32) × (Nat → Int32) × (Nat → Int32) × (Nat → Int32) × (Nat → Int32) × (Nat → Int32) × (Nat → Int32) × (Nat → Int32)) (X : Cx p m c cX12_complement 3 s args wsX12_complement RX12 A D cy (RO_X12_complement cy o d)) (h : f_X12_complement x1 x2 newParts_ form_ parts_ truth_ partKind_ partBound_ partLength_ partValue_ partPattern_ newKind_ newBound_ newLength_ newValue_ newPattern_ = some out) (K : ∀ (H : Heap) (locs : List Loc) (ls : Array Slot) (pc : Nat), decode cX12_complement pc = .ok (.ireturn, 1) → St A D s (RW_X12_complement cy o d letters_ tests_ inputLength_ at_ signed_ out.2.1 machineParts_ firstParts_ firstTruth_ secondTruth_ isPair_ states_ stateClasses_ elements_ cursor_ hasSnapshot_ isSaving_ out.2.2.1 out.2.2.2.1 out.2.2.2.2.1 out.2.2.2.2.2.1 out.2.2.2.2.2.2.1 out.2.2.2.2.2.2.2.1 out.2.2.2.2.2.2.2.2.1 out.2.2.2.2.2.2.2.2.2.1 out.2.2.2.2.2.2.2.2.2.2.1 out.2.2.2.2.2.2.2.2.2.2.2.1 out.2.2.2.2.2.2.2.2.2.2.2.2.1 out.2.2.2.2.2.2.2.2.2.2.2.2.2.1 out.2.2.2.2.2.2.2.2.2.2.2.2.2.2) H locs → W p l e rm_X12_complement s m args below meth c H locs 0 0 Q (F0 m pc ls [.int out.1])) : ∀ (H : Heap) (locs : List Loc) (ls : Array Slot), St A D s (RW_X12_complement cy o d letters_ tests_ inputLength_ at_ signed_ newParts_ machineParts_ firstParts_ firstTruth_ secondTruth_ isPair_ states_ stateClasses_ elements_ cursor_ hasSnapshot_ isSaving_ form_ parts_ truth_ partKind_ partBound_ partLength_ partValue_ partPattern_ newKind_ newBound_ newLength_ newValue_ newPattern_) H locs → lv_has ls 3 [(0, .ref o), (1, .int x1), (2, .int x2)] → W p l e rm_X12_complement s m args below meth c H locs 0 0 Q (F0 m 0 ls []) := by
  intro H locs ls Z hl
  have hx := X.1.1
  have hb := X.1.2.1
  unfold f_X12_complement at h
  refine lv_iload_n hx hb dX12_complement_0 rfl (lv_at hl 1 rfl) ?_
  obtain ⟨u1, hc2, h⟩ := ob_some h
  refine x_runSi (RW' := (RW_X12_complement cy o d letters_ tests_ inputLength_ at_ signed_ newParts_ machineParts_ firstParts_ firstTruth_ secondTruth_ isPair_ states_ stateClasses_ elements_ cursor_ hasSnapshot_ isSaving_ form_ parts_ truth_ partKind_ partBound_ partLength_ partValue_ partPattern_ newKind_ newBound_ newLength_ newValue_ newPattern_)) (wr := [(o, ob 11 (oX12 d letters_ tests_ inputLength_ at_ signed_ newParts_ machineParts_ firstParts_ firstTruth_ secondTruth_ isPair_ states_ stateClasses_ elements_ cursor_ hasSnapshot_ isSaving_)), ((d 16), aI cy 4 form_), ((d 17), aI cy 4 parts_), ((d 18), aI cy 4 truth_), ((d 19), aI cy 16 partKind_), ((d 20), aI cy 16 partBound_), ((d 21), aI cy 16 partLength_), ((d 22), aI cy 16 partValue_), ((d 23), aI cy 64 partPattern_), ((d 24), aI cy 4 newKind_), ((d 25), aI cy 4 newBound_), ((d 26), aI cy 4 newLength_), ((d 27), aI cy 4 newValue_), ((d 28), aI cy 16 newPattern_)]) (isC := []) (isR := [0, 1, 2, 3, 4, 5, 6, 7, 8, 9, 10, 11, 12, 13]) (isF := [0, 1, 2, 3, 4, 5, 6, 7, 8, 9, 10, 11, 12, 13]) (rest := []) (As := [.int x1]) (n := 1) X Z (c_X12_isLanguage l D cy x1 u1 hc2) gX12_complement_X12_isLanguage rfl (by decide +kernel) ⟨Nat.le_of_ble_eq_true rfl, Nat.le_of_ble_eq_true rfl⟩ ⟨rfl, rfl⟩ ⟨Nat.le_of_ble_eq_true rfl, Nat.le_of_ble_eq_true rfl⟩ ⟨rfl, rfl, roN, rfl, rfl, by decide⟩ ⟨rfl, rfl⟩ rfl hl.1 rfl (Nat.le_of_ble_eq_true rfl) dX12_complement_1 (fun H locs Z => ?_)
  refine lv_if_eq (tgt := 14) hx hb dX12_complement_4 (by decide) (fun cnd => ?_) (fun cnd => ?_)
  · replace h := ifp h cnd
    refine lv_iconst (v := (-1 : Int32)) hx hb dX12_complement_14 (by decide) ?_
    obtain rfl := Option.some.inj h
    exact K H locs ls _ dX12_complement_15 Z
  · replace h := ifn h cnd
    refine lv_iload_n hx hb dX12_complement_7 rfl (lv_at hl 2 rfl) ?_
    obtain ⟨u3, hc4, h⟩ := ob_some h
    refine x_runSi (RW' := (RW_X12_complement cy o d letters_ tests_ inputLength_ at_ signed_ newParts_ machineParts_ firstParts_ firstTruth_ secondTruth_ isPair_ states_ stateClasses_ elements_ cursor_ hasSnapshot_ isSaving_ form_ parts_ truth_ partKind_ partBound_ partLength_ partValue_ partPattern_ newKind_ newBound_ newLength_ newValue_ newPattern_)) (wr := [(o, ob 11 (oX12 d letters_ tests_ inputLength_ at_ signed_ newParts_ machineParts_ firstParts_ firstTruth_ secondTruth_ isPair_ states_ stateClasses_ elements_ cursor_ hasSnapshot_ isSaving_)), ((d 16), aI cy 4 form_), ((d 17), aI cy 4 parts_), ((d 18), aI cy 4 truth_), ((d 19), aI cy 16 partKind_), ((d 20), aI cy 16 partBound_), ((d 21), aI cy 16 partLength_), ((d 22), aI cy 16 partValue_), ((d 23), aI cy 64 partPattern_), ((d 24), aI cy 4 newKind_), ((d 25), aI cy 4 newBound_), ((d 26), aI cy 4 newLength_), ((d 27), aI cy 4 newValue_), ((d 28), aI cy 16 newPattern_)]) (isC := []) (isR := [0, 1, 2, 3, 4, 5, 6, 7, 8, 9, 10, 11, 12, 13]) (isF := [0, 1, 2, 3, 4, 5, 6, 7, 8, 9, 10, 11, 12, 13]) (rest := []) (As := [.int x2]) (n := 1) X Z (c_X12_isLanguage l D cy x2 u3 hc4) gX12_complement_X12_isLanguage rfl (by decide +kernel) ⟨Nat.le_of_ble_eq_true rfl, Nat.le_of_ble_eq_true rfl⟩ ⟨rfl, rfl⟩ ⟨Nat.le_of_ble_eq_true rfl, Nat.le_of_ble_eq_true rfl⟩ ⟨rfl, rfl, roN, rfl, rfl, by decide⟩ ⟨rfl, rfl⟩ rfl hl.1 rfl (Nat.le_of_ble_eq_true rfl) dX12_complement_8 (fun H locs Z => ?_)
    refine lv_if_ne (tgt := 16) hx hb dX12_complement_11 (by decide) (fun cnd => ?_) (fun cnd => ?_)
    · replace h := ifn h cnd
      refine lv_aload_n hx hb dX12_complement_16 rfl (lv_at hl 0 rfl) ?_
      refine x_get X Z 0 16 (v := .ref (d 16)) rfl rfl lk_X12_complement_X12_form dX12_complement_17 ?_
      refine lv_iload_n hx hb dX12_complement_20 rfl (lv_at hl 2 rfl) ?_
      obtain ⟨hin5, v6, hv7, h⟩ := ld_b h
      refine x_iald X Z 1 rfl hin5 hv7 dX12_complement_21 ?_
      refine lv_if_ge (tgt := 28) hx hb dX12_complement_22 (by decide) (fun cnd => ?_) (fun cnd => ?_)
      · replace h := ifp h cnd
        refine lv_aload_n hx hb dX12_complement_28 rfl (lv_at hl 0 rfl) ?_
        refine lv_iconst (v := (0 : Int32)) hx hb dX12_complement_29 (by decide) ?_
        refine x_put X Z 0 29 (RW_X12_complement cy o d letters_ tests_ inputLength_ at_ signed_ (0 : Int32) machineParts_ firstParts_ firstTruth_ secondTruth_ isPair_ states_ stateClasses_ elements_ cursor_ hasSnapshot_ isSaving_ form_ parts_ truth_ partKind_ partBound_ partLength_ partValue_ partPattern_ newKind_ newBound_ newLength_ newValue_ newPattern_) rfl lp_X12_complement_X12_newParts (Nat.le_of_ble_eq_true rfl) rfl dX12_complement_30 (fun H locs Z => ?_)
        refine lv_aload_n hx hb dX12_complement_33 rfl (lv_at hl 0 rfl) ?_
        refine lv_iload_n hx hb dX12_complement_34 rfl (lv_at hl 2 rfl) ?_
        obtain ⟨u8, hc9, h⟩ := ob_some h
        refine x_runVv (RW' := (RW_X12_complement cy o d letters_ tests_ inputLength_ at_ signed_ u8.1 machineParts_ firstParts_ firstTruth_ secondTruth_ isPair_ states_ stateClasses_ elements_ cursor_ hasSnapshot_ isSaving_ form_ parts_ truth_ partKind_ partBound_ partLength_ partValue_ partPattern_ u8.2.1 u8.2.2.1 u8.2.2.2.1 u8.2.2.2.2.1 u8.2.2.2.2.2)) (wr := [((d 16), aI cy 4 form_), ((d 17), aI cy 4 parts_), ((d 18), aI cy 4 truth_), ((d 19), aI cy 16 partKind_), ((d 20), aI cy 16 partBound_), ((d 21), aI cy 16 partLength_), ((d 22), aI cy 16 partValue_), ((d 23), aI cy 64 partPattern_)]) (isC := [0, 9, 10, 11, 12, 13]) (isR := [1, 2, 3, 4, 5, 6, 7, 8]) (isF := [8, 0, 1, 2, 3, 4, 5, 6, 7, 9, 10, 11, 12, 13]) (rest := []) (As := [.int x2]) (n := 1) X Z (c_X12_addParts l D cy o d parts_ partKind_ partBound_ partLength_ partValue_ partPattern_ letters_ tests_ inputLength_ at_ signed_ (0 : Int32) machineParts_ firstParts_ firstTruth_ secondTruth_ isPair_ states_ stateClasses_ elements_ cursor_ hasSnapshot_ isSaving_ newKind_ newBound_ newLength_ newValue_ newPattern_ x2 u8 hc9) gX12_complement_X12_addParts rfl (by decide +kernel) ⟨Nat.le_of_ble_eq_true rfl, Nat.le_of_ble_eq_true rfl⟩ ⟨rfl, rfl⟩ ⟨Nat.le_of_ble_eq_true rfl, Nat.le_of_ble_eq_true rfl⟩ (x_rv X Z 0 rfl rfl) ⟨rfl, rfl, (roC (Or.inl (mem_at 1 rfl)) (roC (Or.inl (mem_at 3 rfl)) (roC (Or.inl (mem_at 4 rfl)) (roC (Or.inl (mem_at 5 rfl)) (roC (Or.inl (mem_at 6 rfl)) (roC (Or.inl (mem_at 7 rfl)) roN)))))), rfl, rfl, by decide⟩ ⟨rfl, rfl⟩ rfl hl.1 rfl (Nat.le_of_ble_eq_true rfl) dX12_complement_35 (fun H locs Z => ?_)
        refine lv_aload_n hx hb dX12_complement_38 rfl (lv_at hl 0 rfl) ?_
        refine lv_iload_n hx hb dX12_complement_39 rfl (lv_at hl 1 rfl) ?_
        refine lv_iconst (v := (1 : Int32)) hx hb dX12_complement_40 (by decide) ?_
        refine lv_aload_n hx hb dX12_complement_41 rfl (lv_at hl 0 rfl) ?_
        refine x_get X Z 0 18 (v := .ref (d 18)) rfl rfl lk_X12_complement_X12_truth dX12_complement_42 ?_
        refine lv_iload_n hx hb dX12_complement_45 rfl (lv_at hl 2 rfl) ?_
        obtain ⟨hin10, v11, hv12, h⟩ := ld_b h
        refine x_iald X Z 3 rfl hin10 hv12 dX12_complement_46 ?_
        refine lv_iconst (v := (-1 : Int32)) hx hb dX12_complement_47 (by decide) ?_
        refine lv_ixor hx hb dX12_complement_48 ?_
        obtain ⟨u13, hc14, h⟩ := ob_some h
        refine x_runVi (RW' := (RW_X12_complement cy o d letters_ tests_ inputLength_ at_ signed_ u8.1 machineParts_ firstParts_ firstTruth_ secondTruth_ isPair_ states_ stateClasses_ elements_ cursor_ hasSnapshot_ isSaving_ u13.2.1 u13.2.2.1 u13.2.2.2.1 u13.2.2.2.2.1 u13.2.2.2.2.2.1 u13.2.2.2.2.2.2.1 u13.2.2.2.2.2.2.2.1 u13.2.2.2.2.2.2.2.2 u8.2.1 u8.2.2.1 u8.2.2.2.1 u8.2.2.2.2.1 u8.2.2.2.2.2)) (wr := [(o, ob 11 (oX12 d letters_ tests_ inputLength_ at_ signed_ u8.1 machineParts_ firstParts_ firstTruth_ secondTruth_ isPair_ states_ stateClasses_ elements_ cursor_ hasSnapshot_ isSaving_)), ((d 24), aI cy 4 u8.2.1), ((d 25), aI cy 4 u8.2.2.1), ((d 26), aI cy 4 u8.2.2.2.1), ((d 27), aI cy 4 u8.2.2.2.2.1), ((d 28), aI cy 16 u8.2.2.2.2.2)]) (isC := [1, 2, 3, 4, 5, 6, 7, 8]) (isR := [0, 9, 10, 11, 12, 13]) (isF := [0, 6, 7, 8, 9, 10, 11, 12, 13, 1, 2, 3, 4, 5]) (rest := []) (As := [.int x1, .int (1 : Int32), .int (v11 ^^^ (-1 : Int32))]) (n := 3) X Z (c_X12_put l D cy o d letters_ tests_ inputLength_ at_ signed_ u8.1 machineParts_ firstParts_ firstTruth_ secondTruth_ isPair_ states_ stateClasses_ elements_ cursor_ hasSnapshot_ isSaving_ u8.2.1 u8.2.2.1 u8.2.2.2.1 u8.2.2.2.2.1 u8.2.2.2.2.2 form_ parts_ truth_ partKind_ partBound_ partLength_ partValue_ partPattern_ x1 (1 : Int32) (v11 ^^^ (-1 : Int32)) u13 hc14) gX12_complement_X12_put rfl (by decide +kernel) ⟨Nat.le_of_ble_eq_true rfl, Nat.le_of_ble_eq_true rfl⟩ ⟨rfl, rfl⟩ ⟨Nat.le_of_ble_eq_true rfl, Nat.le_of_ble_eq_true rfl⟩ (x_rv X Z 0 rfl rfl) ⟨rfl, rfl, (roC (Or.inl (mem_at 0 rfl)) (roC (Or.inl (mem_at 1 rfl)) (roC (Or.inl (mem_at 2 rfl)) (roC (Or.inl (mem_at 3 rfl)) (roC (Or.inl (mem_at 4 rfl)) (roC (Or.inl (mem_at 5 rfl)) roN)))))), rfl, rfl, by decide⟩ ⟨rfl, rfl⟩ rfl hl.1 rfl (Nat.le_of_ble_eq_true rfl) dX12_complement_49 (fun H locs Z => ?_)
        obtain rfl := Option.some.inj h
        exact K H locs ls _ dX12_complement_52 Z
      · replace h := ifn h cnd
        refine lv_bipush (v := (-5 : Int32)) hx hb dX12_complement_25 (by decide) ?_
        obtain rfl := Option.some.inj h
        exact K H locs ls _ dX12_complement_27 Z
    · replace h := ifp h cnd
      refine lv_iconst (v := (-1 : Int32)) hx hb dX12_complement_14 (by decide) ?_
      obtain rfl := Option.some.inj h
      exact K H locs ls _ dX12_complement_15 Z
theorem c_X12_complement (l : Launch) (D : va_G) (cy : Nat → ClassId) (o : Nat) (d : Nat → Nat)  (letters_ : Int32) (tests_ : Int32) (inputLength_ : Int32) (at_ : Int32) (signed_ : Int32) (newParts_ : Int32) (machineParts_ : Int32) (firstParts_ : Int32) (firstTruth_ : Int32) (secondTruth_ : Int32) (isPair_ : Int32) (states_ : Int32) (stateClasses_ : Int32) (elements_ : Int32) (cursor_ : Int32) (hasSnapshot_ : Int32) (isSaving_ : Int32) (form_ : Nat → Int32) (parts_ : Nat → Int32) (truth_ : Nat → Int32) (partKind_ : Nat → Int32) (partBound_ : Nat → Int32) (partLength_ : Nat → Int32) (partValue_ : Nat → Int32) (partPattern_ : Nat → Int32) (newKind_ : Nat → Int32) (newBound_ : Nat → Int32) (newLength_ : Nat → Int32) (newValue_ : Nat → Int32) (newPattern_ : Nat → Int32) (x1 : Int32) (x2 : Int32) (out : Int32 × Int32 × (Nat → Int32) × (Nat → Int32) × (Nat → Int32) × (Nat → Int32) × (Nat → Int32) × (Nat → Int32) × (Nat → Int32) × (Nat → Int32) × (Nat → Int32) × (Nat → Int32) × (Nat → Int32) × (Nat → Int32) × (Nat → Int32)) (h : f_X12_complement x1 x2 newParts_ form_ parts_ truth_ partKind_ partBound_ partLength_ partValue_ partPattern_ newKind_ newBound_ newLength_ newValue_ newPattern_ = some out) : CtI l yX12_complement wsX12_complement rm_X12_complement D cy [.ref o, .int x1, .int x2] (RW_X12_complement cy o d letters_ tests_ inputLength_ at_ signed_ newParts_ machineParts_ firstParts_ firstTruth_ secondTruth_ isPair_ states_ stateClasses_ elements_ cursor_ hasSnapshot_ isSaving_ form_ parts_ truth_ partKind_ partBound_ partLength_ partValue_ partPattern_ newKind_ newBound_ newLength_ newValue_ newPattern_) (RO_X12_complement cy o d) (RW_X12_complement cy o d letters_ tests_ inputLength_ at_ signed_ out.2.1 machineParts_ firstParts_ firstTruth_ secondTruth_ isPair_ states_ stateClasses_ elements_ cursor_ hasSnapshot_ isSaving_ out.2.2.1 out.2.2.2.1 out.2.2.2.2.1 out.2.2.2.2.2.1 out.2.2.2.2.2.2.1 out.2.2.2.2.2.2.2.1 out.2.2.2.2.2.2.2.2.1 out.2.2.2.2.2.2.2.2.2.1 out.2.2.2.2.2.2.2.2.2.2.1 out.2.2.2.2.2.2.2.2.2.2.2.1 out.2.2.2.2.2.2.2.2.2.2.2.2.1 out.2.2.2.2.2.2.2.2.2.2.2.2.2.1 out.2.2.2.2.2.2.2.2.2.2.2.2.2.2) out.1 :=
  mk_i (ty := .int) (by decide) rfl rfl (Nat.le_of_ble_eq_true rfl) (fun p e s m args below meth c A Q X K H locs ls Z hl => wt_X12_complement o d letters_ tests_ inputLength_ at_ signed_ newParts_ machineParts_ firstParts_ firstTruth_ secondTruth_ isPair_ states_ stateClasses_ elements_ cursor_ hasSnapshot_ isSaving_ form_ parts_ truth_ partKind_ partBound_ partLength_ partValue_ partPattern_ newKind_ newBound_ newLength_ newValue_ newPattern_ x1 x2 out X h K H locs ls Z hl)
/-! SubwordCounterModel join (IIIZ)I -/
abbrev rm_X12_join : Room := { frames := 2, cells := 0, slots := 0, locals := 42 }
def RW_X12_join (cy : Nat → ClassId) (o : Nat) (d : Nat → Nat) (letters_ : Int32) (tests_ : Int32) (inputLength_ : Int32) (at_ : Int32) (signed_ : Int32) (newParts_ : Int32) (machineParts_ : Int32) (firstParts_ : Int32) (firstTruth_ : Int32) (secondTruth_ : Int32) (isPair_ : Int32) (states_ : Int32) (stateClasses_ : Int32) (elements_ : Int32) (cursor_ : Int32) (hasSnapshot_ : Int32) (isSaving_ : Int32) (form_ : Nat → Int32) (parts_ : Nat → Int32) (truth_ : Nat → Int32) (partKind_ : Nat → Int32) (partBound_ : Nat → Int32) (partLength_ : Nat → Int32) (partValue_ : Nat → Int32) (partPattern_ : Nat → Int32) (newKind_ : Nat → Int32) (newBound_ : Nat → Int32) (newLength_ : Nat → Int32) (newValue_ : Nat → Int32) (newPattern_ : Nat → Int32) : va_W := [(o, ob 11 (oX12 d letters_ tests_ inputLength_ at_ signed_ newParts_ machineParts_ firstParts_ firstTruth_ secondTruth_ isPair_ states_ stateClasses_ elements_ cursor_ hasSnapshot_ isSaving_)), ((d 16), aI cy 4 form_), ((d 17), aI cy 4 parts_), ((d 18), aI cy 4 truth_), ((d 19), aI cy 16 partKind_), ((d 20), aI cy 16 partBound_), ((d 21), aI cy 16 partLength_), ((d 22), aI cy 16 partValue_), ((d 23), aI cy 64 partPattern_), ((d 24), aI cy 4 newKind_), ((d 25), aI cy 4 newBound_), ((d 26), aI cy 4 newLength_), ((d 27), aI cy 4 newValue_), ((d 28), aI cy 16 newPattern_)]
def RO_X12_join (cy : Nat → ClassId) (o : Nat) (d : Nat → Nat)  : va_W := []
theorem in_X12_join_X12 : ∀ w ∈ u_ws RX12 TX12 68, w ∈ wsX12_join := fun w h => (List.mem_cons_of_mem _ (List.mem_append_right _ h))
theorem lk_X12_join_X12_parts : Lk wsX12_join RX12 50 11 17 := ⟨RX12, TX12, 68, rfl, by decide, in_X12_join_X12, mem_at 2 rfl⟩
theorem lk_X12_join_X12_truth : Lk wsX12_join RX12 53 11 18 := ⟨RX12, TX12, 68, rfl, by decide, in_X12_join_X12, mem_at 3 rfl⟩
theorem lk_X12_join_X12_form : Lk wsX12_join RX12 47 11 16 := ⟨RX12, TX12, 68, rfl, by decide, in_X12_join_X12, mem_at 1 rfl⟩
theorem lp_X12_join_X12_newParts : Lp wsX12_join RX12 230 11 29 .int := ⟨RX12, TX12, 68, tyX12, rfl, by decide, in_X12_join_X12, mem_at 4 rfl, tyX12_ok, nmX12, rfl, by decide +kernel⟩
def j_X12_join_150  (x7 : Int32) (t0 : Int32) (t1 : Int32) : Option ((Int32 × Int32) ⊕ (Int32)) :=
  some (.inl ((t1 ||| (t0 <<< (x7 &&& 31))), (x7 + (1 : Int32))))
set_option maxHeartbeats 4000000 in
set_option maxRecDepth 100000 in
theorem jw_X12_join_150 {p : Program} {l : Launch} {e : Env} {s : State} {m : MethodId} {args : Array Value} {below : List Frame} {meth : Method} {c : Code} {A : Nat → Prop} {Q : State → Prop} {D : va_G} {cy : Nat → ClassId} (o : Nat) (d : Nat → Nat)  (letters_ : Int32) (tests_ : Int32) (inputLength_ : Int32) (at_ : Int32) (signed_ : Int32) (newParts_ : Int32) (machineParts_ : Int32) (firstParts_ : Int32) (firstTruth_ : Int32) (secondTruth_ : Int32) (isPair_ : Int32) (states_ : Int32) (stateClasses_ : Int32) (elements_ : Int32) (cursor_ : Int32) (hasSnapshot_ : Int32) (isSaving_ : Int32) (form_ : Nat → Int32) (parts_ : Nat → Int32) (truth_ : Nat → Int32) (partKind_ : Nat → Int32) (partBound_ : Nat → Int32) (partLength_ : Nat → Int32) (partValue_ : Nat → Int32) (partPattern_ : Nat → Int32) (newKind_ : Nat → Int32) (newBound_ : Nat → Int32) (newLength_ : Nat → Int32) (newValue_ : Nat → Int32) (newPattern_ : Nat → Int32) (x1 : Int32) (x2 : Int32) (x3 : Int32) (x4 : Int32) (x5 : Int32) (x7 : Int32) (t0 : Int32) (t1 : Int32) (o1 : (Int32 × Int32) ⊕ (Int32)) (X : Cx p m c cX12_join 10 s args wsX12_join RX12 A D cy (RO_X12_join cy o d)) (h : j_X12_join_150 x7 t0 t1 = some o1) (K : Sum.elim (fun v : Int32 × Int32 => ∀ (H : Heap) (locs : List Loc) (ls : Array Slot), St A D s (RW_X12_join cy o d letters_ tests_ inputLength_ at_ signed_ newParts_ machineParts_ firstParts_ firstTruth_ secondTruth_ isPair_ states_ stateClasses_ elements_ cursor_ hasSnapshot_ isSaving_ form_ parts_ truth_ partKind_ partBound_ partLength_ partValue_ partPattern_ newKind_ newBound_ newLength_ newValue_ newPattern_) H locs → lv_has ls 10 [(0, .ref o), (1, .int x1), (2, .int x2), (3, .int x3), (4, .int x4), (5, .int x5), (6, .int v.1), (7, .int v.2)] → W p l e rm_X12_join s m args below meth c H locs 0 0 Q (F0 m 78 ls [])) (fun v : Int32 => ∀ (H : Heap) (locs : List Loc) (ls : Array Slot), St A D s (RW_X12_join cy o d letters_ tests_ inputLength_ at_ signed_ newParts_ machineParts_ firstParts_ firstTruth_ secondTruth_ isPair_ states_ stateClasses_ elements_ cursor_ hasSnapshot_ isSaving_ form_ parts_ truth_ partKind_ partBound_ partLength_ partValue_ partPattern_ newKind_ newBound_ newLength_ newValue_ newPattern_) H locs → lv_has ls 10 [(0, .ref o), (1, .int x1), (2, .int x2), (3, .int x3), (4, .int x4), (6, .int v)] → W p l e rm_X12_join s m args below meth c H locs 0 0 Q (F0 m 162 ls [])) o1) : ∀ (H : Heap) (locs : List Loc) (ls : Array Slot), St A D s (RW_X12_join cy o d letters_ tests_ inputLength_ at_ signed_ newParts_ machineParts_ firstParts_ firstTruth_ secondTruth_ isPair_ states_ stateClasses_ elements_ cursor_ hasSnapshot_ isSaving_ form_ parts_ truth_ partKind_ partBound_ partLength_ partValue_ partPattern_ newKind_ newBound_ newLength_ newValue_ newPattern_) H locs → lv_has ls 10 [(0, .ref o), (1, .int x1), (2, .int x2), (3, .int x3), (4, .int x4), (5, .int x5), (7, .int x7)] → W p l e rm_X12_join s m args below meth c H locs 0 0 Q (F0 m 150 ls [.int t0, .int t1]) := by
  intro H locs ls Z hl
  have hx := X.1.1
  have hb := X.1.2.1
  unfold j_X12_join_150 at h
  refine lv_iload hx hb dX12_join_150 (lv_at hl 6 rfl) ?_
  refine lv_ishl hx hb dX12_join_152 ?_
  refine lv_ior hx hb dX12_join_153 ?_
  refine lv_istore (lv' := [(6, .int (t1 ||| (t0 <<< (x7 &&& 31)))), (0, .ref o), (1, .int x1), (2, .int x2), (3, .int x3), (4, .int x4), (5, .int x5), (7, .int x7)]) hx hb dX12_join_154 hl (by decide) rfl (fun ls hl => ?_)
  refine lv_iinc (v := (x7 + (1 : Int32))) (lv' := [(7, .int (x7 + (1 : Int32))), (6, .int (t1 ||| (t0 <<< (x7 &&& 31)))), (0, .ref o), (1, .int x1), (2, .int x2), (3, .int x3), (4, .int x4), (5, .int x5)]) hx hb dX12_join_156 hl (k := 7) rfl rfl (by decide) rfl (fun ls hl => ?_)
  refine lv_goto (tgt := 78) hx hb dX12_join_159 (by decide) ?_
  obtain rfl := Option.some.inj h
  exact sk_l K H locs ls Z (lv_sub hl [2, 3, 4, 5, 6, 7, 1, 0] rfl)
def b_X12_join_78 (parts_ : Nat → Int32) (truth_ : Nat → Int32) (x2 : Int32) (x3 : Int32) (x4 : Int32) (x5 : Int32)  (x6 : Int32) (x7 : Int32) : Option ((Int32 × Int32) ⊕ (Int32)) :=
  ldA parts_ 4 x3 (fun v2 =>
  if ((1 : Int32) <<< ((x5 + v2) &&& 31)) ≤ x7 then
  (some (.inr x6))
  else
  (ldA truth_ 4 x2 (fun v5 =>
  ldA truth_ 4 x3 (fun v8 =>
  if x4 = 0 then
  (j_X12_join_150 x7 (((v5 >>> ((x7 &&& (((1 : Int32) <<< (x5 &&& 31)) - (1 : Int32))) &&& 31)) &&& (1 : Int32)) &&& ((v8 >>> ((x7 >>> (x5 &&& 31)) &&& 31)) &&& (1 : Int32))) x6)
  else
  (j_X12_join_150 x7 (((v5 >>> ((x7 &&& (((1 : Int32) <<< (x5 &&& 31)) - (1 : Int32))) &&& 31)) &&& (1 : Int32)) ||| ((v8 >>> ((x7 >>> (x5 &&& 31)) &&& 31)) &&& (1 : Int32))) x6)))))
set_option maxHeartbeats 4000000 in
set_option maxRecDepth 100000 in
theorem wb_X12_join_78 {p : Program} {l : Launch} {e : Env} {s : State} {m : MethodId} {args : Array Value} {below : List Frame} {meth : Method} {c : Code} {A : Nat → Prop} {Q : State → Prop} {D : va_G} {cy : Nat → ClassId} (o : Nat) (d : Nat → Nat)  (letters_ : Int32) (tests_ : Int32) (inputLength_ : Int32) (at_ : Int32) (signed_ : Int32) (newParts_ : Int32) (machineParts_ : Int32) (firstParts_ : Int32) (firstTruth_ : Int32) (secondTruth_ : Int32) (isPair_ : Int32) (states_ : Int32) (stateClasses_ : Int32) (elements_ : Int32) (cursor_ : Int32) (hasSnapshot_ : Int32) (isSaving_ : Int32) (form_ : Nat → Int32) (parts_ : Nat → Int32) (truth_ : Nat → Int32) (partKind_ : Nat → Int32) (partBound_ : Nat → Int32) (partLength_ : Nat → Int32) (partValue_ : Nat → Int32) (partPattern_ : Nat → Int32) (newKind_ : Nat → Int32) (newBound_ : Nat → Int32) (newLength_ : Nat → Int32) (newValue_ : Nat → Int32) (newPattern_ : Nat → Int32) (x1 : Int32) (x2 : Int32) (x3 : Int32) (x4 : Int32) (x5 : Int32)  (x6 : Int32) (x7 : Int32) (o1 : (Int32 × Int32) ⊕ (Int32)) (X : Cx p m c cX12_join 10 s args wsX12_join RX12 A D cy (RO_X12_join cy o d)) (h : b_X12_join_78 parts_ truth_ x2 x3 x4 x5 x6 x7 = some o1) (K : Sum.elim (fun v : Int32 × Int32 => ∀ (H : Heap) (locs : List Loc) (ls : Array Slot), St A D s (RW_X12_join cy o d letters_ tests_ inputLength_ at_ signed_ newParts_ machineParts_ firstParts_ firstTruth_ secondTruth_ isPair_ states_ stateClasses_ elements_ cursor_ hasSnapshot_ isSaving_ form_ parts_ truth_ partKind_ partBound_ partLength_ partValue_ partPattern_ newKind_ newBound_ newLength_ newValue_ newPattern_) H locs → lv_has ls 10 [(0, .ref o), (1, .int x1), (2, .int x2), (3, .int x3), (4, .int x4), (5, .int x5), (6, .int v.1), (7, .int v.2)] → W p l e rm_X12_join s m args below meth c H locs 0 0 Q (F0 m 78 ls [])) (fun v : Int32 => ∀ (H : Heap) (locs : List Loc) (ls : Array Slot), St A D s (RW_X12_join cy o d letters_ tests_ inputLength_ at_ signed_ newParts_ machineParts_ firstParts_ firstTruth_ secondTruth_ isPair_ states_ stateClasses_ elements_ cursor_ hasSnapshot_ isSaving_ form_ parts_ truth_ partKind_ partBound_ partLength_ partValue_ partPattern_ newKind_ newBound_ newLength_ newValue_ newPattern_) H locs → lv_has ls 10 [(0, .ref o), (1, .int x1), (2, .int x2), (3, .int x3), (4, .int x4), (6, .int v)] → W p l e rm_X12_join s m args below meth c H locs 0 0 Q (F0 m 162 ls [])) o1) : ∀ (H : Heap) (locs : List Loc) (ls : Array Slot), St A D s (RW_X12_join cy o d letters_ tests_ inputLength_ at_ signed_ newParts_ machineParts_ firstParts_ firstTruth_ secondTruth_ isPair_ states_ stateClasses_ elements_ cursor_ hasSnapshot_ isSaving_ form_ parts_ truth_ partKind_ partBound_ partLength_ partValue_ partPattern_ newKind_ newBound_ newLength_ newValue_ newPattern_) H locs → lv_has ls 10 [(0, .ref o), (1, .int x1), (2, .int x2), (3, .int x3), (4, .int x4), (5, .int x5), (6, .int x6), (7, .int x7)] → W p l e rm_X12_join s m args below meth c H locs 0 0 Q (F0 m 78 ls []) := by
  intro H locs ls Z hl
  have hx := X.1.1
  have hb := X.1.2.1
  unfold b_X12_join_78 at h
  refine lv_iload hx hb dX12_join_78 (lv_at hl 7 rfl) ?_
  refine lv_iconst (v := (1 : Int32)) hx hb dX12_join_80 (by decide) ?_
  refine lv_iload hx hb dX12_join_81 (lv_at hl 5 rfl) ?_
  refine lv_aload_n hx hb dX12_join_83 rfl (lv_at hl 0 rfl) ?_
  refine x_get X Z 0 17 (v := .ref (d 17)) rfl rfl lk_X12_join_X12_parts dX12_join_84 ?_
  refine lv_iload_n hx hb dX12_join_87 rfl (lv_at hl 3 rfl) ?_
  obtain ⟨hin1, v2, hv3, h⟩ := ld_b h
  refine x_iald X Z 2 rfl hin1 hv3 dX12_join_88 ?_
  refine lv_iadd hx hb dX12_join_89 ?_
  refine lv_ishl hx hb dX12_join_90 ?_
  refine lv_icmp_ge (tgt := 162) hx hb dX12_join_91 (by decide) (fun cnd => ?_) (fun cnd => ?_)
  · replace h := ifp h cnd
    obtain rfl := Option.some.inj h
    exact (sk_r K) H locs ls Z (lv_sub hl [0, 1, 2, 3, 4, 6] rfl)
  · replace h := ifn h cnd
    refine lv_aload_n hx hb dX12_join_94 rfl (lv_at hl 0 rfl) ?_
    refine x_get X Z 0 18 (v := .ref (d 18)) rfl rfl lk_X12_join_X12_truth dX12_join_95 ?_
    refine lv_iload_n hx hb dX12_join_98 rfl (lv_at hl 2 rfl) ?_
    obtain ⟨hin4, v5, hv6, h⟩ := ld_b h
    refine x_iald X Z 3 rfl hin4 hv6 dX12_join_99 ?_
    refine lv_iload hx hb dX12_join_100 (lv_at hl 7 rfl) ?_
    refine lv_iconst (v := (1 : Int32)) hx hb dX12_join_102 (by decide) ?_
    refine lv_iload hx hb dX12_join_103 (lv_at hl 5 rfl) ?_
    refine lv_ishl hx hb dX12_join_105 ?_
    refine lv_iconst (v := (1 : Int32)) hx hb dX12_join_106 (by decide) ?_
    refine lv_isub hx hb dX12_join_107 ?_
    refine lv_iand hx hb dX12_join_108 ?_
    refine lv_ishr hx hb dX12_join_109 ?_
    refine lv_iconst (v := (1 : Int32)) hx hb dX12_join_110 (by decide) ?_
    refine lv_iand hx hb dX12_join_111 ?_
    refine lv_istore (lv' := [(8, .int ((v5 >>> ((x7 &&& (((1 : Int32) <<< (x5 &&& 31)) - (1 : Int32))) &&& 31)) &&& (1 : Int32))), (0, .ref o), (1, .int x1), (2, .int x2), (3, .int x3), (4, .int x4), (5, .int x5), (6, .int x6), (7, .int x7)]) hx hb dX12_join_112 hl (by decide) rfl (fun ls hl => ?_)
    refine lv_aload_n hx hb dX12_join_114 rfl (lv_at hl 1 rfl) ?_
    refine x_get X Z 0 18 (v := .ref (d 18)) rfl rfl lk_X12_join_X12_truth dX12_join_115 ?_
    refine lv_iload_n hx hb dX12_join_118 rfl (lv_at hl 4 rfl) ?_
    obtain ⟨hin7, v8, hv9, h⟩ := ld_b h
    refine x_iald X Z 3 rfl hin7 hv9 dX12_join_119 ?_
    refine lv_iload hx hb dX12_join_120 (lv_at hl 8 rfl) ?_
    refine lv_iload hx hb dX12_join_122 (lv_at hl 6 rfl) ?_
    refine lv_ishr hx hb dX12_join_124 ?_
    refine lv_ishr hx hb dX12_join_125 ?_
    refine lv_iconst (v := (1 : Int32)) hx hb dX12_join_126 (by decide) ?_
    refine lv_iand hx hb dX12_join_127 ?_
    refine lv_istore (lv' := [(9, .int ((v8 >>> ((x7 >>> (x5 &&& 31)) &&& 31)) &&& (1 : Int32))), (8, .int ((v5 >>> ((x7 &&& (((1 : Int32) <<< (x5 &&& 31)) - (1 : Int32))) &&& 31)) &&& (1 : Int32))), (0, .ref o), (1, .int x1), (2, .int x2), (3, .int x3), (4, .int x4), (5, .int x5), (6, .int x6), (7, .int x7)]) hx hb dX12_join_128 hl (by decide) rfl (fun ls hl => ?_)
    refine lv_iload hx hb dX12_join_130 (lv_at hl 8 rfl) ?_
    refine lv_iload hx hb dX12_join_132 (lv_at hl 6 rfl) ?_
    refine lv_if_eq (tgt := 145) hx hb dX12_join_134 (by decide) (fun cnd => ?_) (fun cnd => ?_)
    · replace h := ifp h cnd
      refine lv_iload hx hb dX12_join_145 (lv_at hl 1 rfl) ?_
      refine lv_iload hx hb dX12_join_147 (lv_at hl 0 rfl) ?_
      refine lv_iand hx hb dX12_join_149 ?_
      exact jw_X12_join_150 o d letters_ tests_ inputLength_ at_ signed_ newParts_ machineParts_ firstParts_ firstTruth_ secondTruth_ isPair_ states_ stateClasses_ elements_ cursor_ hasSnapshot_ isSaving_ form_ parts_ truth_ partKind_ partBound_ partLength_ partValue_ partPattern_ newKind_ newBound_ newLength_ newValue_ newPattern_ x1 x2 x3 x4 x5 x7 (((v5 >>> ((x7 &&& (((1 : Int32) <<< (x5 &&& 31)) - (1 : Int32))) &&& 31)) &&& (1 : Int32)) &&& ((v8 >>> ((x7 >>> (x5 &&& 31)) &&& 31)) &&& (1 : Int32))) x6 _ X h K H locs ls Z (lv_sub hl [2, 3, 4, 5, 6, 7, 9] rfl)
    · replace h := ifn h cnd
      refine lv_iload hx hb dX12_join_137 (lv_at hl 1 rfl) ?_
      refine lv_iload hx hb dX12_join_139 (lv_at hl 0 rfl) ?_
      refine lv_ior hx hb dX12_join_141 ?_
      refine lv_goto (tgt := 150) hx hb dX12_join_142 (by decide) ?_
      exact jw_X12_join_150 o d letters_ tests_ inputLength_ at_ signed_ newParts_ machineParts_ firstParts_ firstTruth_ secondTruth_ isPair_ states_ stateClasses_ elements_ cursor_ hasSnapshot_ isSaving_ form_ parts_ truth_ partKind_ partBound_ partLength_ partValue_ partPattern_ newKind_ newBound_ newLength_ newValue_ newPattern_ x1 x2 x3 x4 x5 x7 (((v5 >>> ((x7 &&& (((1 : Int32) <<< (x5 &&& 31)) - (1 : Int32))) &&& 31)) &&& (1 : Int32)) ||| ((v8 >>> ((x7 >>> (x5 &&& 31)) &&& 31)) &&& (1 : Int32))) x6 _ X h K H locs ls Z (lv_sub hl [2, 3, 4, 5, 6, 7, 9] rfl)
set_option maxHeartbeats 4000000 in
set_option maxRecDepth 100000 in
theorem wl_X12_join_78 {p : Program} {l : Launch} {e : Env} {s : State} {m : MethodId} {args : Array Value} {below : List Frame} {meth : Method} {c : Code} {A : Nat → Prop} {Q : State → Prop} {D : va_G} {cy : Nat → ClassId} (o : Nat) (d : Nat → Nat)  (letters_ : Int32) (tests_ : Int32) (inputLength_ : Int32) (at_ : Int32) (signed_ : Int32) (newParts_ : Int32) (machineParts_ : Int32) (firstParts_ : Int32) (firstTruth_ : Int32) (secondTruth_ : Int32) (isPair_ : Int32) (states_ : Int32) (stateClasses_ : Int32) (elements_ : Int32) (cursor_ : Int32) (hasSnapshot_ : Int32) (isSaving_ : Int32) (form_ : Nat → Int32) (parts_ : Nat → Int32) (truth_ : Nat → Int32) (partKind_ : Nat → Int32) (partBound_ : Nat → Int32) (partLength_ : Nat → Int32) (partValue_ : Nat → Int32) (partPattern_ : Nat → Int32) (newKind_ : Nat → Int32) (newBound_ : Nat → Int32) (newLength_ : Nat → Int32) (newValue_ : Nat → Int32) (newPattern_ : Nat → Int32) (x1 : Int32) (x2 : Int32) (x3 : Int32) (x4 : Int32) (x5 : Int32) (n : Nat) (v : Int32 × Int32) (x : Int32) (X : Cx p m c cX12_join 10 s args wsX12_join RX12 A D cy (RO_X12_join cy o d)) (h : loopN (fun v => b_X12_join_78 parts_ truth_ x2 x3 x4 x5 v.1 v.2) n v = some x) (K : ∀ (H : Heap) (locs : List Loc) (ls : Array Slot), St A D s (RW_X12_join cy o d letters_ tests_ inputLength_ at_ signed_ newParts_ machineParts_ firstParts_ firstTruth_ secondTruth_ isPair_ states_ stateClasses_ elements_ cursor_ hasSnapshot_ isSaving_ form_ parts_ truth_ partKind_ partBound_ partLength_ partValue_ partPattern_ newKind_ newBound_ newLength_ newValue_ newPattern_) H locs → lv_has ls 10 [(0, .ref o), (1, .int x1), (2, .int x2), (3, .int x3), (4, .int x4), (6, .int x)] → W p l e rm_X12_join s m args below meth c H locs 0 0 Q (F0 m 162 ls [])) : ∀ (H : Heap) (locs : List Loc) (ls : Array Slot), St A D s (RW_X12_join cy o d letters_ tests_ inputLength_ at_ signed_ newParts_ machineParts_ firstParts_ firstTruth_ secondTruth_ isPair_ states_ stateClasses_ elements_ cursor_ hasSnapshot_ isSaving_ form_ parts_ truth_ partKind_ partBound_ partLength_ partValue_ partPattern_ newKind_ newBound_ newLength_ newValue_ newPattern_) H locs → lv_has ls 10 [(0, .ref o), (1, .int x1), (2, .int x2), (3, .int x3), (4, .int x4), (5, .int x5), (6, .int v.1), (7, .int v.2)] → W p l e rm_X12_join s m args below meth c H locs 0 0 Q (F0 m 78 ls []) :=
  loop_gen (B := (fun v => b_X12_join_78 parts_ truth_ x2 x3 x4 x5 v.1 v.2)) (Head := fun v : Int32 × Int32 => ∀ (H : Heap) (locs : List Loc) (ls : Array Slot), St A D s (RW_X12_join cy o d letters_ tests_ inputLength_ at_ signed_ newParts_ machineParts_ firstParts_ firstTruth_ secondTruth_ isPair_ states_ stateClasses_ elements_ cursor_ hasSnapshot_ isSaving_ form_ parts_ truth_ partKind_ partBound_ partLength_ partValue_ partPattern_ newKind_ newBound_ newLength_ newValue_ newPattern_) H locs → lv_has ls 10 [(0, .ref o), (1, .int x1), (2, .int x2), (3, .int x3), (4, .int x4), (5, .int x5), (6, .int v.1), (7, .int v.2)] → W p l e rm_X12_join s m args below meth c H locs 0 0 Q (F0 m 78 ls [])) (Exit := fun v : Int32 => ∀ (H : Heap) (locs : List Loc) (ls : Array Slot), St A D s (RW_X12_join cy o d letters_ tests_ inputLength_ at_ signed_ newParts_ machineParts_ firstParts_ firstTruth_ secondTruth_ isPair_ states_ stateClasses_ elements_ cursor_ hasSnapshot_ isSaving_ form_ parts_ truth_ partKind_ partBound_ partLength_ partValue_ partPattern_ newKind_ newBound_ newLength_ newValue_ newPattern_) H locs → lv_has ls 10 [(0, .ref o), (1, .int x1), (2, .int x2), (3, .int x3), (4, .int x4), (6, .int v)] → W p l e rm_X12_join s m args below meth c H locs 0 0 Q (F0 m 162 ls [])) (fun v o9 hb1 K1 => wb_X12_join_78 o d letters_ tests_ inputLength_ at_ signed_ newParts_ machineParts_ firstParts_ firstTruth_ secondTruth_ isPair_ states_ stateClasses_ elements_ cursor_ hasSnapshot_ isSaving_ form_ parts_ truth_ partKind_ partBound_ partLength_ partValue_ partPattern_ newKind_ newBound_ newLength_ newValue_ newPattern_ x1 x2 x3 x4 x5 v.1 v.2 o9 X hb1 K1) n v x h K
def j_X12_join_189 (newParts_ : Int32) (form_ : Nat → Int32) (parts_ : Nat → Int32) (truth_ : Nat → Int32) (partKind_ : Nat → Int32) (partBound_ : Nat → Int32) (partLength_ : Nat → Int32) (partValue_ : Nat → Int32) (partPattern_ : Nat → Int32) (newKind_ : Nat → Int32) (newBound_ : Nat → Int32) (newLength_ : Nat → Int32) (newValue_ : Nat → Int32) (newPattern_ : Nat → Int32) (x6 : Int32) (t0 : Int32) (t1 : Int32) : Option (Int32 × Int32 × (Nat → Int32) × (Nat → Int32) × (Nat → Int32) × (Nat → Int32) × (Nat → Int32) × (Nat → Int32) × (Nat → Int32) × (Nat → Int32) × (Nat → Int32) × (Nat → Int32) × (Nat → Int32) × (Nat → Int32) × (Nat → Int32)) :=
  (f_X12_put t1 t0 x6 newParts_ newKind_ newBound_ newLength_ newValue_ newPattern_ form_ parts_ truth_ partKind_ partBound_ partLength_ partValue_ partPattern_).bind (fun u10 =>
  some (u10.1, newParts_, u10.2.1, u10.2.2.1, u10.2.2.2.1, u10.2.2.2.2.1, u10.2.2.2.2.2.1, u10.2.2.2.2.2.2.1, u10.2.2.2.2.2.2.2.1, u10.2.2.2.2.2.2.2.2, newKind_, newBound_, newLength_, newValue_, newPattern_))
set_option maxHeartbeats 4000000 in
set_option maxRecDepth 100000 in
theorem jw_X12_join_189 {p : Program} {l : Launch} {e : Env} {s : State} {m : MethodId} {args : Array Value} {below : List Frame} {meth : Method} {c : Code} {A : Nat → Prop} {Q : State → Prop} {D : va_G} {cy : Nat → ClassId} (o : Nat) (d : Nat → Nat)  (letters_ : Int32) (tests_ : Int32) (inputLength_ : Int32) (at_ : Int32) (signed_ : Int32) (newParts_ : Int32) (machineParts_ : Int32) (firstParts_ : Int32) (firstTruth_ : Int32) (secondTruth_ : Int32) (isPair_ : Int32) (states_ : Int32) (stateClasses_ : Int32) (elements_ : Int32) (cursor_ : Int32) (hasSnapshot_ : Int32) (isSaving_ : Int32) (form_ : Nat → Int32) (parts_ : Nat → Int32) (truth_ : Nat → Int32) (partKind_ : Nat → Int32) (partBound_ : Nat → Int32) (partLength_ : Nat → Int32) (partValue_ : Nat → Int32) (partPattern_ : Nat → Int32) (newKind_ : Nat → Int32) (newBound_ : Nat → Int32) (newLength_ : Nat → Int32) (newValue_ : Nat → Int32) (newPattern_ : Nat → Int32) (x6 : Int32) (t0 : Int32) (t1 : Int32) (out : Int32 × Int32 × (Nat → Int32) × (Nat → Int32) × (Nat → Int32) × (Nat → Int32) × (Nat → Int32) × (Nat → Int32) × (Nat → Int32) × (Nat → Int32) × (Nat → Int32) × (Nat → Int32) × (Nat → Int32) × (Nat → Int32) × (Nat → Int32)) (X : Cx p m c cX12_join 10 s args wsX12_join RX12 A D cy (RO_X12_join cy o d)) (h : j_X12_join_189 newParts_ form_ parts_ truth_ partKind_ partBound_ partLength_ partValue_ partPattern_ newKind_ newBound_ newLength_ newValue_ newPattern_ x6 t0 t1 = some out) (K : ∀ (H : Heap) (locs : List Loc) (ls : Array Slot) (pc : Nat), decode cX12_join pc = .ok (.ireturn, 1) → St A D s (RW_X12_join cy o d letters_ tests_ inputLength_ at_ signed_ out.2.1 machineParts_ firstParts_ firstTruth_ secondTruth_ isPair_ states_ stateClasses_ elements_ cursor_ hasSnapshot_ isSaving_ out.2.2.1 out.2.2.2.1 out.2.2.2.2.1 out.2.2.2.2.2.1 out.2.2.2.2.2.2.1 out.2.2.2.2.2.2.2.1 out.2.2.2.2.2.2.2.2.1 out.2.2.2.2.2.2.2.2.2.1 out.2.2.2.2.2.2.2.2.2.2.1 out.2.2.2.2.2.2.2.2.2.2.2.1 out.2.2.2.2.2.2.2.2.2.2.2.2.1 out.2.2.2.2.2.2.2.2.2.2.2.2.2.1 out.2.2.2.2.2.2.2.2.2.2.2.2.2.2) H locs → W p l e rm_X12_join s m args below meth c H locs 0 0 Q (F0 m pc ls [.int out.1])) : ∀ (H : Heap) (locs : List Loc) (ls : Array Slot), St A D s (RW_X12_join cy o d letters_ tests_ inputLength_ at_ signed_ newParts_ machineParts_ firstParts_ firstTruth_ secondTruth_ isPair_ states_ stateClasses_ elements_ cursor_ hasSnapshot_ isSaving_ form_ parts_ truth_ partKind_ partBound_ partLength_ partValue_ partPattern_ newKind_ newBound_ newLength_ newValue_ newPattern_) H locs → lv_has ls 10 [(6, .int x6)] → W p l e rm_X12_join s m args below meth c H locs 0 0 Q (F0 m 189 ls [.int t0, .int t1, .ref o]) := by
  intro H locs ls Z hl
  have hx := X.1.1
  have hb := X.1.2.1
  unfold j_X12_join_189 at h
  refine lv_iload hx hb dX12_join_189 (lv_at hl 0 rfl) ?_
  obtain ⟨u10, hc11, h⟩ := ob_some h
  refine x_runVi (RW' := (RW_X12_join cy o d letters_ tests_ inputLength_ at_ signed_ newParts_ machineParts_ firstParts_ firstTruth_ secondTruth_ isPair_ states_ stateClasses_ elements_ cursor_ hasSnapshot_ isSaving_ u10.2.1 u10.2.2.1 u10.2.2.2.1 u10.2.2.2.2.1 u10.2.2.2.2.2.1 u10.2.2.2.2.2.2.1 u10.2.2.2.2.2.2.2.1 u10.2.2.2.2.2.2.2.2 newKind_ newBound_ newLength_ newValue_ newPattern_)) (wr := [(o, ob 11 (oX12 d letters_ tests_ inputLength_ at_ signed_ newParts_ machineParts_ firstParts_ firstTruth_ secondTruth_ isPair_ states_ stateClasses_ elements_ cursor_ hasSnapshot_ isSaving_)), ((d 24), aI cy 4 newKind_), ((d 25), aI cy 4 newBound_), ((d 26), aI cy 4 newLength_), ((d 27), aI cy 4 newValue_), ((d 28), aI cy 16 newPattern_)]) (isC := [1, 2, 3, 4, 5, 6, 7, 8]) (isR := [0, 9, 10, 11, 12, 13]) (isF := [0, 6, 7, 8, 9, 10, 11, 12, 13, 1, 2, 3, 4, 5]) (rest := []) (As := [.int t1, .int t0, .int x6]) (n := 3) X Z (c_X12_put l D cy o d letters_ tests_ inputLength_ at_ signed_ newParts_ machineParts_ firstParts_ firstTruth_ secondTruth_ isPair_ states_ stateClasses_ elements_ cursor_ hasSnapshot_ isSaving_ newKind_ newBound_ newLength_ newValue_ newPattern_ form_ parts_ truth_ partKind_ partBound_ partLength_ partValue_ partPattern_ t1 t0 x6 u10 hc11) gX12_join_X12_put rfl (by decide +kernel) ⟨Nat.le_of_ble_eq_true rfl, Nat.le_of_ble_eq_true rfl⟩ ⟨rfl, rfl⟩ ⟨Nat.le_of_ble_eq_true rfl, Nat.le_of_ble_eq_true rfl⟩ (x_rv X Z 0 rfl rfl) ⟨rfl, rfl, (roC (Or.inl (mem_at 0 rfl)) (roC (Or.inl (mem_at 1 rfl)) (roC (Or.inl (mem_at 2 rfl)) (roC (Or.inl (mem_at 3 rfl)) (roC (Or.inl (mem_at 4 rfl)) (roC (Or.inl (mem_at 5 rfl)) roN)))))), rfl, rfl, by decide⟩ ⟨rfl, rfl⟩ rfl hl.1 rfl (Nat.le_of_ble_eq_true rfl) dX12_join_191 (fun H locs Z => ?_)
  obtain rfl := Option.some.inj h
  exact K H locs ls _ dX12_join_194 Z
def f_X12_join (x1 : Int32) (x2 : Int32) (x3 : Int32) (x4 : Int32) (newParts_ : Int32) (form_ : Nat → Int32) (parts_ : Nat → Int32) (truth_ : Nat → Int32) (partKind_ : Nat → Int32) (partBound_ : Nat → Int32) (partLength_ : Nat → Int32) (partValue_ : Nat → Int32) (partPattern_ : Nat → Int32) (newKind_ : Nat → Int32) (newBound_ : Nat → Int32) (newLength_ : Nat → Int32) (newValue_ : Nat → Int32) (newPattern_ : Nat → Int32) : Option (Int32 × Int32 × (Nat → Int32) × (Nat → Int32) × (Nat → Int32) × (Nat → Int32) × (Nat → Int32) × (Nat → Int32) × (Nat → Int32) × (Nat → Int32) × (Nat → Int32) × (Nat → Int32) × (Nat → Int32) × (Nat → Int32) × (Nat → Int32)) :=
  (f_X12_isLanguage x1).bind (fun u12 =>
  if u12 = 0 then
  (some ((-1 : Int32), newParts_, form_, parts_, truth_, partKind_, partBound_, partLength_, partValue_, partPattern_, newKind_, newBound_, newLength_, newValue_, newPattern_))
  else
  ((f_X12_isLanguage x2).bind (fun u14 =>
  if u14 = 0 then
  (some ((-1 : Int32), newParts_, form_, parts_, truth_, partKind_, partBound_, partLength_, partValue_, partPattern_, newKind_, newBound_, newLength_, newValue_, newPattern_))
  else
  ((f_X12_isLanguage x3).bind (fun u16 =>
  if u16 = 0 then
  (some ((-1 : Int32), newParts_, form_, parts_, truth_, partKind_, partBound_, partLength_, partValue_, partPattern_, newKind_, newBound_, newLength_, newValue_, newPattern_))
  else
  (ldA form_ 4 x2 (fun v19 =>
  if v19 < 0 then
  (some ((-5 : Int32), newParts_, form_, parts_, truth_, partKind_, partBound_, partLength_, partValue_, partPattern_, newKind_, newBound_, newLength_, newValue_, newPattern_))
  else
  (ldA form_ 4 x3 (fun v22 =>
  if 0 ≤ v22 then
  (ldA parts_ 4 x2 (fun v25 =>
  ldA parts_ 4 x3 (fun v28 =>
  if (v25 + v28) ≤ (4 : Int32) then
  (ldA parts_ 4 x2 (fun v31 =>
  (loopN (fun v => b_X12_join_78 parts_ truth_ x2 x3 x4 v31 v.1 v.2) FU ((0 : Int32), (0 : Int32))).bind (fun u33 =>
  (f_X12_addParts x2 parts_ partKind_ partBound_ partLength_ partValue_ partPattern_ (0 : Int32) newKind_ newBound_ newLength_ newValue_ newPattern_).bind (fun u35 =>
  (f_X12_addParts x3 parts_ partKind_ partBound_ partLength_ partValue_ partPattern_ u35.1 u35.2.1 u35.2.2.1 u35.2.2.2.1 u35.2.2.2.2.1 u35.2.2.2.2.2).bind (fun u37 =>
  if x4 = 0 then
  (j_X12_join_189 u37.1 form_ parts_ truth_ partKind_ partBound_ partLength_ partValue_ partPattern_ u37.2.1 u37.2.2.1 u37.2.2.2.1 u37.2.2.2.2.1 u37.2.2.2.2.2 u33 (2 : Int32) x1)
  else
  (j_X12_join_189 u37.1 form_ parts_ truth_ partKind_ partBound_ partLength_ partValue_ partPattern_ u37.2.1 u37.2.2.1 u37.2.2.2.1 u37.2.2.2.2.1 u37.2.2.2.2.2 u33 (3 : Int32) x1))))))
  else
  (some ((-3 : Int32), newParts_, form_, parts_, truth_, partKind_, partBound_, partLength_, partValue_, partPattern_, newKind_, newBound_, newLength_, newValue_, newPattern_)))))
  else
  (some ((-5 : Int32), newParts_, form_, parts_, truth_, partKind_, partBound_, partLength_, partValue_, partPattern_, newKind_, newBound_, newLength_, newValue_, newPattern_)))))))))))
set_option maxHeartbeats 4000000 in
set_option maxRecDepth 100000 in
theorem wt_X12_join {p : Program} {l : Launch} {e : Env} {s : State} {m : MethodId} {args : Array Value} {below : List Frame} {meth : Method} {c : Code} {A : Nat → Prop} {Q : State → Prop} {D : va_G} {cy : Nat → ClassId} (o : Nat) (d : Nat → Nat)  (letters_ : Int32) (tests_ : Int32) (inputLength_ : Int32) (at_ : Int32) (signed_ : Int32) (newParts_ : Int32) (machineParts_ : Int32) (firstParts_ : Int32) (firstTruth_ : Int32) (secondTruth_ : Int32) (isPair_ : Int32) (states_ : Int32) (stateClasses_ : Int32) (elements_ : Int32) (cursor_ : Int32) (hasSnapshot_ : Int32) (isSaving_ : Int32) (form_ : Nat → Int32) (parts_ : Nat → Int32) (truth_ : Nat → Int32) (partKind_ : Nat → Int32) (partBound_ : Nat → Int32) (partLength_ : Nat → Int32) (partValue_ : Nat → Int32) (partPattern_ : Nat → Int32) (newKind_ : Nat → Int32) (newBound_ : Nat → Int32) (newLength_ : Nat → Int32) (newValue_ : Nat → Int32) (newPattern_ : Nat → Int32) (x1 : Int32) (x2 : Int32) (x3 : Int32) (x4 : Int32) (out : Int32 × Int32 × (Nat → Int32) × (Nat → Int32) × (Nat → Int32) × (Nat → Int32) × (Nat → Int32) × (Nat → Int32) × (Nat → Int32) × (Nat → Int32) × (Nat → Int32) × (Nat → Int32) × (Nat → Int32) × (Nat → Int32) × (Nat → Int32)) (X : Cx p m c cX12_join 10 s args wsX12_join RX12 A D cy (RO_X12_join cy o d)) (h : f_X12_join x1 x2 x3 x4 newParts_ form_ parts_ truth_ partKind_ partBound_ partLength_ partValue_ partPattern_ newKind_ newBound_ newLength_ newValue_ newPattern_ = some out) (K : ∀ (H : Heap) (locs : List Loc) (ls : Array Slot) (pc : Nat), decode cX12_join pc = .ok (.ireturn, 1) → St A D s (RW_X12_join cy o d letters_ tests_ inputLength_ at_ signed_ out.2.1 machineParts_ firstParts_ firstTruth_ secondTruth_ isPair_ states_ stateClasses_ elements_ cursor_ hasSnapshot_ isSaving_ out.2.2.1 out.2.2.2.1 out.2.2.2.2.1 out.2.2.2.2.2.1 out.2.2.2.2.2.2.1 out.2.2.2.2.2.2.2.1 out.2.2.2.2.2.2.2.2.1 out.2.2.2.2.2.2.2.2.2.1 out.2.2.2.2.2.2.2.2.2.2.1 out.2.2.2.2.2.2.2.2.2.2.2.1 out.2.2.2.2.2.2.2.2.2.2.2.2.1 out.2.2.2.2.2.2.2.2.2.2.2.2.2.1 out.2.2.2.2.2.2.2.2.2.2.2.2.2.2) H locs → W p l e rm_X12_join s m args below meth c H locs 0 0 Q (F0 m pc ls [.int out.1])) : ∀ (H : Heap) (locs : List Loc) (ls : Array Slot), St A D s (RW_X12_join cy o d letters_ tests_ inputLength_ at_ signed_ newParts_ machineParts_ firstParts_ firstTruth_ secondTruth_ isPair_ states_ stateClasses_ elements_ cursor_ hasSnapshot_ isSaving_ form_ parts_ truth_ partKind_ partBound_ partLength_ partValue_ partPattern_ newKind_ newBound_ newLength_ newValue_ newPattern_) H locs → lv_has ls 10 [(0, .ref o), (1, .int x1), (2, .int x2), (3, .int x3), (4, .int x4)] → W p l e rm_X12_join s m args below meth c H locs 0 0 Q (F0 m 0 ls []) := by
  intro H locs ls Z hl
  have hx := X.1.1
  have hb := X.1.2.1
  unfold f_X12_join at h
  refine lv_iload_n hx hb dX12_join_0 rfl (lv_at hl 1 rfl) ?_
  obtain ⟨u12, hc13, h⟩ := ob_some h
  refine x_runSi (RW' := (RW_X12_join cy o d letters_ tests_ inputLength_ at_ signed_ newParts_ machineParts_ firstParts_ firstTruth_ secondTruth_ isPair_ states_ stateClasses_ elements_ cursor_ hasSnapshot_ isSaving_ form_ parts_ truth_ partKind_ partBound_ partLength_ partValue_ partPattern_ newKind_ newBound_ newLength_ newValue_ newPattern_)) (wr := [(o, ob 11 (oX12 d letters_ tests_ inputLength_ at_ signed_ newParts_ machineParts_ firstParts_ firstTruth_ secondTruth_ isPair_ states_ stateClasses_ elements_ cursor_ hasSnapshot_ isSaving_)), ((d 16), aI cy 4 form_), ((d 17), aI cy 4 parts_), ((d 18), aI cy 4 truth_), ((d 19), aI cy 16 partKind_), ((d 20), aI cy 16 partBound_), ((d 21), aI cy 16 partLength_), ((d 22), aI cy 16 partValue_), ((d 23), aI cy 64 partPattern_), ((d 24), aI cy 4 newKind_), ((d 25), aI cy 4 newBound_), ((d 26), aI cy 4 newLength_), ((d 27), aI cy 4 newValue_), ((d 28), aI cy 16 newPattern_)]) (isC := []) (isR := [0, 1, 2, 3, 4, 5, 6, 7, 8, 9, 10, 11, 12, 13]) (isF := [0, 1, 2, 3, 4, 5, 6, 7, 8, 9, 10, 11, 12, 13]) (rest := []) (As := [.int x1]) (n := 1) X Z (c_X12_isLanguage l D cy x1 u12 hc13) gX12_join_X12_isLanguage rfl (by decide +kernel) ⟨Nat.le_of_ble_eq_true rfl, Nat.le_of_ble_eq_true rfl⟩ ⟨rfl, rfl⟩ ⟨Nat.le_of_ble_eq_true rfl, Nat.le_of_ble_eq_true rfl⟩ ⟨rfl, rfl, roN, rfl, rfl, by decide⟩ ⟨rfl, rfl⟩ rfl hl.1 rfl (Nat.le_of_ble_eq_true rfl) dX12_join_1 (fun H locs Z => ?_)
  refine lv_if_eq (tgt := 21) hx hb dX12_join_4 (by decide) (fun cnd => ?_) (fun cnd => ?_)
  · replace h := ifp h cnd
    refine lv_iconst (v := (-1 : Int32)) hx hb dX12_join_21 (by decide) ?_
    obtain rfl := Option.some.inj h
    exact K H locs ls _ dX12_join_22 Z
  · replace h := ifn h cnd
    refine lv_iload_n hx hb dX12_join_7 rfl (lv_at hl 2 rfl) ?_
    obtain ⟨u14, hc15, h⟩ := ob_some h
    refine x_runSi (RW' := (RW_X12_join cy o d letters_ tests_ inputLength_ at_ signed_ newParts_ machineParts_ firstParts_ firstTruth_ secondTruth_ isPair_ states_ stateClasses_ elements_ cursor_ hasSnapshot_ isSaving_ form_ parts_ truth_ partKind_ partBound_ partLength_ partValue_ partPattern_ newKind_ newBound_ newLength_ newValue_ newPattern_)) (wr := [(o, ob 11 (oX12 d letters_ tests_ inputLength_ at_ signed_ newParts_ machineParts_ firstParts_ firstTruth_ secondTruth_ isPair_ states_ stateClasses_ elements_ cursor_ hasSnapshot_ isSaving_)), ((d 16), aI cy 4 form_), ((d 17), aI cy 4 parts_), ((d 18), aI cy 4 truth_), ((d 19), aI cy 16 partKind_), ((d 20), aI cy 16 partBound_), ((d 21), aI cy 16 partLength_), ((d 22), aI cy 16 partValue_), ((d 23), aI cy 64 partPattern_), ((d 24), aI cy 4 newKind_), ((d 25), aI cy 4 newBound_), ((d 26), aI cy 4 newLength_), ((d 27), aI cy 4 newValue_), ((d 28), aI cy 16 newPattern_)]) (isC := []) (isR := [0, 1, 2, 3, 4, 5, 6, 7, 8, 9, 10, 11, 12, 13]) (isF := [0, 1, 2, 3, 4, 5, 6, 7, 8, 9, 10, 11, 12, 13]) (rest := []) (As := [.int x2]) (n := 1) X Z (c_X12_isLanguage l D cy x2 u14 hc15) gX12_join_X12_isLanguage rfl (by decide +kernel) ⟨Nat.le_of_ble_eq_true rfl, Nat.le_of_ble_eq_true rfl⟩ ⟨rfl, rfl⟩ ⟨Nat.le_of_ble_eq_true rfl, Nat.le_of_ble_eq_true rfl⟩ ⟨rfl, rfl, roN, rfl, rfl, by decide⟩ ⟨rfl, rfl⟩ rfl hl.1 rfl (Nat.le_of_ble_eq_true rfl) dX12_join_8 (fun H locs Z => ?_)
    refine lv_if_eq (tgt := 21) hx hb dX12_join_11 (by decide) (fun cnd => ?_) (fun cnd => ?_)
    · replace h := ifp h cnd
      refine lv_iconst (v := (-1 : Int32)) hx hb dX12_join_21 (by decide) ?_
      obtain rfl := Option.some.inj h
      exact K H locs ls _ dX12_join_22 Z
    · replace h := ifn h cnd
      refine lv_iload_n hx hb dX12_join_14 rfl (lv_at hl 3 rfl) ?_
      obtain ⟨u16, hc17, h⟩ := ob_some h
      refine x_runSi (RW' := (RW_X12_join cy o d letters_ tests_ inputLength_ at_ signed_ newParts_ machineParts_ firstParts_ firstTruth_ secondTruth_ isPair_ states_ stateClasses_ elements_ cursor_ hasSnapshot_ isSaving_ form_ parts_ truth_ partKind_ partBound_ partLength_ partValue_ partPattern_ newKind_ newBound_ newLength_ newValue_ newPattern_)) (wr := [(o, ob 11 (oX12 d letters_ tests_ inputLength_ at_ signed_ newParts_ machineParts_ firstParts_ firstTruth_ secondTruth_ isPair_ states_ stateClasses_ elements_ cursor_ hasSnapshot_ isSaving_)), ((d 16), aI cy 4 form_), ((d 17), aI cy 4 parts_), ((d 18), aI cy 4 truth_), ((d 19), aI cy 16 partKind_), ((d 20), aI cy 16 partBound_), ((d 21), aI cy 16 partLength_), ((d 22), aI cy 16 partValue_), ((d 23), aI cy 64 partPattern_), ((d 24), aI cy 4 newKind_), ((d 25), aI cy 4 newBound_), ((d 26), aI cy 4 newLength_), ((d 27), aI cy 4 newValue_), ((d 28), aI cy 16 newPattern_)]) (isC := []) (isR := [0, 1, 2, 3, 4, 5, 6, 7, 8, 9, 10, 11, 12, 13]) (isF := [0, 1, 2, 3, 4, 5, 6, 7, 8, 9, 10, 11, 12, 13]) (rest := []) (As := [.int x3]) (n := 1) X Z (c_X12_isLanguage l D cy x3 u16 hc17) gX12_join_X12_isLanguage rfl (by decide +kernel) ⟨Nat.le_of_ble_eq_true rfl, Nat.le_of_ble_eq_true rfl⟩ ⟨rfl, rfl⟩ ⟨Nat.le_of_ble_eq_true rfl, Nat.le_of_ble_eq_true rfl⟩ ⟨rfl, rfl, roN, rfl, rfl, by decide⟩ ⟨rfl, rfl⟩ rfl hl.1 rfl (Nat.le_of_ble_eq_true rfl) dX12_join_15 (fun H locs Z => ?_)
      refine lv_if_ne (tgt := 23) hx hb dX12_join_18 (by decide) (fun cnd => ?_) (fun cnd => ?_)
      · replace h := ifn h cnd
        refine lv_aload_n hx hb dX12_join_23 rfl (lv_at hl 0 rfl) ?_
        refine x_get X Z 0 16 (v := .ref (d 16)) rfl rfl lk_X12_join_X12_form dX12_join_24 ?_
        refine lv_iload_n hx hb dX12_join_27 rfl (lv_at hl 2 rfl) ?_
        obtain ⟨hin18, v19, hv20, h⟩ := ld_b h
        refine x_iald X Z 1 rfl hin18 hv20 dX12_join_28 ?_
        refine lv_if_lt (tgt := 41) hx hb dX12_join_29 (by decide) (fun cnd => ?_) (fun cnd => ?_)
        · replace h := ifp h cnd
          refine lv_bipush (v := (-5 : Int32)) hx hb dX12_join_41 (by decide) ?_
          obtain rfl := Option.some.inj h
          exact K H locs ls _ dX12_join_43 Z
        · replace h := ifn h cnd
          refine lv_aload_n hx hb dX12_join_32 rfl (lv_at hl 0 rfl) ?_
          refine x_get X Z 0 16 (v := .ref (d 16)) rfl rfl lk_X12_join_X12_form dX12_join_33 ?_
          refine lv_iload_n hx hb dX12_join_36 rfl (lv_at hl 3 rfl) ?_
          obtain ⟨hin21, v22, hv23, h⟩ := ld_b h
          refine x_iald X Z 1 rfl hin21 hv23 dX12_join_37 ?_
          refine lv_if_ge (tgt := 44) hx hb dX12_join_38 (by decide) (fun cnd => ?_) (fun cnd => ?_)
          · replace h := ifp h cnd
            refine lv_aload_n hx hb dX12_join_44 rfl (lv_at hl 0 rfl) ?_
            refine x_get X Z 0 17 (v := .ref (d 17)) rfl rfl lk_X12_join_X12_parts dX12_join_45 ?_
            refine lv_iload_n hx hb dX12_join_48 rfl (lv_at hl 2 rfl) ?_
            obtain ⟨hin24, v25, hv26, h⟩ := ld_b h
            refine x_iald X Z 2 rfl hin24 hv26 dX12_join_49 ?_
            refine lv_aload_n hx hb dX12_join_50 rfl (lv_at hl 0 rfl) ?_
            refine x_get X Z 0 17 (v := .ref (d 17)) rfl rfl lk_X12_join_X12_parts dX12_join_51 ?_
            refine lv_iload_n hx hb dX12_join_54 rfl (lv_at hl 3 rfl) ?_
            obtain ⟨hin27, v28, hv29, h⟩ := ld_b h
            refine x_iald X Z 2 rfl hin27 hv29 dX12_join_55 ?_
            refine lv_iadd hx hb dX12_join_56 ?_
            refine lv_iconst (v := (4 : Int32)) hx hb dX12_join_57 (by decide) ?_
            refine lv_icmp_le (tgt := 64) hx hb dX12_join_58 (by decide) (fun cnd => ?_) (fun cnd => ?_)
            · replace h := ifp h cnd
              refine lv_aload_n hx hb dX12_join_64 rfl (lv_at hl 0 rfl) ?_
              refine x_get X Z 0 17 (v := .ref (d 17)) rfl rfl lk_X12_join_X12_parts dX12_join_65 ?_
              refine lv_iload_n hx hb dX12_join_68 rfl (lv_at hl 2 rfl) ?_
              obtain ⟨hin30, v31, hv32, h⟩ := ld_b h
              refine x_iald X Z 2 rfl hin30 hv32 dX12_join_69 ?_
              refine lv_istore (lv' := [(5, .int v31), (0, .ref o), (1, .int x1), (2, .int x2), (3, .int x3), (4, .int x4)]) hx hb dX12_join_70 hl (by decide) rfl (fun ls hl => ?_)
              refine lv_iconst (v := (0 : Int32)) hx hb dX12_join_72 (by decide) ?_
              refine lv_istore (lv' := [(6, .int (0 : Int32)), (5, .int v31), (0, .ref o), (1, .int x1), (2, .int x2), (3, .int x3), (4, .int x4)]) hx hb dX12_join_73 hl (by decide) rfl (fun ls hl => ?_)
              refine lv_iconst (v := (0 : Int32)) hx hb dX12_join_75 (by decide) ?_
              refine lv_istore (lv' := [(7, .int (0 : Int32)), (6, .int (0 : Int32)), (5, .int v31), (0, .ref o), (1, .int x1), (2, .int x2), (3, .int x3), (4, .int x4)]) hx hb dX12_join_76 hl (by decide) rfl (fun ls hl => ?_)
              obtain ⟨u33, hL34, h⟩ := ob_some h
              refine wl_X12_join_78 o d letters_ tests_ inputLength_ at_ signed_ newParts_ machineParts_ firstParts_ firstTruth_ secondTruth_ isPair_ states_ stateClasses_ elements_ cursor_ hasSnapshot_ isSaving_ form_ parts_ truth_ partKind_ partBound_ partLength_ partValue_ partPattern_ newKind_ newBound_ newLength_ newValue_ newPattern_ x1 x2 x3 x4 v31 FU ((0 : Int32), (0 : Int32)) u33 X hL34 (fun H locs ls Z hl => ?_) H locs ls Z (lv_sub hl [3, 4, 5, 6, 7, 2, 1, 0] rfl)
              refine lv_aload_n hx hb dX12_join_162 rfl (lv_at hl 0 rfl) ?_
              refine lv_iconst (v := (0 : Int32)) hx hb dX12_join_163 (by decide) ?_
              refine x_put X Z 0 29 (RW_X12_join cy o d letters_ tests_ inputLength_ at_ signed_ (0 : Int32) machineParts_ firstParts_ firstTruth_ secondTruth_ isPair_ states_ stateClasses_ elements_ cursor_ hasSnapshot_ isSaving_ form_ parts_ truth_ partKind_ partBound_ partLength_ partValue_ partPattern_ newKind_ newBound_ newLength_ newValue_ newPattern_) rfl lp_X12_join_X12_newParts (Nat.le_of_ble_eq_true rfl) rfl dX12_join_164 (fun H locs Z => ?_)
              refine lv_aload_n hx hb dX12_join_167 rfl (lv_at hl 0 rfl) ?_
              refine lv_iload_n hx hb dX12_join_168 rfl (lv_at hl 2 rfl) ?_
              obtain ⟨u35, hc36, h⟩ := ob_some h
              refine x_runVv (RW' := (RW_X12_join cy o d letters_ tests_ inputLength_ at_ signed_ u35.1 machineParts_ firstParts_ firstTruth_ secondTruth_ isPair_ states_ stateClasses_ elements_ cursor_ hasSnapshot_ isSaving_ form_ parts_ truth_ partKind_ partBound_ partLength_ partValue_ partPattern_ u35.2.1 u35.2.2.1 u35.2.2.2.1 u35.2.2.2.2.1 u35.2.2.2.2.2)) (wr := [((d 16), aI cy 4 form_), ((d 17), aI cy 4 parts_), ((d 18), aI cy 4 truth_), ((d 19), aI cy 16 partKind_), ((d 20), aI cy 16 partBound_), ((d 21), aI cy 16 partLength_), ((d 22), aI cy 16 partValue_), ((d 23), aI cy 64 partPattern_)]) (isC := [0, 9, 10, 11, 12, 13]) (isR := [1, 2, 3, 4, 5, 6, 7, 8]) (isF := [8, 0, 1, 2, 3, 4, 5, 6, 7, 9, 10, 11, 12, 13]) (rest := []) (As := [.int x2]) (n := 1) X Z (c_X12_addParts l D cy o d parts_ partKind_ partBound_ partLength_ partValue_ partPattern_ letters_ tests_ inputLength_ at_ signed_ (0 : Int32) machineParts_ firstParts_ firstTruth_ secondTruth_ isPair_ states_ stateClasses_ elements_ cursor_ hasSnapshot_ isSaving_ newKind_ newBound_ newLength_ newValue_ newPattern_ x2 u35 hc36) gX12_join_X12_addParts rfl (by decide +kernel) ⟨Nat.le_of_ble_eq_true rfl, Nat.le_of_ble_eq_true rfl⟩ ⟨rfl, rfl⟩ ⟨Nat.le_of_ble_eq_true rfl, Nat.le_of_ble_eq_true rfl⟩ (x_rv X Z 0 rfl rfl) ⟨rfl, rfl, (roC (Or.inl (mem_at 1 rfl)) (roC (Or.inl (mem_at 3 rfl)) (roC (Or.inl (mem_at 4 rfl)) (roC (Or.inl (mem_at 5 rfl)) (roC (Or.inl (mem_at 6 rfl)) (roC (Or.inl (mem_at 7 rfl)) roN)))))), rfl, rfl, by decide⟩ ⟨rfl, rfl⟩ rfl hl.1 rfl (Nat.le_of_ble_eq_true rfl) dX12_join_169 (fun H locs Z => ?_)
              refine lv_aload_n hx hb dX12_join_172 rfl (lv_at hl 0 rfl) ?_
              refine lv_iload_n hx hb dX12_join_173 rfl (lv_at hl 3 rfl) ?_
              obtain ⟨u37, hc38, h⟩ := ob_some h
              refine x_runVv (RW' := (RW_X12_join cy o d letters_ tests_ inputLength_ at_ signed_ u37.1 machineParts_ firstParts_ firstTruth_ secondTruth_ isPair_ states_ stateClasses_ elements_ cursor_ hasSnapshot_ isSaving_ form_ parts_ truth_ partKind_ partBound_ partLength_ partValue_ partPattern_ u37.2.1 u37.2.2.1 u37.2.2.2.1 u37.2.2.2.2.1 u37.2.2.2.2.2)) (wr := [((d 16), aI cy 4 form_), ((d 17), aI cy 4 parts_), ((d 18), aI cy 4 truth_), ((d 19), aI cy 16 partKind_), ((d 20), aI cy 16 partBound_), ((d 21), aI cy 16 partLength_), ((d 22), aI cy 16 partValue_), ((d 23), aI cy 64 partPattern_)]) (isC := [0, 9, 10, 11, 12, 13]) (isR := [1, 2, 3, 4, 5, 6, 7, 8]) (isF := [8, 0, 1, 2, 3, 4, 5, 6, 7, 9, 10, 11, 12, 13]) (rest := []) (As := [.int x3]) (n := 1) X Z (c_X12_addParts l D cy o d parts_ partKind_ partBound_ partLength_ partValue_ partPattern_ letters_ tests_ inputLength_ at_ signed_ u35.1 machineParts_ firstParts_ firstTruth_ secondTruth_ isPair_ states_ stateClasses_ elements_ cursor_ hasSnapshot_ isSaving_ u35.2.1 u35.2.2.1 u35.2.2.2.1 u35.2.2.2.2.1 u35.2.2.2.2.2 x3 u37 hc38) gX12_join_X12_addParts rfl (by decide +kernel) ⟨Nat.le_of_ble_eq_true rfl, Nat.le_of_ble_eq_true rfl⟩ ⟨rfl, rfl⟩ ⟨Nat.le_of_ble_eq_true rfl, Nat.le_of_ble_eq_true rfl⟩ (x_rv X Z 0 rfl rfl) ⟨rfl, rfl, (roC (Or.inl (mem_at 1 rfl)) (roC (Or.inl (mem_at 3 rfl)) (roC (Or.inl (mem_at 4 rfl)) (roC (Or.inl (mem_at 5 rfl)) (roC (Or.inl (mem_at 6 rfl)) (roC (Or.inl (mem_at 7 rfl)) roN)))))), rfl, rfl, by decide⟩ ⟨rfl, rfl⟩ rfl hl.1 rfl (Nat.le_of_ble_eq_true rfl) dX12_join_174 (fun H locs Z => ?_)
              refine lv_aload_n hx hb dX12_join_177 rfl (lv_at hl 0 rfl) ?_
              refine lv_iload_n hx hb dX12_join_178 rfl (lv_at hl 1 rfl) ?_
              refine lv_iload hx hb dX12_join_179 (lv_at hl 4 rfl) ?_
              refine lv_if_eq (tgt := 188) hx hb dX12_join_181 (by decide) (fun cnd => ?_) (fun cnd => ?_)
              · replace h := ifp h cnd
                refine lv_iconst (v := (2 : Int32)) hx hb dX12_join_188 (by decide) ?_
                exact jw_X12_join_189 o d letters_ tests_ inputLength_ at_ signed_ u37.1 machineParts_ firstParts_ firstTruth_ secondTruth_ isPair_ states_ stateClasses_ elements_ cursor_ hasSnapshot_ isSaving_ form_ parts_ truth_ partKind_ partBound_ partLength_ partValue_ partPattern_ u37.2.1 u37.2.2.1 u37.2.2.2.1 u37.2.2.2.2.1 u37.2.2.2.2.2 u33 (2 : Int32) x1 _ X h K H locs ls Z (lv_sub hl [5] rfl)
              · replace h := ifn h cnd
                refine lv_iconst (v := (3 : Int32)) hx hb dX12_join_184 (by decide) ?_
                refine lv_goto (tgt := 189) hx hb dX12_join_185 (by decide) ?_
                exact jw_X12_join_189 o d letters_ tests_ inputLength_ at_ signed_ u37.1 machineParts_ firstParts_ firstTruth_ secondTruth_ isPair_ states_ stateClasses_ elements_ cursor_ hasSnapshot_ isSaving_ form_ parts_ truth_ partKind_ partBound_ partLength_ partValue_ partPattern_ u37.2.1 u37.2.2.1 u37.2.2.2.1 u37.2.2.2.2.1 u37.2.2.2.2.2 u33 (3 : Int32) x1 _ X h K H locs ls Z (lv_sub hl [5] rfl)
            · replace h := ifn h cnd
              refine lv_bipush (v := (-3 : Int32)) hx hb dX12_join_61 (by decide) ?_
              obtain rfl := Option.some.inj h
              exact K H locs ls _ dX12_join_63 Z
          · replace h := ifn h cnd
            refine lv_bipush (v := (-5 : Int32)) hx hb dX12_join_41 (by decide) ?_
            obtain rfl := Option.some.inj h
            exact K H locs ls _ dX12_join_43 Z
      · replace h := ifp h cnd
        refine lv_iconst (v := (-1 : Int32)) hx hb dX12_join_21 (by decide) ?_
        obtain rfl := Option.some.inj h
        exact K H locs ls _ dX12_join_22 Z
theorem c_X12_join (l : Launch) (D : va_G) (cy : Nat → ClassId) (o : Nat) (d : Nat → Nat)  (letters_ : Int32) (tests_ : Int32) (inputLength_ : Int32) (at_ : Int32) (signed_ : Int32) (newParts_ : Int32) (machineParts_ : Int32) (firstParts_ : Int32) (firstTruth_ : Int32) (secondTruth_ : Int32) (isPair_ : Int32) (states_ : Int32) (stateClasses_ : Int32) (elements_ : Int32) (cursor_ : Int32) (hasSnapshot_ : Int32) (isSaving_ : Int32) (form_ : Nat → Int32) (parts_ : Nat → Int32) (truth_ : Nat → Int32) (partKind_ : Nat → Int32) (partBound_ : Nat → Int32) (partLength_ : Nat → Int32) (partValue_ : Nat → Int32) (partPattern_ : Nat → Int32) (newKind_ : Nat → Int32) (newBound_ : Nat → Int32) (newLength_ : Nat → Int32) (newValue_ : Nat → Int32) (newPattern_ : Nat → Int32) (x1 : Int32) (x2 : Int32) (x3 : Int32) (x4 : Int32) (out : Int32 × Int32 × (Nat → Int32) × (Nat → Int32) × (Nat → Int32) × (Nat → Int32) × (Nat → Int32) × (Nat → Int32) × (Nat → Int32) × (Nat → Int32) × (Nat → Int32) × (Nat → Int32) × (Nat → Int32) × (Nat → Int32) × (Nat → Int32)) (h : f_X12_join x1 x2 x3 x4 newParts_ form_ parts_ truth_ partKind_ partBound_ partLength_ partValue_ partPattern_ newKind_ newBound_ newLength_ newValue_ newPattern_ = some out) : CtI l yX12_join wsX12_join rm_X12_join D cy [.ref o, .int x1, .int x2, .int x3, .int x4] (RW_X12_join cy o d letters_ tests_ inputLength_ at_ signed_ newParts_ machineParts_ firstParts_ firstTruth_ secondTruth_ isPair_ states_ stateClasses_ elements_ cursor_ hasSnapshot_ isSaving_ form_ parts_ truth_ partKind_ partBound_ partLength_ partValue_ partPattern_ newKind_ newBound_ newLength_ newValue_ newPattern_) (RO_X12_join cy o d) (RW_X12_join cy o d letters_ tests_ inputLength_ at_ signed_ out.2.1 machineParts_ firstParts_ firstTruth_ secondTruth_ isPair_ states_ stateClasses_ elements_ cursor_ hasSnapshot_ isSaving_ out.2.2.1 out.2.2.2.1 out.2.2.2.2.1 out.2.2.2.2.2.1 out.2.2.2.2.2.2.1 out.2.2.2.2.2.2.2.1 out.2.2.2.2.2.2.2.2.1 out.2.2.2.2.2.2.2.2.2.1 out.2.2.2.2.2.2.2.2.2.2.1 out.2.2.2.2.2.2.2.2.2.2.2.1 out.2.2.2.2.2.2.2.2.2.2.2.2.1 out.2.2.2.2.2.2.2.2.2.2.2.2.2.1 out.2.2.2.2.2.2.2.2.2.2.2.2.2.2) out.1 :=
  mk_i (ty := .int) (by decide) rfl rfl (Nat.le_of_ble_eq_true rfl) (fun p e s m args below meth c A Q X K H locs ls Z hl => wt_X12_join o d letters_ tests_ inputLength_ at_ signed_ newParts_ machineParts_ firstParts_ firstTruth_ secondTruth_ isPair_ states_ stateClasses_ elements_ cursor_ hasSnapshot_ isSaving_ form_ parts_ truth_ partKind_ partBound_ partLength_ partValue_ partPattern_ newKind_ newBound_ newLength_ newValue_ newPattern_ x1 x2 x3 x4 out X h K H locs ls Z hl)
/-! SubwordCounterModel intersect (III)I -/
abbrev rm_X12_intersect : Room := { frames := 3, cells := 0, slots := 0, locals := 71 }
def RW_X12_intersect (cy : Nat → ClassId) (o : Nat) (d : Nat → Nat) (letters_ : Int32) (tests_ : Int32) (inputLength_ : Int32) (at_ : Int32) (signed_ : Int32) (newParts_ : Int32) (machineParts_ : Int32) (firstParts_ : Int32) (firstTruth_ : Int32) (secondTruth_ : Int32) (isPair_ : Int32) (states_ : Int32) (stateClasses_ : Int32) (elements_ : Int32) (cursor_ : Int32) (hasSnapshot_ : Int32) (isSaving_ : Int32) (form_ : Nat → Int32) (parts_ : Nat → Int32) (truth_ : Nat → Int32) (partKind_ : Nat → Int32) (partBound_ : Nat → Int32) (partLength_ : Nat → Int32) (partValue_ : Nat → Int32) (partPattern_ : Nat → Int32) (newKind_ : Nat → Int32) (newBound_ : Nat → Int32) (newLength_ : Nat → Int32) (newValue_ : Nat → Int32) (newPattern_ : Nat → Int32) : va_W := [(o, ob 11 (oX12 d letters_ tests_ inputLength_ at_ signed_ newParts_ machineParts_ firstParts_ firstTruth_ secondTruth_ isPair_ states_ stateClasses_ elements_ cursor_ hasSnapshot_ isSaving_)), ((d 16), aI cy 4 form_), ((d 17), aI cy 4 parts_), ((d 18), aI cy 4 truth_), ((d 19), aI cy 16 partKind_), ((d 20), aI cy 16 partBound_), ((d 21), aI cy 16 partLength_), ((d 22), aI cy 16 partValue_), ((d 23), aI cy 64 partPattern_), ((d 24), aI cy 4 newKind_), ((d 25), aI cy 4 newBound_), ((d 26), aI cy 4 newLength_), ((d 27), aI cy 4 newValue_), ((d 28), aI cy 16 newPattern_)]
def RO_X12_intersect (cy : Nat → ClassId) (o : Nat) (d : Nat → Nat)  : va_W := []
def f_X12_intersect (x1 : Int32) (x2 : Int32) (x3 : Int32) (newParts_ : Int32) (form_ : Nat → Int32) (parts_ : Nat → Int32) (truth_ : Nat → Int32) (partKind_ : Nat → Int32) (partBound_ : Nat → Int32) (partLength_ : Nat → Int32) (partValue_ : Nat → Int32) (partPattern_ : Nat → Int32) (newKind_ : Nat → Int32) (newBound_ : Nat → Int32) (newLength_ : Nat → Int32) (newValue_ : Nat → Int32) (newPattern_ : Nat → Int32) : Option (Int32 × Int32 × (Nat → Int32) × (Nat → Int32) × (Nat → Int32) × (Nat → Int32) × (Nat → Int32) × (Nat → Int32) × (Nat → Int32) × (Nat → Int32) × (Nat → Int32) × (Nat → Int32) × (Nat → Int32) × (Nat → Int32) × (Nat → Int32)) :=
  (f_X12_join x1 x2 x3 (0 : Int32) newParts_ form_ parts_ truth_ partKind_ partBound_ partLength_ partValue_ partPattern_ newKind_ newBound_ newLength_ newValue_ newPattern_).bind (fun u1 =>
  some (u1.1, u1.2.1, u1.2.2.1, u1.2.2.2.1, u1.2.2.2.2.1, u1.2.2.2.2.2.1, u1.2.2.2.2.2.2.1, u1.2.2.2.2.2.2.2.1, u1.2.2.2.2.2.2.2.2.1, u1.2.2.2.2.2.2.2.2.2.1, u1.2.2.2.2.2.2.2.2.2.2.1, u1.2.2.2.2.2.2.2.2.2.2.2.1, u1.2.2.2.2.2.2.2.2.2.2.2.2.1, u1.2.2.2.2.2.2.2.2.2.2.2.2.2.1, u1.2.2.2.2.2.2.2.2.2.2.2.2.2.2))
set_option maxHeartbeats 4000000 in
set_option maxRecDepth 100000 in
theorem wt_X12_intersect {p : Program} {l : Launch} {e : Env} {s : State} {m : MethodId} {args : Array Value} {below : List Frame} {meth : Method} {c : Code} {A : Nat → Prop} {Q : State → Prop} {D : va_G} {cy : Nat → ClassId} (o : Nat) (d : Nat → Nat)  (letters_ : Int32) (tests_ : Int32) (inputLength_ : Int32) (at_ : Int32) (signed_ : Int32) (newParts_ : Int32) (machineParts_ : Int32) (firstParts_ : Int32) (firstTruth_ : Int32) (secondTruth_ : Int32) (isPair_ : Int32) (states_ : Int32) (stateClasses_ : Int32) (elements_ : Int32) (cursor_ : Int32) (hasSnapshot_ : Int32) (isSaving_ : Int32) (form_ : Nat → Int32) (parts_ : Nat → Int32) (truth_ : Nat → Int32) (partKind_ : Nat → Int32) (partBound_ : Nat → Int32) (partLength_ : Nat → Int32) (partValue_ : Nat → Int32) (partPattern_ : Nat → Int32) (newKind_ : Nat → Int32) (newBound_ : Nat → Int32) (newLength_ : Nat → Int32) (newValue_ : Nat → Int32) (newPattern_ : Nat → Int32) (x1 : Int32) (x2 : Int32) (x3 : Int32) (out : Int32 × Int32 × (Nat → Int32) × (Nat → Int32) × (Nat → Int32) × (Nat → Int32) × (Nat → Int32) × (Nat → Int32) × (Nat → Int32) × (Nat → Int32) × (Nat → Int32) × (Nat → Int32) × (Nat → Int32) × (Nat → Int32) × (Nat → Int32)) (X : Cx p m c cX12_intersect 4 s args wsX12_intersect RX12 A D cy (RO_X12_intersect cy o d)) (h : f_X12_intersect x1 x2 x3 newParts_ form_ parts_ truth_ partKind_ partBound_ partLength_ partValue_ partPattern_ newKind_ newBound_ newLength_ newValue_ newPattern_ = some out) (K : ∀ (H : Heap) (locs : List Loc) (ls : Array Slot) (pc : Nat), decode cX12_intersect pc = .ok (.ireturn, 1) → St A D s (RW_X12_intersect cy o d letters_ tests_ inputLength_ at_ signed_ out.2.1 machineParts_ firstParts_ firstTruth_ secondTruth_ isPair_ states_ stateClasses_ elements_ cursor_ hasSnapshot_ isSaving_ out.2.2.1 out.2.2.2.1 out.2.2.2.2.1 out.2.2.2.2.2.1 out.2.2.2.2.2.2.1 out.2.2.2.2.2.2.2.1 out.2.2.2.2.2.2.2.2.1 out.2.2.2.2.2.2.2.2.2.1 out.2.2.2.2.2.2.2.2.2.2.1 out.2.2.2.2.2.2.2.2.2.2.2.1 out.2.2.2.2.2.2.2.2.2.2.2.2.1 out.2.2.2.2.2.2.2.2.2.2.2.2.2.1 out.2.2.2.2.2.2.2.2.2.2.2.2.2.2) H locs → W p l e rm_X12_intersect s m args below meth c H locs 0 0 Q (F0 m pc ls [.int out.1])) : ∀ (H : Heap) (locs : List Loc) (ls : Array Slot), St A D s (RW_X12_intersect cy o d letters_ tests_ inputLength_ at_ signed_ newParts_ machineParts_ firstParts_ firstTruth_ secondTruth_ isPair_ states_ stateClasses_ elements_ cursor_ hasSnapshot_ isSaving_ form_ parts_ truth_ partKind_ partBound_ partLength_ partValue_ partPattern_ newKind_ newBound_ newLength_ newValue_ newPattern_) H locs → lv_has ls 4 [(0, .ref o), (1, .int x1), (2, .int x2), (3, .int x3)] → W p l e rm_X12_intersect s m args below meth c H locs 0 0 Q (F0 m 0 ls []) := by
  intro H locs ls Z hl
  have hx := X.1.1
  have hb := X.1.2.1
  unfold f_X12_intersect at h
  refine lv_aload_n hx hb dX12_intersect_0 rfl (lv_at hl 0 rfl) ?_
  refine lv_iload_n hx hb dX12_intersect_1 rfl (lv_at hl 1 rfl) ?_
  refine lv_iload_n hx hb dX12_intersect_2 rfl (lv_at hl 2 rfl) ?_
  refine lv_iload_n hx hb dX12_intersect_3 rfl (lv_at hl 3 rfl) ?_
  refine lv_iconst (v := (0 : Int32)) hx hb dX12_intersect_4 (by decide) ?_
  obtain ⟨u1, hc2, h⟩ := ob_some h
  refine x_runVi (RW' := (RW_X12_intersect cy o d letters_ tests_ inputLength_ at_ signed_ u1.2.1 machineParts_ firstParts_ firstTruth_ secondTruth_ isPair_ states_ stateClasses_ elements_ cursor_ hasSnapshot_ isSaving_ u1.2.2.1 u1.2.2.2.1 u1.2.2.2.2.1 u1.2.2.2.2.2.1 u1.2.2.2.2.2.2.1 u1.2.2.2.2.2.2.2.1 u1.2.2.2.2.2.2.2.2.1 u1.2.2.2.2.2.2.2.2.2.1 u1.2.2.2.2.2.2.2.2.2.2.1 u1.2.2.2.2.2.2.2.2.2.2.2.1 u1.2.2.2.2.2.2.2.2.2.2.2.2.1 u1.2.2.2.2.2.2.2.2.2.2.2.2.2.1 u1.2.2.2.2.2.2.2.2.2.2.2.2.2.2)) (wr := []) (isC := [0, 1, 2, 3, 4, 5, 6, 7, 8, 9, 10, 11, 12, 13]) (isR := []) (isF := [0, 1, 2, 3, 4, 5, 6, 7, 8, 9, 10, 11, 12, 13]) (rest := []) (As := [.int x1, .int x2, .int x3, .int (0 : Int32)]) (n := 4) X Z (c_X12_join l D cy o d letters_ tests_ inputLength_ at_ signed_ newParts_ machineParts_ firstParts_ firstTruth_ secondTruth_ isPair_ states_ stateClasses_ elements_ cursor_ hasSnapshot_ isSaving_ form_ parts_ truth_ partKind_ partBound_ partLength_ partValue_ partPattern_ newKind_ newBound_ newLength_ newValue_ newPattern_ x1 x2 x3 (0 : Int32) u1 hc2) gX12_intersect_X12_join rfl (by decide +kernel) ⟨Nat.le_of_ble_eq_true rfl, Nat.le_of_ble_eq_true rfl⟩ ⟨rfl, rfl⟩ ⟨Nat.le_of_ble_eq_true rfl, Nat.le_of_ble_eq_true rfl⟩ (x_rv X Z 0 rfl rfl) ⟨rfl, rfl, roN, rfl, rfl, by decide⟩ ⟨rfl, rfl⟩ rfl hl.1 rfl (Nat.le_of_ble_eq_true rfl) dX12_intersect_5 (fun H locs Z => ?_)
  obtain rfl := Option.some.inj h
  exact K H locs ls _ dX12_intersect_8 Z
theorem c_X12_intersect (l : Launch) (D : va_G) (cy : Nat → ClassId) (o : Nat) (d : Nat → Nat)  (letters_ : Int32) (tests_ : Int32) (inputLength_ : Int32) (at_ : Int32) (signed_ : Int32) (newParts_ : Int32) (machineParts_ : Int32) (firstParts_ : Int32) (firstTruth_ : Int32) (secondTruth_ : Int32) (isPair_ : Int32) (states_ : Int32) (stateClasses_ : Int32) (elements_ : Int32) (cursor_ : Int32) (hasSnapshot_ : Int32) (isSaving_ : Int32) (form_ : Nat → Int32) (parts_ : Nat → Int32) (truth_ : Nat → Int32) (partKind_ : Nat → Int32) (partBound_ : Nat → Int32) (partLength_ : Nat → Int32) (partValue_ : Nat → Int32) (partPattern_ : Nat → Int32) (newKind_ : Nat → Int32) (newBound_ : Nat → Int32) (newLength_ : Nat → Int32) (newValue_ : Nat → Int32) (newPattern_ : Nat → Int32) (x1 : Int32) (x2 : Int32) (x3 : Int32) (out : Int32 × Int32 × (Nat → Int32) × (Nat → Int32) × (Nat → Int32) × (Nat → Int32) × (Nat → Int32) × (Nat → Int32) × (Nat → Int32) × (Nat → Int32) × (Nat → Int32) × (Nat → Int32) × (Nat → Int32) × (Nat → Int32) × (Nat → Int32)) (h : f_X12_intersect x1 x2 x3 newParts_ form_ parts_ truth_ partKind_ partBound_ partLength_ partValue_ partPattern_ newKind_ newBound_ newLength_ newValue_ newPattern_ = some out) : CtI l yX12_intersect wsX12_intersect rm_X12_intersect D cy [.ref o, .int x1, .int x2, .int x3] (RW_X12_intersect cy o d letters_ tests_ inputLength_ at_ signed_ newParts_ machineParts_ firstParts_ firstTruth_ secondTruth_ isPair_ states_ stateClasses_ elements_ cursor_ hasSnapshot_ isSaving_ form_ parts_ truth_ partKind_ partBound_ partLength_ partValue_ partPattern_ newKind_ newBound_ newLength_ newValue_ newPattern_) (RO_X12_intersect cy o d) (RW_X12_intersect cy o d letters_ tests_ inputLength_ at_ signed_ out.2.1 machineParts_ firstParts_ firstTruth_ secondTruth_ isPair_ states_ stateClasses_ elements_ cursor_ hasSnapshot_ isSaving_ out.2.2.1 out.2.2.2.1 out.2.2.2.2.1 out.2.2.2.2.2.1 out.2.2.2.2.2.2.1 out.2.2.2.2.2.2.2.1 out.2.2.2.2.2.2.2.2.1 out.2.2.2.2.2.2.2.2.2.1 out.2.2.2.2.2.2.2.2.2.2.1 out.2.2.2.2.2.2.2.2.2.2.2.1 out.2.2.2.2.2.2.2.2.2.2.2.2.1 out.2.2.2.2.2.2.2.2.2.2.2.2.2.1 out.2.2.2.2.2.2.2.2.2.2.2.2.2.2) out.1 :=
  mk_i (ty := .int) (by decide) rfl rfl (Nat.le_of_ble_eq_true rfl) (fun p e s m args below meth c A Q X K H locs ls Z hl => wt_X12_intersect o d letters_ tests_ inputLength_ at_ signed_ newParts_ machineParts_ firstParts_ firstTruth_ secondTruth_ isPair_ states_ stateClasses_ elements_ cursor_ hasSnapshot_ isSaving_ form_ parts_ truth_ partKind_ partBound_ partLength_ partValue_ partPattern_ newKind_ newBound_ newLength_ newValue_ newPattern_ x1 x2 x3 out X h K H locs ls Z hl)
/-! SubwordCounterModel unite (III)I -/
abbrev rm_X12_unite : Room := { frames := 3, cells := 0, slots := 0, locals := 71 }
def RW_X12_unite (cy : Nat → ClassId) (o : Nat) (d : Nat → Nat) (letters_ : Int32) (tests_ : Int32) (inputLength_ : Int32) (at_ : Int32) (signed_ : Int32) (newParts_ : Int32) (machineParts_ : Int32) (firstParts_ : Int32) (firstTruth_ : Int32) (secondTruth_ : Int32) (isPair_ : Int32) (states_ : Int32) (stateClasses_ : Int32) (elements_ : Int32) (cursor_ : Int32) (hasSnapshot_ : Int32) (isSaving_ : Int32) (form_ : Nat → Int32) (parts_ : Nat → Int32) (truth_ : Nat → Int32) (partKind_ : Nat → Int32) (partBound_ : Nat → Int32) (partLength_ : Nat → Int32) (partValue_ : Nat → Int32) (partPattern_ : Nat → Int32) (newKind_ : Nat → Int32) (newBound_ : Nat → Int32) (newLength_ : Nat → Int32) (newValue_ : Nat → Int32) (newPattern_ : Nat → Int32) : va_W := [(o, ob 11 (oX12 d letters_ tests_ inputLength_ at_ signed_ newParts_ machineParts_ firstParts_ firstTruth_ secondTruth_ isPair_ states_ stateClasses_ elements_ cursor_ hasSnapshot_ isSaving_)), ((d 16), aI cy 4 form_), ((d 17), aI cy 4 parts_), ((d 18), aI cy 4 truth_), ((d 19), aI cy 16 partKind_), ((d 20), aI cy 16 partBound_), ((d 21), aI cy 16 partLength_), ((d 22), aI cy 16 partValue_), ((d 23), aI cy 64 partPattern_), ((d 24), aI cy 4 newKind_), ((d 25), aI cy 4 newBound_), ((d 26), aI cy 4 newLength_), ((d 27), aI cy 4 newValue_), ((d 28), aI cy 16 newPattern_)]
def RO_X12_unite (cy : Nat → ClassId) (o : Nat) (d : Nat → Nat)  : va_W := []
def f_X12_unite (x1 : Int32) (x2 : Int32) (x3 : Int32) (newParts_ : Int32) (form_ : Nat → Int32) (parts_ : Nat → Int32) (truth_ : Nat → Int32) (partKind_ : Nat → Int32) (partBound_ : Nat → Int32) (partLength_ : Nat → Int32) (partValue_ : Nat → Int32) (partPattern_ : Nat → Int32) (newKind_ : Nat → Int32) (newBound_ : Nat → Int32) (newLength_ : Nat → Int32) (newValue_ : Nat → Int32) (newPattern_ : Nat → Int32) : Option (Int32 × Int32 × (Nat → Int32) × (Nat → Int32) × (Nat → Int32) × (Nat → Int32) × (Nat → Int32) × (Nat → Int32) × (Nat → Int32) × (Nat → Int32) × (Nat → Int32) × (Nat → Int32) × (Nat → Int32) × (Nat → Int32) × (Nat → Int32)) :=
  (f_X12_join x1 x2 x3 (1 : Int32) newParts_ form_ parts_ truth_ partKind_ partBound_ partLength_ partValue_ partPattern_ newKind_ newBound_ newLength_ newValue_ newPattern_).bind (fun u1 =>
  some (u1.1, u1.2.1, u1.2.2.1, u1.2.2.2.1, u1.2.2.2.2.1, u1.2.2.2.2.2.1, u1.2.2.2.2.2.2.1, u1.2.2.2.2.2.2.2.1, u1.2.2.2.2.2.2.2.2.1, u1.2.2.2.2.2.2.2.2.2.1, u1.2.2.2.2.2.2.2.2.2.2.1, u1.2.2.2.2.2.2.2.2.2.2.2.1, u1.2.2.2.2.2.2.2.2.2.2.2.2.1, u1.2.2.2.2.2.2.2.2.2.2.2.2.2.1, u1.2.2.2.2.2.2.2.2.2.2.2.2.2.2))
set_option maxHeartbeats 4000000 in
set_option maxRecDepth 100000 in
theorem wt_X12_unite {p : Program} {l : Launch} {e : Env} {s : State} {m : MethodId} {args : Array Value} {below : List Frame} {meth : Method} {c : Code} {A : Nat → Prop} {Q : State → Prop} {D : va_G} {cy : Nat → ClassId} (o : Nat) (d : Nat → Nat)  (letters_ : Int32) (tests_ : Int32) (inputLength_ : Int32) (at_ : Int32) (signed_ : Int32) (newParts_ : Int32) (machineParts_ : Int32) (firstParts_ : Int32) (firstTruth_ : Int32) (secondTruth_ : Int32) (isPair_ : Int32) (states_ : Int32) (stateClasses_ : Int32) (elements_ : Int32) (cursor_ : Int32) (hasSnapshot_ : Int32) (isSaving_ : Int32) (form_ : Nat → Int32) (parts_ : Nat → Int32) (truth_ : Nat → Int32) (partKind_ : Nat → Int32) (partBound_ : Nat → Int32) (partLength_ : Nat → Int32) (partValue_ : Nat → Int32) (partPattern_ : Nat → Int32) (newKind_ : Nat → Int32) (newBound_ : Nat → Int32) (newLength_ : Nat → Int32) (newValue_ : Nat → Int32) (newPattern_ : Nat → Int32) (x1 : Int32) (x2 : Int32) (x3 : Int32) (out : Int32 × Int32 × (Nat → Int32) × (Nat → Int32) × (Nat → Int32) × (Nat → Int32) × (Nat → Int32) × (Nat → Int32) × (Nat → Int32) × (Nat → Int32) × (Nat → Int32) × (Nat → Int32) × (Nat → Int32) × (Nat → Int32) × (Nat → Int32)) (X : Cx p m c cX12_unite 4 s args wsX12_unite RX12 A D cy (RO_X12_unite cy o d)) (h : f_X12_unite x1 x2 x3 newParts_ form_ parts_ truth_ partKind_ partBound_ partLength_ partValue_ partPattern_ newKind_ newBound_ newLength_ newValue_ newPattern_ = some out) (K : ∀ (H : Heap) (locs : List Loc) (ls : Array Slot) (pc : Nat), decode cX12_unite pc = .ok (.ireturn, 1) → St A D s (RW_X12_unite cy o d letters_ tests_ inputLength_ at_ signed_ out.2.1 machineParts_ firstParts_ firstTruth_ secondTruth_ isPair_ states_ stateClasses_ elements_ cursor_ hasSnapshot_ isSaving_ out.2.2.1 out.2.2.2.1 out.2.2.2.2.1 out.2.2.2.2.2.1 out.2.2.2.2.2.2.1 out.2.2.2.2.2.2.2.1 out.2.2.2.2.2.2.2.2.1 out.2.2.2.2.2.2.2.2.2.1 out.2.2.2.2.2.2.2.2.2.2.1 out.2.2.2.2.2.2.2.2.2.2.2.1 out.2.2.2.2.2.2.2.2.2.2.2.2.1 out.2.2.2.2.2.2.2.2.2.2.2.2.2.1 out.2.2.2.2.2.2.2.2.2.2.2.2.2.2) H locs → W p l e rm_X12_unite s m args below meth c H locs 0 0 Q (F0 m pc ls [.int out.1])) : ∀ (H : Heap) (locs : List Loc) (ls : Array Slot), St A D s (RW_X12_unite cy o d letters_ tests_ inputLength_ at_ signed_ newParts_ machineParts_ firstParts_ firstTruth_ secondTruth_ isPair_ states_ stateClasses_ elements_ cursor_ hasSnapshot_ isSaving_ form_ parts_ truth_ partKind_ partBound_ partLength_ partValue_ partPattern_ newKind_ newBound_ newLength_ newValue_ newPattern_) H locs → lv_has ls 4 [(0, .ref o), (1, .int x1), (2, .int x2), (3, .int x3)] → W p l e rm_X12_unite s m args below meth c H locs 0 0 Q (F0 m 0 ls []) := by
  intro H locs ls Z hl
  have hx := X.1.1
  have hb := X.1.2.1
  unfold f_X12_unite at h
  refine lv_aload_n hx hb dX12_unite_0 rfl (lv_at hl 0 rfl) ?_
  refine lv_iload_n hx hb dX12_unite_1 rfl (lv_at hl 1 rfl) ?_
  refine lv_iload_n hx hb dX12_unite_2 rfl (lv_at hl 2 rfl) ?_
  refine lv_iload_n hx hb dX12_unite_3 rfl (lv_at hl 3 rfl) ?_
  refine lv_iconst (v := (1 : Int32)) hx hb dX12_unite_4 (by decide) ?_
  obtain ⟨u1, hc2, h⟩ := ob_some h
  refine x_runVi (RW' := (RW_X12_unite cy o d letters_ tests_ inputLength_ at_ signed_ u1.2.1 machineParts_ firstParts_ firstTruth_ secondTruth_ isPair_ states_ stateClasses_ elements_ cursor_ hasSnapshot_ isSaving_ u1.2.2.1 u1.2.2.2.1 u1.2.2.2.2.1 u1.2.2.2.2.2.1 u1.2.2.2.2.2.2.1 u1.2.2.2.2.2.2.2.1 u1.2.2.2.2.2.2.2.2.1 u1.2.2.2.2.2.2.2.2.2.1 u1.2.2.2.2.2.2.2.2.2.2.1 u1.2.2.2.2.2.2.2.2.2.2.2.1 u1.2.2.2.2.2.2.2.2.2.2.2.2.1 u1.2.2.2.2.2.2.2.2.2.2.2.2.2.1 u1.2.2.2.2.2.2.2.2.2.2.2.2.2.2)) (wr := []) (isC := [0, 1, 2, 3, 4, 5, 6, 7, 8, 9, 10, 11, 12, 13]) (isR := []) (isF := [0, 1, 2, 3, 4, 5, 6, 7, 8, 9, 10, 11, 12, 13]) (rest := []) (As := [.int x1, .int x2, .int x3, .int (1 : Int32)]) (n := 4) X Z (c_X12_join l D cy o d letters_ tests_ inputLength_ at_ signed_ newParts_ machineParts_ firstParts_ firstTruth_ secondTruth_ isPair_ states_ stateClasses_ elements_ cursor_ hasSnapshot_ isSaving_ form_ parts_ truth_ partKind_ partBound_ partLength_ partValue_ partPattern_ newKind_ newBound_ newLength_ newValue_ newPattern_ x1 x2 x3 (1 : Int32) u1 hc2) gX12_unite_X12_join rfl (by decide +kernel) ⟨Nat.le_of_ble_eq_true rfl, Nat.le_of_ble_eq_true rfl⟩ ⟨rfl, rfl⟩ ⟨Nat.le_of_ble_eq_true rfl, Nat.le_of_ble_eq_true rfl⟩ (x_rv X Z 0 rfl rfl) ⟨rfl, rfl, roN, rfl, rfl, by decide⟩ ⟨rfl, rfl⟩ rfl hl.1 rfl (Nat.le_of_ble_eq_true rfl) dX12_unite_5 (fun H locs Z => ?_)
  obtain rfl := Option.some.inj h
  exact K H locs ls _ dX12_unite_8 Z
theorem c_X12_unite (l : Launch) (D : va_G) (cy : Nat → ClassId) (o : Nat) (d : Nat → Nat)  (letters_ : Int32) (tests_ : Int32) (inputLength_ : Int32) (at_ : Int32) (signed_ : Int32) (newParts_ : Int32) (machineParts_ : Int32) (firstParts_ : Int32) (firstTruth_ : Int32) (secondTruth_ : Int32) (isPair_ : Int32) (states_ : Int32) (stateClasses_ : Int32) (elements_ : Int32) (cursor_ : Int32) (hasSnapshot_ : Int32) (isSaving_ : Int32) (form_ : Nat → Int32) (parts_ : Nat → Int32) (truth_ : Nat → Int32) (partKind_ : Nat → Int32) (partBound_ : Nat → Int32) (partLength_ : Nat → Int32) (partValue_ : Nat → Int32) (partPattern_ : Nat → Int32) (newKind_ : Nat → Int32) (newBound_ : Nat → Int32) (newLength_ : Nat → Int32) (newValue_ : Nat → Int32) (newPattern_ : Nat → Int32) (x1 : Int32) (x2 : Int32) (x3 : Int32) (out : Int32 × Int32 × (Nat → Int32) × (Nat → Int32) × (Nat → Int32) × (Nat → Int32) × (Nat → Int32) × (Nat → Int32) × (Nat → Int32) × (Nat → Int32) × (Nat → Int32) × (Nat → Int32) × (Nat → Int32) × (Nat → Int32) × (Nat → Int32)) (h : f_X12_unite x1 x2 x3 newParts_ form_ parts_ truth_ partKind_ partBound_ partLength_ partValue_ partPattern_ newKind_ newBound_ newLength_ newValue_ newPattern_ = some out) : CtI l yX12_unite wsX12_unite rm_X12_unite D cy [.ref o, .int x1, .int x2, .int x3] (RW_X12_unite cy o d letters_ tests_ inputLength_ at_ signed_ newParts_ machineParts_ firstParts_ firstTruth_ secondTruth_ isPair_ states_ stateClasses_ elements_ cursor_ hasSnapshot_ isSaving_ form_ parts_ truth_ partKind_ partBound_ partLength_ partValue_ partPattern_ newKind_ newBound_ newLength_ newValue_ newPattern_) (RO_X12_unite cy o d) (RW_X12_unite cy o d letters_ tests_ inputLength_ at_ signed_ out.2.1 machineParts_ firstParts_ firstTruth_ secondTruth_ isPair_ states_ stateClasses_ elements_ cursor_ hasSnapshot_ isSaving_ out.2.2.1 out.2.2.2.1 out.2.2.2.2.1 out.2.2.2.2.2.1 out.2.2.2.2.2.2.1 out.2.2.2.2.2.2.2.1 out.2.2.2.2.2.2.2.2.1 out.2.2.2.2.2.2.2.2.2.1 out.2.2.2.2.2.2.2.2.2.2.1 out.2.2.2.2.2.2.2.2.2.2.2.1 out.2.2.2.2.2.2.2.2.2.2.2.2.1 out.2.2.2.2.2.2.2.2.2.2.2.2.2.1 out.2.2.2.2.2.2.2.2.2.2.2.2.2.2) out.1 :=
  mk_i (ty := .int) (by decide) rfl rfl (Nat.le_of_ble_eq_true rfl) (fun p e s m args below meth c A Q X K H locs ls Z hl => wt_X12_unite o d letters_ tests_ inputLength_ at_ signed_ newParts_ machineParts_ firstParts_ firstTruth_ secondTruth_ isPair_ states_ stateClasses_ elements_ cursor_ hasSnapshot_ isSaving_ form_ parts_ truth_ partKind_ partBound_ partLength_ partValue_ partPattern_ newKind_ newBound_ newLength_ newValue_ newPattern_ x1 x2 x3 out X h K H locs ls Z hl)
/-! SubwordCounterModel clearLanguage (I)I -/
abbrev rm_X12_clearLanguage : Room := { frames := 2, cells := 0, slots := 0, locals := 42 }
def RW_X12_clearLanguage (cy : Nat → ClassId) (o : Nat) (d : Nat → Nat) (form_ : Nat → Int32) : va_W := [((d 16), aI cy 4 form_)]
def RO_X12_clearLanguage (cy : Nat → ClassId) (o : Nat) (d : Nat → Nat) (letters_ : Int32) (tests_ : Int32) (inputLength_ : Int32) (at_ : Int32) (signed_ : Int32) (newParts_ : Int32) (machineParts_ : Int32) (firstParts_ : Int32) (firstTruth_ : Int32) (secondTruth_ : Int32) (isPair_ : Int32) (states_ : Int32) (stateClasses_ : Int32) (elements_ : Int32) (cursor_ : Int32) (hasSnapshot_ : Int32) (isSaving_ : Int32) : va_W := [(o, ob 11 (oX12 d letters_ tests_ inputLength_ at_ signed_ newParts_ machineParts_ firstParts_ firstTruth_ secondTruth_ isPair_ states_ stateClasses_ elements_ cursor_ hasSnapshot_ isSaving_))]
theorem in_X12_clearLanguage_X12 : ∀ w ∈ u_ws RX12 TX12 68, w ∈ wsX12_clearLanguage := fun w h => (List.mem_cons_of_mem _ (List.mem_append_right _ h))
theorem lk_X12_clearLanguage_X12_form : Lk wsX12_clearLanguage RX12 47 11 16 := ⟨RX12, TX12, 68, rfl, by decide, in_X12_clearLanguage_X12, mem_at 1 rfl⟩
def j_X12_clearLanguage_23 (form_ : Nat → Int32) (x1 : Int32) (t0 : Int32) : Option (Int32 × (Nat → Int32)) :=
  stA form_ 4 x1 (-1 : Int32) (fun form_2 =>
  some (t0, form_2))
set_option maxHeartbeats 4000000 in
set_option maxRecDepth 100000 in
theorem jw_X12_clearLanguage_23 {p : Program} {l : Launch} {e : Env} {s : State} {m : MethodId} {args : Array Value} {below : List Frame} {meth : Method} {c : Code} {A : Nat → Prop} {Q : State → Prop} {D : va_G} {cy : Nat → ClassId} (o : Nat) (d : Nat → Nat) (letters_ : Int32) (tests_ : Int32) (inputLength_ : Int32) (at_ : Int32) (signed_ : Int32) (newParts_ : Int32) (machineParts_ : Int32) (firstParts_ : Int32) (firstTruth_ : Int32) (secondTruth_ : Int32) (isPair_ : Int32) (states_ : Int32) (stateClasses_ : Int32) (elements_ : Int32) (cursor_ : Int32) (hasSnapshot_ : Int32) (isSaving_ : Int32) (form_ : Nat → Int32) (x1 : Int32) (t0 : Int32) (out : Int32 × (Nat → Int32)) (X : Cx p m c cX12_clearLanguage 3 s args wsX12_clearLanguage RX12 A D cy (RO_X12_clearLanguage cy o d letters_ tests_ inputLength_ at_ signed_ newParts_ machineParts_ firstParts_ firstTruth_ secondTruth_ isPair_ states_ stateClasses_ elements_ cursor_ hasSnapshot_ isSaving_)) (h : j_X12_clearLanguage_23 form_ x1 t0 = some out) (K : ∀ (H : Heap) (locs : List Loc) (ls : Array Slot) (pc : Nat), decode cX12_clearLanguage pc = .ok (.ireturn, 1) → St A D s (RW_X12_clearLanguage cy o d out.2) H locs → W p l e rm_X12_clearLanguage s m args below meth c H locs 0 0 Q (F0 m pc ls [.int out.1])) : ∀ (H : Heap) (locs : List Loc) (ls : Array Slot), St A D s (RW_X12_clearLanguage cy o d form_) H locs → lv_has ls 3 [(0, .ref o), (1, .int x1)] → W p l e rm_X12_clearLanguage s m args below meth c H locs 0 0 Q (F0 m 23 ls [.int t0]) := by
  intro H locs ls Z hl
  have hx := X.1.1
  have hb := X.1.2.1
  unfold j_X12_clearLanguage_23 at h
  refine lv_istore_n (lv' := [(2, .int t0), (0, .ref o), (1, .int x1)]) hx hb dX12_clearLanguage_23 rfl hl (by decide) rfl (fun ls hl => ?_)
  refine lv_aload_n hx hb dX12_clearLanguage_24 rfl (lv_at hl 1 rfl) ?_
  refine x_getO X Z 0 16 (v := .ref (d 16)) rfl rfl lk_X12_clearLanguage_X12_form dX12_clearLanguage_25 ?_
  refine lv_iload_n hx hb dX12_clearLanguage_28 rfl (lv_at hl 2 rfl) ?_
  refine lv_iconst (v := (-1 : Int32)) hx hb dX12_clearLanguage_29 (by decide) ?_
  obtain ⟨hin1, form_2, hv3, h⟩ := st_b h
  refine x_iast X Z 0 (RW_X12_clearLanguage cy o d form_2) rfl hin1 hv3 rfl dX12_clearLanguage_30 (fun H locs Z => ?_)
  refine lv_iload_n hx hb dX12_clearLanguage_31 rfl (lv_at hl 0 rfl) ?_
  obtain rfl := Option.some.inj h
  exact K H locs ls _ dX12_clearLanguage_32 Z
def f_X12_clearLanguage (x1 : Int32) (form_ : Nat → Int32) : Option (Int32 × (Nat → Int32)) :=
  (f_X12_isLanguage x1).bind (fun u4 =>
  if u4 = 0 then
  (some ((-1 : Int32), form_))
  else
  (ldA form_ 4 x1 (fun v7 =>
  if 0 ≤ v7 then
  (j_X12_clearLanguage_23 form_ x1 (1 : Int32))
  else
  (j_X12_clearLanguage_23 form_ x1 (0 : Int32)))))
set_option maxHeartbeats 4000000 in
set_option maxRecDepth 100000 in
theorem wt_X12_clearLanguage {p : Program} {l : Launch} {e : Env} {s : State} {m : MethodId} {args : Array Value} {below : List Frame} {meth : Method} {c : Code} {A : Nat → Prop} {Q : State → Prop} {D : va_G} {cy : Nat → ClassId} (o : Nat) (d : Nat → Nat) (letters_ : Int32) (tests_ : Int32) (inputLength_ : Int32) (at_ : Int32) (signed_ : Int32) (newParts_ : Int32) (machineParts_ : Int32) (firstParts_ : Int32) (firstTruth_ : Int32) (secondTruth_ : Int32) (isPair_ : Int32) (states_ : Int32) (stateClasses_ : Int32) (elements_ : Int32) (cursor_ : Int32) (hasSnapshot_ : Int32) (isSaving_ : Int32) (form_ : Nat → Int32) (x1 : Int32) (out : Int32 × (Nat → Int32)) (X : Cx p m c cX12_clearLanguage 3 s args wsX12_clearLanguage RX12 A D cy (RO_X12_clearLanguage cy o d letters_ tests_ inputLength_ at_ signed_ newParts_ machineParts_ firstParts_ firstTruth_ secondTruth_ isPair_ states_ stateClasses_ elements_ cursor_ hasSnapshot_ isSaving_)) (h : f_X12_clearLanguage x1 form_ = some out) (K : ∀ (H : Heap) (locs : List Loc) (ls : Array Slot) (pc : Nat), decode cX12_clearLanguage pc = .ok (.ireturn, 1) → St A D s (RW_X12_clearLanguage cy o d out.2) H locs → W p l e rm_X12_clearLanguage s m args below meth c H locs 0 0 Q (F0 m pc ls [.int out.1])) : ∀ (H : Heap) (locs : List Loc) (ls : Array Slot), St A D s (RW_X12_clearLanguage cy o d form_) H locs → lv_has ls 3 [(0, .ref o), (1, .int x1)] → W p l e rm_X12_clearLanguage s m args below meth c H locs 0 0 Q (F0 m 0 ls []) := by
  intro H locs ls Z hl
  have hx := X.1.1
  have hb := X.1.2.1
  unfold f_X12_clearLanguage at h
  refine lv_iload_n hx hb dX12_clearLanguage_0 rfl (lv_at hl 1 rfl) ?_
  obtain ⟨u4, hc5, h⟩ := ob_some h
  refine x_runSi (RW' := (RW_X12_clearLanguage cy o d form_)) (wr := [((d 16), aI cy 4 form_)]) (isC := []) (isR := [0]) (isF := [0]) (rest := []) (As := [.int x1]) (n := 1) X Z (c_X12_isLanguage l D cy x1 u4 hc5) gX12_clearLanguage_X12_isLanguage rfl (by decide +kernel) ⟨Nat.le_of_ble_eq_true rfl, Nat.le_of_ble_eq_true rfl⟩ ⟨rfl, rfl⟩ ⟨Nat.le_of_ble_eq_true rfl, Nat.le_of_ble_eq_true rfl⟩ ⟨rfl, rfl, roN, rfl, rfl, by decide⟩ ⟨rfl, rfl⟩ rfl hl.1 rfl (Nat.le_of_ble_eq_true rfl) dX12_clearLanguage_1 (fun H locs Z => ?_)
  refine lv_if_ne (tgt := 9) hx hb dX12_clearLanguage_4 (by decide) (fun cnd => ?_) (fun cnd => ?_)
  · replace h := ifn h cnd
    refine lv_aload_n hx hb dX12_clearLanguage_9 rfl (lv_at hl 0 rfl) ?_
    refine x_getO X Z 0 16 (v := .ref (d 16)) rfl rfl lk_X12_clearLanguage_X12_form dX12_clearLanguage_10 ?_
    refine lv_iload_n hx hb dX12_clearLanguage_13 rfl (lv_at hl 1 rfl) ?_
    obtain ⟨hin6, v7, hv8, h⟩ := ld_b h
    refine x_iald X Z 0 rfl hin6 hv8 dX12_clearLanguage_14 ?_
    refine lv_if_ge (tgt := 22) hx hb dX12_clearLanguage_15 (by decide) (fun cnd => ?_) (fun cnd => ?_)
    · replace h := ifp h cnd
      refine lv_iconst (v := (1 : Int32)) hx hb dX12_clearLanguage_22 (by decide) ?_
      exact jw_X12_clearLanguage_23 o d letters_ tests_ inputLength_ at_ signed_ newParts_ machineParts_ firstParts_ firstTruth_ secondTruth_ isPair_ states_ stateClasses_ elements_ cursor_ hasSnapshot_ isSaving_ form_ x1 (1 : Int32) _ X h K H locs ls Z (lv_sub hl [0, 1] rfl)
    · replace h := ifn h cnd
      refine lv_iconst (v := (0 : Int32)) hx hb dX12_clearLanguage_18 (by decide) ?_
      refine lv_goto (tgt := 23) hx hb dX12_clearLanguage_19 (by decide) ?_
      exact jw_X12_clearLanguage_23 o d letters_ tests_ inputLength_ at_ signed_ newParts_ machineParts_ firstParts_ firstTruth_ secondTruth_ isPair_ states_ stateClasses_ elements_ cursor_ hasSnapshot_ isSaving_ form_ x1 (0 : Int32) _ X h K H locs ls Z (lv_sub hl [0, 1] rfl)
  · replace h := ifp h cnd
    refine lv_iconst (v := (-1 : Int32)) hx hb dX12_clearLanguage_7 (by decide) ?_
    obtain rfl := Option.some.inj h
    exact K H locs ls _ dX12_clearLanguage_8 Z
theorem c_X12_clearLanguage (l : Launch) (D : va_G) (cy : Nat → ClassId) (o : Nat) (d : Nat → Nat) (letters_ : Int32) (tests_ : Int32) (inputLength_ : Int32) (at_ : Int32) (signed_ : Int32) (newParts_ : Int32) (machineParts_ : Int32) (firstParts_ : Int32) (firstTruth_ : Int32) (secondTruth_ : Int32) (isPair_ : Int32) (states_ : Int32) (stateClasses_ : Int32) (elements_ : Int32) (cursor_ : Int32) (hasSnapshot_ : Int32) (isSaving_ : Int32) (form_ : Nat → Int32) (x1 : Int32) (out : Int32 × (Nat → Int32)) (h : f_X12_clearLanguage x1 form_ = some out) : CtI l yX12_clearLanguage wsX12_clearLanguage rm_X12_clearLanguage D cy [.ref o, .int x1] (RW_X12_clearLanguage cy o d form_) (RO_X12_clearLanguage cy o d letters_ tests_ inputLength_ at_ signed_ newParts_ machineParts_ firstParts_ firstTruth_ secondTruth_ isPair_ states_ stateClasses_ elements_ cursor_ hasSnapshot_ isSaving_) (RW_X12_clearLanguage cy o d out.2) out.1 :=
  mk_i (ty := .int) (by decide) rfl rfl (Nat.le_of_ble_eq_true rfl) (fun p e s m args below meth c A Q X K H locs ls Z hl => wt_X12_clearLanguage o d letters_ tests_ inputLength_ at_ signed_ newParts_ machineParts_ firstParts_ firstTruth_ secondTruth_ isPair_ states_ stateClasses_ elements_ cursor_ hasSnapshot_ isSaving_ form_ x1 out X h K H locs ls Z hl)
/-! SubwordCounterModel form (I)I -/
abbrev rm_X12_form : Room := { frames := 2, cells := 0, slots := 0, locals := 42 }
def RW_X12_form (cy : Nat → ClassId) (o : Nat) (d : Nat → Nat)  : va_W := []
def RO_X12_form (cy : Nat → ClassId) (o : Nat) (d : Nat → Nat) (letters_ : Int32) (tests_ : Int32) (inputLength_ : Int32) (at_ : Int32) (signed_ : Int32) (newParts_ : Int32) (machineParts_ : Int32) (firstParts_ : Int32) (firstTruth_ : Int32) (secondTruth_ : Int32) (isPair_ : Int32) (states_ : Int32) (stateClasses_ : Int32) (elements_ : Int32) (cursor_ : Int32) (hasSnapshot_ : Int32) (isSaving_ : Int32) (form_ : Nat → Int32) : va_W := [(o, ob 11 (oX12 d letters_ tests_ inputLength_ at_ signed_ newParts_ machineParts_ firstParts_ firstTruth_ secondTruth_ isPair_ states_ stateClasses_ elements_ cursor_ hasSnapshot_ isSaving_)), ((d 16), aI cy 4 form_)]
theorem in_X12_form_X12 : ∀ w ∈ u_ws RX12 TX12 68, w ∈ wsX12_form := fun w h => (List.mem_cons_of_mem _ (List.mem_append_right _ h))
theorem lk_X12_form_X12_form : Lk wsX12_form RX12 47 11 16 := ⟨RX12, TX12, 68, rfl, by decide, in_X12_form_X12, mem_at 1 rfl⟩
def f_X12_form (x1 : Int32) (form_ : Nat → Int32) : Option (Int32) :=
  (f_X12_isLanguage x1).bind (fun u1 =>
  if u1 = 0 then
  (some (-1 : Int32))
  else
  (ldA form_ 4 x1 (fun v4 =>
  if 0 ≤ v4 then
  (ldA form_ 4 x1 (fun v7 =>
  some v7))
  else
  (some (-5 : Int32)))))
set_option maxHeartbeats 4000000 in
set_option maxRecDepth 100000 in
theorem wt_X12_form {p : Program} {l : Launch} {e : Env} {s : State} {m : MethodId} {args : Array Value} {below : List Frame} {meth : Method} {c : Code} {A : Nat → Prop} {Q : State → Prop} {D : va_G} {cy : Nat → ClassId} (o : Nat) (d : Nat → Nat) (letters_ : Int32) (tests_ : Int32) (inputLength_ : Int32) (at_ : Int32) (signed_ : Int32) (newParts_ : Int32) (machineParts_ : Int32) (firstParts_ : Int32) (firstTruth_ : Int32) (secondTruth_ : Int32) (isPair_ : Int32) (states_ : Int32) (stateClasses_ : Int32) (elements_ : Int32) (cursor_ : Int32) (hasSnapshot_ : Int32) (isSaving_ : Int32) (form_ : Nat → Int32)  (x1 : Int32) (out : Int32) (X : Cx p m c cX12_form 2 s args wsX12_form RX12 A D cy (RO_X12_form cy o d letters_ tests_ inputLength_ at_ signed_ newParts_ machineParts_ firstParts_ firstTruth_ secondTruth_ isPair_ states_ stateClasses_ elements_ cursor_ hasSnapshot_ isSaving_ form_)) (h : f_X12_form x1 form_ = some out) (K : ∀ (H : Heap) (locs : List Loc) (ls : Array Slot) (pc : Nat), decode cX12_form pc = .ok (.ireturn, 1) → St A D s (RW_X12_form cy o d) H locs → W p l e rm_X12_form s m args below meth c H locs 0 0 Q (F0 m pc ls [.int out])) : ∀ (H : Heap) (locs : List Loc) (ls : Array Slot), St A D s (RW_X12_form cy o d) H locs → lv_has ls 2 [(0, .ref o), (1, .int x1)] → W p l e rm_X12_form s m args below meth c H locs 0 0 Q (F0 m 0 ls []) := by
  intro H locs ls Z hl
  have hx := X.1.1
  have hb := X.1.2.1
  unfold f_X12_form at h
  refine lv_iload_n hx hb dX12_form_0 rfl (lv_at hl 1 rfl) ?_
  obtain ⟨u1, hc2, h⟩ := ob_some h
  refine x_runSi (RW' := (RW_X12_form cy o d)) (wr := []) (isC := []) (isR := []) (isF := []) (rest := []) (As := [.int x1]) (n := 1) X Z (c_X12_isLanguage l D cy x1 u1 hc2) gX12_form_X12_isLanguage rfl (by decide +kernel) ⟨Nat.le_of_ble_eq_true rfl, Nat.le_of_ble_eq_true rfl⟩ ⟨rfl, rfl⟩ ⟨Nat.le_of_ble_eq_true rfl, Nat.le_of_ble_eq_true rfl⟩ ⟨rfl, rfl, roN, rfl, rfl, by decide⟩ ⟨rfl, rfl⟩ rfl hl.1 rfl (Nat.le_of_ble_eq_true rfl) dX12_form_1 (fun H locs Z => ?_)
  refine lv_if_ne (tgt := 11) hx hb dX12_form_4 (by decide) (fun cnd => ?_) (fun cnd => ?_)
  · replace h := ifn h cnd
    refine lv_aload_n hx hb dX12_form_11 rfl (lv_at hl 0 rfl) ?_
    refine x_getO X Z 0 16 (v := .ref (d 16)) rfl rfl lk_X12_form_X12_form dX12_form_12 ?_
    refine lv_iload_n hx hb dX12_form_15 rfl (lv_at hl 1 rfl) ?_
    obtain ⟨hin3, v4, hv5, h⟩ := ld_b h
    refine x_ialdO X Z 1 rfl hin3 hv5 dX12_form_16 ?_
    refine lv_if_ge (tgt := 25) hx hb dX12_form_17 (by decide) (fun cnd => ?_) (fun cnd => ?_)
    · replace h := ifp h cnd
      refine lv_aload_n hx hb dX12_form_25 rfl (lv_at hl 0 rfl) ?_
      refine x_getO X Z 0 16 (v := .ref (d 16)) rfl rfl lk_X12_form_X12_form dX12_form_26 ?_
      refine lv_iload_n hx hb dX12_form_29 rfl (lv_at hl 1 rfl) ?_
      obtain ⟨hin6, v7, hv8, h⟩ := ld_b h
      refine x_ialdO X Z 1 rfl hin6 hv8 dX12_form_30 ?_
      obtain rfl := Option.some.inj h
      exact K H locs ls _ dX12_form_31 Z
    · replace h := ifn h cnd
      refine lv_bipush (v := (-5 : Int32)) hx hb dX12_form_20 (by decide) ?_
      refine lv_goto (tgt := 31) hx hb dX12_form_22 (by decide) ?_
      obtain rfl := Option.some.inj h
      exact K H locs ls _ dX12_form_31 Z
  · replace h := ifp h cnd
    refine lv_iconst (v := (-1 : Int32)) hx hb dX12_form_7 (by decide) ?_
    refine lv_goto (tgt := 31) hx hb dX12_form_8 (by decide) ?_
    obtain rfl := Option.some.inj h
    exact K H locs ls _ dX12_form_31 Z
theorem c_X12_form (l : Launch) (D : va_G) (cy : Nat → ClassId) (o : Nat) (d : Nat → Nat) (letters_ : Int32) (tests_ : Int32) (inputLength_ : Int32) (at_ : Int32) (signed_ : Int32) (newParts_ : Int32) (machineParts_ : Int32) (firstParts_ : Int32) (firstTruth_ : Int32) (secondTruth_ : Int32) (isPair_ : Int32) (states_ : Int32) (stateClasses_ : Int32) (elements_ : Int32) (cursor_ : Int32) (hasSnapshot_ : Int32) (isSaving_ : Int32) (form_ : Nat → Int32)  (x1 : Int32) (out : Int32) (h : f_X12_form x1 form_ = some out) : CtI l yX12_form wsX12_form rm_X12_form D cy [.ref o, .int x1] (RW_X12_form cy o d) (RO_X12_form cy o d letters_ tests_ inputLength_ at_ signed_ newParts_ machineParts_ firstParts_ firstTruth_ secondTruth_ isPair_ states_ stateClasses_ elements_ cursor_ hasSnapshot_ isSaving_ form_) (RW_X12_form cy o d) out :=
  mk_i (ty := .int) (by decide) rfl rfl (Nat.le_of_ble_eq_true rfl) (fun p e s m args below meth c A Q X K H locs ls Z hl => wt_X12_form o d letters_ tests_ inputLength_ at_ signed_ newParts_ machineParts_ firstParts_ firstTruth_ secondTruth_ isPair_ states_ stateClasses_ elements_ cursor_ hasSnapshot_ isSaving_ form_ x1 out X h K H locs ls Z hl)
/-! SubwordCounterModel contains (II)I -/
abbrev rm_X12_contains : Room := { frames := 2, cells := 0, slots := 0, locals := 53 }
def RW_X12_contains (cy : Nat → ClassId) (o : Nat) (d : Nat → Nat) (prefixes_ : Nat → Int32) : va_W := [((d 3), aI cy 13 prefixes_)]
def RO_X12_contains (cy : Nat → ClassId) (o : Nat) (d : Nat → Nat) (letters_ : Int32) (tests_ : Int32) (inputLength_ : Int32) (at_ : Int32) (signed_ : Int32) (newParts_ : Int32) (machineParts_ : Int32) (firstParts_ : Int32) (firstTruth_ : Int32) (secondTruth_ : Int32) (isPair_ : Int32) (states_ : Int32) (stateClasses_ : Int32) (elements_ : Int32) (cursor_ : Int32) (hasSnapshot_ : Int32) (isSaving_ : Int32) (wordLength_ : Nat → Int32) (word_ : Nat → Int32) (form_ : Nat → Int32) (parts_ : Nat → Int32) (truth_ : Nat → Int32) (partKind_ : Nat → Int32) (partBound_ : Nat → Int32) (partLength_ : Nat → Int32) (partValue_ : Nat → Int32) (partPattern_ : Nat → Int32) : va_W := [(o, ob 11 (oX12 d letters_ tests_ inputLength_ at_ signed_ newParts_ machineParts_ firstParts_ firstTruth_ secondTruth_ isPair_ states_ stateClasses_ elements_ cursor_ hasSnapshot_ isSaving_)), ((d 1), aI cy 3 wordLength_), ((d 2), aI cy 36 word_), ((d 16), aI cy 4 form_), ((d 17), aI cy 4 parts_), ((d 18), aI cy 4 truth_), ((d 19), aI cy 16 partKind_), ((d 20), aI cy 16 partBound_), ((d 21), aI cy 16 partLength_), ((d 22), aI cy 16 partValue_), ((d 23), aI cy 64 partPattern_)]
theorem in_X12_contains_X12 : ∀ w ∈ u_ws RX12 TX12 68, w ∈ wsX12_contains := fun w h => (List.mem_cons_of_mem _ (List.mem_append_right _ h))
theorem lk_X12_contains_X12_parts : Lk wsX12_contains RX12 50 11 17 := ⟨RX12, TX12, 68, rfl, by decide, in_X12_contains_X12, mem_at 2 rfl⟩
theorem lk_X12_contains_X12_partKind : Lk wsX12_contains RX12 56 11 19 := ⟨RX12, TX12, 68, rfl, by decide, in_X12_contains_X12, mem_at 3 rfl⟩
theorem lk_X12_contains_X12_partBound : Lk wsX12_contains RX12 59 11 20 := ⟨RX12, TX12, 68, rfl, by decide, in_X12_contains_X12, mem_at 4 rfl⟩
theorem lk_X12_contains_X12_partPattern : Lk wsX12_contains RX12 68 11 23 := ⟨RX12, TX12, 68, rfl, by decide, in_X12_contains_X12, mem_at 5 rfl⟩
theorem lk_X12_contains_X12_partLength : Lk wsX12_contains RX12 62 11 21 := ⟨RX12, TX12, 68, rfl, by decide, in_X12_contains_X12, mem_at 6 rfl⟩
theorem lk_X12_contains_X12_partValue : Lk wsX12_contains RX12 65 11 22 := ⟨RX12, TX12, 68, rfl, by decide, in_X12_contains_X12, mem_at 7 rfl⟩
theorem lk_X12_contains_X12_form : Lk wsX12_contains RX12 47 11 16 := ⟨RX12, TX12, 68, rfl, by decide, in_X12_contains_X12, mem_at 1 rfl⟩
theorem lk_X12_contains_X12_truth : Lk wsX12_contains RX12 53 11 18 := ⟨RX12, TX12, 68, rfl, by decide, in_X12_contains_X12, mem_at 8 rfl⟩
def b_X12_contains_33 (wordLength_ : Nat → Int32) (word_ : Nat → Int32) (parts_ : Nat → Int32) (partKind_ : Nat → Int32) (partBound_ : Nat → Int32) (partLength_ : Nat → Int32) (partValue_ : Nat → Int32) (partPattern_ : Nat → Int32) (x1 : Int32) (x2 : Int32) (prefixes_ : Nat → Int32) (x3 : Int32) (x4 : Int32) : Option (((Nat → Int32) × Int32 × Int32) ⊕ ((Nat → Int32) × Int32)) :=
  ldA parts_ 4 x1 (fun v2 =>
  if v2 ≤ x4 then
  (some (.inr (prefixes_, x3)))
  else
  (ldA partKind_ 16 (((4 : Int32) * x1) + x4) (fun v5 =>
  ldA partBound_ 16 (((4 : Int32) * x1) + x4) (fun v8 =>
  ldA partLength_ 16 (((4 : Int32) * x1) + x4) (fun v11 =>
  (f_X12_valueOf v5 v8 ((4 : Int32) * (((4 : Int32) * x1) + x4)) v11 x2 64 partPattern_ wordLength_ word_ prefixes_).bind (fun u13 =>
  ldA partValue_ 16 (((4 : Int32) * x1) + x4) (fun v16 =>
  if u13.1 = v16 then
  (some (.inl (u13.2, (x3 ||| ((1 : Int32) <<< (x4 &&& 31))), (x4 + (1 : Int32)))))
  else
  (some (.inl (u13.2, (x3 ||| (0 : Int32)), (x4 + (1 : Int32))))))))))))
set_option maxHeartbeats 4000000 in
set_option maxRecDepth 100000 in
theorem wb_X12_contains_33 {p : Program} {l : Launch} {e : Env} {s : State} {m : MethodId} {args : Array Value} {below : List Frame} {meth : Method} {c : Code} {A : Nat → Prop} {Q : State → Prop} {D : va_G} {cy : Nat → ClassId} (o : Nat) (d : Nat → Nat) (letters_ : Int32) (tests_ : Int32) (inputLength_ : Int32) (at_ : Int32) (signed_ : Int32) (newParts_ : Int32) (machineParts_ : Int32) (firstParts_ : Int32) (firstTruth_ : Int32) (secondTruth_ : Int32) (isPair_ : Int32) (states_ : Int32) (stateClasses_ : Int32) (elements_ : Int32) (cursor_ : Int32) (hasSnapshot_ : Int32) (isSaving_ : Int32) (wordLength_ : Nat → Int32) (word_ : Nat → Int32) (form_ : Nat → Int32) (parts_ : Nat → Int32) (truth_ : Nat → Int32) (partKind_ : Nat → Int32) (partBound_ : Nat → Int32) (partLength_ : Nat → Int32) (partValue_ : Nat → Int32) (partPattern_ : Nat → Int32)  (x1 : Int32) (x2 : Int32) (prefixes_ : Nat → Int32) (x3 : Int32) (x4 : Int32) (o1 : ((Nat → Int32) × Int32 × Int32) ⊕ ((Nat → Int32) × Int32)) (X : Cx p m c cX12_contains 6 s args wsX12_contains RX12 A D cy (RO_X12_contains cy o d letters_ tests_ inputLength_ at_ signed_ newParts_ machineParts_ firstParts_ firstTruth_ secondTruth_ isPair_ states_ stateClasses_ elements_ cursor_ hasSnapshot_ isSaving_ wordLength_ word_ form_ parts_ truth_ partKind_ partBound_ partLength_ partValue_ partPattern_)) (h : b_X12_contains_33 wordLength_ word_ parts_ partKind_ partBound_ partLength_ partValue_ partPattern_ x1 x2 prefixes_ x3 x4 = some o1) (K : Sum.elim (fun v : (Nat → Int32) × Int32 × Int32 => ∀ (H : Heap) (locs : List Loc) (ls : Array Slot), St A D s (RW_X12_contains cy o d v.1) H locs → lv_has ls 6 [(0, .ref o), (1, .int x1), (2, .int x2), (3, .int v.2.1), (4, .int v.2.2)] → W p l e rm_X12_contains s m args below meth c H locs 0 0 Q (F0 m 33 ls [])) (fun v : (Nat → Int32) × Int32 => ∀ (H : Heap) (locs : List Loc) (ls : Array Slot), St A D s (RW_X12_contains cy o d v.1) H locs → lv_has ls 6 [(0, .ref o), (1, .int x1), (3, .int v.2)] → W p l e rm_X12_contains s m args below meth c H locs 0 0 Q (F0 m 113 ls [])) o1) : ∀ (H : Heap) (locs : List Loc) (ls : Array Slot), St A D s (RW_X12_contains cy o d prefixes_) H locs → lv_has ls 6 [(0, .ref o), (1, .int x1), (2, .int x2), (3, .int x3), (4, .int x4)] → W p l e rm_X12_contains s m args below meth c H locs 0 0 Q (F0 m 33 ls []) := by
  intro H locs ls Z hl
  have hx := X.1.1
  have hb := X.1.2.1
  unfold b_X12_contains_33 at h
  refine lv_iload hx hb dX12_contains_33 (lv_at hl 4 rfl) ?_
  refine lv_aload_n hx hb dX12_contains_35 rfl (lv_at hl 0 rfl) ?_
  refine x_getO X Z 0 17 (v := .ref (d 17)) rfl rfl lk_X12_contains_X12_parts dX12_contains_36 ?_
  refine lv_iload_n hx hb dX12_contains_39 rfl (lv_at hl 1 rfl) ?_
  obtain ⟨hin1, v2, hv3, h⟩ := ld_b h
  refine x_ialdO X Z 4 rfl hin1 hv3 dX12_contains_40 ?_
  refine lv_icmp_ge (tgt := 113) hx hb dX12_contains_41 (by decide) (fun cnd => ?_) (fun cnd => ?_)
  · replace h := ifp h cnd
    obtain rfl := Option.some.inj h
    exact (sk_r K) H locs ls Z (lv_sub hl [0, 1, 3] rfl)
  · replace h := ifn h cnd
    refine lv_iconst (v := (4 : Int32)) hx hb dX12_contains_44 (by decide) ?_
    refine lv_iload_n hx hb dX12_contains_45 rfl (lv_at hl 1 rfl) ?_
    refine lv_imul hx hb dX12_contains_46 ?_
    refine lv_iload hx hb dX12_contains_47 (lv_at hl 4 rfl) ?_
    refine lv_iadd hx hb dX12_contains_49 ?_
    refine lv_istore (lv' := [(5, .int (((4 : Int32) * x1) + x4)), (0, .ref o), (1, .int x1), (2, .int x2), (3, .int x3), (4, .int x4)]) hx hb dX12_contains_50 hl (by decide) rfl (fun ls hl => ?_)
    refine lv_iload_n hx hb dX12_contains_52 rfl (lv_at hl 4 rfl) ?_
    refine lv_aload_n hx hb dX12_contains_53 rfl (lv_at hl 1 rfl) ?_
    refine lv_aload_n hx hb dX12_contains_54 rfl (lv_at hl 1 rfl) ?_
    refine x_getO X Z 0 19 (v := .ref (d 19)) rfl rfl lk_X12_contains_X12_partKind dX12_contains_55 ?_
    refine lv_iload hx hb dX12_contains_58 (lv_at hl 0 rfl) ?_
    obtain ⟨hin4, v5, hv6, h⟩ := ld_b h
    refine x_ialdO X Z 6 rfl hin4 hv6 dX12_contains_60 ?_
    refine lv_aload_n hx hb dX12_contains_61 rfl (lv_at hl 1 rfl) ?_
    refine x_getO X Z 0 20 (v := .ref (d 20)) rfl rfl lk_X12_contains_X12_partBound dX12_contains_62 ?_
    refine lv_iload hx hb dX12_contains_65 (lv_at hl 0 rfl) ?_
    obtain ⟨hin7, v8, hv9, h⟩ := ld_b h
    refine x_ialdO X Z 7 rfl hin7 hv9 dX12_contains_67 ?_
    refine lv_aload_n hx hb dX12_contains_68 rfl (lv_at hl 1 rfl) ?_
    refine x_getO X Z 0 23 (v := .ref (d 23)) rfl rfl lk_X12_contains_X12_partPattern dX12_contains_69 ?_
    refine lv_iconst (v := (4 : Int32)) hx hb dX12_contains_72 (by decide) ?_
    refine lv_iload hx hb dX12_contains_73 (lv_at hl 0 rfl) ?_
    refine lv_imul hx hb dX12_contains_75 ?_
    refine lv_aload_n hx hb dX12_contains_76 rfl (lv_at hl 1 rfl) ?_
    refine x_getO X Z 0 21 (v := .ref (d 21)) rfl rfl lk_X12_contains_X12_partLength dX12_contains_77 ?_
    refine lv_iload hx hb dX12_contains_80 (lv_at hl 0 rfl) ?_
    obtain ⟨hin10, v11, hv12, h⟩ := ld_b h
    refine x_ialdO X Z 8 rfl hin10 hv12 dX12_contains_82 ?_
    refine lv_iload_n hx hb dX12_contains_83 rfl (lv_at hl 3 rfl) ?_
    obtain ⟨u13, hc14, h⟩ := ob_some h
    refine x_runVi (RW' := (RW_X12_contains cy o d u13.2)) (wr := []) (isC := [0]) (isR := []) (isF := [0]) (rest := [.int x3]) (As := [.int v5, .int v8, .ref (d 23), .int ((4 : Int32) * (((4 : Int32) * x1) + x4)), .int v11, .int x2]) (n := 6) X Z (c_X12_valueOf l D cy o (d 23) 64 d letters_ tests_ inputLength_ at_ signed_ newParts_ machineParts_ firstParts_ firstTruth_ secondTruth_ isPair_ states_ stateClasses_ elements_ cursor_ hasSnapshot_ isSaving_ partPattern_ wordLength_ word_ prefixes_ v5 v8 ((4 : Int32) * (((4 : Int32) * x1) + x4)) v11 x2 u13 hc14) gX12_contains_X12_valueOf rfl (by decide +kernel) ⟨Nat.le_of_ble_eq_true rfl, Nat.le_of_ble_eq_true rfl⟩ ⟨rfl, rfl⟩ ⟨Nat.le_of_ble_eq_true rfl, Nat.le_of_ble_eq_true rfl⟩ (x_rvO X Z 0 rfl rfl) ⟨rfl, rfl, (roC (Or.inr (mem_at 0 rfl)) (roC (Or.inr (mem_at 10 rfl)) (roC (Or.inr (mem_at 1 rfl)) (roC (Or.inr (mem_at 2 rfl)) roN)))), rfl, rfl, by decide⟩ ⟨rfl, rfl⟩ rfl hl.1 rfl (Nat.le_of_ble_eq_true rfl) dX12_contains_84 (fun H locs Z => ?_)
    refine lv_aload_n hx hb dX12_contains_87 rfl (lv_at hl 1 rfl) ?_
    refine x_getO X Z 0 22 (v := .ref (d 22)) rfl rfl lk_X12_contains_X12_partValue dX12_contains_88 ?_
    refine lv_iload hx hb dX12_contains_91 (lv_at hl 0 rfl) ?_
    obtain ⟨hin15, v16, hv17, h⟩ := ld_b h
    refine x_ialdO X Z 9 rfl hin15 hv17 dX12_contains_93 ?_
    refine lv_icmp_ne (tgt := 104) hx hb dX12_contains_94 (by decide) (fun cnd => ?_) (fun cnd => ?_)
    · replace h := ifn h cnd
      refine lv_iconst (v := (0 : Int32)) hx hb dX12_contains_104 (by decide) ?_
      refine lv_ior hx hb dX12_contains_105 ?_
      refine lv_istore_n (lv' := [(3, .int (x3 ||| (0 : Int32))), (5, .int (((4 : Int32) * x1) + x4)), (0, .ref o), (1, .int x1), (2, .int x2), (4, .int x4)]) hx hb dX12_contains_106 rfl hl (by decide) rfl (fun ls hl => ?_)
      refine lv_iinc (v := (x4 + (1 : Int32))) (lv' := [(4, .int (x4 + (1 : Int32))), (3, .int (x3 ||| (0 : Int32))), (5, .int (((4 : Int32) * x1) + x4)), (0, .ref o), (1, .int x1), (2, .int x2)]) hx hb dX12_contains_107 hl (k := 5) rfl rfl (by decide) rfl (fun ls hl => ?_)
      refine lv_goto (tgt := 33) hx hb dX12_contains_110 (by decide) ?_
      obtain rfl := Option.some.inj h
      exact sk_l K H locs ls Z (lv_sub hl [3, 4, 5, 1, 0] rfl)
    · replace h := ifp h cnd
      refine lv_iconst (v := (1 : Int32)) hx hb dX12_contains_97 (by decide) ?_
      refine lv_iload hx hb dX12_contains_98 (lv_at hl 5 rfl) ?_
      refine lv_ishl hx hb dX12_contains_100 ?_
      refine lv_goto (tgt := 105) hx hb dX12_contains_101 (by decide) ?_
      refine lv_ior hx hb dX12_contains_105 ?_
      refine lv_istore_n (lv' := [(3, .int (x3 ||| ((1 : Int32) <<< (x4 &&& 31)))), (5, .int (((4 : Int32) * x1) + x4)), (0, .ref o), (1, .int x1), (2, .int x2), (4, .int x4)]) hx hb dX12_contains_106 rfl hl (by decide) rfl (fun ls hl => ?_)
      refine lv_iinc (v := (x4 + (1 : Int32))) (lv' := [(4, .int (x4 + (1 : Int32))), (3, .int (x3 ||| ((1 : Int32) <<< (x4 &&& 31)))), (5, .int (((4 : Int32) * x1) + x4)), (0, .ref o), (1, .int x1), (2, .int x2)]) hx hb dX12_contains_107 hl (k := 5) rfl rfl (by decide) rfl (fun ls hl => ?_)
      refine lv_goto (tgt := 33) hx hb dX12_contains_110 (by decide) ?_
      obtain rfl := Option.some.inj h
      exact sk_l K H locs ls Z (lv_sub hl [3, 4, 5, 1, 0] rfl)
set_option maxHeartbeats 4000000 in
set_option maxRecDepth 100000 in
theorem wl_X12_contains_33 {p : Program} {l : Launch} {e : Env} {s : State} {m : MethodId} {args : Array Value} {below : List Frame} {meth : Method} {c : Code} {A : Nat → Prop} {Q : State → Prop} {D : va_G} {cy : Nat → ClassId} (o : Nat) (d : Nat → Nat) (letters_ : Int32) (tests_ : Int32) (inputLength_ : Int32) (at_ : Int32) (signed_ : Int32) (newParts_ : Int32) (machineParts_ : Int32) (firstParts_ : Int32) (firstTruth_ : Int32) (secondTruth_ : Int32) (isPair_ : Int32) (states_ : Int32) (stateClasses_ : Int32) (elements_ : Int32) (cursor_ : Int32) (hasSnapshot_ : Int32) (isSaving_ : Int32) (wordLength_ : Nat → Int32) (word_ : Nat → Int32) (form_ : Nat → Int32) (parts_ : Nat → Int32) (truth_ : Nat → Int32) (partKind_ : Nat → Int32) (partBound_ : Nat → Int32) (partLength_ : Nat → Int32) (partValue_ : Nat → Int32) (partPattern_ : Nat → Int32)  (x1 : Int32) (x2 : Int32) (n : Nat) (v : (Nat → Int32) × Int32 × Int32) (x : (Nat → Int32) × Int32) (X : Cx p m c cX12_contains 6 s args wsX12_contains RX12 A D cy (RO_X12_contains cy o d letters_ tests_ inputLength_ at_ signed_ newParts_ machineParts_ firstParts_ firstTruth_ secondTruth_ isPair_ states_ stateClasses_ elements_ cursor_ hasSnapshot_ isSaving_ wordLength_ word_ form_ parts_ truth_ partKind_ partBound_ partLength_ partValue_ partPattern_)) (h : loopN (fun v => b_X12_contains_33 wordLength_ word_ parts_ partKind_ partBound_ partLength_ partValue_ partPattern_ x1 x2 v.1 v.2.1 v.2.2) n v = some x) (K : ∀ (H : Heap) (locs : List Loc) (ls : Array Slot), St A D s (RW_X12_contains cy o d x.1) H locs → lv_has ls 6 [(0, .ref o), (1, .int x1), (3, .int x.2)] → W p l e rm_X12_contains s m args below meth c H locs 0 0 Q (F0 m 113 ls [])) : ∀ (H : Heap) (locs : List Loc) (ls : Array Slot), St A D s (RW_X12_contains cy o d v.1) H locs → lv_has ls 6 [(0, .ref o), (1, .int x1), (2, .int x2), (3, .int v.2.1), (4, .int v.2.2)] → W p l e rm_X12_contains s m args below meth c H locs 0 0 Q (F0 m 33 ls []) :=
  loop_gen (B := (fun v => b_X12_contains_33 wordLength_ word_ parts_ partKind_ partBound_ partLength_ partValue_ partPattern_ x1 x2 v.1 v.2.1 v.2.2)) (Head := fun v : (Nat → Int32) × Int32 × Int32 => ∀ (H : Heap) (locs : List Loc) (ls : Array Slot), St A D s (RW_X12_contains cy o d v.1) H locs → lv_has ls 6 [(0, .ref o), (1, .int x1), (2, .int x2), (3, .int v.2.1), (4, .int v.2.2)] → W p l e rm_X12_contains s m args below meth c H locs 0 0 Q (F0 m 33 ls [])) (Exit := fun v : (Nat → Int32) × Int32 => ∀ (H : Heap) (locs : List Loc) (ls : Array Slot), St A D s (RW_X12_contains cy o d v.1) H locs → lv_has ls 6 [(0, .ref o), (1, .int x1), (3, .int v.2)] → W p l e rm_X12_contains s m args below meth c H locs 0 0 Q (F0 m 113 ls [])) (fun v o9 hb1 K1 => wb_X12_contains_33 o d letters_ tests_ inputLength_ at_ signed_ newParts_ machineParts_ firstParts_ firstTruth_ secondTruth_ isPair_ states_ stateClasses_ elements_ cursor_ hasSnapshot_ isSaving_ wordLength_ word_ form_ parts_ truth_ partKind_ partBound_ partLength_ partValue_ partPattern_ x1 x2 v.1 v.2.1 v.2.2 o9 X hb1 K1) n v x h K
def f_X12_contains (x1 : Int32) (x2 : Int32) (wordLength_ : Nat → Int32) (word_ : Nat → Int32) (form_ : Nat → Int32) (parts_ : Nat → Int32) (truth_ : Nat → Int32) (partKind_ : Nat → Int32) (partBound_ : Nat → Int32) (partLength_ : Nat → Int32) (partValue_ : Nat → Int32) (partPattern_ : Nat → Int32) (prefixes_ : Nat → Int32) : Option (Int32 × (Nat → Int32)) :=
  (f_X12_isLanguage x1).bind (fun u18 =>
  if u18 = 0 then
  (some ((-1 : Int32), prefixes_))
  else
  ((f_X12_isWord x2).bind (fun u20 =>
  if u20 = 0 then
  (some ((-1 : Int32), prefixes_))
  else
  (ldA form_ 4 x1 (fun v23 =>
  if 0 ≤ v23 then
  ((loopN (fun v => b_X12_contains_33 wordLength_ word_ parts_ partKind_ partBound_ partLength_ partValue_ partPattern_ x1 x2 v.1 v.2.1 v.2.2) FU (prefixes_, (0 : Int32), (0 : Int32))).bind (fun u25 =>
  ldA truth_ 4 x1 (fun v28 =>
  some (((v28 >>> (u25.2 &&& 31)) &&& (1 : Int32)), u25.1))))
  else
  (some ((-5 : Int32), prefixes_)))))))
set_option maxHeartbeats 4000000 in
set_option maxRecDepth 100000 in
theorem wt_X12_contains {p : Program} {l : Launch} {e : Env} {s : State} {m : MethodId} {args : Array Value} {below : List Frame} {meth : Method} {c : Code} {A : Nat → Prop} {Q : State → Prop} {D : va_G} {cy : Nat → ClassId} (o : Nat) (d : Nat → Nat) (letters_ : Int32) (tests_ : Int32) (inputLength_ : Int32) (at_ : Int32) (signed_ : Int32) (newParts_ : Int32) (machineParts_ : Int32) (firstParts_ : Int32) (firstTruth_ : Int32) (secondTruth_ : Int32) (isPair_ : Int32) (states_ : Int32) (stateClasses_ : Int32) (elements_ : Int32) (cursor_ : Int32) (hasSnapshot_ : Int32) (isSaving_ : Int32) (wordLength_ : Nat → Int32) (word_ : Nat → Int32) (form_ : Nat → Int32) (parts_ : Nat → Int32) (truth_ : Nat → Int32) (partKind_ : Nat → Int32) (partBound_ : Nat → Int32) (partLength_ : Nat → Int32) (partValue_ : Nat → Int32) (partPattern_ : Nat → Int32) (prefixes_ : Nat → Int32) (x1 : Int32) (x2 : Int32) (out : Int32 × (Nat → Int32)) (X : Cx p m c cX12_contains 6 s args wsX12_contains RX12 A D cy (RO_X12_contains cy o d letters_ tests_ inputLength_ at_ signed_ newParts_ machineParts_ firstParts_ firstTruth_ secondTruth_ isPair_ states_ stateClasses_ elements_ cursor_ hasSnapshot_ isSaving_ wordLength_ word_ form_ parts_ truth_ partKind_ partBound_ partLength_ partValue_ partPattern_)) (h : f_X12_contains x1 x2 wordLength_ word_ form_ parts_ truth_ partKind_ partBound_ partLength_ partValue_ partPattern_ prefixes_ = some out) (K : ∀ (H : Heap) (locs : List Loc) (ls : Array Slot) (pc : Nat), decode cX12_contains pc = .ok (.ireturn, 1) → St A D s (RW_X12_contains cy o d out.2) H locs → W p l e rm_X12_contains s m args below meth c H locs 0 0 Q (F0 m pc ls [.int out.1])) : ∀ (H : Heap) (locs : List Loc) (ls : Array Slot), St A D s (RW_X12_contains cy o d prefixes_) H locs → lv_has ls 6 [(0, .ref o), (1, .int x1), (2, .int x2)] → W p l e rm_X12_contains s m args below meth c H locs 0 0 Q (F0 m 0 ls []) := by
  intro H locs ls Z hl
  have hx := X.1.1
  have hb := X.1.2.1
  unfold f_X12_contains at h
  refine lv_iload_n hx hb dX12_contains_0 rfl (lv_at hl 1 rfl) ?_
  obtain ⟨u18, hc19, h⟩ := ob_some h
  refine x_runSi (RW' := (RW_X12_contains cy o d prefixes_)) (wr := [((d 3), aI cy 13 prefixes_)]) (isC := []) (isR := [0]) (isF := [0]) (rest := []) (As := [.int x1]) (n := 1) X Z (c_X12_isLanguage l D cy x1 u18 hc19) gX12_contains_X12_isLanguage rfl (by decide +kernel) ⟨Nat.le_of_ble_eq_true rfl, Nat.le_of_ble_eq_true rfl⟩ ⟨rfl, rfl⟩ ⟨Nat.le_of_ble_eq_true rfl, Nat.le_of_ble_eq_true rfl⟩ ⟨rfl, rfl, roN, rfl, rfl, by decide⟩ ⟨rfl, rfl⟩ rfl hl.1 rfl (Nat.le_of_ble_eq_true rfl) dX12_contains_1 (fun H locs Z => ?_)
  refine lv_if_eq (tgt := 14) hx hb dX12_contains_4 (by decide) (fun cnd => ?_) (fun cnd => ?_)
  · replace h := ifp h cnd
    refine lv_iconst (v := (-1 : Int32)) hx hb dX12_contains_14 (by decide) ?_
    obtain rfl := Option.some.inj h
    exact K H locs ls _ dX12_contains_15 Z
  · replace h := ifn h cnd
    refine lv_iload_n hx hb dX12_contains_7 rfl (lv_at hl 2 rfl) ?_
    obtain ⟨u20, hc21, h⟩ := ob_some h
    refine x_runSi (RW' := (RW_X12_contains cy o d prefixes_)) (wr := [((d 3), aI cy 13 prefixes_)]) (isC := []) (isR := [0]) (isF := [0]) (rest := []) (As := [.int x2]) (n := 1) X Z (c_X12_isWord l D cy x2 u20 hc21) gX12_contains_X12_isWord rfl (by decide +kernel) ⟨Nat.le_of_ble_eq_true rfl, Nat.le_of_ble_eq_true rfl⟩ ⟨rfl, rfl⟩ ⟨Nat.le_of_ble_eq_true rfl, Nat.le_of_ble_eq_true rfl⟩ ⟨rfl, rfl, roN, rfl, rfl, by decide⟩ ⟨rfl, rfl⟩ rfl hl.1 rfl (Nat.le_of_ble_eq_true rfl) dX12_contains_8 (fun H locs Z => ?_)
    refine lv_if_ne (tgt := 16) hx hb dX12_contains_11 (by decide) (fun cnd => ?_) (fun cnd => ?_)
    · replace h := ifn h cnd
      refine lv_aload_n hx hb dX12_contains_16 rfl (lv_at hl 0 rfl) ?_
      refine x_getO X Z 0 16 (v := .ref (d 16)) rfl rfl lk_X12_contains_X12_form dX12_contains_17 ?_
      refine lv_iload_n hx hb dX12_contains_20 rfl (lv_at hl 1 rfl) ?_
      obtain ⟨hin22, v23, hv24, h⟩ := ld_b h
      refine x_ialdO X Z 3 rfl hin22 hv24 dX12_contains_21 ?_
      refine lv_if_ge (tgt := 28) hx hb dX12_contains_22 (by decide) (fun cnd => ?_) (fun cnd => ?_)
      · replace h := ifp h cnd
        refine lv_iconst (v := (0 : Int32)) hx hb dX12_contains_28 (by decide) ?_
        refine lv_istore_n (lv' := [(3, .int (0 : Int32)), (0, .ref o), (1, .int x1), (2, .int x2)]) hx hb dX12_contains_29 rfl hl (by decide) rfl (fun ls hl => ?_)
        refine lv_iconst (v := (0 : Int32)) hx hb dX12_contains_30 (by decide) ?_
        refine lv_istore (lv' := [(4, .int (0 : Int32)), (3, .int (0 : Int32)), (0, .ref o), (1, .int x1), (2, .int x2)]) hx hb dX12_contains_31 hl (by decide) rfl (fun ls hl => ?_)
        obtain ⟨u25, hL26, h⟩ := ob_some h
        refine wl_X12_contains_33 o d letters_ tests_ inputLength_ at_ signed_ newParts_ machineParts_ firstParts_ firstTruth_ secondTruth_ isPair_ states_ stateClasses_ elements_ cursor_ hasSnapshot_ isSaving_ wordLength_ word_ form_ parts_ truth_ partKind_ partBound_ partLength_ partValue_ partPattern_ x1 x2 FU (prefixes_, (0 : Int32), (0 : Int32)) u25 X hL26 (fun H locs ls Z hl => ?_) H locs ls Z (lv_sub hl [2, 3, 4, 1, 0] rfl)
        refine lv_aload_n hx hb dX12_contains_113 rfl (lv_at hl 0 rfl) ?_
        refine x_getO X Z 0 18 (v := .ref (d 18)) rfl rfl lk_X12_contains_X12_truth dX12_contains_114 ?_
        refine lv_iload_n hx hb dX12_contains_117 rfl (lv_at hl 1 rfl) ?_
        obtain ⟨hin27, v28, hv29, h⟩ := ld_b h
        refine x_ialdO X Z 5 rfl hin27 hv29 dX12_contains_118 ?_
        refine lv_iload_n hx hb dX12_contains_119 rfl (lv_at hl 2 rfl) ?_
        refine lv_ishr hx hb dX12_contains_120 ?_
        refine lv_iconst (v := (1 : Int32)) hx hb dX12_contains_121 (by decide) ?_
        refine lv_iand hx hb dX12_contains_122 ?_
        obtain rfl := Option.some.inj h
        exact K H locs ls _ dX12_contains_123 Z
      · replace h := ifn h cnd
        refine lv_bipush (v := (-5 : Int32)) hx hb dX12_contains_25 (by decide) ?_
        obtain rfl := Option.some.inj h
        exact K H locs ls _ dX12_contains_27 Z
    · replace h := ifp h cnd
      refine lv_iconst (v := (-1 : Int32)) hx hb dX12_contains_14 (by decide) ?_
      obtain rfl := Option.some.inj h
      exact K H locs ls _ dX12_contains_15 Z
theorem c_X12_contains (l : Launch) (D : va_G) (cy : Nat → ClassId) (o : Nat) (d : Nat → Nat) (letters_ : Int32) (tests_ : Int32) (inputLength_ : Int32) (at_ : Int32) (signed_ : Int32) (newParts_ : Int32) (machineParts_ : Int32) (firstParts_ : Int32) (firstTruth_ : Int32) (secondTruth_ : Int32) (isPair_ : Int32) (states_ : Int32) (stateClasses_ : Int32) (elements_ : Int32) (cursor_ : Int32) (hasSnapshot_ : Int32) (isSaving_ : Int32) (wordLength_ : Nat → Int32) (word_ : Nat → Int32) (form_ : Nat → Int32) (parts_ : Nat → Int32) (truth_ : Nat → Int32) (partKind_ : Nat → Int32) (partBound_ : Nat → Int32) (partLength_ : Nat → Int32) (partValue_ : Nat → Int32) (partPattern_ : Nat → Int32) (prefixes_ : Nat → Int32) (x1 : Int32) (x2 : Int32) (out : Int32 × (Nat → Int32)) (h : f_X12_contains x1 x2 wordLength_ word_ form_ parts_ truth_ partKind_ partBound_ partLength_ partValue_ partPattern_ prefixes_ = some out) : CtI l yX12_contains wsX12_contains rm_X12_contains D cy [.ref o, .int x1, .int x2] (RW_X12_contains cy o d prefixes_) (RO_X12_contains cy o d letters_ tests_ inputLength_ at_ signed_ newParts_ machineParts_ firstParts_ firstTruth_ secondTruth_ isPair_ states_ stateClasses_ elements_ cursor_ hasSnapshot_ isSaving_ wordLength_ word_ form_ parts_ truth_ partKind_ partBound_ partLength_ partValue_ partPattern_) (RW_X12_contains cy o d out.2) out.1 :=
  mk_i (ty := .int) (by decide) rfl rfl (Nat.le_of_ble_eq_true rfl) (fun p e s m args below meth c A Q X K H locs ls Z hl => wt_X12_contains o d letters_ tests_ inputLength_ at_ signed_ newParts_ machineParts_ firstParts_ firstTruth_ secondTruth_ isPair_ states_ stateClasses_ elements_ cursor_ hasSnapshot_ isSaving_ wordLength_ word_ form_ parts_ truth_ partKind_ partBound_ partLength_ partValue_ partPattern_ prefixes_ x1 x2 out X h K H locs ls Z hl)
/-! SubwordCounterModel addPart (IIII[II)V -/
abbrev rm_X12_addPart : Room := { frames := 0, cells := 0, slots := 0, locals := 0 }
def RW_X12_addPart (cy : Nat → ClassId) (o : Nat) (q_p5 : Nat) (n_p5 : Nat) (d : Nat → Nat) (letters_ : Int32) (tests_ : Int32) (inputLength_ : Int32) (at_ : Int32) (signed_ : Int32) (newParts_ : Int32) (machineParts_ : Int32) (firstParts_ : Int32) (firstTruth_ : Int32) (secondTruth_ : Int32) (isPair_ : Int32) (states_ : Int32) (stateClasses_ : Int32) (elements_ : Int32) (cursor_ : Int32) (hasSnapshot_ : Int32) (isSaving_ : Int32) (machineKind_ : Nat → Int32) (machineBound_ : Nat → Int32) (machineLength_ : Nat → Int32) (machineValue_ : Nat → Int32) (machinePattern_ : Nat → Int32) : va_W := [(o, ob 11 (oX12 d letters_ tests_ inputLength_ at_ signed_ newParts_ machineParts_ firstParts_ firstTruth_ secondTruth_ isPair_ states_ stateClasses_ elements_ cursor_ hasSnapshot_ isSaving_)), ((d 30), aI cy 8 machineKind_), ((d 31), aI cy 8 machineBound_), ((d 32), aI cy 8 machineLength_), ((d 33), aI cy 8 machineValue_), ((d 34), aI cy 32 machinePattern_)]
def RO_X12_addPart (cy : Nat → ClassId) (o : Nat) (q_p5 : Nat) (n_p5 : Nat) (d : Nat → Nat) (p5_ : Nat → Int32) : va_W := [(q_p5, aI cy n_p5 p5_)]
theorem in_X12_addPart_X12 : ∀ w ∈ u_ws RX12 TX12 68, w ∈ wsX12_addPart := fun w h => (List.mem_cons_of_mem _ (List.mem_append_right _ h))
theorem lk_X12_addPart_X12_machinePattern : Lk wsX12_addPart RX12 98 11 34 := ⟨RX12, TX12, 68, rfl, by decide, in_X12_addPart_X12, mem_at 6 rfl⟩
theorem lk_X12_addPart_X12_machineParts : Lk wsX12_addPart RX12 244 11 36 := ⟨RX12, TX12, 68, rfl, by decide, in_X12_addPart_X12, mem_at 1 rfl⟩
theorem lk_X12_addPart_X12_machineKind : Lk wsX12_addPart RX12 86 11 30 := ⟨RX12, TX12, 68, rfl, by decide, in_X12_addPart_X12, mem_at 2 rfl⟩
theorem lk_X12_addPart_X12_machineBound : Lk wsX12_addPart RX12 89 11 31 := ⟨RX12, TX12, 68, rfl, by decide, in_X12_addPart_X12, mem_at 3 rfl⟩
theorem lk_X12_addPart_X12_machineLength : Lk wsX12_addPart RX12 92 11 32 := ⟨RX12, TX12, 68, rfl, by decide, in_X12_addPart_X12, mem_at 4 rfl⟩
theorem lk_X12_addPart_X12_machineValue : Lk wsX12_addPart RX12 95 11 33 := ⟨RX12, TX12, 68, rfl, by decide, in_X12_addPart_X12, mem_at 5 rfl⟩
theorem lp_X12_addPart_X12_machineParts : Lp wsX12_addPart RX12 244 11 36 .int := ⟨RX12, TX12, 68, tyX12, rfl, by decide, in_X12_addPart_X12, mem_at 1 rfl, tyX12_ok, nmX12, rfl, by decide +kernel⟩
def b_X12_addPart_42 (n_p5 : Nat) (p5_ : Nat → Int32) (x6 : Int32) (x7 : Int32) (machinePattern_ : Nat → Int32) (x8 : Int32) : Option (((Nat → Int32) × Int32) ⊕ ((Nat → Int32))) :=
  if (4 : Int32) ≤ x8 then
  (some (.inr machinePattern_))
  else
  (ldA p5_ n_p5 (x6 + x8) (fun v2 =>
  stA machinePattern_ 32 (((4 : Int32) * x7) + x8) v2 (fun machinePattern_5 =>
  some (.inl (machinePattern_5, (x8 + (1 : Int32)))))))
set_option maxHeartbeats 4000000 in
set_option maxRecDepth 100000 in
theorem wb_X12_addPart_42 {p : Program} {l : Launch} {e : Env} {s : State} {m : MethodId} {args : Array Value} {below : List Frame} {meth : Method} {c : Code} {A : Nat → Prop} {Q : State → Prop} {D : va_G} {cy : Nat → ClassId} (o : Nat) (q_p5 : Nat) (n_p5 : Nat) (d : Nat → Nat) (p5_ : Nat → Int32) (letters_ : Int32) (tests_ : Int32) (inputLength_ : Int32) (at_ : Int32) (signed_ : Int32) (newParts_ : Int32) (machineParts_ : Int32) (firstParts_ : Int32) (firstTruth_ : Int32) (secondTruth_ : Int32) (isPair_ : Int32) (states_ : Int32) (stateClasses_ : Int32) (elements_ : Int32) (cursor_ : Int32) (hasSnapshot_ : Int32) (isSaving_ : Int32) (machineKind_ : Nat → Int32) (machineBound_ : Nat → Int32) (machineLength_ : Nat → Int32) (machineValue_ : Nat → Int32) (x6 : Int32) (x7 : Int32) (machinePattern_ : Nat → Int32) (x8 : Int32) (o1 : ((Nat → Int32) × Int32) ⊕ ((Nat → Int32))) (X : Cx p m c cX12_addPart 9 s args wsX12_addPart RX12 A D cy (RO_X12_addPart cy o q_p5 n_p5 d p5_)) (h : b_X12_addPart_42 n_p5 p5_ x6 x7 machinePattern_ x8 = some o1) (K : Sum.elim (fun v : (Nat → Int32) × Int32 => ∀ (H : Heap) (locs : List Loc) (ls : Array Slot), St A D s (RW_X12_addPart cy o q_p5 n_p5 d letters_ tests_ inputLength_ at_ signed_ newParts_ machineParts_ firstParts_ firstTruth_ secondTruth_ isPair_ states_ stateClasses_ elements_ cursor_ hasSnapshot_ isSaving_ machineKind_ machineBound_ machineLength_ machineValue_ v.1) H locs → lv_has ls 9 [(0, .ref o), (5, .ref q_p5), (6, .int x6), (7, .int x7), (8, .int v.2)] → W p l e rm_X12_addPart s m args below meth c H locs 0 0 Q (F0 m 42 ls [])) (fun v : (Nat → Int32) => ∀ (H : Heap) (locs : List Loc) (ls : Array Slot), St A D s (RW_X12_addPart cy o q_p5 n_p5 d letters_ tests_ inputLength_ at_ signed_ newParts_ machineParts_ firstParts_ firstTruth_ secondTruth_ isPair_ states_ stateClasses_ elements_ cursor_ hasSnapshot_ isSaving_ machineKind_ machineBound_ machineLength_ machineValue_ v) H locs → lv_has ls 9 [(0, .ref o)] → W p l e rm_X12_addPart s m args below meth c H locs 0 0 Q (F0 m 74 ls [])) o1) : ∀ (H : Heap) (locs : List Loc) (ls : Array Slot), St A D s (RW_X12_addPart cy o q_p5 n_p5 d letters_ tests_ inputLength_ at_ signed_ newParts_ machineParts_ firstParts_ firstTruth_ secondTruth_ isPair_ states_ stateClasses_ elements_ cursor_ hasSnapshot_ isSaving_ machineKind_ machineBound_ machineLength_ machineValue_ machinePattern_) H locs → lv_has ls 9 [(0, .ref o), (5, .ref q_p5), (6, .int x6), (7, .int x7), (8, .int x8)] → W p l e rm_X12_addPart s m args below meth c H locs 0 0 Q (F0 m 42 ls []) := by
  intro H locs ls Z hl
  have hx := X.1.1
  have hb := X.1.2.1
  unfold b_X12_addPart_42 at h
  refine lv_iload hx hb dX12_addPart_42 (lv_at hl 4 rfl) ?_
  refine lv_iconst (v := (4 : Int32)) hx hb dX12_addPart_44 (by decide) ?_
  refine lv_icmp_ge (tgt := 74) hx hb dX12_addPart_45 (by decide) (fun cnd => ?_) (fun cnd => ?_)
  · replace h := ifp h cnd
    obtain rfl := Option.some.inj h
    exact (sk_r K) H locs ls Z (lv_sub hl [0] rfl)
  · replace h := ifn h cnd
    refine lv_aload_n hx hb dX12_addPart_48 rfl (lv_at hl 0 rfl) ?_
    refine x_get X Z 0 34 (v := .ref (d 34)) rfl rfl lk_X12_addPart_X12_machinePattern dX12_addPart_49 ?_
    refine lv_iconst (v := (4 : Int32)) hx hb dX12_addPart_52 (by decide) ?_
    refine lv_iload hx hb dX12_addPart_53 (lv_at hl 3 rfl) ?_
    refine lv_imul hx hb dX12_addPart_55 ?_
    refine lv_iload hx hb dX12_addPart_56 (lv_at hl 4 rfl) ?_
    refine lv_iadd hx hb dX12_addPart_58 ?_
    refine lv_aload hx hb dX12_addPart_59 (lv_at hl 1 rfl) ?_
    refine lv_iload hx hb dX12_addPart_61 (lv_at hl 2 rfl) ?_
    refine lv_iload hx hb dX12_addPart_63 (lv_at hl 4 rfl) ?_
    refine lv_iadd hx hb dX12_addPart_65 ?_
    obtain ⟨hin1, v2, hv3, h⟩ := ld_b h
    refine x_ialdO X Z 0 rfl hin1 hv3 dX12_addPart_66 ?_
    obtain ⟨hin4, machinePattern_5, hv6, h⟩ := st_b h
    refine x_iast X Z 5 (RW_X12_addPart cy o q_p5 n_p5 d letters_ tests_ inputLength_ at_ signed_ newParts_ machineParts_ firstParts_ firstTruth_ secondTruth_ isPair_ states_ stateClasses_ elements_ cursor_ hasSnapshot_ isSaving_ machineKind_ machineBound_ machineLength_ machineValue_ machinePattern_5) rfl hin4 hv6 rfl dX12_addPart_67 (fun H locs Z => ?_)
    refine lv_iinc (v := (x8 + (1 : Int32))) (lv' := [(8, .int (x8 + (1 : Int32))), (0, .ref o), (5, .ref q_p5), (6, .int x6), (7, .int x7)]) hx hb dX12_addPart_68 hl (k := 4) rfl rfl (by decide) rfl (fun ls hl => ?_)
    refine lv_goto (tgt := 42) hx hb dX12_addPart_71 (by decide) ?_
    obtain rfl := Option.some.inj h
    exact sk_l K H locs ls Z (lv_sub hl [1, 2, 3, 4, 0] rfl)
set_option maxHeartbeats 4000000 in
set_option maxRecDepth 100000 in
theorem wl_X12_addPart_42 {p : Program} {l : Launch} {e : Env} {s : State} {m : MethodId} {args : Array Value} {below : List Frame} {meth : Method} {c : Code} {A : Nat → Prop} {Q : State → Prop} {D : va_G} {cy : Nat → ClassId} (o : Nat) (q_p5 : Nat) (n_p5 : Nat) (d : Nat → Nat) (p5_ : Nat → Int32) (letters_ : Int32) (tests_ : Int32) (inputLength_ : Int32) (at_ : Int32) (signed_ : Int32) (newParts_ : Int32) (machineParts_ : Int32) (firstParts_ : Int32) (firstTruth_ : Int32) (secondTruth_ : Int32) (isPair_ : Int32) (states_ : Int32) (stateClasses_ : Int32) (elements_ : Int32) (cursor_ : Int32) (hasSnapshot_ : Int32) (isSaving_ : Int32) (machineKind_ : Nat → Int32) (machineBound_ : Nat → Int32) (machineLength_ : Nat → Int32) (machineValue_ : Nat → Int32) (x6 : Int32) (x7 : Int32) (n : Nat) (v : (Nat → Int32) × Int32) (x : (Nat → Int32)) (X : Cx p m c cX12_addPart 9 s args wsX12_addPart RX12 A D cy (RO_X12_addPart cy o q_p5 n_p5 d p5_)) (h : loopN (fun v => b_X12_addPart_42 n_p5 p5_ x6 x7 v.1 v.2) n v = some x) (K : ∀ (H : Heap) (locs : List Loc) (ls : Array Slot), St A D s (RW_X12_addPart cy o q_p5 n_p5 d letters_ tests_ inputLength_ at_ signed_ newParts_ machineParts_ firstParts_ firstTruth_ secondTruth_ isPair_ states_ stateClasses_ elements_ cursor_ hasSnapshot_ isSaving_ machineKind_ machineBound_ machineLength_ machineValue_ x) H locs → lv_has ls 9 [(0, .ref o)] → W p l e rm_X12_addPart s m args below meth c H locs 0 0 Q (F0 m 74 ls [])) : ∀ (H : Heap) (locs : List Loc) (ls : Array Slot), St A D s (RW_X12_addPart cy o q_p5 n_p5 d letters_ tests_ inputLength_ at_ signed_ newParts_ machineParts_ firstParts_ firstTruth_ secondTruth_ isPair_ states_ stateClasses_ elements_ cursor_ hasSnapshot_ isSaving_ machineKind_ machineBound_ machineLength_ machineValue_ v.1) H locs → lv_has ls 9 [(0, .ref o), (5, .ref q_p5), (6, .int x6), (7, .int x7), (8, .int v.2)] → W p l e rm_X12_addPart s m args below meth c H locs 0 0 Q (F0 m 42 ls []) :=
  loop_gen (B := (fun v => b_X12_addPart_42 n_p5 p5_ x6 x7 v.1 v.2)) (Head := fun v : (Nat → Int32) × Int32 => ∀ (H : Heap) (locs : List Loc) (ls : Array Slot), St A D s (RW_X12_addPart cy o q_p5 n_p5 d letters_ tests_ inputLength_ at_ signed_ newParts_ machineParts_ firstParts_ firstTruth_ secondTruth_ isPair_ states_ stateClasses_ elements_ cursor_ hasSnapshot_ isSaving_ machineKind_ machineBound_ machineLength_ machineValue_ v.1) H locs → lv_has ls 9 [(0, .ref o), (5, .ref q_p5), (6, .int x6), (7, .int x7), (8, .int v.2)] → W p l e rm_X12_addPart s m args below meth c H locs 0 0 Q (F0 m 42 ls [])) (Exit := fun v : (Nat → Int32) => ∀ (H : Heap) (locs : List Loc) (ls : Array Slot), St A D s (RW_X12_addPart cy o q_p5 n_p5 d letters_ tests_ inputLength_ at_ signed_ newParts_ machineParts_ firstParts_ firstTruth_ secondTruth_ isPair_ states_ stateClasses_ elements_ cursor_ hasSnapshot_ isSaving_ machineKind_ machineBound_ machineLength_ machineValue_ v) H locs → lv_has ls 9 [(0, .ref o)] → W p l e rm_X12_addPart s m args below meth c H locs 0 0 Q (F0 m 74 ls [])) (fun v o9 hb1 K1 => wb_X12_addPart_42 o q_p5 n_p5 d p5_ letters_ tests_ inputLength_ at_ signed_ newParts_ machineParts_ firstParts_ firstTruth_ secondTruth_ isPair_ states_ stateClasses_ elements_ cursor_ hasSnapshot_ isSaving_ machineKind_ machineBound_ machineLength_ machineValue_ x6 x7 v.1 v.2 o9 X hb1 K1) n v x h K
def f_X12_addPart (x1 : Int32) (x2 : Int32) (x3 : Int32) (x4 : Int32) (x6 : Int32) (n_p5 : Nat) (p5_ : Nat → Int32) (machineParts_ : Int32) (machineKind_ : Nat → Int32) (machineBound_ : Nat → Int32) (machineLength_ : Nat → Int32) (machineValue_ : Nat → Int32) (machinePattern_ : Nat → Int32) : Option (Int32 × (Nat → Int32) × (Nat → Int32) × (Nat → Int32) × (Nat → Int32) × (Nat → Int32)) :=
  stA machineKind_ 8 machineParts_ x1 (fun machineKind_8 =>
  stA machineBound_ 8 machineParts_ x2 (fun machineBound_11 =>
  stA machineLength_ 8 machineParts_ x3 (fun machineLength_14 =>
  stA machineValue_ 8 machineParts_ x4 (fun machineValue_17 =>
  (loopN (fun v => b_X12_addPart_42 n_p5 p5_ x6 machineParts_ v.1 v.2) FU (machinePattern_, (0 : Int32))).bind (fun u19 =>
  some ((machineParts_ + (1 : Int32)), machineKind_8, machineBound_11, machineLength_14, machineValue_17, u19))))))
set_option maxHeartbeats 4000000 in
set_option maxRecDepth 100000 in
theorem wt_X12_addPart {p : Program} {l : Launch} {e : Env} {s : State} {m : MethodId} {args : Array Value} {below : List Frame} {meth : Method} {c : Code} {A : Nat → Prop} {Q : State → Prop} {D : va_G} {cy : Nat → ClassId} (o : Nat) (q_p5 : Nat) (n_p5 : Nat) (d : Nat → Nat) (p5_ : Nat → Int32) (letters_ : Int32) (tests_ : Int32) (inputLength_ : Int32) (at_ : Int32) (signed_ : Int32) (newParts_ : Int32) (machineParts_ : Int32) (firstParts_ : Int32) (firstTruth_ : Int32) (secondTruth_ : Int32) (isPair_ : Int32) (states_ : Int32) (stateClasses_ : Int32) (elements_ : Int32) (cursor_ : Int32) (hasSnapshot_ : Int32) (isSaving_ : Int32) (machineKind_ : Nat → Int32) (machineBound_ : Nat → Int32) (machineLength_ : Nat → Int32) (machineValue_ : Nat → Int32) (machinePattern_ : Nat → Int32) (x1 : Int32) (x2 : Int32) (x3 : Int32) (x4 : Int32) (x6 : Int32) (out : Int32 × (Nat → Int32) × (Nat → Int32) × (Nat → Int32) × (Nat → Int32) × (Nat → Int32)) (X : Cx p m c cX12_addPart 9 s args wsX12_addPart RX12 A D cy (RO_X12_addPart cy o q_p5 n_p5 d p5_)) (h : f_X12_addPart x1 x2 x3 x4 x6 n_p5 p5_ machineParts_ machineKind_ machineBound_ machineLength_ machineValue_ machinePattern_ = some out) (K : ∀ (H : Heap) (locs : List Loc) (ls : Array Slot) (pc : Nat), decode cX12_addPart pc = .ok (.return_, 1) → St A D s (RW_X12_addPart cy o q_p5 n_p5 d letters_ tests_ inputLength_ at_ signed_ newParts_ out.1 firstParts_ firstTruth_ secondTruth_ isPair_ states_ stateClasses_ elements_ cursor_ hasSnapshot_ isSaving_ out.2.1 out.2.2.1 out.2.2.2.1 out.2.2.2.2.1 out.2.2.2.2.2) H locs → W p l e rm_X12_addPart s m args below meth c H locs 0 0 Q (F0 m pc ls [])) : ∀ (H : Heap) (locs : List Loc) (ls : Array Slot), St A D s (RW_X12_addPart cy o q_p5 n_p5 d letters_ tests_ inputLength_ at_ signed_ newParts_ machineParts_ firstParts_ firstTruth_ secondTruth_ isPair_ states_ stateClasses_ elements_ cursor_ hasSnapshot_ isSaving_ machineKind_ machineBound_ machineLength_ machineValue_ machinePattern_) H locs → lv_has ls 9 [(0, .ref o), (1, .int x1), (2, .int x2), (3, .int x3), (4, .int x4), (5, .ref q_p5), (6, .int x6)] → W p l e rm_X12_addPart s m args below meth c H locs 0 0 Q (F0 m 0 ls []) := by
  intro H locs ls Z hl
  have hx := X.1.1
  have hb := X.1.2.1
  unfold f_X12_addPart at h
  refine lv_aload_n hx hb dX12_addPart_0 rfl (lv_at hl 0 rfl) ?_
  refine x_get X Z 0 36 (v := .int machineParts_) rfl rfl lk_X12_addPart_X12_machineParts dX12_addPart_1 ?_
  refine lv_istore (lv' := [(7, .int machineParts_), (0, .ref o), (1, .int x1), (2, .int x2), (3, .int x3), (4, .int x4), (5, .ref q_p5), (6, .int x6)]) hx hb dX12_addPart_4 hl (by decide) rfl (fun ls hl => ?_)
  refine lv_aload_n hx hb dX12_addPart_6 rfl (lv_at hl 1 rfl) ?_
  refine x_get X Z 0 30 (v := .ref (d 30)) rfl rfl lk_X12_addPart_X12_machineKind dX12_addPart_7 ?_
  refine lv_iload hx hb dX12_addPart_10 (lv_at hl 0 rfl) ?_
  refine lv_iload_n hx hb dX12_addPart_12 rfl (lv_at hl 2 rfl) ?_
  obtain ⟨hin7, machineKind_8, hv9, h⟩ := st_b h
  refine x_iast X Z 1 (RW_X12_addPart cy o q_p5 n_p5 d letters_ tests_ inputLength_ at_ signed_ newParts_ machineParts_ firstParts_ firstTruth_ secondTruth_ isPair_ states_ stateClasses_ elements_ cursor_ hasSnapshot_ isSaving_ machineKind_8 machineBound_ machineLength_ machineValue_ machinePattern_) rfl hin7 hv9 rfl dX12_addPart_13 (fun H locs Z => ?_)
  refine lv_aload_n hx hb dX12_addPart_14 rfl (lv_at hl 1 rfl) ?_
  refine x_get X Z 0 31 (v := .ref (d 31)) rfl rfl lk_X12_addPart_X12_machineBound dX12_addPart_15 ?_
  refine lv_iload hx hb dX12_addPart_18 (lv_at hl 0 rfl) ?_
  refine lv_iload_n hx hb dX12_addPart_20 rfl (lv_at hl 3 rfl) ?_
  obtain ⟨hin10, machineBound_11, hv12, h⟩ := st_b h
  refine x_iast X Z 2 (RW_X12_addPart cy o q_p5 n_p5 d letters_ tests_ inputLength_ at_ signed_ newParts_ machineParts_ firstParts_ firstTruth_ secondTruth_ isPair_ states_ stateClasses_ elements_ cursor_ hasSnapshot_ isSaving_ machineKind_8 machineBound_11 machineLength_ machineValue_ machinePattern_) rfl hin10 hv12 rfl dX12_addPart_21 (fun H locs Z => ?_)
  refine lv_aload_n hx hb dX12_addPart_22 rfl (lv_at hl 1 rfl) ?_
  refine x_get X Z 0 32 (v := .ref (d 32)) rfl rfl lk_X12_addPart_X12_machineLength dX12_addPart_23 ?_
  refine lv_iload hx hb dX12_addPart_26 (lv_at hl 0 rfl) ?_
  refine lv_iload_n hx hb dX12_addPart_28 rfl (lv_at hl 4 rfl) ?_
  obtain ⟨hin13, machineLength_14, hv15, h⟩ := st_b h
  refine x_iast X Z 3 (RW_X12_addPart cy o q_p5 n_p5 d letters_ tests_ inputLength_ at_ signed_ newParts_ machineParts_ firstParts_ firstTruth_ secondTruth_ isPair_ states_ stateClasses_ elements_ cursor_ hasSnapshot_ isSaving_ machineKind_8 machineBound_11 machineLength_14 machineValue_ machinePattern_) rfl hin13 hv15 rfl dX12_addPart_29 (fun H locs Z => ?_)
  refine lv_aload_n hx hb dX12_addPart_30 rfl (lv_at hl 1 rfl) ?_
  refine x_get X Z 0 33 (v := .ref (d 33)) rfl rfl lk_X12_addPart_X12_machineValue dX12_addPart_31 ?_
  refine lv_iload hx hb dX12_addPart_34 (lv_at hl 0 rfl) ?_
  refine lv_iload hx hb dX12_addPart_36 (lv_at hl 5 rfl) ?_
  obtain ⟨hin16, machineValue_17, hv18, h⟩ := st_b h
  refine x_iast X Z 4 (RW_X12_addPart cy o q_p5 n_p5 d letters_ tests_ inputLength_ at_ signed_ newParts_ machineParts_ firstParts_ firstTruth_ secondTruth_ isPair_ states_ stateClasses_ elements_ cursor_ hasSnapshot_ isSaving_ machineKind_8 machineBound_11 machineLength_14 machineValue_17 machinePattern_) rfl hin16 hv18 rfl dX12_addPart_38 (fun H locs Z => ?_)
  refine lv_iconst (v := (0 : Int32)) hx hb dX12_addPart_39 (by decide) ?_
  refine lv_istore (lv' := [(8, .int (0 : Int32)), (7, .int machineParts_), (0, .ref o), (1, .int x1), (2, .int x2), (3, .int x3), (4, .int x4), (5, .ref q_p5), (6, .int x6)]) hx hb dX12_addPart_40 hl (by decide) rfl (fun ls hl => ?_)
  obtain ⟨u19, hL20, h⟩ := ob_some h
  refine wl_X12_addPart_42 o q_p5 n_p5 d p5_ letters_ tests_ inputLength_ at_ signed_ newParts_ machineParts_ firstParts_ firstTruth_ secondTruth_ isPair_ states_ stateClasses_ elements_ cursor_ hasSnapshot_ isSaving_ machineKind_8 machineBound_11 machineLength_14 machineValue_17 x6 machineParts_ FU (machinePattern_, (0 : Int32)) u19 X hL20 (fun H locs ls Z hl => ?_) H locs ls Z (lv_sub hl [2, 7, 8, 1, 0] rfl)
  refine lv_aload_n hx hb dX12_addPart_74 rfl (lv_at hl 0 rfl) ?_
  refine lv_dup hx hb dX12_addPart_75 rfl ?_
  refine x_get X Z 0 36 (v := .int machineParts_) rfl rfl lk_X12_addPart_X12_machineParts dX12_addPart_76 ?_
  refine lv_iconst (v := (1 : Int32)) hx hb dX12_addPart_79 (by decide) ?_
  refine lv_iadd hx hb dX12_addPart_80 ?_
  refine x_put X Z 0 36 (RW_X12_addPart cy o q_p5 n_p5 d letters_ tests_ inputLength_ at_ signed_ newParts_ (machineParts_ + (1 : Int32)) firstParts_ firstTruth_ secondTruth_ isPair_ states_ stateClasses_ elements_ cursor_ hasSnapshot_ isSaving_ machineKind_8 machineBound_11 machineLength_14 machineValue_17 u19) rfl lp_X12_addPart_X12_machineParts (Nat.le_of_ble_eq_true rfl) rfl dX12_addPart_81 (fun H locs Z => ?_)
  obtain rfl := Option.some.inj h
  exact K H locs ls _ dX12_addPart_84 Z
theorem c_X12_addPart (l : Launch) (D : va_G) (cy : Nat → ClassId) (o : Nat) (q_p5 : Nat) (n_p5 : Nat) (d : Nat → Nat) (p5_ : Nat → Int32) (letters_ : Int32) (tests_ : Int32) (inputLength_ : Int32) (at_ : Int32) (signed_ : Int32) (newParts_ : Int32) (machineParts_ : Int32) (firstParts_ : Int32) (firstTruth_ : Int32) (secondTruth_ : Int32) (isPair_ : Int32) (states_ : Int32) (stateClasses_ : Int32) (elements_ : Int32) (cursor_ : Int32) (hasSnapshot_ : Int32) (isSaving_ : Int32) (machineKind_ : Nat → Int32) (machineBound_ : Nat → Int32) (machineLength_ : Nat → Int32) (machineValue_ : Nat → Int32) (machinePattern_ : Nat → Int32) (x1 : Int32) (x2 : Int32) (x3 : Int32) (x4 : Int32) (x6 : Int32) (out : Int32 × (Nat → Int32) × (Nat → Int32) × (Nat → Int32) × (Nat → Int32) × (Nat → Int32)) (h : f_X12_addPart x1 x2 x3 x4 x6 n_p5 p5_ machineParts_ machineKind_ machineBound_ machineLength_ machineValue_ machinePattern_ = some out) : CtV l yX12_addPart wsX12_addPart rm_X12_addPart D cy [.ref o, .int x1, .int x2, .int x3, .int x4, .ref q_p5, .int x6] (RW_X12_addPart cy o q_p5 n_p5 d letters_ tests_ inputLength_ at_ signed_ newParts_ machineParts_ firstParts_ firstTruth_ secondTruth_ isPair_ states_ stateClasses_ elements_ cursor_ hasSnapshot_ isSaving_ machineKind_ machineBound_ machineLength_ machineValue_ machinePattern_) (RO_X12_addPart cy o q_p5 n_p5 d p5_) (RW_X12_addPart cy o q_p5 n_p5 d letters_ tests_ inputLength_ at_ signed_ newParts_ out.1 firstParts_ firstTruth_ secondTruth_ isPair_ states_ stateClasses_ elements_ cursor_ hasSnapshot_ isSaving_ out.2.1 out.2.2.1 out.2.2.2.1 out.2.2.2.2.1 out.2.2.2.2.2) :=
  mk_v (by decide) rfl (Nat.le_of_ble_eq_true rfl) (fun p e s m args below meth c A Q X K H locs ls Z hl => wt_X12_addPart o q_p5 n_p5 d p5_ letters_ tests_ inputLength_ at_ signed_ newParts_ machineParts_ firstParts_ firstTruth_ secondTruth_ isPair_ states_ stateClasses_ elements_ cursor_ hasSnapshot_ isSaving_ machineKind_ machineBound_ machineLength_ machineValue_ machinePattern_ x1 x2 x3 x4 x6 out X h K H locs ls Z hl)
