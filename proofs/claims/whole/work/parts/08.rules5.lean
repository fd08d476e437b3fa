set_option linter.unusedVariables false
/-! copies out of a cell that is only read -/
theorem i32_nat {z : Int32} (hz : ¬ z < 0) : z.toInt = (z.toNatClampNeg : Int) := by
  have h1 : (0 : Int) ≤ z.toInt := by simpa using Int32.le_iff_toInt_le.mp (Int32.not_lt.mp hz)
  show z.toInt = ((z.toInt.toNat : Nat) : Int)
  omega
section XC
variable {p : Program} {l : Launch} {e : Env} {R : Room} {s : State} {m : MethodId} {args : Array Value} {below : List Frame} {meth : Method} {c : Code} {H : Heap} {locs : List Loc} {cells slots : Nat} {Q : State → Prop} {cc : ByteArray} {nL : Nat} {Ts : List Cond} {own : String} {A : Nat → Prop} {D : va_G} {cy : Nat → ClassId} {RO RW : va_W} {pc : Nat} {ls : Array Slot} {rest : List Value} {a : Nat}
/-- what a cell's new contents leave of the world -/
theorem st_set (Z : St A D s RW H locs) {q1 : Nat} {e0 e1 : va_E} (he1 : RW[q1]? = some (a, e0)) {cell : Cell} (hcell : ∀ H', H'[a]? = some cell → va_at D vwCl (a, e1) H') {L : List Loc} (hL : ∀ q ∈ L, q.base = a) : St A D s (RW.set q1 (a, e1)) (H.setIfInBounds a cell) (locs ++ L) := by
  have hl : a < H.size := (Z.1 q1 _ he1).lt
  have oq : ∀ q : Nat, q ≠ a → (H.setIfInBounds a cell)[q]? = H[q]? := fun q hq => by simp [Array.getElem?_setIfInBounds, Ne.symm hq]
  refine ⟨Z.1.set Z.2.1 he1 (hcell _ (by simp [Array.getElem?_setIfInBounds, hl])) oq, Z.2.1.set he1, by simp; exact Z.2.2.1, fun q g1 g2 => ?_, fun q hq => ?_⟩
  · rw [oq q (fun e => g2 (by rw [e]; exact Z.2.1.2 q1 _ he1))]
    exact Z.2.2.2.1 q g1 g2
  · rcases List.mem_append.mp hq with h | h
    · exact Z.2.2.2.2 q h
    · rw [hL q h]
      exact Z.2.1.2 q1 _ he1
theorem x_cpyIO (X : Cx p m c cc nL s args Ts own A D cy RO) (Z : St A D s RW H locs) {lv : List (Nat × Value)} (hl : lv_has ls nL lv) (q1 : Nat) (RW' : va_W) {idx a0 n0 n1 : Nat} {f g f' : Nat → Int32} {sp dp n : Int32} (L : Lc Ts own idx) (hm : (a0, .inl (cy 0, n0, .inl f)) ∈ RO) (he1 : RW[q1]? = some (a, .inl (cy 0, n1, .inl g)))
    (hc : ¬ sp < 0 ∧ ¬ dp < 0 ∧ ¬ n < 0 ∧ sp.toNatClampNeg + n.toNatClampNeg ≤ n0 ∧ dp.toNatClampNeg + n.toNatClampNeg ≤ n1) (hv : va_cpy f g sp.toNatClampNeg dp.toNatClampNeg n.toNatClampNeg = f') (hw : RW.set q1 (a, .inl (cy 0, n1, .inl f')) = RW') (hframes : 1 ≤ R.frames) (hlocals : (rest.map fun v => v.category).sum + 18 ≤ R.locals) (hdg : decode cc pc = .ok (.invokestatic idx, 3))
    (kk : ∀ (H : Heap) (locs : List Loc), St A D s RW' H locs → W p l e R s m args below meth c H locs cells slots Q (F0 m (pc + 3) ls rest)) : W p l e R s m args below meth c H locs cells slots Q (F0 m pc ls (.int n :: .int dp :: .ref a :: .int sp :: .ref a0 :: rest)) := by
  subst hv
  subst hw
  obtain ⟨i0, hi0⟩ := List.getElem?_of_mem hm
  obtain ⟨h1, h2, h3, h4, h5⟩ := hc
  intro T hT S
  have hc0 : H[a0]? = some (vp_cell (cy 0) (n0, .inl f)) := X.ro Z i0 _ hi0
  have hc1 : H[a]? = some (vp_cell (cy 0) (n1, .inl g)) := Z.1 q1 _ he1
  have hK := X.2.1
  obtain ⟨-, k0, hk0, cm0, hkk0⟩ := (hK.2 0 _ rfl).1 n0 (fun j => .int (f j))
  obtain ⟨-, k1, hk1, cm1, hkk1⟩ := (hK.2 0 _ rfl).1 n1 (fun j => .int (g j))
  obtain ⟨vm', X', step⟩ := S.arraycopy X.1.1 X.1.2.2.2.1 (X.1.2.2.2.2 _ L.1) (X.1.2.2.2.2 _ L.2.1) (X.1.2.2.2.2 _ L.2.2.1) (X.1.2.2.2.2 _ L.2.2.2) (src := a0) (dst := a) (cs := vp_cell (cy 0) (n0, .inl f)) (cd := vp_cell (cy 0) (n1, .inl g)) (srcPos := sp) (destPos := dp) (n := n) (by rw [hT]; exact hc0) (by rw [hT]; exact hc1)
    (fun _ h => by cases h) (fun _ h => by cases h) (fun h => by cases h) (fun h => by cases h) hk0 hk1 hkk0 hkk1 rfl h1 h2 h3
    (by rw [i32_nat h1, i32_nat h3]; show ¬ _ > ((arrV (cy 0) n0 (fun j => .int (f j))).slots.size : Int); rw [arrV_size]; omega)
    (by rw [i32_nat h2, i32_nat h3]; show ¬ _ > ((arrV (cy 0) n1 (fun j => .int (g j))).slots.size : Int); rw [arrV_size]; omega)
    (fun vm₁ _ i hi => by
      have e : (vp_cell (cy 0) (n0, .inl f)).slots.getD (sp.toNatClampNeg + i) .null = .int (f (sp.toNatClampNeg + i)) := by
        show (arrV (cy 0) n0 (fun j => .int (f j))).slots.getD _ _ = _
        rw [Array.getD_eq_getD_getElem?, arrV_read _ _ (by omega)]
        rfl
      rw [e]
      exact ⟨rfl, trivial⟩)
    (g := F0 m pc ls (.int n :: .int dp :: .ref a :: .int sp :: .ref a0 :: rest)) rfl (hl.1.trans X.1.2.2.1.symm) (rest := rest) rfl (by rw [X.1.2.1]; exact hdg) hframes (by show 2 * 0 + _ + _ ≤ _; have : nativeFrameWords "java/lang/System" "arraycopy" 5 + 11 = 18 := rfl; omega)
  have e1 : copied (vp_cell (cy 0) (n0, .inl f)) (vp_cell (cy 0) (n1, .inl g)) sp dp n = vp_cell (cy 0) (n1, .inl (va_cpy f g sp.toNatClampNeg dp.toNatClampNeg n.toNatClampNeg)) := va_copied (fun z => .int z) (cy 0) (cy 0) f g h4
  rw [e1] at X' step
  obtain ⟨t, a1, b1⟩ := kk _ _ (st_set Z he1 (cell := vp_cell (cy 0) (n1, .inl (va_cpy f g sp.toNatClampNeg dp.toNatClampNeg n.toNatClampNeg))) (e1 := .inl (cy 0, n1, .inl (va_cpy f g sp.toNatClampNeg dp.toNatClampNeg n.toNatClampNeg))) (fun H' h => h) (fun q hq => by obtain ⟨z, -, hz⟩ := List.mem_map.mp hq; rw [← hz])) _ (by rw [← hT]; rfl) X'
  exact ⟨t, step t a1, b1⟩
theorem x_cpyRO (X : Cx p m c cc nL s args Ts own A D cy RO) (Z : St A D s RW H locs) {lv : List (Nat × Value)} (hl : lv_has ls nL lv) (q1 t0 ci : Nat) (RW' : va_W) {q : vw_C} {idx a0 n0 n1 : Nat} {f g f' : Nat → Option Nat} {sp dp n : Int32} (L : Lc Ts own idx) (hci : vwCl[ci]? = some q) (hm : (a0, .inl (cy t0, n0, .inr (.inr (.inr (.inr f))))) ∈ RO) (he1 : RW[q1]? = some (a, .inl (cy t0, n1, .inr (.inr (.inr (.inr g)))))) (ht : (tyL cy)[t0]? = some (cy t0, .object q.1))
    (hc : ¬ sp < 0 ∧ ¬ dp < 0 ∧ ¬ n < 0 ∧ sp.toNatClampNeg + n.toNatClampNeg ≤ n0 ∧ dp.toNatClampNeg + n.toNatClampNeg ≤ n1) (hel : ∀ i, i < n.toNatClampNeg → ∀ y, f (sp.toNatClampNeg + i) = some y → ∃ fs : List Value, (y, .inr (ci, fs)) ∈ RO) (hv : va_cpy f g sp.toNatClampNeg dp.toNatClampNeg n.toNatClampNeg = f') (hw : RW.set q1 (a, .inl (cy t0, n1, .inr (.inr (.inr (.inr f'))))) = RW') (hframes : 1 ≤ R.frames) (hlocals : (rest.map fun v => v.category).sum + 18 ≤ R.locals) (hdg : decode cc pc = .ok (.invokestatic idx, 3))
    (kk : ∀ (H : Heap) (locs : List Loc), St A D s RW' H locs → W p l e R s m args below meth c H locs cells slots Q (F0 m (pc + 3) ls rest)) : W p l e R s m args below meth c H locs cells slots Q (F0 m pc ls (.int n :: .int dp :: .ref a :: .int sp :: .ref a0 :: rest)) := by
  subst hv
  subst hw
  obtain ⟨i0, hi0⟩ := List.getElem?_of_mem hm
  obtain ⟨h1, h2, h3, h4, h5⟩ := hc
  intro T hT S
  have hc0 : H[a0]? = some (vp_cell (cy t0) (n0, .inr (.inr (.inr (.inr f))))) := X.ro Z i0 _ hi0
  have hc1 : H[a]? = some (vp_cell (cy t0) (n1, .inr (.inr (.inr (.inr g))))) := Z.1 q1 _ he1
  have hK := X.2.1
  obtain ⟨-, k0, hk0, cm0, hkk0⟩ := (hK.2 t0 _ ht).1 n0 (fun j => va_rf (f j))
  obtain ⟨-, k1, hk1, cm1, hkk1⟩ := (hK.2 t0 _ ht).1 n1 (fun j => va_rf (g j))
  obtain ⟨vm', X', step⟩ := S.arraycopy X.1.1 X.1.2.2.2.1 (X.1.2.2.2.2 _ L.1) (X.1.2.2.2.2 _ L.2.1) (X.1.2.2.2.2 _ L.2.2.1) (X.1.2.2.2.2 _ L.2.2.2) (src := a0) (dst := a) (cs := vp_cell (cy t0) (n0, .inr (.inr (.inr (.inr f))))) (cd := vp_cell (cy t0) (n1, .inr (.inr (.inr (.inr g))))) (srcPos := sp) (destPos := dp) (n := n) (by rw [hT]; exact hc0) (by rw [hT]; exact hc1)
    (fun _ h => by cases h) (fun _ h => by cases h) (fun h => by cases h) (fun h => by cases h) hk0 hk1 hkk0 hkk1 rfl h1 h2 h3
    (by rw [i32_nat h1, i32_nat h3]; show ¬ _ > ((arrV (cy t0) n0 (fun j => va_rf (f j))).slots.size : Int); rw [arrV_size]; omega)
    (by rw [i32_nat h2, i32_nat h3]; show ¬ _ > ((arrV (cy t0) n1 (fun j => va_rf (g j))).slots.size : Int); rw [arrV_size]; omega)
    (fun vm₁ hal i hi => by
      have e : (vp_cell (cy t0) (n0, .inr (.inr (.inr (.inr f))))).slots.getD (sp.toNatClampNeg + i) .null = va_rf (f (sp.toNatClampNeg + i)) := by
        show (arrV (cy t0) n0 (fun j => va_rf (f j))).slots.getD _ _ = _
        rw [Array.getD_eq_getD_getElem?, arrV_read _ _ (by omega)]
        rfl
      rw [e]
      cases hy : f (sp.toNatClampNeg + i) with
      | none => exact ⟨rfl, trivial⟩
      | some y =>
        obtain ⟨fs, hmy⟩ := hel i hi y hy
        obtain ⟨cellV, g1, g2, g3⟩ := x_rvM X Z hmy hci
        obtain ⟨kA, comp, r1, r2, r3, -⟩ := (hK.2 t0 _ ht).2
        cases hk1.symm.trans r1
        cases hkk1.symm.trans r2
        obtain ⟨kC, hkC, -⟩ := Vm.findClass_spec g3
        obtain ⟨kE, hkE, -⟩ := Vm.findClass_spec r3
        obtain ⟨kC', hkC', -⟩ := hal.2.2 _ _ hkC
        obtain ⟨kE', hkE', -⟩ := hal.2.2 _ _ hkE
        refine ⟨rfl, cellV, (show T.heap[y]? = some cellV by rw [hT]; exact g1), (fun q h => by rw [h] at g2; cases g2), ⟨kC', hkC'⟩, ⟨kE', hkE'⟩, ?_⟩
        show vm₁.assignable _ _ = true
        rw [hal.assignable]
        rw [Option.some.inj (r3.symm.trans g3), Option.some.inj (g3.symm.trans (hK.1 ci q hci).2.1)]
        exact va_assign (hK.1 ci q hci).2)
    (g := F0 m pc ls (.int n :: .int dp :: .ref a :: .int sp :: .ref a0 :: rest)) rfl (hl.1.trans X.1.2.2.1.symm) (rest := rest) rfl (by rw [X.1.2.1]; exact hdg) hframes (by show 2 * 0 + _ + _ ≤ _; have : nativeFrameWords "java/lang/System" "arraycopy" 5 + 11 = 18 := rfl; omega)
  have e1 : copied (vp_cell (cy t0) (n0, .inr (.inr (.inr (.inr f))))) (vp_cell (cy t0) (n1, .inr (.inr (.inr (.inr g))))) sp dp n = vp_cell (cy t0) (n1, .inr (.inr (.inr (.inr (va_cpy f g sp.toNatClampNeg dp.toNatClampNeg n.toNatClampNeg))))) := by
    rw [vp_cell_q, vp_cell_q, vp_cell_q]
    exact va_copied (fun z => va_rf z) (cy t0) (cy t0) f g h4
  rw [e1] at X' step
  obtain ⟨t, a1, b1⟩ := kk _ _ (st_set Z he1 (cell := vp_cell (cy t0) (n1, .inr (.inr (.inr (.inr (va_cpy f g sp.toNatClampNeg dp.toNatClampNeg n.toNatClampNeg)))))) (e1 := .inl (cy t0, n1, .inr (.inr (.inr (.inr (va_cpy f g sp.toNatClampNeg dp.toNatClampNeg n.toNatClampNeg)))))) (fun H' h => h) (fun q hq => by obtain ⟨z, -, hz⟩ := List.mem_map.mp hq; rw [← hz])) _ (by rw [← hT]; rfl) X'
  exact ⟨t, step t a1, b1⟩
end XC
section XD
variable {p : Program} {l : Launch} {e : Env} {R : Room} {s : State} {m : MethodId} {args : Array Value} {below : List Frame} {meth : Method} {c : Code} {H : Heap} {locs : List Loc} {cells slots : Nat} {Q : State → Prop} {cc : ByteArray} {nL : Nat} {Ts : List Cond} {own : String} {A : Nat → Prop} {D : va_G} {cy : Nat → ClassId} {RO RW : va_W} {pc : Nat} {ls : Array Slot} {rest : List Value} {a : Nat}
theorem x_alenR (X : Cx p m c cc nL s args Ts own A D cy RO) (Z : St A D s RW H locs) (q0 t0 : Nat) {C : String} {n : Nat} {f : Nat → Option Nat} (he : RW[q0]? = some (a, .inl (cy t0, n, .inr (.inr (.inr (.inr f)))))) (ht : (tyL cy)[t0]? = some (cy t0, .object C)) (hdg : decode cc pc = .ok (.arraylength, 1))
    (kk : W p l e R s m args below meth c H locs cells slots Q (F0 m (pc + 1) ls (.int (Int32.ofNat n) :: rest))) : W p l e R s m args below meth c H locs cells slots Q (F0 m pc ls (.ref a :: rest)) :=
  va_alen X.1.1 X.1.2.1 X.2.1 Z.1 q0 t0 he ht rfl hdg kk
theorem x_alenRO (X : Cx p m c cc nL s args Ts own A D cy RO) (Z : St A D s RW H locs) (q0 t0 : Nat) {C : String} {n : Nat} {f : Nat → Option Nat} (he : RO[q0]? = some (a, .inl (cy t0, n, .inr (.inr (.inr (.inr f)))))) (ht : (tyL cy)[t0]? = some (cy t0, .object C)) (hdg : decode cc pc = .ok (.arraylength, 1))
    (kk : W p l e R s m args below meth c H locs cells slots Q (F0 m (pc + 1) ls (.int (Int32.ofNat n) :: rest))) : W p l e R s m args below meth c H locs cells slots Q (F0 m pc ls (.ref a :: rest)) :=
  va_alen X.1.1 X.1.2.1 X.2.1 (X.ro Z) q0 t0 he ht rfl hdg kk
theorem zback0 (X : Cx p m c cc nL s args Ts own A D cy RO) (Z : St A D s RW H locs) {RWc ROc wr RWc' RW' : va_W} {isC isR : List Nat} (C : Cut RW RO RWc ROc wr isC isR) (hF : wr ++ RWc' = RW') {H1 : Heap} {locs1 : List Loc}
    (hk1 : ∀ q : Nat, q < H.size → ¬ va_A RWc H.size q → H1[q]? = H[q]?) (hP1 : va_P D vwCl RWc' H1) (hD1 : va_D (va_A RWc H.size) RWc') (hS : va_S A s.heap H1 locs1) : St A D s RW' H1 locs1 := by
  subst hF
  obtain ⟨c1, c2, c3, c4, c5, c6⟩ := C
  have hFc := va_free (wc := RWc) Z.2.1 Z.2.2 X.2.2.1 isC c1
  obtain ⟨hP, hD⟩ := va_join (wr := wr) (w1 := RWc') Z.1 Z.2.1 isC isR c1 c2 c5 c6 hk1 hFc hP1 hD1
  exact ⟨hP, hD, hS⟩
theorem x_runVi0 {y : MethodName} {bytes : ByteArray} {maxL n : Nat} {ret : Option FieldType} {ws ws' : List Cond} {rm : Room} {idx b : Nat} {As : List Value} {RWc ROc wr : va_W} {RWc' RW' : (Nat → Nat) → va_W} {isC isR : List Nat} {st0 : List Value} {r0 : Int32} (X : Cx p m c cc nL s args Ts own A D cy RO) (Z : St A D s RW H locs) (M : CtIE l y ws rm D cy (.ref b :: As) RWc ROc RWc' r0) (hG : GoodIn Ts (wsV own idx y.cls y ws)) (hw : ws = Cond.code y bytes maxL ret :: ws') (hd : y.cls = y.cls ∧ y.cls ≠ "java/lang/invoke/MethodHandle" ∧ y.cls ≠ "java/lang/invoke/VarHandle" ∧ (parseMethodDescriptor y.desc).map (fun d => d.parameters.length) = some n) (hR : rm.frames + 1 ≤ R.frames ∧ 8 + (maxL + 11) + rm.locals ≤ R.locals) (hf : cells + rm.cells ≤ R.cells ∧ slots + rm.slots ≤ R.slots)
    (hv : ∃ cell : Cell, H[b]? = some cell ∧ cell.vm.isStatics = false ∧ s.vm.findClass y.cls = some cell.cls) (C : Cut RW RO RWc ROc wr isC isR) (hF : ∀ u, wr ++ RWc' u = RW' u) (hn : As.length = n) (hsz : ls.size = nL) (hst : st0 = As.reverse ++ .ref b :: rest) (hro : (rest.map fun v => v.category).sum ≤ 8) (hdg : decode cc pc = .ok (.invokevirtual idx, 3))
    (kk : ∀ (u : Nat → Nat) (H : Heap) (locs : List Loc), St A D s (RW' u) H locs → W p l e R s m args below meth c H locs (cells + rm.cells) (slots + rm.slots) Q (F0 m (pc + 3) ls (.int r0 :: rest))) : W p l e R s m args below meth c H locs cells slots Q (F0 m pc ls st0) := by
  have hFc := va_free (wc := RWc) Z.2.1 Z.2.2 X.2.2.1 isC C.1
  refine va_calli (va_runV (As := As) (rest := rest) X.1 (M H.size) (cwV n X.1.2.2.2.2 hG hw rfl rfl hd hR) ⟨pre_blind, hv, fun U hU hW => ⟨rfl, pre_of X Z C U hU hW⟩⟩ rfl hn hsz hst (lv_room hro) hdg hf) Z.2.2 (fun q _ h => hFc q h) hFc (fun r u t H1 l1 ht hvm hw1 hB hz1 hk1 hS => ?_)
  subst ht
  rw [hw1]
  exact kk u _ _ (zback0 X Z C (hF u) hk1 hB.1 hB.2.2 hS)
end XD
