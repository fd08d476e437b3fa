set_option linter.unusedVariables false
/-! rows for what is made: objects, arrays, constructors; contracts of methods that make cells, whose addresses are u 0, u 1 .. -/
def Ln (Ts : List Cond) (own : String) (idx ci : Nat) (fs : List Value) (n : Nat) : Prop := ∃ (C : String) (T : u_T) (ty : Nat → FieldType), vwCl[ci]? = some (C, T, n) ∧ (∀ w ∈ u_ws C T n, w ∈ Ts) ∧ (∀ k, k < n → parseFieldDescriptor (T k).2.2.1 = some (ty k)) ∧ Cond.classLink own idx C ∈ Ts ∧ Cond.instantiable C n ∈ Ts ∧ Cond.initialized C ∈ Ts ∧ ∀ j, j < n → defaultValue (ty j) = vp_V fs j
def Lq (Ts : List Cond) (own : String) (idx ci k : Nat) (ty : FieldType) : Prop := ∃ (C : String) (T : u_T) (N : Nat) (ty0 : Nat → FieldType), vwCl[ci]? = some (C, T, N) ∧ k < N ∧ (∀ w ∈ u_ws C T N, w ∈ Ts) ∧ Cond.fieldLink own idx (T k).1 (T k).2.1 (T k).2.2.1 ∈ Ts ∧
  (∀ k, k < N → parseFieldDescriptor (T k).2.2.1 = some (ty0 k)) ∧ (∀ a, a < N → ∀ b, b < N → a ≠ b → (T a).2.1 ≠ (T b).2.1) ∧ (T k).2.2.2 = true ∧ (T k).1 = own ∧ parseFieldDescriptor (T k).2.2.1 = some ty
section XN
variable {p : Program} {l : Launch} {e : Env} {R : Room} {s : State} {m : MethodId} {args : Array Value} {below : List Frame} {meth : Method} {c : Code} {H : Heap} {locs : List Loc} {cells slots : Nat} {Q : State → Prop} {cc : ByteArray} {nL : Nat} {Ts : List Cond} {own : String} {A : Nat → Prop} {D : va_G} {cy : Nat → ClassId} {RO RW : va_W} {pc : Nat} {ls : Array Slot} {rest : List Value} {a : Nat}
theorem x_new (X : Cx p m c cc nL s args Ts own A D cy RO) (Z : St A D s RW H locs) (RW' : Nat → va_W) {idx ci n : Nat} {fs : List Value} (L : Ln Ts own idx ci fs n) (hcells : cells + 1 ≤ R.cells) (hslots : slots + n ≤ R.slots) (hw : ∀ q, RW ++ [(q, .inr (ci, fs))] = RW' q) (hdg : decode cc pc = .ok (.new idx, 3))
    (kk : ∀ (q : Nat) (H : Heap), St A D s (RW' q) H locs → W p l e R s m args below meth c H locs (cells + 1) (slots + n) Q (F0 m (pc + 3) ls (.ref q :: rest))) : W p l e R s m args below meth c H locs cells slots Q (F0 m pc ls rest) := by
  obtain ⟨C, T, ty, h1, h2, h3, h4, h5, h6, h7⟩ := L
  refine va_new X.1.1 X.1.2.1 X.1.2.2.2.2 h2 ty h3 X.1.2.2.2.1 (X.1.2.2.2.2 _ h4) (X.1.2.2.2.2 _ h5) (X.1.2.2.2.2 _ h6) X.2.1 Z.1 Z.2.1 Z.2.2 X.2.2.1 h1 h7 hcells hslots hdg (fun q H1 hP hD hS => ?_)
  refine kk q H1 ?_
  rw [← hw q]
  exact ⟨hP, hD, hS⟩
theorem x_newI (X : Cx p m c cc nL s args Ts own A D cy RO) (Z : St A D s RW H locs) (RW' : Nat → va_W) (N : Nat) {n : Int32} (h1 : Cond.arrayClass .int ∈ Ts) (hn : ¬ n < 0) (hN : n.toNatClampNeg = N) (hbytes : N * componentBytes .int ≤ 536870912) (hcells : cells + 1 ≤ R.cells) (hslots : slots + N ≤ R.slots) (hw : ∀ q, RW ++ [(q, aI cy N (fun _ => 0))] = RW' q) (hdg : decode cc pc = .ok (.newarray .int, 2))
    (kk : ∀ (q : Nat) (H : Heap), St A D s (RW' q) H locs → W p l e R s m args below meth c H locs (cells + 1) (slots + N) Q (F0 m (pc + 2) ls (.ref q :: rest))) : W p l e R s m args below meth c H locs cells slots Q (F0 m pc ls (.int n :: rest)) := by
  refine va_newa (atype := .int) X.1.1 X.1.2.1 (X.1.2.2.2.2 _ h1) (ty := .int) rfl X.2.1 Z.1 Z.2.1 Z.2.2 X.2.2.1 (a0 := (N, .inl (fun _ => 0))) (fun _ => rfl) hn hN hbytes hcells hslots hdg (fun q cA H1 hK hP hD hS => ?_)
  have hc : cA = cy 0 := Option.some.inj (((hK.2 6 _ rfl).2).symm.trans (X.2.1.2 0 _ rfl).2)
  subst hc
  refine kk q H1 ?_
  rw [← hw q]
  exact ⟨hP, hD, hS⟩
theorem x_newJ (X : Cx p m c cc nL s args Ts own A D cy RO) (Z : St A D s RW H locs) (RW' : Nat → va_W) (N : Nat) {n : Int32} (h1 : Cond.arrayClass .long ∈ Ts) (hn : ¬ n < 0) (hN : n.toNatClampNeg = N) (hbytes : N * componentBytes .long ≤ 536870912) (hcells : cells + 1 ≤ R.cells) (hslots : slots + N ≤ R.slots) (hw : ∀ q, RW ++ [(q, aJ cy N (fun _ => 0))] = RW' q) (hdg : decode cc pc = .ok (.newarray .long, 2))
    (kk : ∀ (q : Nat) (H : Heap), St A D s (RW' q) H locs → W p l e R s m args below meth c H locs (cells + 1) (slots + N) Q (F0 m (pc + 2) ls (.ref q :: rest))) : W p l e R s m args below meth c H locs cells slots Q (F0 m pc ls (.int n :: rest)) := by
  refine va_newa (atype := .long) X.1.1 X.1.2.1 (X.1.2.2.2.2 _ h1) (ty := .long) rfl X.2.1 Z.1 Z.2.1 Z.2.2 X.2.2.1 (a0 := (N, .inr (.inl (fun _ => 0)))) (fun _ => rfl) hn hN hbytes hcells hslots hdg (fun q cA H1 hK hP hD hS => ?_)
  have hc : cA = cy 1 := Option.some.inj (((hK.2 6 _ rfl).2).symm.trans (X.2.1.2 1 _ rfl).2)
  subst hc
  refine kk q H1 ?_
  rw [← hw q]
  exact ⟨hP, hD, hS⟩
theorem x_newR (X : Cx p m c cc nL s args Ts own A D cy RO) (Z : St A D s RW H locs) (t0 : Nat) (RW' : Nat → va_W) (N : Nat) {n : Int32} {C : String} {idx : Nat} (h1 : Cond.classLink own idx C ∈ Ts) (h2 : C ∈ nwA) (ht : (tyL cy)[t0]? = some (cy t0, .object C)) (hn : ¬ n < 0) (hN : n.toNatClampNeg = N) (hbytes : N * 4 ≤ 536870912) (hcells : cells + 1 ≤ R.cells) (hslots : slots + N ≤ R.slots) (hw : ∀ q, RW ++ [(q, aR cy t0 N (fun _ => none))] = RW' q) (hdg : decode cc pc = .ok (.anewarray idx, 3))
    (kk : ∀ (q : Nat) (H : Heap), St A D s (RW' q) H locs → W p l e R s m args below meth c H locs (cells + 1) (slots + N) Q (F0 m (pc + 3) ls (.ref q :: rest))) : W p l e R s m args below meth c H locs cells slots Q (F0 m pc ls (.int n :: rest)) := by
  refine va_newq X.1.1 X.1.2.1 X.1.2.2.2.1 (X.1.2.2.2.2 _ h1) (X.2.2.2.2.2.2 _ h2) X.2.1 Z.1 Z.2.1 Z.2.2 X.2.2.1 hn hN hbytes hcells hslots hdg (fun q cA H1 hK hP hD hS => ?_)
  obtain ⟨_, _, _, _, _, g1⟩ := (hK.2 6 _ rfl).2
  obtain ⟨_, _, _, _, _, g2⟩ := (X.2.1.2 t0 _ ht).2
  have hc : cA = cy t0 := Option.some.inj (g1.symm.trans g2)
  subst hc
  refine kk q H1 ?_
  rw [← hw q]
  exact ⟨hP, hD, hS⟩
theorem x_putF (X : Cx p m c cc nL s args Ts own A D cy RO) (Z : St A D s RW H locs) (hI : meth.name = "<init>") (q0 k : Nat) (RW' : va_W) {ci idx : Nat} {fs : List Value} {v : Value} {ty : FieldType} (he : RW[q0]? = some (a, .inr (ci, fs))) (L : Lq Ts own idx ci k ty) (hn : narrow ty v = v) (hfit : fits ty v = true) (hl : k < fs.length) (hw : RW.set q0 (a, .inr (ci, fs.set k v)) = RW') (hdg : decode cc pc = .ok (.putfield idx, 3))
    (kk : ∀ (H : Heap) (locs : List Loc), St A D s RW' H locs → W p l e R s m args below meth c H locs cells slots Q (F0 m (pc + 3) ls rest)) : W p l e R s m args below meth c H locs cells slots Q (F0 m pc ls (v :: .ref a :: rest)) := by
  obtain ⟨C, T, N, ty0, h1, h2, h3, h4, h5, h6, h7, h8, h9⟩ := L
  subst hw
  exact va_putF X.1.1 X.1.2.1 X.1.2.2.2.2 h3 ty0 h5 h6 X.1.2.2.2.1 X.2.1 Z.1 Z.2.1 Z.2.2 q0 he h1 k h2 (X.1.2.2.2.2 _ h4) (fun _ h => h) h7 hI h8 h9 hn hfit hl hdg (fun H1 l1 a1 a2 a3 => kk H1 l1 ⟨a1, a2, a3⟩)
theorem x_putV (X : Cx p m c cc nL s args Ts own A D cy RO) (Z : St A D s RW H locs) (q0 k : Nat) (RW' : va_W) {ci idx : Nat} {fs : List Value} {v : Value} {ty : FieldType} (he : RW[q0]? = some (a, .inr (ci, fs))) (L : Lp Ts own idx ci k ty) (hn : narrow ty v = v) (hfit : fits ty v = true) (hl : k < fs.length) (hw : RW.set q0 (a, .inr (ci, fs.set k v)) = RW') (hdg : decode cc pc = .ok (.putfield idx, 3))
    (kk : ∀ (H : Heap) (locs : List Loc), St A D s RW' H locs → W p l e R s m args below meth c H locs cells slots Q (F0 m (pc + 3) ls rest)) : W p l e R s m args below meth c H locs cells slots Q (F0 m pc ls (v :: .ref a :: rest)) := by
  obtain ⟨C, T, N, ty0, h1, h2, h3, h4, h5, h6, h7, h8⟩ := L
  subst hw
  exact va_put X.1.1 X.1.2.1 X.1.2.2.2.2 h3 ty0 h5 h6 X.1.2.2.2.1 X.2.1 Z.1 Z.2.1 Z.2.2 q0 he h1 k h2 (X.1.2.2.2.2 _ h4) (fun _ h => h) h7 h8 hn hfit hl hdg (fun H1 l1 a1 a2 a3 => kk H1 l1 ⟨a1, a2, a3⟩)
theorem x_objInit (X : Cx p m c cc nL s args Ts own A D cy RO) {lv : List (Nat × Value)} (hl : lv_has ls nL lv) {idx : Nat} (h1 : Cond.methodLink own idx Lib.objectInit ∈ Ts) (h2 : Cond.instanceMethod Lib.objectInit ∈ Ts) (h3 : Cond.code Lib.objectInit ⟨#[0xb1]⟩ 1 none ∈ Ts) (hframes : 1 ≤ R.frames) (hlocals : (rest.map fun v => v.category).sum + 12 ≤ R.locals) (hdg : decode cc pc = .ok (.invokespecial idx, 3))
    (kk : W p l e R s m args below meth c H locs cells slots Q (F0 m (pc + 3) ls rest)) : W p l e R s m args below meth c H locs cells slots Q (F0 m pc ls (.ref a :: rest)) :=
  W.objInit X.1.1 X.1.2.1 X.1.2.2.2.1 (X.1.2.2.2.2 _ h1) (X.1.2.2.2.2 _ h2) (X.1.2.2.2.2 _ h3) rfl (hl.1.trans X.1.2.2.1.symm) rfl hdg hframes (by show 2 * 0 + _ + 12 ≤ _; omega) kk
end XN
def CtVE (l : Launch) (y : MethodName) (ws : List Cond) (rm : Room) (D : va_G) (cy : Nat → ClassId) (av : List Value) (RW RO : va_W) (RW' : (Nat → Nat) → va_W) : Prop := ∀ sz, Met l y ws rm (va_Pc av (Pre D cy RW RO sz)) (va_Qv (fun (_ : Nat → Nat) => True) (fun u t => Pos D cy RW (RW' u) sz t) (va_A RW sz)) rm.cells rm.slots (va_A RW sz)
def CtIE (l : Launch) (y : MethodName) (ws : List Cond) (rm : Room) (D : va_G) (cy : Nat → ClassId) (av : List Value) (RW RO : va_W) (RW' : (Nat → Nat) → va_W) (r0 : Int32) : Prop := ∀ sz, Met l y ws rm (va_Pc av (Pre D cy RW RO sz)) (va_Qi (fun r (_ : Nat → Nat) => r = r0) (fun u t => Pos D cy RW (RW' u) sz t) (va_A RW sz)) rm.cells rm.slots (va_A RW sz)
def CtRE (l : Launch) (y : MethodName) (ws : List Cond) (rm : Room) (D : va_G) (cy : Nat → ClassId) (av : List Value) (RW RO : va_W) (RW' : (Nat → Nat) → va_W) : Prop := ∀ sz, Met l y ws rm (va_Pc av (Pre D cy RW RO sz)) (va_Qr (fun (_ : Nat → Nat) => True) (fun u a t => a = u 0 ∧ Pos D cy RW (RW' u) sz t) (va_A RW sz)) rm.cells rm.slots (va_A RW sz)
section XE
variable {p : Program} {l : Launch} {e : Env} {R : Room} {s : State} {m : MethodId} {args : Array Value} {below : List Frame} {meth : Method} {c : Code} {H : Heap} {locs : List Loc} {cells slots : Nat} {Q : State → Prop} {cc : ByteArray} {nL : Nat} {Ts : List Cond} {own : String} {A : Nat → Prop} {D : va_G} {cy : Nat → ClassId} {RO RW : va_W} {pc : Nat} {ls : Array Slot} {rest : List Value}
variable {y : MethodName} {bytes : ByteArray} {maxL n : Nat} {ret : Option FieldType} {ws ws' : List Cond} {rm : Room} {idx b : Nat} {As : List Value} {RWc ROc wr : va_W} {RWc' RW' : (Nat → Nat) → va_W} {isC isR isF : List Nat} {st0 : List Value}
theorem x_runIe (X : Cx p m c cc nL s args Ts own A D cy RO) (Z : St A D s RW H locs) (M : CtVE l y ws rm D cy (.ref b :: As) RWc ROc RWc') (hG : GoodIn Ts ws) (hw : ws = Cond.code y bytes maxL none :: ws') (hini : Cond.initialized y.cls ∈ Ts) (hlk : Cond.methodLink own idx y ∈ Ts) (hinst : Cond.instanceMethod y ∈ Ts) (hy1 : y.name = "<init>") (hd : y.cls ≠ "java/lang/invoke/MethodHandle" ∧ y.cls ≠ "java/lang/invoke/VarHandle" ∧ (parseMethodDescriptor y.desc).map (fun d => d.parameters.length) = some n) (hR : rm.frames + 1 ≤ R.frames ∧ 8 + (maxL + 11) + rm.locals ≤ R.locals) (hf : cells + rm.cells ≤ R.cells ∧ slots + rm.slots ≤ R.slots)
    (C : Cut RW RO RWc ROc wr isC isR) (hF : ∀ u, isF.map (fun i => (wr ++ RWc' u)[i]?) = (RW' u).map some) (hnF : va_nd isF = true) (hn : As.length = n) (hsz : ls.size = nL) (hst : st0 = As.reverse ++ .ref b :: rest) (hro : (rest.map fun v => v.category).sum ≤ 8) (hdg : decode cc pc = .ok (.invokespecial idx, 3))
    (kk : ∀ (u : Nat → Nat) (H : Heap) (locs : List Loc), St A D s (RW' u) H locs → W p l e R s m args below meth c H locs (cells + rm.cells) (slots + rm.slots) Q (F0 m (pc + 3) ls rest)) : W p l e R s m args below meth c H locs cells slots Q (F0 m pc ls st0) := by
  have hFc := va_free (wc := RWc) Z.2.1 Z.2.2 X.2.2.1 isC C.1
  refine va_callv (va_runI (As := As) (rest := rest) X.1 (M H.size) (cwI n X.1.2.2.2.2 hG hw rfl rfl (X.1.2.2.2.2 _ hini) (X.1.2.2.2.2 _ hlk) (X.1.2.2.2.2 _ hinst) hy1 hd hR) ⟨pre_blind, fun U hU hW => ⟨rfl, pre_of X Z C U hU hW⟩⟩ rfl hn hsz hst (lv_room hro) hdg hf) Z.2.2 (fun q _ h => hFc q h) hFc (fun u t H1 l1 ht hvm hw1 hB hz1 hk1 hS => ?_)
  subst ht
  exact kk u _ _ (zback_of X Z C (hF u) hnF hk1 hB.1 hB.2.2 hS)
theorem x_runIeN {host : String} (X : Cx p m c cc nL s args Ts own A D cy RO) (Z : St A D s RW H locs) (M : CtVE l y ws rm D cy (.ref b :: As) RWc ROc RWc') (hG : GoodIn Ts ws) (hw : ws = Cond.code y bytes maxL none :: ws') (hini : Cond.initialized y.cls ∈ Ts) (hlk : (own, idx, y, host) ∈ nwM) (hinst : Cond.instanceMethod y ∈ Ts) (hy1 : y.name = "<init>") (hd : y.cls ≠ "java/lang/invoke/MethodHandle" ∧ y.cls ≠ "java/lang/invoke/VarHandle" ∧ (parseMethodDescriptor y.desc).map (fun d => d.parameters.length) = some n) (hR : rm.frames + 1 ≤ R.frames ∧ 8 + (maxL + 11) + rm.locals ≤ R.locals) (hf : cells + rm.cells ≤ R.cells ∧ slots + rm.slots ≤ R.slots)
    (C : Cut RW RO RWc ROc wr isC isR) (hF : ∀ u, isF.map (fun i => (wr ++ RWc' u)[i]?) = (RW' u).map some) (hnF : va_nd isF = true) (hn : As.length = n) (hsz : ls.size = nL) (hst : st0 = As.reverse ++ .ref b :: rest) (hro : (rest.map fun v => v.category).sum ≤ 8) (hdg : decode cc pc = .ok (.invokespecial idx, 3))
    (kk : ∀ (u : Nat → Nat) (H : Heap) (locs : List Loc), St A D s (RW' u) H locs → W p l e R s m args below meth c H locs (cells + rm.cells) (slots + rm.slots) Q (F0 m (pc + 3) ls rest)) : W p l e R s m args below meth c H locs cells slots Q (F0 m pc ls st0) := by
  have hFc := va_free (wc := RWc) Z.2.1 Z.2.2 X.2.2.1 isC C.1
  refine va_callv (va_runIN (host := host) (As := As) (rest := rest) X.1 (M H.size) ⟨va_cnB n X.1.2.2.2.2 hG hw rfl rfl (X.2.2.2.2.2.1 _ hlk) (X.1.2.2.2.2 _ hini) hd hR, hy1, X.1.2.2.2.2 _ hinst⟩ ⟨pre_blind, fun U hU hW => ⟨rfl, pre_of X Z C U hU hW⟩⟩ rfl hn hsz hst (lv_room hro) hdg hf) Z.2.2 (fun q _ h => hFc q h) hFc (fun u t H1 l1 ht hvm hw1 hB hz1 hk1 hS => ?_)
  subst ht
  exact kk u _ _ (zback_of X Z C (hF u) hnF hk1 hB.1 hB.2.2 hS)
theorem x_runSre (X : Cx p m c cc nL s args Ts own A D cy RO) (Z : St A D s RW H locs) (M : CtRE l y ws rm D cy As RWc ROc RWc') (hG : GoodIn Ts (va_wsS own idx y ws)) (hw : ws = Cond.code y bytes maxL ret :: ws') (hd : y.cls ≠ "java/lang/invoke/MethodHandle" ∧ y.cls ≠ "java/lang/invoke/VarHandle" ∧ (parseMethodDescriptor y.desc).map (fun d => d.parameters.length) = some n) (hR : rm.frames + 1 ≤ R.frames ∧ 8 + (maxL + 11) + rm.locals ≤ R.locals) (hf : cells + rm.cells ≤ R.cells ∧ slots + rm.slots ≤ R.slots)
    (C : Cut RW RO RWc ROc wr isC isR) (hF : ∀ u, isF.map (fun i => (wr ++ RWc' u)[i]?) = (RW' u).map some) (hnF : va_nd isF = true) (hn : As.length = n) (hsz : ls.size = nL) (hst : st0 = As.reverse ++ rest) (hro : (rest.map fun v => v.category).sum ≤ 8) (hdg : decode cc pc = .ok (.invokestatic idx, 3))
    (kk : ∀ (u : Nat → Nat) (H : Heap) (locs : List Loc), St A D s (RW' u) H locs → W p l e R s m args below meth c H locs (cells + rm.cells) (slots + rm.slots) Q (F0 m (pc + 3) ls (.ref (u 0) :: rest))) : W p l e R s m args below meth c H locs cells slots Q (F0 m pc ls st0) := by
  have hFc := va_free (wc := RWc) Z.2.1 Z.2.2 X.2.2.1 isC C.1
  refine va_callr (va_runS (As := As) (rest := rest) X.1 (M H.size) (va_cwS n X.1.2.2.2.2 hG hw rfl rfl hd hR) ⟨pre_blind, fun U hU hW => ⟨rfl, pre_of X Z C U hU hW⟩⟩ rfl hn hsz hst (lv_room hro) hdg hf) Z.2.2 (fun q _ h => hFc q h) hFc (fun u ra t H1 l1 ht hvm hw1 hB hz1 hk1 hS => ?_)
  subst ht
  rw [hB.1]
  exact kk u _ _ (zback_of X Z C (hF u) hnF hk1 hB.2.1 hB.2.2.2 hS)
theorem x_runVie {r0 : Int32} (X : Cx p m c cc nL s args Ts own A D cy RO) (Z : St A D s RW H locs) (M : CtIE l y ws rm D cy (.ref b :: As) RWc ROc RWc' r0) (hG : GoodIn Ts (wsV own idx y.cls y ws)) (hw : ws = Cond.code y bytes maxL ret :: ws') (hd : y.cls = y.cls ∧ y.cls ≠ "java/lang/invoke/MethodHandle" ∧ y.cls ≠ "java/lang/invoke/VarHandle" ∧ (parseMethodDescriptor y.desc).map (fun d => d.parameters.length) = some n) (hR : rm.frames + 1 ≤ R.frames ∧ 8 + (maxL + 11) + rm.locals ≤ R.locals) (hf : cells + rm.cells ≤ R.cells ∧ slots + rm.slots ≤ R.slots)
    (hv : ∃ cell : Cell, H[b]? = some cell ∧ cell.vm.isStatics = false ∧ s.vm.findClass y.cls = some cell.cls) (C : Cut RW RO RWc ROc wr isC isR) (hF : ∀ u, isF.map (fun i => (wr ++ RWc' u)[i]?) = (RW' u).map some) (hnF : va_nd isF = true) (hn : As.length = n) (hsz : ls.size = nL) (hst : st0 = As.reverse ++ .ref b :: rest) (hro : (rest.map fun v => v.category).sum ≤ 8) (hdg : decode cc pc = .ok (.invokevirtual idx, 3))
    (kk : ∀ (u : Nat → Nat) (H : Heap) (locs : List Loc), St A D s (RW' u) H locs → W p l e R s m args below meth c H locs (cells + rm.cells) (slots + rm.slots) Q (F0 m (pc + 3) ls (.int r0 :: rest))) : W p l e R s m args below meth c H locs cells slots Q (F0 m pc ls st0) := by
  have hFc := va_free (wc := RWc) Z.2.1 Z.2.2 X.2.2.1 isC C.1
  refine va_calli (va_runV (As := As) (rest := rest) X.1 (M H.size) (cwV n X.1.2.2.2.2 hG hw rfl rfl hd hR) ⟨pre_blind, hv, fun U hU hW => ⟨rfl, pre_of X Z C U hU hW⟩⟩ rfl hn hsz hst (lv_room hro) hdg hf) Z.2.2 (fun q _ h => hFc q h) hFc (fun r u t H1 l1 ht hvm hw1 hB hz1 hk1 hS => ?_)
  subst ht
  rw [hw1]
  exact kk u _ _ (zback_of X Z C (hF u) hnF hk1 hB.1 hB.2.2 hS)
end XE
section ME
variable {l : Launch} {y : MethodName} {ws ws' : List Cond} {rm : Room} {D : va_G} {cy : Nat → ClassId} {av : List Value} {RW RO : va_W} {RW' : (Nat → Nat) → va_W} {cc : ByteArray} {maxL : Nat}
theorem mk_ve (hy : plainName y.cls = true) (hw : ws = Cond.code y cc maxL none :: ws') (hi : y.name = "<init>") (hlen : (lg_sl av).length ≤ maxL)
    (body : ∀ (p : Program) (e : Env) (s : State) (m : MethodId) (args : Array Value) (below : List Frame) (meth : Method) (c : Code) (A : Nat → Prop) (Q : State → Prop), meth.name = "<init>" → Cx p m c cc maxL s args ws y.cls A D cy RO →
      (∀ (u : Nat → Nat) (H : Heap) (locs : List Loc) (ls : Array Slot) (pc : Nat), decode cc pc = .ok (.return_, 1) → St A D s (RW' u) H locs → W p l e rm s m args below meth c H locs rm.cells rm.slots Q (F0 m pc ls [])) →
      ∀ (H : Heap) (locs : List Loc) (ls : Array Slot), St A D s RW H locs → lv_has ls maxL (lv_args 0 av) → W p l e rm s m args below meth c H locs 0 0 Q (F0 m 0 ls [])) : CtVE l y ws rm D cy av RW RO RW' := by
  intro sz
  refine Met.ofW (cc := cc) (maxL := maxL) (ret := none) hy hw ?_
  intro p e s m args below meth c s₁ B hml hv
  obtain ⟨rfl, hpre⟩ := hv
  have hlocks := B.notSynchronized
  have hI : meth.name = "<init>" := ((name_of_methodNamed B.named B.method).1).trans hi
  obtain ⟨X, Z⟩ := mk_pre (cc := cc) (nL := maxL) (Ts := ws) (own := y.cls) (args := av.toArray) ⟨B.exec, B.bytes, hml, findClass_of_methodNamed B.named, atoms_spec (ws := ws) B.pre⟩ hpre
  have hl := lv_entry av (n := maxL) hlen
  rw [lg_entry_eq]
  refine body p e s m av.toArray below meth c (va_A RW sz) _ hI X (fun u H locs ls pc hd Z1 => ?_) s.heap [] _ Z hl
  exact W.vret B.exec B.bytes B.returns (fun t ht hW => ⟨⟨u, rfl, trivial, by rw [ht]; exact Z1.1, va_K.moved hW.alike X.2.1, Z1.2.1⟩, Z1.2.2.F ht⟩) Z1.2.2.2.2 hd
theorem mk_ie {r0 : Int32} (hy : plainName y.cls = true) (hw : ws = Cond.code y cc maxL (some .int) :: ws') (hlen : (lg_sl av).length ≤ maxL)
    (body : ∀ (p : Program) (e : Env) (s : State) (m : MethodId) (args : Array Value) (below : List Frame) (meth : Method) (c : Code) (A : Nat → Prop) (Q : State → Prop), Cx p m c cc maxL s args ws y.cls A D cy RO →
      (∀ (u : Nat → Nat) (H : Heap) (locs : List Loc) (ls : Array Slot) (pc : Nat), decode cc pc = .ok (.ireturn, 1) → St A D s (RW' u) H locs → W p l e rm s m args below meth c H locs rm.cells rm.slots Q (F0 m pc ls [.int r0])) →
      ∀ (H : Heap) (locs : List Loc) (ls : Array Slot), St A D s RW H locs → lv_has ls maxL (lv_args 0 av) → W p l e rm s m args below meth c H locs 0 0 Q (F0 m 0 ls [])) : CtIE l y ws rm D cy av RW RO RW' r0 := by
  intro sz
  refine Met.ofW (cc := cc) (maxL := maxL) (ret := some .int) hy hw ?_
  intro p e s m args below meth c s₁ B hml hv
  obtain ⟨rfl, hpre⟩ := hv
  have hlocks := B.notSynchronized
  obtain ⟨X, Z⟩ := mk_pre (cc := cc) (nL := maxL) (Ts := ws) (own := y.cls) (args := av.toArray) ⟨B.exec, B.bytes, hml, findClass_of_methodNamed B.named, atoms_spec (ws := ws) B.pre⟩ hpre
  have hl := lv_entry av (n := maxL) hlen
  rw [lg_entry_eq]
  refine body p e s m av.toArray below meth c (va_A RW sz) _ X (fun u H locs ls pc hd Z1 => ?_) s.heap [] _ Z hl
  exact W.iret (v := r0) B.exec B.bytes B.returns (fun t ht hW => ⟨⟨r0, u, rfl, rfl, by rw [ht]; exact Z1.1, va_K.moved hW.alike X.2.1, Z1.2.1⟩, Z1.2.2.F ht⟩) Z1.2.2.2.2 hd
theorem mk_re {C : String} (hy : plainName y.cls = true) (hw : ws = Cond.code y cc maxL (some (.object C)) :: ws') (hlen : (lg_sl av).length ≤ maxL)
    (body : ∀ (p : Program) (e : Env) (s : State) (m : MethodId) (args : Array Value) (below : List Frame) (meth : Method) (c : Code) (A : Nat → Prop) (Q : State → Prop), Cx p m c cc maxL s args ws y.cls A D cy RO →
      (∀ (u : Nat → Nat) (H : Heap) (locs : List Loc) (ls : Array Slot) (pc : Nat), decode cc pc = .ok (.areturn, 1) → St A D s (RW' u) H locs → W p l e rm s m args below meth c H locs rm.cells rm.slots Q (F0 m pc ls [.ref (u 0)])) →
      ∀ (H : Heap) (locs : List Loc) (ls : Array Slot), St A D s RW H locs → lv_has ls maxL (lv_args 0 av) → W p l e rm s m args below meth c H locs 0 0 Q (F0 m 0 ls [])) : CtRE l y ws rm D cy av RW RO RW' := by
  intro sz
  refine Met.ofW (cc := cc) (maxL := maxL) (ret := some (.object C)) hy hw ?_
  intro p e s m args below meth c s₁ B hml hv
  obtain ⟨rfl, hpre⟩ := hv
  have hlocks := B.notSynchronized
  obtain ⟨X, Z⟩ := mk_pre (cc := cc) (nL := maxL) (Ts := ws) (own := y.cls) (args := av.toArray) ⟨B.exec, B.bytes, hml, findClass_of_methodNamed B.named, atoms_spec (ws := ws) B.pre⟩ hpre
  have hl := lv_entry av (n := maxL) hlen
  rw [lg_entry_eq]
  refine body p e s m av.toArray below meth c (va_A RW sz) _ X (fun u H locs ls pc hd Z1 => ?_) s.heap [] _ Z hl
  exact W.aret (v := .ref (u 0)) B.exec B.bytes B.returns (Or.inl ⟨_, rfl⟩) (Or.inr ⟨_, rfl⟩) (fun t ht hW => ⟨⟨u, u 0, rfl, trivial, rfl, by rw [ht]; exact Z1.1, va_K.moved hW.alike X.2.1, Z1.2.1⟩, Z1.2.2.F ht⟩) Z1.2.2.2.2 hd
end ME
