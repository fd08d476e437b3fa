set_option linter.unusedVariables false
/-! arrays of references, the pool of tests (PT: cells that nobody writes; tq: what a test's cell holds, by its address), copies of arrays -/
abbrev TV : Type := Int32 × Int32 × Int32 × Int32 × Nat × Nat × (Nat → Int32)
def TP (cy : Nat → ClassId) (PT : va_W) (tq : Nat → Option TV) : Prop := ∀ (a : Nat) (v : TV), tq a = some v → (a, .inr (7, oX8 (fun _ => v.2.2.2.2.1) v.1 v.2.1 v.2.2.1 v.2.2.2.1)) ∈ PT ∧ (v.2.2.2.2.1, aI cy v.2.2.2.2.2.1 v.2.2.2.2.2.2) ∈ PT
def LQ (PT : va_W) (lq : Nat → Bool) : Prop := ∀ a : Nat, lq a = true → ∃ fs : List Value, (a, .inr (2, fs)) ∈ PT
def tsA {β : Type} (tq : Nat → Option TV) (r : Option Nat) (k : Nat → TV → Option β) : Option β := r.bind (fun a => (tq a).bind (fun v => k a v))
def asR {β : Type} (r : Option Nat) (q : Nat) (k : Option β) : Option β := if r = some q then k else none
def nlA {β : Type} (r : Option Nat) (kn ks : Option β) : Option β := if r = none then kn else ks
def cpA {α β : Type} (f g : Nat → α) (n0 n1 : Nat) (sp dp n : Int32) (k : (Nat → α) → Option β) : Option β := if sp < 0 ∨ dp < 0 ∨ n < 0 ∨ n0 < sp.toNatClampNeg + n.toNatClampNeg ∨ n1 < dp.toNatClampNeg + n.toNatClampNeg then none else k (va_cpy f g sp.toNatClampNeg dp.toNatClampNeg n.toNatClampNeg)
def allR (P : Nat → Bool) (f : Nat → Option Nat) (sp n : Nat) : Bool := (List.range n).all (fun j => match f (sp + j) with
  | none => true
  | some y => P y)
def cpR {β : Type} (P : Nat → Bool) (f g : Nat → Option Nat) (n0 n1 : Nat) (sp dp n : Int32) (k : (Nat → Option Nat) → Option β) : Option β := if allR P f sp.toNatClampNeg n.toNatClampNeg = true then cpA f g n0 n1 sp dp n k else none
theorem ts_b {β : Type} {tq : Nat → Option TV} {r : Option Nat} {k : Nat → TV → Option β} {o : β} (h : tsA tq r k = some o) : ∃ a v, r = some a ∧ tq a = some v ∧ k a v = some o := by
  obtain ⟨a, h1, h2⟩ := ob_some h
  obtain ⟨v, h3, h4⟩ := ob_some h2
  exact ⟨a, v, h1, h3, h4⟩
theorem as_b {β : Type} {r : Option Nat} {q : Nat} {k : Option β} {o : β} (h : asR r q k = some o) : r = some q ∧ k = some o := by
  unfold asR at h
  split at h
  · rename_i q
    exact ⟨q, h⟩
  · cases h
theorem nl_n {β : Type} {r : Option Nat} {kn ks : Option β} {o : Option β} (h : nlA r kn ks = o) (hr : r = none) : kn = o := by
  unfold nlA at h
  rw [if_pos hr] at h
  exact h
theorem nl_s {β : Type} {r : Option Nat} {kn ks : Option β} {o : Option β} {b : Nat} (h : nlA r kn ks = o) (hr : r = some b) : ks = o := by
  unfold nlA at h
  rw [if_neg (by rw [hr]; exact fun q => by cases q)] at h
  exact h
theorem cp_b {α β : Type} {f g : Nat → α} {n0 n1 : Nat} {sp dp n : Int32} {k : (Nat → α) → Option β} {o : β} (h : cpA f g n0 n1 sp dp n k = some o) : (¬ sp < 0 ∧ ¬ dp < 0 ∧ ¬ n < 0 ∧ sp.toNatClampNeg + n.toNatClampNeg ≤ n0 ∧ dp.toNatClampNeg + n.toNatClampNeg ≤ n1) ∧ ∃ v, va_cpy f g sp.toNatClampNeg dp.toNatClampNeg n.toNatClampNeg = v ∧ k v = some o := by
  unfold cpA at h
  split at h
  · cases h
  · rename_i q
    refine ⟨⟨fun x => q (Or.inl x), fun x => q (Or.inr (Or.inl x)), fun x => q (Or.inr (Or.inr (Or.inl x))), ?_, ?_⟩, _, rfl, h⟩
    · exact Nat.le_of_not_lt fun x => q (Or.inr (Or.inr (Or.inr (Or.inl x))))
    · exact Nat.le_of_not_lt fun x => q (Or.inr (Or.inr (Or.inr (Or.inr x))))
theorem cpR_b {β : Type} {P : Nat → Bool} {f g : Nat → Option Nat} {n0 n1 : Nat} {sp dp n : Int32} {k : (Nat → Option Nat) → Option β} {o : β} (h : cpR P f g n0 n1 sp dp n k = some o) : (∀ i, i < n.toNatClampNeg → ∀ y, f (sp.toNatClampNeg + i) = some y → P y = true) ∧ cpA f g n0 n1 sp dp n k = some o := by
  unfold cpR at h
  split at h
  · rename_i q
    refine ⟨fun i hi y hy => ?_, h⟩
    have := List.all_eq_true.mp q i (List.mem_range.mpr hi)
    rw [hy] at this
    exact this
  · cases h
section XR3
variable {p : Program} {l : Launch} {e : Env} {R : Room} {s : State} {m : MethodId} {args : Array Value} {below : List Frame} {meth : Method} {c : Code} {H : Heap} {locs : List Loc} {cells slots : Nat} {Q : State → Prop} {cc : ByteArray} {nL : Nat} {Ts : List Cond} {own : String} {A : Nat → Prop} {D : va_G} {cy : Nat → ClassId} {RO RW : va_W} {pc : Nat} {ls : Array Slot} {rest : List Value} {a : Nat}
theorem x_getM (X : Cx p m c cc nL s args Ts own A D cy RO) (Z : St A D s RW H locs) (k : Nat) {ci idx : Nat} {fs : List Value} {v : Value} (hm : (a, .inr (ci, fs)) ∈ RO) (hv : fs[k]? = some v) (L : Lk Ts own idx ci k) (hdg : decode cc pc = .ok (.getfield idx, 3))
    (kk : W p l e R s m args below meth c H locs cells slots Q (F0 m (pc + 3) ls (v :: rest))) : W p l e R s m args below meth c H locs cells slots Q (F0 m pc ls (.ref a :: rest)) := by
  obtain ⟨i, hi⟩ := List.getElem?_of_mem hm
  exact x_getO X Z i k hi hv L hdg kk
theorem x_rvM (X : Cx p m c cc nL s args Ts own A D cy RO) (Z : St A D s RW H locs) {ci : Nat} {fs : List Value} {q : vw_C} (hm : (a, .inr (ci, fs)) ∈ RO) (hc : vwCl[ci]? = some q) : ∃ cell : Cell, H[a]? = some cell ∧ cell.vm.isStatics = false ∧ s.vm.findClass q.1 = some cell.cls := by
  obtain ⟨i, hi⟩ := List.getElem?_of_mem hm
  exact x_rvO X Z i hi hc
theorem x_raldq (X : Cx p m c cc nL s args Ts own A D cy RO) (Z : St A D s RW H locs) (q0 t0 : Nat) {C : String} {n : Nat} {f : Nat → Option Nat} {i : Int32} {r : Option Nat} (he : RW[q0]? = some (a, .inl (cy t0, n, .inr (.inr (.inr (.inr f)))))) (ht : (tyL cy)[t0]? = some (cy t0, .object C)) (hin : ¬ (i < 0 ∨ n ≤ i.toNatClampNeg)) (hv : f i.toNatClampNeg = r) (hdg : decode cc pc = .ok (.aaload, 1))
    (kn : r = none → W p l e R s m args below meth c H locs cells slots Q (F0 m (pc + 1) ls (.null :: rest))) (ks : ∀ b, r = some b → W p l e R s m args below meth c H locs cells slots Q (F0 m (pc + 1) ls (.ref b :: rest))) : W p l e R s m args below meth c H locs cells slots Q (F0 m pc ls (.int i :: .ref a :: rest)) := by
  refine va_aldq X.1.1 X.1.2.1 X.2.1 Z.1 q0 t0 he ht hin hdg ?_
  rw [hv]
  cases r with
  | none => exact kn rfl
  | some b => exact ks b rfl
theorem x_raldqO (X : Cx p m c cc nL s args Ts own A D cy RO) (Z : St A D s RW H locs) (q0 t0 : Nat) {C : String} {n : Nat} {f : Nat → Option Nat} {i : Int32} {r : Option Nat} (he : RO[q0]? = some (a, .inl (cy t0, n, .inr (.inr (.inr (.inr f)))))) (ht : (tyL cy)[t0]? = some (cy t0, .object C)) (hin : ¬ (i < 0 ∨ n ≤ i.toNatClampNeg)) (hv : f i.toNatClampNeg = r) (hdg : decode cc pc = .ok (.aaload, 1))
    (kn : r = none → W p l e R s m args below meth c H locs cells slots Q (F0 m (pc + 1) ls (.null :: rest))) (ks : ∀ b, r = some b → W p l e R s m args below meth c H locs cells slots Q (F0 m (pc + 1) ls (.ref b :: rest))) : W p l e R s m args below meth c H locs cells slots Q (F0 m pc ls (.int i :: .ref a :: rest)) := by
  refine va_aldq X.1.1 X.1.2.1 X.2.1 (X.ro Z) q0 t0 he ht hin hdg ?_
  rw [hv]
  cases r with
  | none => exact kn rfl
  | some b => exact ks b rfl
theorem x_rald (X : Cx p m c cc nL s args Ts own A D cy RO) (Z : St A D s RW H locs) (q0 t0 : Nat) {C : String} {n : Nat} {f : Nat → Option Nat} {i : Int32} {r : Option Nat} {b : Nat} (he : RW[q0]? = some (a, .inl (cy t0, n, .inr (.inr (.inr (.inr f)))))) (ht : (tyL cy)[t0]? = some (cy t0, .object C)) (hin : ¬ (i < 0 ∨ n ≤ i.toNatClampNeg)) (hv : f i.toNatClampNeg = r) (hr : r = some b) (hdg : decode cc pc = .ok (.aaload, 1))
    (kk : W p l e R s m args below meth c H locs cells slots Q (F0 m (pc + 1) ls (.ref b :: rest))) : W p l e R s m args below meth c H locs cells slots Q (F0 m pc ls (.int i :: .ref a :: rest)) := by
  refine va_aldq X.1.1 X.1.2.1 X.2.1 Z.1 q0 t0 he ht hin hdg ?_
  rw [hv, hr]
  exact kk
theorem x_raldO (X : Cx p m c cc nL s args Ts own A D cy RO) (Z : St A D s RW H locs) (q0 t0 : Nat) {C : String} {n : Nat} {f : Nat → Option Nat} {i : Int32} {r : Option Nat} {b : Nat} (he : RO[q0]? = some (a, .inl (cy t0, n, .inr (.inr (.inr (.inr f)))))) (ht : (tyL cy)[t0]? = some (cy t0, .object C)) (hin : ¬ (i < 0 ∨ n ≤ i.toNatClampNeg)) (hv : f i.toNatClampNeg = r) (hr : r = some b) (hdg : decode cc pc = .ok (.aaload, 1))
    (kk : W p l e R s m args below meth c H locs cells slots Q (F0 m (pc + 1) ls (.ref b :: rest))) : W p l e R s m args below meth c H locs cells slots Q (F0 m pc ls (.int i :: .ref a :: rest)) := by
  refine va_aldq X.1.1 X.1.2.1 X.2.1 (X.ro Z) q0 t0 he ht hin hdg ?_
  rw [hv, hr]
  exact kk
theorem x_any (X : Cx p m c cc nL s args Ts own A D cy RO) (Z : St A D s RW H locs) (q0 : Nat) {ci v : Nat} {fs : List Value} {q : vw_C} (he : RW[q0]? = some (v, .inr (ci, fs))) (hc : vwCl[ci]? = some q) : va_Any q.1 s H v :=
  va_rAny X.2.1 Z.1 he hc (fun comp c0 h1 h2 => by rw [Option.some.inj (h1.symm.trans h2), Option.some.inj (h2.symm.trans (X.2.1.1 ci q hc).2.1)]; exact va_assign (X.2.1.1 ci q hc).2)
theorem x_anyO (X : Cx p m c cc nL s args Ts own A D cy RO) (Z : St A D s RW H locs) {ci v : Nat} {fs : List Value} {q : vw_C} (hm : (v, .inr (ci, fs)) ∈ RO) (hc : vwCl[ci]? = some q) : va_Any q.1 s H v := by
  obtain ⟨i, hi⟩ := List.getElem?_of_mem hm
  exact va_rAny X.2.1 (X.ro Z) hi hc (fun comp c0 h1 h2 => by rw [Option.some.inj (h1.symm.trans h2), Option.some.inj (h2.symm.trans (X.2.1.1 ci q hc).2.1)]; exact va_assign (X.2.1.1 ci q hc).2)
theorem x_rast (X : Cx p m c cc nL s args Ts own A D cy RO) (Z : St A D s RW H locs) (q0 t0 : Nat) (RW' : va_W) {C : String} {n v : Nat} {f f' : Nat → Option Nat} {i : Int32} (he : RW[q0]? = some (a, .inl (cy t0, n, .inr (.inr (.inr (.inr f)))))) (ht : (tyL cy)[t0]? = some (cy t0, .object C)) (hany : va_Any C s H v) (hin : ¬ (i < 0 ∨ n ≤ i.toNatClampNeg)) (hv : va_up f i.toNatClampNeg (some v) = f') (hw : RW.set q0 (a, .inl (cy t0, n, .inr (.inr (.inr (.inr f'))))) = RW') (hdg : decode cc pc = .ok (.aastore, 1))
    (kk : ∀ (H : Heap) (locs : List Loc), St A D s RW' H locs → W p l e R s m args below meth c H locs cells slots Q (F0 m (pc + 1) ls rest)) : W p l e R s m args below meth c H locs cells slots Q (F0 m pc ls (.ref v :: .int i :: .ref a :: rest)) := by
  subst hv
  subst hw
  exact va_astqM X.1.1 X.1.2.1 X.2.1 Z.1 Z.2.1 Z.2.2 q0 t0 he ht hany hin hdg (fun H1 l1 a1 a2 a3 => kk H1 l1 ⟨a1, a2, a3⟩)
theorem x_rastN (X : Cx p m c cc nL s args Ts own A D cy RO) (Z : St A D s RW H locs) (q0 t0 : Nat) (RW' : va_W) {C : String} {n : Nat} {f f' : Nat → Option Nat} {i : Int32} (he : RW[q0]? = some (a, .inl (cy t0, n, .inr (.inr (.inr (.inr f)))))) (ht : (tyL cy)[t0]? = some (cy t0, .object C)) (hin : ¬ (i < 0 ∨ n ≤ i.toNatClampNeg)) (hv : va_up f i.toNatClampNeg none = f') (hw : RW.set q0 (a, .inl (cy t0, n, .inr (.inr (.inr (.inr f'))))) = RW') (hdg : decode cc pc = .ok (.aastore, 1))
    (kk : ∀ (H : Heap) (locs : List Loc), St A D s RW' H locs → W p l e R s m args below meth c H locs cells slots Q (F0 m (pc + 1) ls rest)) : W p l e R s m args below meth c H locs cells slots Q (F0 m pc ls (.null :: .int i :: .ref a :: rest)) := by
  subst hv
  subst hw
  exact va_astqN X.1.1 X.1.2.1 X.2.1 Z.1 Z.2.1 Z.2.2 q0 t0 he ht hin hdg (fun H1 l1 a1 a2 a3 => kk H1 l1 ⟨a1, a2, a3⟩)
def Lc (Ts : List Cond) (own : String) (idx : Nat) : Prop := Cond.methodLink own idx arraycopyName ∈ Ts ∧ Cond.native arraycopyName ∈ Ts ∧ Cond.static arraycopyName ∈ Ts ∧ Cond.initialized "java/lang/System" ∈ Ts
theorem x_cpyI (X : Cx p m c cc nL s args Ts own A D cy RO) (Z : St A D s RW H locs) {lv : List (Nat × Value)} (hl : lv_has ls nL lv) (q0 q1 : Nat) (RW' : va_W) {idx a0 n0 n1 : Nat} {f g f' : Nat → Int32} {sp dp n : Int32} (L : Lc Ts own idx) (he0 : RW[q0]? = some (a0, .inl (cy 0, n0, .inl f))) (he1 : RW[q1]? = some (a, .inl (cy 0, n1, .inl g)))
    (hc : ¬ sp < 0 ∧ ¬ dp < 0 ∧ ¬ n < 0 ∧ sp.toNatClampNeg + n.toNatClampNeg ≤ n0 ∧ dp.toNatClampNeg + n.toNatClampNeg ≤ n1) (hv : va_cpy f g sp.toNatClampNeg dp.toNatClampNeg n.toNatClampNeg = f') (hw : RW.set q1 (a, .inl (cy 0, n1, .inl f')) = RW') (hframes : 1 ≤ R.frames) (hlocals : (rest.map fun v => v.category).sum + 18 ≤ R.locals) (hdg : decode cc pc = .ok (.invokestatic idx, 3))
    (kk : ∀ (H : Heap) (locs : List Loc), St A D s RW' H locs → W p l e R s m args below meth c H locs cells slots Q (F0 m (pc + 3) ls rest)) : W p l e R s m args below meth c H locs cells slots Q (F0 m pc ls (.int n :: .int dp :: .ref a :: .int sp :: .ref a0 :: rest)) := by
  subst hv
  subst hw
  exact va_copyi X.1.1 X.1.2.1 (X.1.2.2.1.trans hl.1.symm) X.1.2.2.2.1 (X.1.2.2.2.2 _ L.1) (X.1.2.2.2.2 _ L.2.1) (X.1.2.2.2.2 _ L.2.2.1) (X.1.2.2.2.2 _ L.2.2.2) X.2.1 Z.1 Z.2.1 Z.2.2 q0 q1 0 0 he0 he1 rfl rfl rfl hc.1 hc.2.1 hc.2.2.1 hc.2.2.2.1 hc.2.2.2.2 (fun _ _ => rfl) hframes hlocals hdg (fun H1 l1 a1 a2 a3 => kk H1 l1 ⟨a1, a2, a3⟩)
theorem x_cpyJ (X : Cx p m c cc nL s args Ts own A D cy RO) (Z : St A D s RW H locs) {lv : List (Nat × Value)} (hl : lv_has ls nL lv) (q0 q1 : Nat) (RW' : va_W) {idx a0 n0 n1 : Nat} {f g f' : Nat → Int64} {sp dp n : Int32} (L : Lc Ts own idx) (he0 : RW[q0]? = some (a0, .inl (cy 1, n0, .inr (.inl f)))) (he1 : RW[q1]? = some (a, .inl (cy 1, n1, .inr (.inl g))))
    (hc : ¬ sp < 0 ∧ ¬ dp < 0 ∧ ¬ n < 0 ∧ sp.toNatClampNeg + n.toNatClampNeg ≤ n0 ∧ dp.toNatClampNeg + n.toNatClampNeg ≤ n1) (hv : va_cpy f g sp.toNatClampNeg dp.toNatClampNeg n.toNatClampNeg = f') (hw : RW.set q1 (a, .inl (cy 1, n1, .inr (.inl f'))) = RW') (hframes : 1 ≤ R.frames) (hlocals : (rest.map fun v => v.category).sum + 18 ≤ R.locals) (hdg : decode cc pc = .ok (.invokestatic idx, 3))
    (kk : ∀ (H : Heap) (locs : List Loc), St A D s RW' H locs → W p l e R s m args below meth c H locs cells slots Q (F0 m (pc + 3) ls rest)) : W p l e R s m args below meth c H locs cells slots Q (F0 m pc ls (.int n :: .int dp :: .ref a :: .int sp :: .ref a0 :: rest)) := by
  subst hv
  subst hw
  exact va_copyl X.1.1 X.1.2.1 (X.1.2.2.1.trans hl.1.symm) X.1.2.2.2.1 (X.1.2.2.2.2 _ L.1) (X.1.2.2.2.2 _ L.2.1) (X.1.2.2.2.2 _ L.2.2.1) (X.1.2.2.2.2 _ L.2.2.2) X.2.1 Z.1 Z.2.1 Z.2.2 q0 q1 1 1 he0 he1 rfl rfl rfl hc.1 hc.2.1 hc.2.2.1 hc.2.2.2.1 hc.2.2.2.2 (fun _ _ => rfl) hframes hlocals hdg (fun H1 l1 a1 a2 a3 => kk H1 l1 ⟨a1, a2, a3⟩)
theorem x_cpyR (X : Cx p m c cc nL s args Ts own A D cy RO) (Z : St A D s RW H locs) {lv : List (Nat × Value)} (hl : lv_has ls nL lv) (q0 q1 t0 ci : Nat) (RW' : va_W) {q : vw_C} {idx a0 n0 n1 : Nat} {f g f' : Nat → Option Nat} {sp dp n : Int32} (L : Lc Ts own idx) (hci : vwCl[ci]? = some q) (he0 : RW[q0]? = some (a0, .inl (cy t0, n0, .inr (.inr (.inr (.inr f)))))) (he1 : RW[q1]? = some (a, .inl (cy t0, n1, .inr (.inr (.inr (.inr g)))))) (ht : (tyL cy)[t0]? = some (cy t0, .object q.1))
    (hc : ¬ sp < 0 ∧ ¬ dp < 0 ∧ ¬ n < 0 ∧ sp.toNatClampNeg + n.toNatClampNeg ≤ n0 ∧ dp.toNatClampNeg + n.toNatClampNeg ≤ n1) (hel : ∀ i, i < n.toNatClampNeg → ∀ y, f (sp.toNatClampNeg + i) = some y → ∃ fs : List Value, (y, .inr (ci, fs)) ∈ RO) (hv : va_cpy f g sp.toNatClampNeg dp.toNatClampNeg n.toNatClampNeg = f') (hw : RW.set q1 (a, .inl (cy t0, n1, .inr (.inr (.inr (.inr f'))))) = RW') (hframes : 1 ≤ R.frames) (hlocals : (rest.map fun v => v.category).sum + 18 ≤ R.locals) (hdg : decode cc pc = .ok (.invokestatic idx, 3))
    (kk : ∀ (H : Heap) (locs : List Loc), St A D s RW' H locs → W p l e R s m args below meth c H locs cells slots Q (F0 m (pc + 3) ls rest)) : W p l e R s m args below meth c H locs cells slots Q (F0 m pc ls (.int n :: .int dp :: .ref a :: .int sp :: .ref a0 :: rest)) := by
  subst hv
  subst hw
  exact va_copyq (C := q.1) X.1.1 X.1.2.1 (X.1.2.2.1.trans hl.1.symm) X.1.2.2.2.1 (X.1.2.2.2.2 _ L.1) (X.1.2.2.2.2 _ L.2.1) (X.1.2.2.2.2 _ L.2.2.1) (X.1.2.2.2.2 _ L.2.2.2) X.2.1 Z.1 Z.2.1 Z.2.2 q0 q1 t0 t0 he0 he1 ht ht hc.1 hc.2.1 hc.2.2.1 hc.2.2.2.1 hc.2.2.2.2
    (fun i hi y hy => by obtain ⟨fs, hm⟩ := hel i hi y hy; exact x_rvM X Z hm hci) (fun comp c0 h1 h2 => by rw [Option.some.inj (h1.symm.trans h2), Option.some.inj (h2.symm.trans (X.2.1.1 ci q hci).2.1)]; exact va_assign (X.2.1.1 ci q hci).2) hframes hlocals hdg (fun H1 l1 a1 a2 a3 => kk H1 l1 ⟨a1, a2, a3⟩)
end XR3
theorem tp_ok {cy : Nat → ClassId} {PT : va_W} {tq : Nat → Option TV} (hT : TP cy PT tq) {y : Nat} (h : (tq y).isSome = true) : ∃ fs : List Value, (y, .inr (7, fs)) ∈ PT := by
  cases hq : tq y with
  | none => rw [hq] at h; cases h
  | some v => exact ⟨_, (hT y v hq).1⟩
/-- a method that answers a reference (never null) and makes nothing -/
def CtR (l : Launch) (y : MethodName) (ws : List Cond) (rm : Room) (D : va_G) (cy : Nat → ClassId) (av : List Value) (RW RO RW' : va_W) (r0 : Nat) : Prop := ∀ sz, Met l y ws rm (va_Pc av (Pre D cy RW RO sz)) (va_Qr (fun (_ : Unit) => True) (fun _ a t => a = r0 ∧ Pos D cy RW RW' sz t) (va_A RW sz)) rm.cells rm.slots (va_A RW sz)
theorem x_runVr {p : Program} {l : Launch} {e : Env} {R : Room} {s : State} {m : MethodId} {args : Array Value} {below : List Frame} {meth : Method} {c : Code} {H : Heap} {locs : List Loc} {cells slots : Nat} {Q : State → Prop} {cc : ByteArray} {nL : Nat} {Ts : List Cond} {own : String} {A : Nat → Prop} {D : va_G} {cy : Nat → ClassId} {RO RW : va_W} {pc : Nat} {ls : Array Slot} {rest : List Value} {y : MethodName} {bytes : ByteArray} {maxL n : Nat} {ret : Option FieldType} {ws ws' : List Cond} {rm : Room} {idx b : Nat} {As : List Value} {RWc ROc wr RWc' RW' : va_W} {isC isR isF : List Nat} {st0 : List Value} {r0 : Nat} (X : Cx p m c cc nL s args Ts own A D cy RO) (Z : St A D s RW H locs) (M : CtR l y ws rm D cy (.ref b :: As) RWc ROc RWc' r0) (hG : GoodIn Ts (wsV own idx y.cls y ws)) (hw : ws = Cond.code y bytes maxL ret :: ws') (hd : y.cls = y.cls ∧ y.cls ≠ "java/lang/invoke/MethodHandle" ∧ y.cls ≠ "java/lang/invoke/VarHandle" ∧ (parseMethodDescriptor y.desc).map (fun d => d.parameters.length) = some n) (hR : rm.frames + 1 ≤ R.frames ∧ 8 + (maxL + 11) + rm.locals ≤ R.locals) (h0 : rm.cells = 0 ∧ rm.slots = 0) (hf : cells ≤ R.cells ∧ slots ≤ R.slots)
    (hv : ∃ cell : Cell, H[b]? = some cell ∧ cell.vm.isStatics = false ∧ s.vm.findClass y.cls = some cell.cls) (C : Cut RW RO RWc ROc wr isC isR) (hF : isF.map (fun i => (wr ++ RWc')[i]?) = RW'.map some ∧ va_nd isF = true) (hn : As.length = n) (hsz : ls.size = nL) (hst : st0 = As.reverse ++ .ref b :: rest) (hro : (rest.map fun v => v.category).sum ≤ 8) (hdg : decode cc pc = .ok (.invokevirtual idx, 3))
    (kk : ∀ (H : Heap) (locs : List Loc), St A D s RW' H locs → W p l e R s m args below meth c H locs cells slots Q (F0 m (pc + 3) ls (.ref r0 :: rest))) : W p l e R s m args below meth c H locs cells slots Q (F0 m pc ls st0) := by
  have hFc := va_free (wc := RWc) Z.2.1 Z.2.2 X.2.2.1 isC C.1
  refine va_callr (va_runV (As := As) (rest := rest) X.1 (M H.size) (cwV n X.1.2.2.2.2 hG hw rfl rfl hd hR) ⟨pre_blind, hv, fun U hU hW => ⟨rfl, pre_of X Z C U hU hW⟩⟩ rfl hn hsz hst (lv_room hro) hdg (by rw [h0.1, h0.2]; exact hf)) Z.2.2 (fun q _ h => hFc q h) hFc (fun u ra t H1 l1 ht hvm hw1 hB hz1 hk1 hS => ?_)
  subst ht
  rw [h0.1, h0.2, hB.1]
  exact kk _ _ (zback_of X Z C hF.1 hF.2 hk1 hB.2.1 hB.2.2.2 hS)
theorem mk_r {l : Launch} {y : MethodName} {ws ws' : List Cond} {rm : Room} {D : va_G} {cy : Nat → ClassId} {av : List Value} {RW RO RW' : va_W} {cc : ByteArray} {maxL : Nat} {r0 : Nat} {C : String} (hy : plainName y.cls = true) (hw : ws = Cond.code y cc maxL (some (.object C)) :: ws') (hlen : (lg_sl av).length ≤ maxL)
    (body : ∀ (p : Program) (e : Env) (s : State) (m : MethodId) (args : Array Value) (below : List Frame) (meth : Method) (c : Code) (A : Nat → Prop) (Q : State → Prop), Cx p m c cc maxL s args ws y.cls A D cy RO →
      (∀ (H : Heap) (locs : List Loc) (ls : Array Slot) (pc : Nat), decode cc pc = .ok (.areturn, 1) → St A D s RW' H locs → W p l e rm s m args below meth c H locs rm.cells rm.slots Q (F0 m pc ls [.ref r0])) →
      ∀ (H : Heap) (locs : List Loc) (ls : Array Slot), St A D s RW H locs → lv_has ls maxL (lv_args 0 av) → W p l e rm s m args below meth c H locs 0 0 Q (F0 m 0 ls [])) : CtR l y ws rm D cy av RW RO RW' r0 := by
  intro sz
  refine Met.ofW (cc := cc) (maxL := maxL) (ret := some (.object C)) hy hw ?_
  intro p e s m args below meth c s₁ B hml hv
  obtain ⟨rfl, hpre⟩ := hv
  have hlocks := B.notSynchronized
  obtain ⟨X, Z⟩ := mk_pre (cc := cc) (nL := maxL) (Ts := ws) (own := y.cls) (args := av.toArray) ⟨B.exec, B.bytes, hml, findClass_of_methodNamed B.named, atoms_spec (ws := ws) B.pre⟩ hpre
  have hl := lv_entry av (n := maxL) hlen
  rw [lg_entry_eq]
  refine body p e s m av.toArray below meth c (va_A RW sz) _ X (fun H locs ls pc hd Z1 => ?_) s.heap [] _ Z hl
  exact W.aret (v := .ref r0) B.exec B.bytes B.returns (Or.inl ⟨_, rfl⟩) (Or.inr ⟨_, rfl⟩) (fun t ht hW => ⟨⟨(), r0, rfl, trivial, rfl, by rw [ht]; exact Z1.1, va_K.moved hW.alike X.2.1, Z1.2.1⟩, Z1.2.2.F ht⟩) Z1.2.2.2.2 hd
theorem tbl_out3 {x : Int32} (h0 : ¬ x = (0 : Int32)) (h1 : ¬ x = (1 : Int32)) (h2 : ¬ x = (2 : Int32)) : x.toInt < 0 ∨ 2 < x.toInt := by
  have e0 : x.toInt ≠ 0 := fun q => h0 (Int32.toInt_inj.mp (by rw [q]; decide))
  have e1 : x.toInt ≠ 1 := fun q => h1 (Int32.toInt_inj.mp (by rw [q]; decide))
  have e2 : x.toInt ≠ 2 := fun q => h2 (Int32.toInt_inj.mp (by rw [q]; decide))
  omega
