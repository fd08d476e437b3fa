/-! Rows over a world of two lists: RW (cells that a method may write, apart) and RO (cells that it only reads, outside what it may write). -/
abbrev tyL (cy : Nat → ClassId) : List (ClassId × FieldType) := [(cy 0, .int), (cy 1, .long), (cy 2, .object RX2), (cy 3, .object RX6), (cy 4, .object RX8), (cy 5, .object RX9)]
abbrev aI (cy : Nat → ClassId) (n : Nat) (f : Nat → Int32) : va_E := .inl (cy 0, n, .inl f)
abbrev aJ (cy : Nat → ClassId) (n : Nat) (f : Nat → Int64) : va_E := .inl (cy 1, n, .inr (.inl f))
abbrev aR (cy : Nat → ClassId) (k n : Nat) (f : Nat → Option Nat) : va_E := .inl (cy k, n, .inr (.inr (.inr (.inr f))))
abbrev ob (ci : Nat) (fs : List Value) : va_E := .inr (ci, fs)
def apt (RO RW : va_W) : Prop := ∀ (i j : Nat) (p q : Nat × va_E), RO[i]? = some p → RW[j]? = some q → p.1 ≠ q.1
/-- words of nest mates and of array classes, which the methods' own word lists leave out -/
def nwM : List (String × Nat × MethodName × String) := [(RX5, 23, yX1_init, RX11), (RX5, 34, yX9_init, RX11), (RX11, 39, yX9_init, RX11), (RX11, 46, yX10_init, RX11), (RX11, 53, yX0_init, RX11), (RX0, 11, yX1_init, RX11), (RX11, 60, yX4_init, RX11), (RX11, 73, yX6_init, RX11), (RX11, 219, yX3_init, RX11)]
def nwA : List String := [RX2, RX6, RX8, RX9]
def NW (U : State) : Prop := (∀ q ∈ nwM, va_Nw (.methodLinkNest q.1 q.2.1 q.2.2.1 q.2.2.2) U) ∧ ∀ C ∈ nwA, va_AO C U
theorem NW.moved {s U : State} (hW : s.WarmedH U.vm) (h : NW s) : NW U := ⟨fun q hq => va_Nw.warmM hW (h.1 q hq), fun C hC => va_AO.moved hW.alike (h.2 C hC)⟩
theorem NW.same {s U : State} (hv : s.vm = U.vm) (h : NW s) : NW U := ⟨fun q hq => va_Nw.same rfl hv (h.1 q hq), fun C hC => va_AO.moved (hv ▸ Vm.Alike.refl s.vm) (h.2 C hC)⟩
def Pre (D : va_G) (cy : Nat → ClassId) (RW RO : va_W) (sz : Nat) (U : State) : Prop := U.heap.size = sz ∧ va_P D vwCl RW U.heap ∧ va_K D vwCl (tyL cy) U ∧ va_D (fun _ => True) RW ∧ va_P D vwCl RO U.heap ∧ apt RO RW ∧ NW U
def Pos (D : va_G) (cy : Nat → ClassId) (RW RW' : va_W) (sz : Nat) (t : State) : Prop := va_P D vwCl RW' t.heap ∧ va_K D vwCl (tyL cy) t ∧ va_D (va_A RW sz) RW'
def Cx (p : Program) (m : MethodId) (c : Code) (cc : ByteArray) (nL : Nat) (s : State) (args : Array Value) (Ts : List Cond) (own : String) (A : Nat → Prop) (D : va_G) (cy : Nat → ClassId) (RO : va_W) : Prop :=
  CallFix p m c cc nL s args Ts own ∧ va_K D vwCl (tyL cy) s ∧ (∀ q, s.heap.size ≤ q → A q) ∧ va_P D vwCl RO s.heap ∧ (∀ (k : Nat) (q : Nat × va_E), RO[k]? = some q → ¬ A q.1) ∧ NW s
def St (A : Nat → Prop) (D : va_G) (s : State) (RW : va_W) (H : Heap) (locs : List Loc) : Prop := va_P D vwCl RW H ∧ va_D A RW ∧ va_S A s.heap H locs
def Lk (Ts : List Cond) (own : String) (idx ci k : Nat) : Prop := ∃ (C : String) (T : u_T) (N : Nat), vwCl[ci]? = some (C, T, N) ∧ k < N ∧ (∀ w ∈ u_ws C T N, w ∈ Ts) ∧ Cond.fieldLink own idx (T k).1 (T k).2.1 (T k).2.2.1 ∈ Ts
def Lp (Ts : List Cond) (own : String) (idx ci k : Nat) (ty : FieldType) : Prop := ∃ (C : String) (T : u_T) (N : Nat) (ty0 : Nat → FieldType), vwCl[ci]? = some (C, T, N) ∧ k < N ∧ (∀ w ∈ u_ws C T N, w ∈ Ts) ∧ Cond.fieldLink own idx (T k).1 (T k).2.1 (T k).2.2.1 ∈ Ts ∧
  (∀ k, k < N → parseFieldDescriptor (T k).2.2.1 = some (ty0 k)) ∧ (∀ a, a < N → ∀ b, b < N → a ≠ b → (T a).2.1 ≠ (T b).2.1) ∧ (T k).2.2.2 = false ∧ parseFieldDescriptor (T k).2.2.1 = some ty
theorem mem_at {α : Type} {l : List α} {x : α} (i : Nat) (h : l[i]? = some x) : x ∈ l := List.mem_of_getElem? h
def CtI (l : Launch) (y : MethodName) (ws : List Cond) (rm : Room) (D : va_G) (cy : Nat → ClassId) (av : List Value) (RW RO RW' : va_W) (r0 : Int32) : Prop := ∀ sz, Met l y ws rm (va_Pc av (Pre D cy RW RO sz)) (va_Qi (fun r (_ : Unit) => r = r0) (fun _ t => Pos D cy RW RW' sz t) (va_A RW sz)) rm.cells rm.slots (va_A RW sz)
def CtL (l : Launch) (y : MethodName) (ws : List Cond) (rm : Room) (D : va_G) (cy : Nat → ClassId) (av : List Value) (RW RO RW' : va_W) (r0 : Int64) : Prop := ∀ sz, Met l y ws rm (va_Pc av (Pre D cy RW RO sz)) (va_Ql (fun r (_ : Unit) => r = r0) (fun _ t => Pos D cy RW RW' sz t) (va_A RW sz)) rm.cells rm.slots (va_A RW sz)
def CtV (l : Launch) (y : MethodName) (ws : List Cond) (rm : Room) (D : va_G) (cy : Nat → ClassId) (av : List Value) (RW RO RW' : va_W) : Prop := ∀ sz, Met l y ws rm (va_Pc av (Pre D cy RW RO sz)) (va_Qv (fun (_ : Unit) => True) (fun _ t => Pos D cy RW RW' sz t) (va_A RW sz)) rm.cells rm.slots (va_A RW sz)
/-! the functions that mirror the code -/
def ldA {α β : Type} (f : Nat → α) (n : Nat) (i : Int32) (k : α → Option β) : Option β := if i < 0 ∨ n ≤ i.toNatClampNeg then none else k (f i.toNatClampNeg)
def stA {α β : Type} (f : Nat → α) (n : Nat) (i : Int32) (x : α) (k : (Nat → α) → Option β) : Option β := if i < 0 ∨ n ≤ i.toNatClampNeg then none else k (va_up f i.toNatClampNeg x)
def dvI {β : Type} (x y : Int32) (k : Int32 → Option β) : Option β := if y = 0 then none else k (x / y)
def rmI {β : Type} (x y : Int32) (k : Int32 → Option β) : Option β := if y = 0 then none else k (x - x / y * y)
def dvL {β : Type} (x y : Int64) (k : Int64 → Option β) : Option β := if y = 0 then none else k (x / y)
def rmL {β : Type} (x y : Int64) (k : Int64 → Option β) : Option β := if y = 0 then none else k (x - x / y * y)
def bitZ {β : Type} (x : Int32) (k : Option β) : Option β := if x = 0 ∨ x = 1 then k else none
def loopN {V X : Type} (B : V → Option (V ⊕ X)) : Nat → V → Option X
  | 0, _ => none
  | n + 1, v => (B v).bind (Sum.elim (loopN B n) some)
def FU : Nat := 200000
theorem ld_b {α β : Type} {f : Nat → α} {n : Nat} {i : Int32} {k : α → Option β} {r : β} (h : ldA f n i k = some r) : ¬ (i < 0 ∨ n ≤ i.toNatClampNeg) ∧ ∃ v, f i.toNatClampNeg = v ∧ k v = some r := by
  unfold ldA at h
  split at h
  · cases h
  · rename_i q
    exact ⟨q, _, rfl, h⟩
theorem st_b {α β : Type} {f : Nat → α} {n : Nat} {i : Int32} {x : α} {k : (Nat → α) → Option β} {r : β} (h : stA f n i x k = some r) : ¬ (i < 0 ∨ n ≤ i.toNatClampNeg) ∧ ∃ v, va_up f i.toNatClampNeg x = v ∧ k v = some r := by
  unfold stA at h
  split at h
  · cases h
  · rename_i q
    exact ⟨q, _, rfl, h⟩
theorem dv_b {β : Type} {x y : Int32} {k : Int32 → Option β} {r : β} (h : dvI x y k = some r) : ¬ y = 0 ∧ ∃ v, x / y = v ∧ k v = some r := by
  unfold dvI at h
  split at h
  · cases h
  · rename_i q
    exact ⟨q, _, rfl, h⟩
theorem rm_b {β : Type} {x y : Int32} {k : Int32 → Option β} {r : β} (h : rmI x y k = some r) : ¬ y = 0 ∧ ∃ v, x - x / y * y = v ∧ k v = some r := by
  unfold rmI at h
  split at h
  · cases h
  · rename_i q
    exact ⟨q, _, rfl, h⟩
theorem dv_bL {β : Type} {x y : Int64} {k : Int64 → Option β} {r : β} (h : dvL x y k = some r) : ¬ y = 0 ∧ ∃ v, x / y = v ∧ k v = some r := by
  unfold dvL at h
  split at h
  · cases h
  · rename_i q
    exact ⟨q, _, rfl, h⟩
theorem rm_bL {β : Type} {x y : Int64} {k : Int64 → Option β} {r : β} (h : rmL x y k = some r) : ¬ y = 0 ∧ ∃ v, x - x / y * y = v ∧ k v = some r := by
  unfold rmL at h
  split at h
  · cases h
  · rename_i q
    exact ⟨q, _, rfl, h⟩
theorem bz_b {β : Type} {x : Int32} {k : Option β} {r : β} (h : bitZ x k = some r) : (x = 0 ∨ x = 1) ∧ k = some r := by
  unfold bitZ at h
  split at h
  · rename_i q
    exact ⟨q, h⟩
  · cases h
theorem ifp {α : Type} {c : Prop} [Decidable c] {a b r : α} (h : (if c then a else b) = r) (hc : c) : a = r := by rw [if_pos hc] at h; exact h
theorem ifn {α : Type} {c : Prop} [Decidable c] {a b r : α} (h : (if c then a else b) = r) (hc : ¬ c) : b = r := by rw [if_neg hc] at h; exact h
theorem ob_some {α β : Type} {x : Option α} {k : α → Option β} {r : β} (h : x.bind k = some r) : ∃ u, x = some u ∧ k u = some r := by
  cases x with
  | none => cases h
  | some u => exact ⟨u, rfl, h⟩
theorem se_l {α β γ : Type} {f : α → γ} {g : β → γ} {a : α} {r : γ} (h : Sum.elim f g (.inl a) = r) : f a = r := h
theorem se_r {α β γ : Type} {f : α → γ} {g : β → γ} {a : β} {r : γ} (h : Sum.elim f g (.inr a) = r) : g a = r := h
theorem sk_l {α β : Type} {f : α → Prop} {g : β → Prop} {a : α} (h : Sum.elim f g (.inl a)) : f a := h
theorem sk_r {α β : Type} {f : α → Prop} {g : β → Prop} {a : β} (h : Sum.elim f g (.inr a)) : g a := h
theorem loop_gen {V X : Type} {B : V → Option (V ⊕ X)} {Head : V → Prop} {Exit : X → Prop} (hb : ∀ v o, B v = some o → Sum.elim Head Exit o → Head v) : ∀ (n : Nat) (v : V) (x : X), loopN B n v = some x → Exit x → Head v := by
  intro n
  induction n with
  | zero => intro v x h; cases h
  | succ n ih =>
    intro v x h hx
    obtain ⟨o, h1, h2⟩ := ob_some (show (B v).bind (Sum.elim (loopN B n) some) = some x from h)
    refine hb v o h1 ?_
    cases o with
    | inl v' => exact ih v' x h2 hx
    | inr x' =>
      have h3 : x' = x := Option.some.inj h2
      subst h3
      exact hx
section XR
variable {p : Program} {l : Launch} {e : Env} {R : Room} {s : State} {m : MethodId} {args : Array Value} {below : List Frame} {meth : Method} {c : Code} {H : Heap} {locs : List Loc} {cells slots : Nat} {Q : State → Prop} {cc : ByteArray} {nL : Nat} {Ts : List Cond} {own : String} {A : Nat → Prop} {D : va_G} {cy : Nat → ClassId} {RO RW : va_W} {pc : Nat} {ls : Array Slot} {rest : List Value} {a : Nat}
theorem Cx.ro (X : Cx p m c cc nL s args Ts own A D cy RO) (Z : St A D s RW H locs) : va_P D vwCl RO H := fun k q hk => (X.2.2.2.1 k q hk).kept (Z.2.2.2.1 q.1 (X.2.2.2.1 k q hk).lt (X.2.2.2.2.1 k q hk))
theorem x_get (X : Cx p m c cc nL s args Ts own A D cy RO) (Z : St A D s RW H locs) (q0 k : Nat) {ci idx : Nat} {fs : List Value} {v : Value} (he : RW[q0]? = some (a, .inr (ci, fs))) (hv : fs[k]? = some v) (L : Lk Ts own idx ci k) (hdg : decode cc pc = .ok (.getfield idx, 3))
    (kk : W p l e R s m args below meth c H locs cells slots Q (F0 m (pc + 3) ls (v :: rest))) : W p l e R s m args below meth c H locs cells slots Q (F0 m pc ls (.ref a :: rest)) := by
  obtain ⟨C, T, N, h1, h2, h3, h4⟩ := L
  exact va_get X.1.1 X.1.2.1 X.1.2.2.2.2 h3 X.1.2.2.2.1 X.2.1 Z.1 q0 he h1 k h2 (X.1.2.2.2.2 _ h4) (fun _ h => h) hv hdg kk
theorem x_getO (X : Cx p m c cc nL s args Ts own A D cy RO) (Z : St A D s RW H locs) (q0 k : Nat) {ci idx : Nat} {fs : List Value} {v : Value} (he : RO[q0]? = some (a, .inr (ci, fs))) (hv : fs[k]? = some v) (L : Lk Ts own idx ci k) (hdg : decode cc pc = .ok (.getfield idx, 3))
    (kk : W p l e R s m args below meth c H locs cells slots Q (F0 m (pc + 3) ls (v :: rest))) : W p l e R s m args below meth c H locs cells slots Q (F0 m pc ls (.ref a :: rest)) := by
  obtain ⟨C, T, N, h1, h2, h3, h4⟩ := L
  exact va_get X.1.1 X.1.2.1 X.1.2.2.2.2 h3 X.1.2.2.2.1 X.2.1 (X.ro Z) q0 he h1 k h2 (X.1.2.2.2.2 _ h4) (fun _ h => h) hv hdg kk
theorem x_put (X : Cx p m c cc nL s args Ts own A D cy RO) (Z : St A D s RW H locs) (q0 k : Nat) (RW' : va_W) {ci idx : Nat} {fs : List Value} {x : Int32} (he : RW[q0]? = some (a, .inr (ci, fs))) (L : Lp Ts own idx ci k .int) (hl : k < fs.length) (hw : RW.set q0 (a, .inr (ci, fs.set k (.int x))) = RW') (hdg : decode cc pc = .ok (.putfield idx, 3))
    (kk : ∀ (H : Heap) (locs : List Loc), St A D s RW' H locs → W p l e R s m args below meth c H locs cells slots Q (F0 m (pc + 3) ls rest)) : W p l e R s m args below meth c H locs cells slots Q (F0 m pc ls (.int x :: .ref a :: rest)) := by
  obtain ⟨C, T, N, ty0, h1, h2, h3, h4, h5, h6, h7, h8⟩ := L
  subst hw
  exact va_put X.1.1 X.1.2.1 X.1.2.2.2.2 h3 ty0 h5 h6 X.1.2.2.2.1 X.2.1 Z.1 Z.2.1 Z.2.2 q0 he h1 k h2 (X.1.2.2.2.2 _ h4) (fun _ h => h) h7 h8 rfl rfl hl hdg (fun H1 l1 a1 a2 a3 => kk H1 l1 ⟨a1, a2, a3⟩)
theorem x_putZ (X : Cx p m c cc nL s args Ts own A D cy RO) (Z : St A D s RW H locs) (q0 k : Nat) (RW' : va_W) {ci idx : Nat} {fs : List Value} {x : Int32} (hz : x = 0 ∨ x = 1) (he : RW[q0]? = some (a, .inr (ci, fs))) (L : Lp Ts own idx ci k .boolean) (hl : k < fs.length) (hw : RW.set q0 (a, .inr (ci, fs.set k (.int x))) = RW') (hdg : decode cc pc = .ok (.putfield idx, 3))
    (kk : ∀ (H : Heap) (locs : List Loc), St A D s RW' H locs → W p l e R s m args below meth c H locs cells slots Q (F0 m (pc + 3) ls rest)) : W p l e R s m args below meth c H locs cells slots Q (F0 m pc ls (.int x :: .ref a :: rest)) := by
  obtain ⟨C, T, N, ty0, h1, h2, h3, h4, h5, h6, h7, h8⟩ := L
  subst hw
  have hn : narrow .boolean (.int x) = .int x := by rcases hz with h | h <;> subst h <;> rfl
  have hf : fits .boolean (.int x) = true := by rcases hz with h | h <;> subst h <;> rfl
  exact va_put X.1.1 X.1.2.1 X.1.2.2.2.2 h3 ty0 h5 h6 X.1.2.2.2.1 X.2.1 Z.1 Z.2.1 Z.2.2 q0 he h1 k h2 (X.1.2.2.2.2 _ h4) (fun _ h => h) h7 h8 hn hf hl hdg (fun H1 l1 a1 a2 a3 => kk H1 l1 ⟨a1, a2, a3⟩)
theorem x_iald (X : Cx p m c cc nL s args Ts own A D cy RO) (Z : St A D s RW H locs) (q0 : Nat) {n : Nat} {f : Nat → Int32} {i v : Int32} (he : RW[q0]? = some (a, .inl (cy 0, n, .inl f))) (hin : ¬ (i < 0 ∨ n ≤ i.toNatClampNeg)) (hv : f i.toNatClampNeg = v) (hdg : decode cc pc = .ok (.iaload, 1))
    (kk : W p l e R s m args below meth c H locs cells slots Q (F0 m (pc + 1) ls (.int v :: rest))) : W p l e R s m args below meth c H locs cells slots Q (F0 m pc ls (.int i :: .ref a :: rest)) := by
  subst hv
  exact va_iald X.1.1 X.1.2.1 X.2.1 Z.1 q0 0 he rfl hin hdg kk
theorem x_ialdO (X : Cx p m c cc nL s args Ts own A D cy RO) (Z : St A D s RW H locs) (q0 : Nat) {n : Nat} {f : Nat → Int32} {i v : Int32} (he : RO[q0]? = some (a, .inl (cy 0, n, .inl f))) (hin : ¬ (i < 0 ∨ n ≤ i.toNatClampNeg)) (hv : f i.toNatClampNeg = v) (hdg : decode cc pc = .ok (.iaload, 1))
    (kk : W p l e R s m args below meth c H locs cells slots Q (F0 m (pc + 1) ls (.int v :: rest))) : W p l e R s m args below meth c H locs cells slots Q (F0 m pc ls (.int i :: .ref a :: rest)) := by
  subst hv
  exact va_iald X.1.1 X.1.2.1 X.2.1 (X.ro Z) q0 0 he rfl hin hdg kk
theorem x_lald (X : Cx p m c cc nL s args Ts own A D cy RO) (Z : St A D s RW H locs) (q0 : Nat) {n : Nat} {f : Nat → Int64} {i : Int32} {v : Int64} (he : RW[q0]? = some (a, .inl (cy 1, n, .inr (.inl f)))) (hin : ¬ (i < 0 ∨ n ≤ i.toNatClampNeg)) (hv : f i.toNatClampNeg = v) (hdg : decode cc pc = .ok (.laload, 1))
    (kk : W p l e R s m args below meth c H locs cells slots Q (F0 m (pc + 1) ls (.long v :: rest))) : W p l e R s m args below meth c H locs cells slots Q (F0 m pc ls (.int i :: .ref a :: rest)) := by
  subst hv
  exact va_lald X.1.1 X.1.2.1 X.2.1 Z.1 q0 1 he rfl hin hdg kk
theorem x_laldO (X : Cx p m c cc nL s args Ts own A D cy RO) (Z : St A D s RW H locs) (q0 : Nat) {n : Nat} {f : Nat → Int64} {i : Int32} {v : Int64} (he : RO[q0]? = some (a, .inl (cy 1, n, .inr (.inl f)))) (hin : ¬ (i < 0 ∨ n ≤ i.toNatClampNeg)) (hv : f i.toNatClampNeg = v) (hdg : decode cc pc = .ok (.laload, 1))
    (kk : W p l e R s m args below meth c H locs cells slots Q (F0 m (pc + 1) ls (.long v :: rest))) : W p l e R s m args below meth c H locs cells slots Q (F0 m pc ls (.int i :: .ref a :: rest)) := by
  subst hv
  exact va_lald X.1.1 X.1.2.1 X.2.1 (X.ro Z) q0 1 he rfl hin hdg kk
theorem x_iast (X : Cx p m c cc nL s args Ts own A D cy RO) (Z : St A D s RW H locs) (q0 : Nat) (RW' : va_W) {n : Nat} {f f' : Nat → Int32} {i x : Int32} (he : RW[q0]? = some (a, .inl (cy 0, n, .inl f))) (hin : ¬ (i < 0 ∨ n ≤ i.toNatClampNeg)) (hv : va_up f i.toNatClampNeg x = f') (hw : RW.set q0 (a, .inl (cy 0, n, .inl f')) = RW') (hdg : decode cc pc = .ok (.iastore, 1))
    (kk : ∀ (H : Heap) (locs : List Loc), St A D s RW' H locs → W p l e R s m args below meth c H locs cells slots Q (F0 m (pc + 1) ls rest)) : W p l e R s m args below meth c H locs cells slots Q (F0 m pc ls (.int x :: .int i :: .ref a :: rest)) := by
  subst hv
  subst hw
  exact va_iast X.1.1 X.1.2.1 X.2.1 Z.1 Z.2.1 Z.2.2 q0 0 he rfl hin hdg (fun H1 l1 a1 a2 a3 => kk H1 l1 ⟨a1, a2, a3⟩)
theorem x_last (X : Cx p m c cc nL s args Ts own A D cy RO) (Z : St A D s RW H locs) (q0 : Nat) (RW' : va_W) {n : Nat} {f f' : Nat → Int64} {i : Int32} {x : Int64} (he : RW[q0]? = some (a, .inl (cy 1, n, .inr (.inl f)))) (hin : ¬ (i < 0 ∨ n ≤ i.toNatClampNeg)) (hv : va_up f i.toNatClampNeg x = f') (hw : RW.set q0 (a, .inl (cy 1, n, .inr (.inl f'))) = RW') (hdg : decode cc pc = .ok (.lastore, 1))
    (kk : ∀ (H : Heap) (locs : List Loc), St A D s RW' H locs → W p l e R s m args below meth c H locs cells slots Q (F0 m (pc + 1) ls rest)) : W p l e R s m args below meth c H locs cells slots Q (F0 m pc ls (.long x :: .int i :: .ref a :: rest)) := by
  subst hv
  subst hw
  exact va_last X.1.1 X.1.2.1 X.2.1 Z.1 Z.2.1 Z.2.2 q0 1 he rfl hin hdg (fun H1 l1 a1 a2 a3 => kk H1 l1 ⟨a1, a2, a3⟩)
theorem x_alenI (X : Cx p m c cc nL s args Ts own A D cy RO) (Z : St A D s RW H locs) (q0 : Nat) {n : Nat} {f : Nat → Int32} (he : RW[q0]? = some (a, .inl (cy 0, n, .inl f))) (hdg : decode cc pc = .ok (.arraylength, 1))
    (kk : W p l e R s m args below meth c H locs cells slots Q (F0 m (pc + 1) ls (.int (Int32.ofNat n) :: rest))) : W p l e R s m args below meth c H locs cells slots Q (F0 m pc ls (.ref a :: rest)) :=
  va_alen X.1.1 X.1.2.1 X.2.1 Z.1 q0 0 he (ty := .int) rfl rfl hdg kk
theorem x_alenJ (X : Cx p m c cc nL s args Ts own A D cy RO) (Z : St A D s RW H locs) (q0 : Nat) {n : Nat} {f : Nat → Int64} (he : RW[q0]? = some (a, .inl (cy 1, n, .inr (.inl f)))) (hdg : decode cc pc = .ok (.arraylength, 1))
    (kk : W p l e R s m args below meth c H locs cells slots Q (F0 m (pc + 1) ls (.int (Int32.ofNat n) :: rest))) : W p l e R s m args below meth c H locs cells slots Q (F0 m pc ls (.ref a :: rest)) :=
  va_alen X.1.1 X.1.2.1 X.2.1 Z.1 q0 1 he (ty := .long) rfl rfl hdg kk
/-! calls -/
theorem x_rv (X : Cx p m c cc nL s args Ts own A D cy RO) (Z : St A D s RW H locs) (q0 : Nat) {ci : Nat} {fs : List Value} {q : vw_C} (he : RW[q0]? = some (a, .inr (ci, fs))) (hc : vwCl[ci]? = some q) : ∃ cell : Cell, H[a]? = some cell ∧ cell.vm.isStatics = false ∧ s.vm.findClass q.1 = some cell.cls := va_recv X.2.1 Z.1 hc he
theorem x_rvO (X : Cx p m c cc nL s args Ts own A D cy RO) (Z : St A D s RW H locs) (q0 : Nat) {ci : Nat} {fs : List Value} {q : vw_C} (he : RO[q0]? = some (a, .inr (ci, fs))) (hc : vwCl[ci]? = some q) : ∃ cell : Cell, H[a]? = some cell ∧ cell.vm.isStatics = false ∧ s.vm.findClass q.1 = some cell.cls := va_recv X.2.1 (X.ro Z) hc he
theorem pl_of {ws wc : va_W} {is : List Nat} (h : is.map (fun i => ws[i]?) = wc.map some) {k : Nat} {q : Nat × va_E} (hk : wc[k]? = some q) : ∃ i, is[k]? = some i ∧ ws[i]? = some q := by
  have h1 : (is.map (fun i => ws[i]?))[k]? = some (some q) := by rw [h, List.getElem?_map, hk]; rfl
  rw [List.getElem?_map] at h1
  cases hi : is[k]? with
  | none => rw [hi] at h1; cases h1
  | some i =>
    rw [hi] at h1
    exact ⟨i, rfl, Option.some.inj h1⟩
theorem fm_of {ws wc : va_W} {is : List Nat} (h : is.map (fun i => ws[i]?) = wc.map some) : is.filterMap (fun i => ws[i]?) = wc := by
  have h1 : is.filterMap (fun i => ws[i]?) = (is.map (fun i => ws[i]?)).filterMap id := by rw [List.filterMap_map]; rfl
  rw [h1, h, List.filterMap_map]
  show wc.filterMap (fun x => some x) = wc
  exact List.filterMap_some
/-- how the callee's lists lie in the caller's -/
def Cut (RW RO RWc ROc wr : va_W) (isC isR : List Nat) : Prop := isC.map (fun i => RW[i]?) = RWc.map some ∧ isR.map (fun i => RW[i]?) = wr.map some ∧ (∀ q ∈ ROc, q ∈ wr ∨ q ∈ RO) ∧ va_nd isC = true ∧ va_nd isR = true ∧ ∀ i ∈ isR, i ∉ isC
theorem roN {wr RO : va_W} : ∀ q ∈ ([] : va_W), q ∈ wr ∨ q ∈ RO := fun _ h => absurd h List.not_mem_nil
theorem roC {wr RO qs : va_W} {q : Nat × va_E} (h : q ∈ wr ∨ q ∈ RO) (t : ∀ q ∈ qs, q ∈ wr ∨ q ∈ RO) : ∀ x ∈ q :: qs, x ∈ wr ∨ x ∈ RO := fun x hx => (List.mem_cons.mp hx).elim (fun e => e ▸ h) (t x)
theorem pre_of (X : Cx p m c cc nL s args Ts own A D cy RO) (Z : St A D s RW H locs) {RWc ROc wr : va_W} {isC isR : List Nat} (C : Cut RW RO RWc ROc wr isC isR) : ∀ U : State, U.heap = H → s.WarmedH U.vm → Pre D cy RWc ROc H.size U := by
  intro U hU hW
  obtain ⟨c1, c2, c3, c4, c5, c6⟩ := C
  refine ⟨by rw [hU], by rw [hU]; exact Z.1.sub isC (fm_of c1), va_K.moved hW.alike X.2.1, (Z.2.1.sub isC c4 c1).weaken (fun _ _ _ _ => trivial), ?_, ?_, X.2.2.2.2.2.moved hW⟩
  · rw [hU]
    intro k q hk
    rcases c3 q (List.mem_of_getElem? hk) with h | h
    · obtain ⟨i, hi⟩ := List.getElem?_of_mem h
      obtain ⟨j, -, hj⟩ := pl_of c2 hi
      exact Z.1 j q hj
    · obtain ⟨i, hi⟩ := List.getElem?_of_mem h
      exact X.ro Z i q hi
  · intro i j p' q hi hj
    obtain ⟨j', hj1, hj'⟩ := pl_of c1 hj
    rcases c3 p' (List.mem_of_getElem? hi) with h | h
    · obtain ⟨i', hi'⟩ := List.getElem?_of_mem h
      obtain ⟨k, hk1, hk⟩ := pl_of c2 hi'
      intro heq
      have := Z.2.1.1 k j' p' q hk hj' heq
      subst this
      exact c6 _ (List.mem_of_getElem? hk1) (List.mem_of_getElem? hj1)
    · obtain ⟨i', hi'⟩ := List.getElem?_of_mem h
      intro heq
      exact X.2.2.2.2.1 i' p' hi' (heq ▸ Z.2.1.2 j' q hj')
theorem zback_of (X : Cx p m c cc nL s args Ts own A D cy RO) (Z : St A D s RW H locs) {RWc ROc wr RWc' RW' : va_W} {isC isR isF : List Nat} (C : Cut RW RO RWc ROc wr isC isR) (hF : isF.map (fun i => (wr ++ RWc')[i]?) = RW'.map some) (hnF : va_nd isF = true) {H1 : Heap} {locs1 : List Loc}
    (hk1 : ∀ q : Nat, q < H.size → ¬ va_A RWc H.size q → H1[q]? = H[q]?) (hP1 : va_P D vwCl RWc' H1) (hD1 : va_D (va_A RWc H.size) RWc') (hS : va_S A s.heap H1 locs1) : St A D s RW' H1 locs1 := by
  obtain ⟨c1, c2, c3, c4, c5, c6⟩ := C
  have hFc := va_free (wc := RWc) Z.2.1 Z.2.2 X.2.2.1 isC c1
  obtain ⟨hP, hD⟩ := va_join (wr := wr) (w1 := RWc') Z.1 Z.2.1 isC isR c1 c2 c5 c6 hk1 hFc hP1 hD1
  exact ⟨hP.sub isF (fm_of hF), hD.sub isF hnF hF, hS⟩
theorem pre_blind {av : List Value} {RWc ROc : va_W} {sz : Nat} : FrameBlind (va_Pc av (Pre D cy RWc ROc sz)) := fun a U g mk q => by
  obtain ⟨q0, q1, q2, q3, q4, q5, q6, q7⟩ := q
  exact ⟨q0, q1, q2, va_K.moved (u := U) (U := U.calling g mk a) (Vm.Alike.refl U.vm) q3, q4, q5, q6, NW.same (s := U) (U := U.calling g mk a) rfl q7⟩
section calls
variable {y : MethodName} {bytes : ByteArray} {maxL n : Nat} {ret : Option FieldType} {ws ws' : List Cond} {rm : Room} {idx b : Nat} {As : List Value} {RWc ROc wr RWc' RW' : va_W} {isC isR isF : List Nat} {st0 : List Value}
theorem x_runVi {r0 : Int32} (X : Cx p m c cc nL s args Ts own A D cy RO) (Z : St A D s RW H locs) (M : CtI l y ws rm D cy (.ref b :: As) RWc ROc RWc' r0) (hG : GoodIn Ts (wsV own idx y.cls y ws)) (hw : ws = Cond.code y bytes maxL ret :: ws') (hd : y.cls = y.cls ∧ y.cls ≠ "java/lang/invoke/MethodHandle" ∧ y.cls ≠ "java/lang/invoke/VarHandle" ∧ (parseMethodDescriptor y.desc).map (fun d => d.parameters.length) = some n) (hR : rm.frames + 1 ≤ R.frames ∧ 8 + (maxL + 11) + rm.locals ≤ R.locals) (h0 : rm.cells = 0 ∧ rm.slots = 0) (hf : cells ≤ R.cells ∧ slots ≤ R.slots)
    (hv : ∃ cell : Cell, H[b]? = some cell ∧ cell.vm.isStatics = false ∧ s.vm.findClass y.cls = some cell.cls) (C : Cut RW RO RWc ROc wr isC isR) (hF : isF.map (fun i => (wr ++ RWc')[i]?) = RW'.map some ∧ va_nd isF = true) (hn : As.length = n) (hsz : ls.size = nL) (hst : st0 = As.reverse ++ .ref b :: rest) (hro : (rest.map fun v => v.category).sum ≤ 8) (hdg : decode cc pc = .ok (.invokevirtual idx, 3))
    (kk : ∀ (H : Heap) (locs : List Loc), St A D s RW' H locs → W p l e R s m args below meth c H locs cells slots Q (F0 m (pc + 3) ls (.int r0 :: rest))) : W p l e R s m args below meth c H locs cells slots Q (F0 m pc ls st0) := by
  have hFc := va_free (wc := RWc) Z.2.1 Z.2.2 X.2.2.1 isC C.1
  refine va_calli (va_runV (As := As) (rest := rest) X.1 (M H.size) (cwV n X.1.2.2.2.2 hG hw rfl rfl hd hR) ⟨pre_blind, hv, fun U hU hW => ⟨rfl, pre_of X Z C U hU hW⟩⟩ rfl hn hsz hst (lv_room hro) hdg (by rw [h0.1, h0.2]; exact hf)) Z.2.2 (fun q _ h => hFc q h) hFc (fun r u t H1 l1 ht hvm hw1 hB hz1 hk1 hS => ?_)
  subst ht
  rw [h0.1, h0.2, hw1]
  exact kk _ _ (zback_of X Z C hF.1 hF.2 hk1 hB.1 hB.2.2 hS)
theorem x_runVl {r0 : Int64} (X : Cx p m c cc nL s args Ts own A D cy RO) (Z : St A D s RW H locs) (M : CtL l y ws rm D cy (.ref b :: As) RWc ROc RWc' r0) (hG : GoodIn Ts (wsV own idx y.cls y ws)) (hw : ws = Cond.code y bytes maxL ret :: ws') (hd : y.cls = y.cls ∧ y.cls ≠ "java/lang/invoke/MethodHandle" ∧ y.cls ≠ "java/lang/invoke/VarHandle" ∧ (parseMethodDescriptor y.desc).map (fun d => d.parameters.length) = some n) (hR : rm.frames + 1 ≤ R.frames ∧ 8 + (maxL + 11) + rm.locals ≤ R.locals) (h0 : rm.cells = 0 ∧ rm.slots = 0) (hf : cells ≤ R.cells ∧ slots ≤ R.slots)
    (hv : ∃ cell : Cell, H[b]? = some cell ∧ cell.vm.isStatics = false ∧ s.vm.findClass y.cls = some cell.cls) (C : Cut RW RO RWc ROc wr isC isR) (hF : isF.map (fun i => (wr ++ RWc')[i]?) = RW'.map some ∧ va_nd isF = true) (hn : As.length = n) (hsz : ls.size = nL) (hst : st0 = As.reverse ++ .ref b :: rest) (hro : (rest.map fun v => v.category).sum ≤ 8) (hdg : decode cc pc = .ok (.invokevirtual idx, 3))
    (kk : ∀ (H : Heap) (locs : List Loc), St A D s RW' H locs → W p l e R s m args below meth c H locs cells slots Q (F0 m (pc + 3) ls (.long r0 :: rest))) : W p l e R s m args below meth c H locs cells slots Q (F0 m pc ls st0) := by
  have hFc := va_free (wc := RWc) Z.2.1 Z.2.2 X.2.2.1 isC C.1
  refine va_calll (va_runV (As := As) (rest := rest) X.1 (M H.size) (cwV n X.1.2.2.2.2 hG hw rfl rfl hd hR) ⟨pre_blind, hv, fun U hU hW => ⟨rfl, pre_of X Z C U hU hW⟩⟩ rfl hn hsz hst (lv_room hro) hdg (by rw [h0.1, h0.2]; exact hf)) Z.2.2 (fun q _ h => hFc q h) hFc (fun r u t H1 l1 ht hvm hw1 hB hz1 hk1 hS => ?_)
  subst ht
  rw [h0.1, h0.2, hw1]
  exact kk _ _ (zback_of X Z C hF.1 hF.2 hk1 hB.1 hB.2.2 hS)
theorem x_runVv (X : Cx p m c cc nL s args Ts own A D cy RO) (Z : St A D s RW H locs) (M : CtV l y ws rm D cy (.ref b :: As) RWc ROc RWc') (hG : GoodIn Ts (wsV own idx y.cls y ws)) (hw : ws = Cond.code y bytes maxL ret :: ws') (hd : y.cls = y.cls ∧ y.cls ≠ "java/lang/invoke/MethodHandle" ∧ y.cls ≠ "java/lang/invoke/VarHandle" ∧ (parseMethodDescriptor y.desc).map (fun d => d.parameters.length) = some n) (hR : rm.frames + 1 ≤ R.frames ∧ 8 + (maxL + 11) + rm.locals ≤ R.locals) (h0 : rm.cells = 0 ∧ rm.slots = 0) (hf : cells ≤ R.cells ∧ slots ≤ R.slots)
    (hv : ∃ cell : Cell, H[b]? = some cell ∧ cell.vm.isStatics = false ∧ s.vm.findClass y.cls = some cell.cls) (C : Cut RW RO RWc ROc wr isC isR) (hF : isF.map (fun i => (wr ++ RWc')[i]?) = RW'.map some ∧ va_nd isF = true) (hn : As.length = n) (hsz : ls.size = nL) (hst : st0 = As.reverse ++ .ref b :: rest) (hro : (rest.map fun v => v.category).sum ≤ 8) (hdg : decode cc pc = .ok (.invokevirtual idx, 3))
    (kk : ∀ (H : Heap) (locs : List Loc), St A D s RW' H locs → W p l e R s m args below meth c H locs cells slots Q (F0 m (pc + 3) ls rest)) : W p l e R s m args below meth c H locs cells slots Q (F0 m pc ls st0) := by
  have hFc := va_free (wc := RWc) Z.2.1 Z.2.2 X.2.2.1 isC C.1
  refine va_callv (va_runV (As := As) (rest := rest) X.1 (M H.size) (cwV n X.1.2.2.2.2 hG hw rfl rfl hd hR) ⟨pre_blind, hv, fun U hU hW => ⟨rfl, pre_of X Z C U hU hW⟩⟩ rfl hn hsz hst (lv_room hro) hdg (by rw [h0.1, h0.2]; exact hf)) Z.2.2 (fun q _ h => hFc q h) hFc (fun u t H1 l1 ht hvm hw1 hB hz1 hk1 hS => ?_)
  subst ht
  rw [h0.1, h0.2]
  exact kk _ _ (zback_of X Z C hF.1 hF.2 hk1 hB.1 hB.2.2 hS)
theorem x_runSi {r0 : Int32} (X : Cx p m c cc nL s args Ts own A D cy RO) (Z : St A D s RW H locs) (M : CtI l y ws rm D cy As RWc ROc RWc' r0) (hG : GoodIn Ts (va_wsS own idx y ws)) (hw : ws = Cond.code y bytes maxL ret :: ws') (hd : y.cls ≠ "java/lang/invoke/MethodHandle" ∧ y.cls ≠ "java/lang/invoke/VarHandle" ∧ (parseMethodDescriptor y.desc).map (fun d => d.parameters.length) = some n) (hR : rm.frames + 1 ≤ R.frames ∧ 8 + (maxL + 11) + rm.locals ≤ R.locals) (h0 : rm.cells = 0 ∧ rm.slots = 0) (hf : cells ≤ R.cells ∧ slots ≤ R.slots)
    (C : Cut RW RO RWc ROc wr isC isR) (hF : isF.map (fun i => (wr ++ RWc')[i]?) = RW'.map some ∧ va_nd isF = true) (hn : As.length = n) (hsz : ls.size = nL) (hst : st0 = As.reverse ++ rest) (hro : (rest.map fun v => v.category).sum ≤ 8) (hdg : decode cc pc = .ok (.invokestatic idx, 3))
    (kk : ∀ (H : Heap) (locs : List Loc), St A D s RW' H locs → W p l e R s m args below meth c H locs cells slots Q (F0 m (pc + 3) ls (.int r0 :: rest))) : W p l e R s m args below meth c H locs cells slots Q (F0 m pc ls st0) := by
  have hFc := va_free (wc := RWc) Z.2.1 Z.2.2 X.2.2.1 isC C.1
  refine va_calli (va_runS (As := As) (rest := rest) X.1 (M H.size) (va_cwS n X.1.2.2.2.2 hG hw rfl rfl hd hR) ⟨pre_blind, fun U hU hW => ⟨rfl, pre_of X Z C U hU hW⟩⟩ rfl hn hsz hst (lv_room hro) hdg (by rw [h0.1, h0.2]; exact hf)) Z.2.2 (fun q _ h => hFc q h) hFc (fun r u t H1 l1 ht hvm hw1 hB hz1 hk1 hS => ?_)
  subst ht
  rw [h0.1, h0.2, hw1]
  exact kk _ _ (zback_of X Z C hF.1 hF.2 hk1 hB.1 hB.2.2 hS)
theorem x_runSv (X : Cx p m c cc nL s args Ts own A D cy RO) (Z : St A D s RW H locs) (M : CtV l y ws rm D cy As RWc ROc RWc') (hG : GoodIn Ts (va_wsS own idx y ws)) (hw : ws = Cond.code y bytes maxL ret :: ws') (hd : y.cls ≠ "java/lang/invoke/MethodHandle" ∧ y.cls ≠ "java/lang/invoke/VarHandle" ∧ (parseMethodDescriptor y.desc).map (fun d => d.parameters.length) = some n) (hR : rm.frames + 1 ≤ R.frames ∧ 8 + (maxL + 11) + rm.locals ≤ R.locals) (h0 : rm.cells = 0 ∧ rm.slots = 0) (hf : cells ≤ R.cells ∧ slots ≤ R.slots)
    (C : Cut RW RO RWc ROc wr isC isR) (hF : isF.map (fun i => (wr ++ RWc')[i]?) = RW'.map some ∧ va_nd isF = true) (hn : As.length = n) (hsz : ls.size = nL) (hst : st0 = As.reverse ++ rest) (hro : (rest.map fun v => v.category).sum ≤ 8) (hdg : decode cc pc = .ok (.invokestatic idx, 3))
    (kk : ∀ (H : Heap) (locs : List Loc), St A D s RW' H locs → W p l e R s m args below meth c H locs cells slots Q (F0 m (pc + 3) ls rest)) : W p l e R s m args below meth c H locs cells slots Q (F0 m pc ls st0) := by
  have hFc := va_free (wc := RWc) Z.2.1 Z.2.2 X.2.2.1 isC C.1
  refine va_callv (va_runS (As := As) (rest := rest) X.1 (M H.size) (va_cwS n X.1.2.2.2.2 hG hw rfl rfl hd hR) ⟨pre_blind, fun U hU hW => ⟨rfl, pre_of X Z C U hU hW⟩⟩ rfl hn hsz hst (lv_room hro) hdg (by rw [h0.1, h0.2]; exact hf)) Z.2.2 (fun q _ h => hFc q h) hFc (fun u t H1 l1 ht hvm hw1 hB hz1 hk1 hS => ?_)
  subst ht
  rw [h0.1, h0.2]
  exact kk _ _ (zback_of X Z C hF.1 hF.2 hk1 hB.1 hB.2.2 hS)
end calls
end XR
/-! contracts out of walks -/
theorem mk_pre {D : va_G} {cy : Nat → ClassId} {RW RO : va_W} {sz : Nat} {s : State} {p : Program} {m : MethodId} {c : Code} {cc : ByteArray} {nL : Nat} {args : Array Value} {Ts : List Cond} {own : String} (F : CallFix p m c cc nL s args Ts own) (h : Pre D cy RW RO sz s) : Cx p m c cc nL s args Ts own (va_A RW sz) D cy RO ∧ St (va_A RW sz) D s RW s.heap [] := by
  obtain ⟨h1, h2, h3, h4, h5, h6, h7⟩ := h
  subst h1
  refine ⟨⟨F, h3, fun q hq => Or.inr hq, h5, ?_, h7⟩, h2, h4.self, va_S.rf⟩
  intro k q hk hA
  rcases hA with ⟨j, e, hj⟩ | hA
  · exact h6 k j q (q.1, e) hk hj rfl
  · exact absurd (h5 k q hk).lt (Nat.not_lt.mpr hA)
section MK
variable {l : Launch} {y : MethodName} {ws ws' : List Cond} {rm : Room} {D : va_G} {cy : Nat → ClassId} {av : List Value} {RW RO RW' : va_W} {cc : ByteArray} {maxL : Nat}
theorem mk_i {ty : FieldType} {r0 : Int32} (hy : plainName y.cls = true) (hw : ws = Cond.code y cc maxL (some ty) :: ws') (hn : narrow ty (.int r0) = .int r0) (hlen : (lg_sl av).length ≤ maxL)
    (body : ∀ (p : Program) (e : Env) (s : State) (m : MethodId) (args : Array Value) (below : List Frame) (meth : Method) (c : Code) (A : Nat → Prop) (Q : State → Prop), Cx p m c cc maxL s args ws y.cls A D cy RO →
      (∀ (H : Heap) (locs : List Loc) (ls : Array Slot) (pc : Nat), decode cc pc = .ok (.ireturn, 1) → St A D s RW' H locs → W p l e rm s m args below meth c H locs rm.cells rm.slots Q (F0 m pc ls [.int r0])) →
      ∀ (H : Heap) (locs : List Loc) (ls : Array Slot), St A D s RW H locs → lv_has ls maxL (lv_args 0 av) → W p l e rm s m args below meth c H locs 0 0 Q (F0 m 0 ls [])) : CtI l y ws rm D cy av RW RO RW' r0 := by
  intro sz
  refine Met.ofW (cc := cc) (maxL := maxL) (ret := some ty) hy hw ?_
  intro p e s m args below meth c s₁ B hml hv
  obtain ⟨rfl, hpre⟩ := hv
  have hlocks := B.notSynchronized
  obtain ⟨X, Z⟩ := mk_pre (cc := cc) (nL := maxL) (Ts := ws) (own := y.cls) (args := av.toArray) ⟨B.exec, B.bytes, hml, findClass_of_methodNamed B.named, atoms_spec (ws := ws) B.pre⟩ hpre
  have hl := lv_entry av (n := maxL) hlen
  rw [lg_entry_eq]
  refine body p e s m av.toArray below meth c (va_A RW sz) _ X (fun H locs ls pc hd Z1 => ?_) s.heap [] _ Z hl
  exact W.zret (v := r0) B.exec B.bytes B.returns hn (fun t ht hW => ⟨⟨r0, (), rfl, rfl, by rw [ht]; exact Z1.1, va_K.moved hW.alike X.2.1, Z1.2.1⟩, Z1.2.2.F ht⟩) Z1.2.2.2.2 hd
theorem mk_l {r0 : Int64} (hy : plainName y.cls = true) (hw : ws = Cond.code y cc maxL (some .long) :: ws') (hlen : (lg_sl av).length ≤ maxL)
    (body : ∀ (p : Program) (e : Env) (s : State) (m : MethodId) (args : Array Value) (below : List Frame) (meth : Method) (c : Code) (A : Nat → Prop) (Q : State → Prop), Cx p m c cc maxL s args ws y.cls A D cy RO →
      (∀ (H : Heap) (locs : List Loc) (ls : Array Slot) (pc : Nat), decode cc pc = .ok (.lreturn, 1) → St A D s RW' H locs → W p l e rm s m args below meth c H locs rm.cells rm.slots Q (F0 m pc ls [.long r0])) →
      ∀ (H : Heap) (locs : List Loc) (ls : Array Slot), St A D s RW H locs → lv_has ls maxL (lv_args 0 av) → W p l e rm s m args below meth c H locs 0 0 Q (F0 m 0 ls [])) : CtL l y ws rm D cy av RW RO RW' r0 := by
  intro sz
  refine Met.ofW (cc := cc) (maxL := maxL) (ret := some .long) hy hw ?_
  intro p e s m args below meth c s₁ B hml hv
  obtain ⟨rfl, hpre⟩ := hv
  have hlocks := B.notSynchronized
  obtain ⟨X, Z⟩ := mk_pre (cc := cc) (nL := maxL) (Ts := ws) (own := y.cls) (args := av.toArray) ⟨B.exec, B.bytes, hml, findClass_of_methodNamed B.named, atoms_spec (ws := ws) B.pre⟩ hpre
  have hl := lv_entry av (n := maxL) hlen
  rw [lg_entry_eq]
  refine body p e s m av.toArray below meth c (va_A RW sz) _ X (fun H locs ls pc hd Z1 => ?_) s.heap [] _ Z hl
  exact W.lret (v := r0) B.exec B.bytes B.returns (fun t ht hW => ⟨⟨r0, (), rfl, rfl, by rw [ht]; exact Z1.1, va_K.moved hW.alike X.2.1, Z1.2.1⟩, Z1.2.2.F ht⟩) Z1.2.2.2.2 hd
theorem mk_v (hy : plainName y.cls = true) (hw : ws = Cond.code y cc maxL none :: ws') (hlen : (lg_sl av).length ≤ maxL)
    (body : ∀ (p : Program) (e : Env) (s : State) (m : MethodId) (args : Array Value) (below : List Frame) (meth : Method) (c : Code) (A : Nat → Prop) (Q : State → Prop), Cx p m c cc maxL s args ws y.cls A D cy RO →
      (∀ (H : Heap) (locs : List Loc) (ls : Array Slot) (pc : Nat), decode cc pc = .ok (.return_, 1) → St A D s RW' H locs → W p l e rm s m args below meth c H locs rm.cells rm.slots Q (F0 m pc ls [])) →
      ∀ (H : Heap) (locs : List Loc) (ls : Array Slot), St A D s RW H locs → lv_has ls maxL (lv_args 0 av) → W p l e rm s m args below meth c H locs 0 0 Q (F0 m 0 ls [])) : CtV l y ws rm D cy av RW RO RW' := by
  intro sz
  refine Met.ofW (cc := cc) (maxL := maxL) (ret := none) hy hw ?_
  intro p e s m args below meth c s₁ B hml hv
  obtain ⟨rfl, hpre⟩ := hv
  have hlocks := B.notSynchronized
  obtain ⟨X, Z⟩ := mk_pre (cc := cc) (nL := maxL) (Ts := ws) (own := y.cls) (args := av.toArray) ⟨B.exec, B.bytes, hml, findClass_of_methodNamed B.named, atoms_spec (ws := ws) B.pre⟩ hpre
  have hl := lv_entry av (n := maxL) hlen
  rw [lg_entry_eq]
  refine body p e s m av.toArray below meth c (va_A RW sz) _ X (fun H locs ls pc hd Z1 => ?_) s.heap [] _ Z hl
  exact W.vret B.exec B.bytes B.returns (fun t ht hW => ⟨⟨(), rfl, trivial, by rw [ht]; exact Z1.1, va_K.moved hW.alike X.2.1, Z1.2.1⟩, Z1.2.2.F ht⟩) Z1.2.2.2.2 hd
end MK
