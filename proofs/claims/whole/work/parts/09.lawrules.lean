set_option linter.unusedVariables false
/-! the law's world: cells by numbers (wl), then the pool -/
def wl (n : Nat) (ad : Nat → Nat) (E : Nat → va_E) : va_W := (List.range n).map (fun k => (ad k, E k))
def upds (E : Nat → va_E) (L : List (Nat × va_E)) : Nat → va_E := L.foldl (fun F q => va_up F q.1 q.2) E
theorem wl_get {n : Nat} {ad : Nat → Nat} {E : Nat → va_E} {k : Nat} (h : k < n) : (wl n ad E)[k]? = some (ad k, E k) := by
  simp [wl, h]
theorem wl_len {n : Nat} {ad : Nat → Nat} {E : Nat → va_E} : (wl n ad E).length = n := by simp [wl]
theorem wl_inv {n : Nat} {ad : Nat → Nat} {E : Nat → va_E} {k : Nat} {q : Nat × va_E} (h : (wl n ad E)[k]? = some q) : k < n ∧ q = (ad k, E k) := by
  have hk : k < n := by
    have := (List.getElem?_eq_some_iff.mp h).1
    rw [wl_len] at this
    exact this
  rw [wl_get hk] at h
  exact ⟨hk, (Option.some.inj h).symm⟩
theorem upds_ne {L : List (Nat × va_E)} : ∀ {E : Nat → va_E} {k : Nat}, k ∉ L.map (fun q => q.1) → upds E L k = E k := by
  induction L with
  | nil => intro E k _; rfl
  | cons q L ih =>
    intro E k h
    have h1 : k ≠ q.1 := fun e => h (by simp [e])
    have h2 : k ∉ L.map (fun q => q.1) := fun e => h (by simp only [List.map_cons, List.mem_cons]; exact Or.inr e)
    show upds (va_up E q.1 q.2) L k = E k
    rw [ih h2, va_up_ne _ _ h1]
theorem upds_eq {L : List (Nat × va_E)} : ∀ {E : Nat → va_E}, (L.map (fun q => q.1)).Nodup → ∀ q ∈ L, upds E L q.1 = q.2 := by
  induction L with
  | nil => intro E _ q h; cases h
  | cons q0 L ih =>
    intro E hn q hq
    have hn' := List.nodup_cons.mp (show (q0.1 :: L.map (fun q => q.1)).Nodup from hn)
    rcases List.mem_cons.mp hq with e | e
    · subst e
      show upds (va_up E q.1 q.2) L q.1 = q.2
      rw [upds_ne hn'.1, va_up_self]
    · exact ih hn'.2 q e
section LAW
variable {p : Program} {l : Launch} {e : Env} {R : Room} {s : State} {m : MethodId} {args : Array Value} {below : List Frame} {meth : Method} {c : Code} {H : Heap} {locs : List Loc} {cells slots : Nat} {Q : State → Prop} {cc : ByteArray} {nL : Nat} {Ts : List Cond} {own : String} {A : Nat → Prop} {D : va_G} {cy : Nat → ClassId} {RO PT : va_W} {pc : Nat} {ls : Array Slot} {rest : List Value} {n : Nat} {ad : Nat → Nat} {E : Nat → va_E} {L : List (Nat × va_E)} {RWc ROc RWc' NC : va_W}
theorem lw_at (Z : St A D s (wl n ad E ++ PT) H locs) {k : Nat} (hk : k < n) : va_at D vwCl (ad k, E k) H := Z.1 k _ (by rw [List.getElem?_append_left (by rw [wl_len]; exact hk)]; exact wl_get hk)
theorem lw_pt (Z : St A D s (wl n ad E ++ PT) H locs) {q : Nat × va_E} (hq : q ∈ PT) : va_at D vwCl q H := by
  obtain ⟨j, hj⟩ := List.getElem?_of_mem hq
  exact Z.1 (n + j) _ (by rw [List.getElem?_append_right (by rw [wl_len]; omega), wl_len, Nat.add_sub_cancel_left]; exact hj)
theorem lw_inj (Z : St A D s (wl n ad E ++ PT) H locs) {k k' : Nat} (hk : k < n) (hk' : k' < n) (h : ad k = ad k') : k = k' :=
  Z.2.1.1 k k' _ _ (by rw [List.getElem?_append_left (by rw [wl_len]; exact hk)]; exact wl_get hk) (by rw [List.getElem?_append_left (by rw [wl_len]; exact hk')]; exact wl_get hk') h
theorem lw_apt (Z : St A D s (wl n ad E ++ PT) H locs) {k : Nat} (hk : k < n) {q : Nat × va_E} (hq : q ∈ PT) : q.1 ≠ ad k := by
  obtain ⟨j, hj⟩ := List.getElem?_of_mem hq
  intro h
  have := Z.2.1.1 (n + j) k q _ (by rw [List.getElem?_append_right (by rw [wl_len]; omega), wl_len, Nat.add_sub_cancel_left]; exact hj) (by rw [List.getElem?_append_left (by rw [wl_len]; exact hk)]; exact wl_get hk) h
  omega
theorem law_pre (X : Cx p m c cc nL s args Ts own A D cy RO) (Z : St A D s (wl n ad E ++ PT) H locs) (hnd : (L.map (fun q => q.1)).Nodup) (hlt : ∀ q ∈ L, q.1 < n) (hC : RWc = L.map (fun q => (ad q.1, E q.1))) (hO : ∀ q ∈ ROc, (∃ k, k < n ∧ k ∉ L.map (fun q => q.1) ∧ q = (ad k, E k)) ∨ q ∈ PT) : ∀ U : State, U.heap = H → s.WarmedH U.vm → Pre D cy RWc ROc H.size U := by
  intro U hU hW
  subst hC
  refine ⟨by rw [hU], ?_, va_K.moved hW.alike X.2.1, ⟨?_, fun _ _ _ => trivial⟩, ?_, ?_, X.2.2.2.2.2.moved hW⟩
  · rw [hU]
    intro i q hq
    obtain ⟨q0, h0, rfl⟩ := List.mem_map.mp (List.mem_of_getElem? hq)
    exact lw_at Z (hlt q0 h0)
  · intro i j p' q hi hj heq
    rw [List.getElem?_map] at hi hj
    cases hi' : L[i]? with
    | none => rw [hi'] at hi; cases hi
    | some a1 =>
      cases hj' : L[j]? with
      | none => rw [hj'] at hj; cases hj
      | some a2 =>
        rw [hi'] at hi
        rw [hj'] at hj
        have e1 := Option.some.inj hi
        have e2 := Option.some.inj hj
        subst e1
        subst e2
        have hk : a1.1 = a2.1 := lw_inj Z (hlt _ (List.mem_of_getElem? hi')) (hlt _ (List.mem_of_getElem? hj')) heq
        have hli : i < (L.map (fun q => q.1)).length := by rw [List.length_map]; exact (List.getElem?_eq_some_iff.mp hi').1
        refine (List.getElem?_inj hli hnd).mp ?_
        rw [List.getElem?_map, List.getElem?_map, hi', hj']
        exact congrArg some hk
  · rw [hU]
    intro i q hq
    rcases hO q (List.mem_of_getElem? hq) with ⟨k, hk, -, rfl⟩ | h
    · exact lw_at Z hk
    · exact lw_pt Z h
  · intro i j p' q hi hj
    obtain ⟨q0, h0, rfl⟩ := List.mem_map.mp (List.mem_of_getElem? hj)
    rcases hO p' (List.mem_of_getElem? hi) with ⟨k, hk, hn, rfl⟩ | h
    · intro heq
      exact hn (List.mem_map.mpr ⟨q0, h0, (lw_inj Z hk (hlt q0 h0) heq).symm⟩)
    · exact lw_apt Z (hlt q0 h0) h
theorem law_free (X : Cx p m c cc nL s args Ts own A D cy RO) (Z : St A D s (wl n ad E ++ PT) H locs) (hlt : ∀ q ∈ L, q.1 < n) (hC : RWc = L.map (fun q => (ad q.1, E q.1))) : ∀ q, va_A RWc H.size q → A q := by
  intro q hq
  rcases hq with ⟨k, e, hk⟩ | hq
  · subst hC
    obtain ⟨q0, h0, h1⟩ := List.mem_map.mp (List.mem_of_getElem? hk)
    have := Z.2.1.2 q0.1 _ (by rw [List.getElem?_append_left (by rw [wl_len]; exact hlt q0 h0)]; exact wl_get (hlt q0 h0))
    rw [← (Prod.mk.inj h1).1]
    exact this
  · exact X.2.2.1 q (Nat.le_trans Z.2.2.1 hq)
theorem law_back (X : Cx p m c cc nL s args Ts own A D cy RO) (Z : St A D s (wl n ad E ++ PT) H locs) (hnd : (L.map (fun q => q.1)).Nodup) (hlt : ∀ q ∈ L, q.1 < n) (hC : RWc = L.map (fun q => (ad q.1, E q.1))) (hC' : RWc' = L.map (fun q => (ad q.1, q.2)) ++ NC) {H1 : Heap} {locs1 : List Loc}
    (hk1 : ∀ q : Nat, q < H.size → ¬ va_A RWc H.size q → H1[q]? = H[q]?) (hP1 : va_P D vwCl RWc' H1) (hD1 : va_D (va_A RWc H.size) RWc') (hS : va_S A s.heap H1 locs1) : St A D s (wl n ad (upds E L) ++ (PT ++ NC)) H1 locs1 := by
  have hF := law_free X Z hlt hC
  subst hC
  subst hC'
  have hout : ∀ a : Nat, a < H.size → (∀ q ∈ L, a ≠ ad q.1) → ¬ va_A (L.map (fun q => (ad q.1, E q.1))) H.size a := by
    intro a ha hne hq
    rcases hq with ⟨k, e, hk⟩ | hq
    · obtain ⟨q0, h0, h1⟩ := List.mem_map.mp (List.mem_of_getElem? hk)
      exact hne q0 h0 (Prod.mk.inj h1).1.symm
    · omega
  -- where an element of the new world stands
  have hel : ∀ (i : Nat) (q : Nat × va_E), (wl n ad (upds E L) ++ (PT ++ NC))[i]? = some q → (i < n ∧ q = (ad i, upds E L i)) ∨ (∃ j, i = n + j ∧ PT[j]? = some q) ∨ ∃ j, i = n + PT.length + j ∧ NC[j]? = some q := by
    intro i q h
    by_cases hi : i < n
    · rw [List.getElem?_append_left (by rw [wl_len]; exact hi)] at h
      exact Or.inl ⟨hi, (wl_inv h).2⟩
    · rw [List.getElem?_append_right (by rw [wl_len]; omega), wl_len] at h
      by_cases hj : i - n < PT.length
      · rw [List.getElem?_append_left hj] at h
        exact Or.inr (Or.inl ⟨i - n, by omega, h⟩)
      · rw [List.getElem?_append_right (by omega)] at h
        exact Or.inr (Or.inr ⟨i - n - PT.length, by omega, h⟩)
  have hnew : ∀ {j : Nat} {q : Nat × va_E}, NC[j]? = some q → (L.map (fun q => (ad q.1, q.2)) ++ NC)[L.length + j]? = some q := fun {j q} h => by
    rw [List.getElem?_append_right (by rw [List.length_map]; omega), List.length_map, Nat.add_sub_cancel_left]
    exact h
  -- an old address isn't a new cell's
  have hold : ∀ {a j : Nat} {q : Nat × va_E}, a < H.size → (∀ q0 ∈ L, a ≠ ad q0.1) → NC[j]? = some q → q.1 ≠ a := by
    intro a j q ha hne hj heq
    rcases hD1.2 _ q (hnew hj) with ⟨k, e, hk⟩ | h
    · obtain ⟨q0, h0, h1⟩ := List.mem_map.mp (List.mem_of_getElem? hk)
      exact hne q0 h0 (heq ▸ (Prod.mk.inj h1).1.symm)
    · omega
  have hinL : ∀ {j : Nat} {q q0 : Nat × va_E}, q0 ∈ L → NC[j]? = some q → q.1 ≠ ad q0.1 := by
    intro j q q0 h0 hj heq
    obtain ⟨i0, hi0⟩ := List.getElem?_of_mem h0
    have hlt0 := (List.getElem?_eq_some_iff.mp hi0).1
    have h1 : (L.map (fun q => (ad q.1, q.2)) ++ NC)[i0]? = some (ad q0.1, q0.2) := by
      rw [List.getElem?_append_left (by rw [List.length_map]; exact hlt0), List.getElem?_map, hi0]
      rfl
    have := hD1.1 _ _ _ _ (hnew hj) h1 heq
    omega
  have hPTne : ∀ {q : Nat × va_E}, q ∈ PT → ∀ q0 ∈ L, q.1 ≠ ad q0.1 := fun hq q0 h0 => lw_apt Z (hlt q0 h0) hq
  refine ⟨?_, ⟨?_, ?_⟩, hS⟩
  · intro i q h
    rcases hel i q h with ⟨hi, rfl⟩ | ⟨j, -, hj⟩ | ⟨j, -, hj⟩
    · by_cases hm : i ∈ L.map (fun q => q.1)
      · obtain ⟨q0, h0, rfl⟩ := List.mem_map.mp hm
        rw [upds_eq hnd q0 h0]
        obtain ⟨i0, hi0⟩ := List.getElem?_of_mem h0
        exact hP1 i0 _ (by rw [List.getElem?_append_left (by rw [List.length_map]; exact (List.getElem?_eq_some_iff.mp hi0).1), List.getElem?_map, hi0]; rfl)
      · rw [upds_ne hm]
        exact (lw_at Z hi).kept (hk1 _ (lw_at Z hi).lt (hout _ (lw_at Z hi).lt (fun q0 h0 e => hm (List.mem_map.mpr ⟨q0, h0, (lw_inj Z hi (hlt q0 h0) e).symm⟩))))
    · have hq := List.mem_of_getElem? hj
      exact (lw_pt Z hq).kept (hk1 _ (lw_pt Z hq).lt (hout _ (lw_pt Z hq).lt (hPTne hq)))
    · exact hP1 _ q (hnew hj)
  · intro i j p' q hi hj heq
    have old : ∀ (i : Nat) (q : Nat × va_E), ((i < n ∧ q = (ad i, upds E L i)) ∨ (∃ j, i = n + j ∧ PT[j]? = some q)) → ∃ e', (wl n ad E ++ PT)[i]? = some (q.1, e') := by
      intro i q h
      rcases h with ⟨h1, rfl⟩ | ⟨j, rfl, hj⟩
      · exact ⟨E i, by rw [List.getElem?_append_left (by rw [wl_len]; exact h1)]; exact wl_get h1⟩
      · exact ⟨q.2, by rw [List.getElem?_append_right (by rw [wl_len]; omega), wl_len, Nat.add_sub_cancel_left]; exact hj⟩
    have ap : ∀ (i : Nat) (q : Nat × va_E), ((i < n ∧ q = (ad i, upds E L i)) ∨ (∃ j, i = n + j ∧ PT[j]? = some q)) → ∀ {j : Nat} {q' : Nat × va_E}, NC[j]? = some q' → q'.1 ≠ q.1 := by
      intro i q h j q' hj'
      rcases h with ⟨h1, rfl⟩ | ⟨j0, rfl, hj0⟩
      · by_cases hm : i ∈ L.map (fun q => q.1)
        · obtain ⟨q0, h0, rfl⟩ := List.mem_map.mp hm
          exact hinL h0 hj'
        · exact hold (lw_at Z h1).lt (fun q0 h0 e => hm (List.mem_map.mpr ⟨q0, h0, (lw_inj Z h1 (hlt q0 h0) e).symm⟩)) hj'
      · have hq := List.mem_of_getElem? hj0
        exact hold (lw_pt Z hq).lt (hPTne hq) hj'
    have asm : ∀ {a b c : Prop}, a ∨ b ∨ c → (a ∨ b) ∨ c := fun h => h.elim (fun x => Or.inl (Or.inl x)) (fun h => h.elim (fun x => Or.inl (Or.inr x)) Or.inr)
    rcases asm (hel i p' hi) with h1 | ⟨j1, rfl, g1⟩
    · rcases asm (hel j q hj) with h2 | ⟨j2, rfl, g2⟩
      · obtain ⟨e1, w1⟩ := old i p' h1
        obtain ⟨e2, w2⟩ := old j q h2
        exact Z.2.1.1 i j _ _ w1 w2 heq
      · exact absurd heq.symm (ap i p' h1 g2)
    · rcases asm (hel j q hj) with h2 | ⟨j2, rfl, g2⟩
      · exact absurd heq (ap j q h2 g1)
      · have := hD1.1 _ _ _ _ (hnew g1) (hnew g2) heq
        omega
  · intro i q h
    rcases hel i q h with ⟨hi, rfl⟩ | ⟨j, -, hj⟩ | ⟨j, -, hj⟩
    · exact Z.2.1.2 i (ad i, E i) (by rw [List.getElem?_append_left (by rw [wl_len]; exact hi)]; exact wl_get hi)
    · exact Z.2.1.2 (n + j) q (by rw [List.getElem?_append_right (by rw [wl_len]; omega), wl_len, Nat.add_sub_cancel_left]; exact hj)
    · exact hF _ (hD1.2 _ q (hnew hj))
section LC
variable {y : MethodName} {bytes : ByteArray} {maxL k0 : Nat} {ret : Option FieldType} {ws ws' : List Cond} {rm : Room} {idx b : Nat} {As : List Value} {st0 : List Value}
/-- what a call of the law needs of the callee's lists -/
def LCut (n : Nat) (ad : Nat → Nat) (E : Nat → va_E) (PT : va_W) (L : List (Nat × va_E)) (RWc ROc : va_W) : Prop := (L.map (fun q => q.1)).Nodup ∧ (∀ q ∈ L, q.1 < n) ∧ RWc = L.map (fun q => (ad q.1, E q.1)) ∧ ∀ q ∈ ROc, (∃ k, k < n ∧ k ∉ L.map (fun q => q.1) ∧ q = (ad k, E k)) ∨ q ∈ PT
theorem x_lawI {r0 : Int32} (X : Cx p m c cc nL s args Ts own A D cy RO) (Z : St A D s (wl n ad E ++ PT) H locs) (L : List (Nat × va_E)) (M : CtI l y ws rm D cy (.ref b :: As) RWc ROc RWc' r0) (hG : GoodIn Ts (wsV own idx y.cls y ws)) (hw : ws = Cond.code y bytes maxL ret :: ws') (hd : y.cls = y.cls ∧ y.cls ≠ "java/lang/invoke/MethodHandle" ∧ y.cls ≠ "java/lang/invoke/VarHandle" ∧ (parseMethodDescriptor y.desc).map (fun d => d.parameters.length) = some k0) (hR : rm.frames + 1 ≤ R.frames ∧ 8 + (maxL + 11) + rm.locals ≤ R.locals) (h0 : rm.cells = 0 ∧ rm.slots = 0) (hf : cells ≤ R.cells ∧ slots ≤ R.slots)
    (hv : ∃ cell : Cell, H[b]? = some cell ∧ cell.vm.isStatics = false ∧ s.vm.findClass y.cls = some cell.cls) (C : LCut n ad E PT L RWc ROc) (hC' : RWc' = L.map (fun q => (ad q.1, q.2))) (hn : As.length = k0) (hsz : ls.size = nL) (hst : st0 = As.reverse ++ .ref b :: rest) (hro : (rest.map fun v => v.category).sum ≤ 8) (hdg : decode cc pc = .ok (.invokevirtual idx, 3))
    (kk : ∀ (H : Heap) (locs : List Loc), St A D s (wl n ad (upds E L) ++ PT) H locs → W p l e R s m args below meth c H locs cells slots Q (F0 m (pc + 3) ls (.int r0 :: rest))) : W p l e R s m args below meth c H locs cells slots Q (F0 m pc ls st0) := by
  obtain ⟨c1, c2, c3, c4⟩ := C
  have hFc := law_free X Z c2 c3
  refine va_calli (va_runV (As := As) (rest := rest) X.1 (M H.size) (cwV k0 X.1.2.2.2.2 hG hw rfl rfl hd hR) ⟨pre_blind, hv, fun U hU hW => ⟨rfl, law_pre X Z c1 c2 c3 c4 U hU hW⟩⟩ rfl hn hsz hst (lv_room hro) hdg (by rw [h0.1, h0.2]; exact hf)) Z.2.2 (fun q _ h => hFc q h) hFc (fun r u t H1 l1 ht hvm hw1 hB hz1 hk1 hS => ?_)
  subst ht
  rw [h0.1, h0.2, hw1]
  have := law_back (NC := []) X Z c1 c2 c3 (by rw [List.append_nil]; exact hC') hk1 hB.1 hB.2.2 hS
  rw [List.append_nil] at this
  exact kk _ _ this
theorem x_lawL {r0 : Int64} (X : Cx p m c cc nL s args Ts own A D cy RO) (Z : St A D s (wl n ad E ++ PT) H locs) (L : List (Nat × va_E)) (M : CtL l y ws rm D cy (.ref b :: As) RWc ROc RWc' r0) (hG : GoodIn Ts (wsV own idx y.cls y ws)) (hw : ws = Cond.code y bytes maxL ret :: ws') (hd : y.cls = y.cls ∧ y.cls ≠ "java/lang/invoke/MethodHandle" ∧ y.cls ≠ "java/lang/invoke/VarHandle" ∧ (parseMethodDescriptor y.desc).map (fun d => d.parameters.length) = some k0) (hR : rm.frames + 1 ≤ R.frames ∧ 8 + (maxL + 11) + rm.locals ≤ R.locals) (h0 : rm.cells = 0 ∧ rm.slots = 0) (hf : cells ≤ R.cells ∧ slots ≤ R.slots)
    (hv : ∃ cell : Cell, H[b]? = some cell ∧ cell.vm.isStatics = false ∧ s.vm.findClass y.cls = some cell.cls) (C : LCut n ad E PT L RWc ROc) (hC' : RWc' = L.map (fun q => (ad q.1, q.2))) (hn : As.length = k0) (hsz : ls.size = nL) (hst : st0 = As.reverse ++ .ref b :: rest) (hro : (rest.map fun v => v.category).sum ≤ 8) (hdg : decode cc pc = .ok (.invokevirtual idx, 3))
    (kk : ∀ (H : Heap) (locs : List Loc), St A D s (wl n ad (upds E L) ++ PT) H locs → W p l e R s m args below meth c H locs cells slots Q (F0 m (pc + 3) ls (.long r0 :: rest))) : W p l e R s m args below meth c H locs cells slots Q (F0 m pc ls st0) := by
  obtain ⟨c1, c2, c3, c4⟩ := C
  have hFc := law_free X Z c2 c3
  refine va_calll (va_runV (As := As) (rest := rest) X.1 (M H.size) (cwV k0 X.1.2.2.2.2 hG hw rfl rfl hd hR) ⟨pre_blind, hv, fun U hU hW => ⟨rfl, law_pre X Z c1 c2 c3 c4 U hU hW⟩⟩ rfl hn hsz hst (lv_room hro) hdg (by rw [h0.1, h0.2]; exact hf)) Z.2.2 (fun q _ h => hFc q h) hFc (fun r u t H1 l1 ht hvm hw1 hB hz1 hk1 hS => ?_)
  subst ht
  rw [h0.1, h0.2, hw1]
  have := law_back (NC := []) X Z c1 c2 c3 (by rw [List.append_nil]; exact hC') hk1 hB.1 hB.2.2 hS
  rw [List.append_nil] at this
  exact kk _ _ this
theorem x_lawE {r0 : Int32} {RWe : (Nat → Nat) → va_W} (X : Cx p m c cc nL s args Ts own A D cy RO) (Z : St A D s (wl n ad E ++ PT) H locs) (L0 : List (Nat × va_E)) (Lu : (Nat → Nat) → List (Nat × va_E)) (NCu : (Nat → Nat) → va_W) (M : CtIE l y ws rm D cy (.ref b :: As) RWc ROc RWe r0) (hG : GoodIn Ts (wsV own idx y.cls y ws)) (hw : ws = Cond.code y bytes maxL ret :: ws') (hd : y.cls = y.cls ∧ y.cls ≠ "java/lang/invoke/MethodHandle" ∧ y.cls ≠ "java/lang/invoke/VarHandle" ∧ (parseMethodDescriptor y.desc).map (fun d => d.parameters.length) = some k0) (hR : rm.frames + 1 ≤ R.frames ∧ 8 + (maxL + 11) + rm.locals ≤ R.locals) (hf : cells + rm.cells ≤ R.cells ∧ slots + rm.slots ≤ R.slots)
    (hv : ∃ cell : Cell, H[b]? = some cell ∧ cell.vm.isStatics = false ∧ s.vm.findClass y.cls = some cell.cls) (C : LCut n ad E PT L0 RWc ROc) (hLu : ∀ u, (Lu u).map (fun q => q.1) = L0.map (fun q => q.1)) (hC' : ∀ u, RWe u = (Lu u).map (fun q => (ad q.1, q.2)) ++ NCu u) (hn : As.length = k0) (hsz : ls.size = nL) (hst : st0 = As.reverse ++ .ref b :: rest) (hro : (rest.map fun v => v.category).sum ≤ 8) (hdg : decode cc pc = .ok (.invokevirtual idx, 3))
    (kk : ∀ (u : Nat → Nat) (H : Heap) (locs : List Loc), St A D s (wl n ad (upds E (Lu u)) ++ (PT ++ NCu u)) H locs → W p l e R s m args below meth c H locs (cells + rm.cells) (slots + rm.slots) Q (F0 m (pc + 3) ls (.int r0 :: rest))) : W p l e R s m args below meth c H locs cells slots Q (F0 m pc ls st0) := by
  obtain ⟨c1, c2, c3, c4⟩ := C
  have hFc := law_free X Z c2 c3
  refine va_calli (va_runV (As := As) (rest := rest) X.1 (M H.size) (cwV k0 X.1.2.2.2.2 hG hw rfl rfl hd hR) ⟨pre_blind, hv, fun U hU hW => ⟨rfl, law_pre X Z c1 c2 c3 c4 U hU hW⟩⟩ rfl hn hsz hst (lv_room hro) hdg hf) Z.2.2 (fun q _ h => hFc q h) hFc (fun r u t H1 l1 ht hvm hw1 hB hz1 hk1 hS => ?_)
  subst ht
  rw [hw1]
  have hm : ∀ f : Nat → Nat × va_E, (Lu u).map (fun q => f q.1) = L0.map (fun q => f q.1) := fun f => by
    have := congrArg (List.map f) (hLu u)
    rw [List.map_map, List.map_map] at this
    exact this
  refine kk u _ _ (law_back (L := Lu u) (NC := NCu u) X Z (by rw [hLu u]; exact c1) ?_ (by rw [c3]; exact (hm (fun k => (ad k, E k))).symm) (hC' u) hk1 hB.1 hB.2.2 hS)
  intro q hq
  have : q.1 ∈ L0.map (fun q => q.1) := by rw [← hLu u]; exact List.mem_map.mpr ⟨q, hq, rfl⟩
  obtain ⟨q0, h0, e0⟩ := List.mem_map.mp this
  rw [← e0]
  exact c2 q0 h0
end LC
end LAW
