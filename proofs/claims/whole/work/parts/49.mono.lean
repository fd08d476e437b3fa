set_option linter.unusedVariables false
/-! a Monoid's cells, once made, get numbers -/
theorem va_nodup {W : va_W} (h : ∀ (i j : Nat) (p q : Nat × va_E), W[i]? = some p → W[j]? = some q → p.1 = q.1 → i = j) : (W.map (fun q => q.1)).Nodup := by
  rw [List.Nodup, List.pairwise_iff_getElem]
  intro i j hi hj hij heq
  rw [List.length_map] at hi hj
  rw [List.getElem_map, List.getElem_map] at heq
  have := h i j _ _ (List.getElem?_eq_getElem hi) (List.getElem?_eq_getElem hj) heq
  omega
theorem st_perm {A : Nat → Prop} {D : va_G} {s : State} {W W' : va_W} {H : Heap} {locs : List Loc} (hp : W.Perm W') (Z : St A D s W H locs) : St A D s W' H locs := by
  have hm : ∀ q, q ∈ W' → q ∈ W := fun q h => hp.mem_iff.mpr h
  have hn : (W'.map (fun q => q.1)).Nodup := (hp.map (fun q => q.1)).nodup_iff.mp (va_nodup Z.2.1.1)
  refine ⟨fun k q hk => ?_, ⟨fun i j p q hi hj heq => ?_, fun k q hk => ?_⟩, Z.2.2⟩
  · obtain ⟨i, hi⟩ := List.getElem?_of_mem (hm q (List.mem_of_getElem? hk))
    exact Z.1 i q hi
  · have hli : i < (W'.map (fun q => q.1)).length := by rw [List.length_map]; exact (List.getElem?_eq_some_iff.mp hi).1
    refine (List.getElem?_inj hli hn).mp ?_
    rw [List.getElem?_map, List.getElem?_map, hi, hj]
    exact congrArg some heq
  · obtain ⟨i, hi⟩ := List.getElem?_of_mem (hm q (List.mem_of_getElem? hk))
    exact Z.2.1.2 i q hi
def ad4 (n : Nat) (ad : Nat → Nat) (a : List Nat) : Nat → Nat := fun k => if k < n then ad k else a.getD (k - n) 0
def E4 (n : Nat) (E : Nat → va_E) (c : List va_E) : Nat → va_E := fun k => if k < n then E k else c.getD (k - n) (ob 0 [])
theorem wl_4 {n : Nat} {ad : Nat → Nat} {E : Nat → va_E} {a0 a1 a2 a3 : Nat} {e0 e1 e2 e3 : va_E} : wl (n + 4) (ad4 n ad [a0, a1, a2, a3]) (E4 n E [e0, e1, e2, e3]) = wl n ad E ++ [(a0, e0), (a1, e1), (a2, e2), (a3, e3)] := by
  have h0 : wl n (ad4 n ad [a0, a1, a2, a3]) (E4 n E [e0, e1, e2, e3]) = wl n ad E := by
    unfold wl
    apply List.map_congr_left
    intro k hk
    have := List.mem_range.mp hk
    simp [ad4, E4, this]
  have hs : ∀ (m : Nat) (f : Nat → Nat) (F : Nat → va_E), wl (m + 1) f F = wl m f F ++ [(f m, F m)] := fun m f F => by
    unfold wl
    rw [List.range_succ, List.map_append]
    rfl
  rw [show n + 4 = ((n + 1) + 1 + 1) + 1 from rfl, hs, hs, hs, hs, h0]
  have v : ∀ j, ¬ (n + j < n) := fun j => by omega
  have w : ∀ j, n + j - n = j := fun j => by omega
  have e : ∀ j, ad4 n ad [a0, a1, a2, a3] (n + j) = [a0, a1, a2, a3].getD j 0 ∧ E4 n E [e0, e1, e2, e3] (n + j) = [e0, e1, e2, e3].getD j (ob 0 []) := fun j => by
    unfold ad4 E4
    rw [if_neg (v j), if_neg (v j), w j]
    exact ⟨rfl, rfl⟩
  have x0 := e 0
  have x1 := e 1
  have x2 := e 2
  have x3 := e 3
  rw [show n + 1 + 1 + 1 = n + 3 from rfl, show n + 1 + 1 = n + 2 from rfl]
  rw [show n = n + 0 from rfl] at *
  simp only [List.append_assoc, List.cons_append, List.nil_append]
  rw [x0.1, x0.2, x1.1, x1.2, x2.1, x2.2, x3.1, x3.2]
  rfl
theorem st_mono {A : Nat → Prop} {D : va_G} {s : State} {H : Heap} {locs : List Loc} {PT : va_W} {n : Nat} {ad : Nat → Nat} {E : Nat → va_E} {a0 a1 a2 a3 : Nat} {e0 e1 e2 e3 : va_E} (Z : St A D s (wl n ad E ++ (PT ++ [(a0, e0), (a1, e1), (a2, e2), (a3, e3)])) H locs) : St A D s (wl (n + 4) (ad4 n ad [a0, a1, a2, a3]) (E4 n E [e0, e1, e2, e3]) ++ PT) H locs := by
  rw [wl_4]
  refine st_perm ?_ Z
  rw [List.append_assoc]
  exact List.Perm.append_left _ List.perm_append_comm
