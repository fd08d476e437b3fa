set_option linter.unusedVariables false

theorem arP {s : State} {args : Array Value} {ty : FieldType} (h : (Cond.arrayClass ty).before args s = true) : ∃ cA : ClassId, ArrOfT s cA ty ∧ s.vm.findClass ("[" ++ ty.toString) = some cA := by
  obtain ⟨cA, kA, comp, h1, h2, h3⟩ := Cond.arrayClass_spec h
  exact ⟨cA, fun n z => ⟨(fun k h => by cases h), kA, h2, comp, h3⟩, h1⟩
theorem arO {s : State} {C : String} (h : va_AO C s) : ∃ cA : ClassId, ArrOfT s cA (.object C) ∧ va_RA s cA (.object C) := by
  obtain ⟨comp, cA, kA, h1, h2, h3, h4, h5⟩ := Cond.arrayOver_spec h
  exact ⟨cA, fun N z => ⟨(fun k h => by cases h), kA, h3, comp, h4⟩, kA, comp, h3, h4, h1, h5⟩
set_option maxRecDepth 20000 in
theorem nw_start {s : State} {args : Array Value} (hts : ∀ w ∈ lw_tbl, w.before args s = true) : NW s := ⟨(fmC (va_Nw.of rfl (hts (.methodLinkNest RX5 23 yX1_init RX11) (mem_at 102 (by decide +kernel)))) (fmC (va_Nw.of rfl (hts (.methodLinkNest RX5 34 yX9_init RX11) (mem_at 122 (by decide +kernel)))) (fmC (va_Nw.of rfl (hts (.methodLinkNest RX11 39 yX9_init RX11) (mem_at 164 (by decide +kernel)))) (fmC (va_Nw.of rfl (hts (.methodLinkNest RX11 46 yX10_init RX11) (mem_at 167 (by decide +kernel)))) (fmC (va_Nw.of rfl (hts (.methodLinkNest RX11 53 yX0_init RX11) (mem_at 198 (by decide +kernel)))) (fmC (va_Nw.of rfl (hts (.methodLinkNest RX0 11 yX1_init RX11) (mem_at 203 (by decide +kernel)))) (fmC (va_Nw.of rfl (hts (.methodLinkNest RX11 60 yX4_init RX11) (mem_at 254 (by decide +kernel)))) (fmC (va_Nw.of rfl (hts (.methodLinkNest RX11 73 yX6_init RX11) (mem_at 301 (by decide +kernel)))) (fmC (va_Nw.of rfl (hts (.methodLinkNest RX11 219 yX3_init RX11) (mem_at 693 (by decide +kernel)))) fmN))))))))), (fmC (va_AO.of (hts (.arrayOver (.object RX2)) (mem_at 120 (by decide +kernel)))) (fmC (va_AO.of (hts (.arrayOver (.object RX6)) (mem_at 162 (by decide +kernel)))) (fmC (va_AO.of (hts (.arrayOver (.object RX8)) (mem_at 107 (by decide +kernel)))) (fmC (va_AO.of (hts (.arrayOver (.object RX9)) (mem_at 99 (by decide +kernel)))) fmN))))⟩
set_option maxHeartbeats 4000000 in
set_option maxRecDepth 100000 in
theorem cls_start {s : State} {args : Array Value} (hts : ∀ w ∈ lw_tbl, w.before args s = true) : ∃ (D : va_G) (cy : Nat → ClassId), va_K D vwCl (tyL cy) s ∧ NW s := by
  obtain ⟨c0, iS0, hKn0⟩ := u_known (C := RX0) (T := TX0) (N := 13) (n := 13) hts inX_X0 (hts (.instantiable RX0 13) (wsL_law_in _ wm_2_8))
  obtain ⟨c1, iS1, hKn1⟩ := u_known (C := RX1) (T := TX1) (N := 2) (n := 2) hts inX_X1 (hts (.instantiable RX1 2) (wsL_law_in _ wm_3_4))
  obtain ⟨c2, iS2, hKn2⟩ := u_known (C := RX2) (T := TX2) (N := 5) (n := 5) hts inX_X2 (hts (.instantiable RX2 5) (wsL_law_in _ wm_35_12))
  obtain ⟨c3, iS3, hKn3⟩ := u_known (C := RX3) (T := TX3) (N := 5) (n := 5) hts inX_X3 (hts (.instantiable RX3 5) (wsL_law_in _ wm_31_16))
  obtain ⟨c4, iS4, hKn4⟩ := u_known (C := RX4) (T := TX4) (N := 13) (n := 13) hts inX_X4 (hts (.instantiable RX4 13) (wsL_law_in _ wm_2_12))
  obtain ⟨c5, iS5, hKn5⟩ := u_known (C := RX5) (T := TX5) (N := 4) (n := 4) hts inX_X5 (hts (.instantiable RX5 4) (wsL_law_in _ wm_1_13))
  obtain ⟨c6, iS6, hKn6⟩ := u_known (C := RX6) (T := TX6) (N := 3) (n := 3) hts inX_X6 (hts (.instantiable RX6 3) (wsL_law_in _ wm_2_18))
  obtain ⟨c7, iS7, hKn7⟩ := u_known (C := RX8) (T := TX8) (N := 5) (n := 5) hts inX_X8 (hts (.instantiable RX8 5) (wsL_law_in _ wm_16_10))
  obtain ⟨c8, iS8, hKn8⟩ := u_known (C := RX9) (T := TX9) (N := 3) (n := 3) hts inX_X9 (hts (.instantiable RX9 3) (wsL_law_in _ wm_2_0))
  obtain ⟨c9, iS9, hKn9⟩ := u_known (C := RX10) (T := TX10) (N := 7) (n := 7) hts inX_X10 (hts (.instantiable RX10 7) (wsL_law_in _ wm_2_4))
  obtain ⟨c10, iS10, hKn10⟩ := u_known (C := RX11) (T := TX11) (N := 12) (n := 12) hts inX_X11 (hts (.instantiable RX11 12) (wsL_law_in _ wm_1_1))
  obtain ⟨c11, iS11, hKn11⟩ := u_known (C := RX12) (T := TX12) (N := 68) (n := 68) hts inX_X12 (hts (.instantiable RX12 68) (wsL_law_in _ wm_1_4))
  have hN := nw_start hts
  obtain ⟨y0, hy0, gy0⟩ := arP (hts (.arrayClass .int) (wsL_law_in _ wm_1_18))
  obtain ⟨y1, hy1, gy1⟩ := arP (hts (.arrayClass .long) (wsL_law_in _ wm_2_16))
  obtain ⟨y2, hy2, gy2⟩ := arO (hN.2 RX2 (mem_at 0 rfl))
  obtain ⟨y3, hy3, gy3⟩ := arO (hN.2 RX6 (mem_at 1 rfl))
  obtain ⟨y4, hy4, gy4⟩ := arO (hN.2 RX8 (mem_at 2 rfl))
  obtain ⟨y5, hy5, gy5⟩ := arO (hN.2 RX9 (mem_at 3 rfl))
  refine ⟨(fun k => ([c0, c1, c2, c3, c4, c5, c6, c7, c8, c9, c10, c11] : List ClassId).getD k c0, fun k => ([iS0, iS1, iS2, iS3, iS4, iS5, iS6, iS7, iS8, iS9, iS10, iS11] : List (Nat → Nat)).getD k iS0), fun k => ([y0, y1, y2, y3, y4, y5] : List ClassId).getD k y0, ⟨?_, ?_⟩, hN⟩
  · intro k q hq
    match k, hq with
    | 0, hq => cases hq; exact hKn0
    | 1, hq => cases hq; exact hKn1
    | 2, hq => cases hq; exact hKn2
    | 3, hq => cases hq; exact hKn3
    | 4, hq => cases hq; exact hKn4
    | 5, hq => cases hq; exact hKn5
    | 6, hq => cases hq; exact hKn6
    | 7, hq => cases hq; exact hKn7
    | 8, hq => cases hq; exact hKn8
    | 9, hq => cases hq; exact hKn9
    | 10, hq => cases hq; exact hKn10
    | 11, hq => cases hq; exact hKn11
    | k + 12, hq => simp [vwCl] at hq
  · intro k q hq
    match k, hq with
    | 0, hq => cases hq; exact ⟨hy0, gy0⟩
    | 1, hq => cases hq; exact ⟨hy1, gy1⟩
    | 2, hq => cases hq; exact ⟨hy2, gy2⟩
    | 3, hq => cases hq; exact ⟨hy3, gy3⟩
    | 4, hq => cases hq; exact ⟨hy4, gy4⟩
    | 5, hq => cases hq; exact ⟨hy5, gy5⟩
    | k + 6, hq => simp at hq
def H23 (REL : (Nat → ClassId) → RelT) : Prop := ∀ {p : Program} {l : Launch} {e : Env} {s : State} {m : MethodId} {below : List Frame} {meth : Method} {c : Code} {A : Nat → Prop} {Q : State → Prop} {D : va_G} {cy : Nat → ClassId} {b L : Nat} {xs : Nat → Int32}, Cx p m c cL_law 4 s #[.ref b] wsL_law RL A D cy [] → va_X b L xs s s.heap → b < s.heap.size → ¬ A b → L ≤ 3072 → ∀ (r it : Nat) (n : Nat) (ad : Nat → Nat) (E : Nat → va_E) (PT : va_W) (tq : Nat → Option TV) (lq : Nat → Bool) (cells slots : Nat), 123 ≤ n → TP cy PT tq → LQ PT lq → SH cy n ad E → REL cy n ad E PT tq lq → 6 * it + 6 ≤ L → L < 6 * it + 6 * (r + 1) + 6 → cells + 8 * (r + 1) ≤ 600000 → slots + 1000 * (r + 1) + sl n ≤ 7302250 → (∀ (n : Nat) (ad : Nat → Nat) (E : Nat → va_E) (PT : va_W) (tq : Nat → Option TV) (lq : Nat → Bool) (cells slots : Nat), 123 ≤ n → TP cy PT tq → LQ PT lq → SH cy n ad E → REL cy n ad E PT tq lq → L < 6 * (it + 1) + 6 * r + 6 → 6 * (it + 1) ≤ 4000 → cells + 8 * r ≤ 600000 → slots + 1000 * r + sl n ≤ 7302250 → ∀ (H : Heap) (locs : List Loc) (ls : Array Slot), St A D s (wl n ad E ++ PT) H locs → lv_has ls 4 [(0, .ref b), (1, .ref (ad 52)), (2, .ref (ad 0)), (3, .int (nI (6 * (it + 1))))] → W p l e room_1 s m #[.ref b] below meth c H locs cells slots Q (F0 m 18 ls [])) → ∀ (H : Heap) (locs : List Loc) (ls : Array Slot), St A D s (wl n ad E ++ PT) H locs → lv_has ls 4 [(0, .ref b), (1, .ref (ad 52)), (2, .ref (ad 0)), (3, .int (nI (6 * it)))] → W p l e room_1 s m #[.ref b] below meth c H locs cells slots Q (F0 m 799 ls [])
set_option maxHeartbeats 4000000 in
set_option maxRecDepth 100000 in
theorem whole_open {p : Program} {e : Env} {s : State} {m : MethodId} {below : List Frame} {meth : Method} {c : Code} (l : Launch) {b L : Nat} {xs : Nat → Int32} (hL : L ≤ 3072) (C0 : lw_At p s m meth c b L xs) (REL : (Nat → ClassId) → RelT) (hops : ∀ cy, HOPS (REL cy) cy) (hinit : ∀ cy q0 u q1 v, REL cy 123 (AD q0 u q1 v) (EE cy q0 u q1 v) [] (fun _ => none) (fun _ => false)) (h23 : H23 REL) : W p l e room_1 s m #[Value.ref b] below meth c s.heap [] 0 0 (lw_Z below #[Value.ref b] s) (entryFrame m ([Value.ref b] : List Value).toArray 4) := by
  obtain ⟨hx, hb, hr, hml, hown, hts, hX, hbl, hlocks, hgv⟩ := id C0
  obtain ⟨D, cy, hK, hN⟩ := cls_start hts
  have hbA : ¬ (fun q : Nat => s.heap.size ≤ q) b := Nat.not_le.mpr hbl
  have X : Cx p m c cL_law 4 s #[.ref b] wsL_law RL (fun q : Nat => s.heap.size ≤ q) D cy [] := ⟨⟨hx, hb, hml, hown, fun w h => hts w (wsL_law_in w h)⟩, hK, fun _ h => h, fun k q h => by simp at h, fun k q h => by simp at h, hN⟩
  have hl := lv_entry ([.ref b]) (n := 4) (Nat.le_of_ble_eq_true rfl)
  rw [lg_entry_eq]
  refine law_start X (fun q0 u q1 v H locs ls Z hl => ?_) s.heap [] _ ⟨fun k q h => by simp at h, ⟨fun i j p q h => by simp at h, fun k q h => by simp at h⟩, va_S.rf⟩ hl
  refine law_loop (REL := REL cy) X hX hbl hbA hL (hops cy) (h23 X hX hbl hbA hL) (fun H locs ls cells slots hc hs hloc => ?_) 512 0 123 (AD q0 u q1 v) (EE cy q0 u q1 v) [] (fun _ => none) (fun _ => false) 123 279093 (Nat.le_refl _) (fun a v h => by cases h) (fun a h => by cases h) (SH_start cy q0 u q1 v) (hinit cy q0 u q1 v) (by omega) (by omega) (by omega) (by rw [show sl 123 = 200000 from rfl]; omega) H locs ls Z hl
  refine va_forget (fun q hq => hloc q hq) ?_
  refine W.widen (k := 600000) (n := 7302250) hc hs ?_
  exact lw_ret hx hb hr hlocks dL_law_1468
