set_option linter.unusedVariables false
/-! languages -/
theorem nlA_n {β : Type} {kn ks : Option β} : nlA none kn ks = kn := by
  unfold nlA
  rw [if_pos rfl]
theorem nlA_s {β : Type} {q : Nat} {kn ks : Option β} : nlA (some q) kn ks = ks := by
  unfold nlA
  rw [if_neg (fun h => by cases h)]
theorem ckA_n {β : Type} {n j : Nat} {k : Option β} (hj : j < n) (hn : n < 2 ^ 31) : ckA n (nI j) k = k := by
  unfold ckA
  rw [if_neg (pI_ok hj hn)]
/-- five rows that are copied: cells of a range, four to each in the last one -/
def cpF (a m : Nat) (src dst : Nat → Int32) (o : Nat) : Nat → Int32 := fun j => if a ≤ j ∧ j < a + m then src (o + (j - a)) else dst j
theorem addP_ok {l m c : Nat} {parts pk pb pl pv pp nk nb nl nv np : Nat → Int32} (hl : l < 4) (hm : parts l = nI m) (hcm : c + m ≤ 4) : Wp (f_X12_addParts (nI l) parts pk pb pl pv pp (nI c) nk nb nl nv np) (fun o => o.1 = nI (c + m) ∧ (∀ j, o.2.1 j = cpF c m pk nk (4 * l) j) ∧ (∀ j, o.2.2.1 j = cpF c m pb nb (4 * l) j) ∧ (∀ j, o.2.2.2.1 j = cpF c m pl nl (4 * l) j) ∧ (∀ j, o.2.2.2.2.1 j = cpF c m pv nv (4 * l) j) ∧ ∀ j, o.2.2.2.2.2 j = cpF (4 * c) (4 * m) pp np (16 * l) j) := by
  unfold f_X12_addParts
  refine wp_seq (Q := fun o => o.1 = nI (c + m) ∧ (∀ j, o.2.1 j = cpF c m pk nk (4 * l) j) ∧ (∀ j, o.2.2.1 j = cpF c m pb nb (4 * l) j) ∧ (∀ j, o.2.2.2.1 j = cpF c m pl nl (4 * l) j) ∧ (∀ j, o.2.2.2.2.1 j = cpF c m pv nv (4 * l) j) ∧ ∀ j, o.2.2.2.2.2 j = cpF (4 * c) (4 * m) pp np (16 * l) j) ?_ (fun u hu => wp_some hu)
  have z : ∀ (a o : Nat) (f g : Nat → Int32) j, g j = cpF a 0 f g o j := fun a o f g j => (if_neg (by omega)).symm
  have up : ∀ (a o i : Nat) (f g h : Nat → Int32), (∀ j, h j = cpF a i f g o j) → ∀ j, va_up h (a + i) (f (o + i)) j = cpF a (i + 1) f g o j := by
    intro a o i f g h hh j
    unfold cpF
    by_cases e : j = a + i
    · rw [upE e, if_pos (by omega), e, Nat.add_sub_cancel_left]
    · rw [upN e, hh j]
      unfold cpF
      by_cases e2 : a ≤ j ∧ j < a + i
      · rw [if_pos e2, if_pos (by omega)]
      · rw [if_neg e2, if_neg (by omega)]
  refine wp_up (fun i v => v.2.2.2.2.2.2 = nI i ∧ v.1 = nI (c + i) ∧ (∀ j, v.2.1 j = cpF c i pk nk (4 * l) j) ∧ (∀ j, v.2.2.1 j = cpF c i pb nb (4 * l) j) ∧ (∀ j, v.2.2.2.1 j = cpF c i pl nl (4 * l) j) ∧ (∀ j, v.2.2.2.2.1 j = cpF c i pv nv (4 * l) j) ∧ ∀ j, v.2.2.2.2.2.1 j = cpF (4 * c) (4 * i) pp np (16 * l) j) 0 m ⟨rfl, rfl, z _ _ _ _, z _ _ _ _, z _ _ _ _, z _ _ _ _, z _ _ _ _⟩ (by omega) (by omega) ?_ ?_
  · rintro i ⟨x, f1, f2, f3, f4, f5, y⟩ h1 h2 ⟨hy, hx, k1, k2, k3, k4, k5⟩
    simp only at hy hx k1 k2 k3 k4 k5
    subst hy hx
    show Wp (b_X12_addParts_2 parts pk pb pl pv pp (nI l) (nI (c + i)) f1 f2 f3 f4 f5 (nI i)) _
    unfold b_X12_addParts_2
    simp (disch := omega) only [↓reduceIte, if_pos, if_neg, ldA_n, stA_n, pI_add, pI_mul, pI_sub, pI_lt_iff, pI_le_iff, pI_eq_iff, ob_s, upE, upN, pI_dec2, asR_some, bitZ0, bitZ1, Sum.elim_inl, Sum.elim_inr, pL0, pL1, pL2, pL3, pL4, pL5, pL6, pL7, pL8, pL10, pL12, pL15, pL16, pL20, pL21, pL22, pL23, pL29, pL31, pL35, pL37, pL48, pL49, pL50, pL52, pL57, pL94, pL97, pL99, pL100, pL127, pL400, pL1000, pL1023, pL1024, pL2000, pL2001, pL2187, pL4095, pL4096, pL8191, pL8192, pL65535, hm]
    refine wp_seq (Q := fun g => ∀ j, g j = cpF (4 * c) (4 * (i + 1)) pp np (16 * l) j) (wp_fill (4 * (c + i)) 0 4 (fun x => pp (4 * (4 * l + i) + x)) (by omega) (by omega) (fun x g h3 h4 hg => ?_) (fun g hg => ?_)) (fun u hu => wp_l ⟨rfl, rfl, up c (4 * l) i pk nk f1 k1, up c (4 * l) i pb nb f2 k2, up c (4 * l) i pl nl f3 k3, up c (4 * l) i pv nv f4 k4, hu⟩)
    · show b_X12_addParts_81 pp (nI (c + i)) (nI (4 * l + i)) g (nI x) = _
      unfold b_X12_addParts_81
      simp (disch := omega) only [↓reduceIte, if_pos, if_neg, ldA_n, stA_n, pI_add, pI_mul, pI_sub, pI_lt_iff, pI_le_iff, pI_eq_iff, ob_s, upE, upN, pI_dec2, asR_some, bitZ0, bitZ1, Sum.elim_inl, Sum.elim_inr, pL0, pL1, pL2, pL3, pL4, pL5, pL6, pL7, pL8, pL10, pL12, pL15, pL16, pL20, pL21, pL22, pL23, pL29, pL31, pL35, pL37, pL48, pL49, pL50, pL52, pL57, pL94, pL97, pL99, pL100, pL127, pL400, pL1000, pL1023, pL1024, pL2000, pL2001, pL2187, pL4095, pL4096, pL8191, pL8192, pL65535]
    · show Wp (b_X12_addParts_81 pp (nI (c + i)) (nI (4 * l + i)) g (nI 4)) _
      unfold b_X12_addParts_81
      rw [if_pos (show (4 : Int32) ≤ nI 4 by decide)]
      refine wp_r (fun j => ?_)
      rw [hg j, k5 j]
      unfold cpF
      by_cases e : 4 * (c + i) + 0 ≤ j ∧ j < 4 * (c + i) + 4
      · rw [if_pos e, if_pos (by omega)]
        congr 1
        omega
      · rw [if_neg e]
        by_cases e2 : 4 * c ≤ j ∧ j < 4 * c + 4 * i
        · rw [if_pos e2, if_pos (by omega)]
        · rw [if_neg e2, if_neg (by omega)]
  · rintro ⟨x, f1, f2, f3, f4, f5, y⟩ ⟨hy, hx, k1, k2, k3, k4, k5⟩
    simp only at hy hx k1 k2 k3 k4 k5
    subst hy hx
    show Wp (b_X12_addParts_2 parts pk pb pl pv pp (nI l) (nI (c + m)) f1 f2 f3 f4 f5 (nI m)) _
    unfold b_X12_addParts_2
    rw [ldA_n hl (by omega), hm, if_pos (Int32.le_refl _)]
    exact wp_r ⟨rfl, k1, k2, k3, k4, k5⟩
theorem put_ok2 {t m : Nat} {f tr : Int32} {nk nb nl nv np form parts truth pk pb pl pv pp : Nat → Int32} (ht : t < 4) (hm : m ≤ 4) : Wp (f_X12_put (nI t) f tr (nI m) nk nb nl nv np form parts truth pk pb pl pv pp) (fun o => o.1 = nI m ∧ o.2.1 = va_up form t f ∧ o.2.2.1 = va_up parts t (nI m) ∧ o.2.2.2.1 = va_up truth t tr ∧ (∀ j, o.2.2.2.2.1 j = cpF (4 * t) m nk pk 0 j) ∧ (∀ j, o.2.2.2.2.2.1 j = cpF (4 * t) m nb pb 0 j) ∧ (∀ j, o.2.2.2.2.2.2.1 j = cpF (4 * t) m nl pl 0 j) ∧ (∀ j, o.2.2.2.2.2.2.2.1 j = cpF (4 * t) m nv pv 0 j) ∧ ∀ j, o.2.2.2.2.2.2.2.2 j = cpF (16 * t) (4 * m) np pp 0 j) := by
  unfold f_X12_put
  rw [stA_n ht (by omega), stA_n ht (by omega), stA_n ht (by omega)]
  refine wp_seq (Q := fun o => (∀ j, o.1 j = cpF (4 * t) m nk pk 0 j) ∧ (∀ j, o.2.1 j = cpF (4 * t) m nb pb 0 j) ∧ (∀ j, o.2.2.1 j = cpF (4 * t) m nl pl 0 j) ∧ (∀ j, o.2.2.2.1 j = cpF (4 * t) m nv pv 0 j) ∧ ∀ j, o.2.2.2.2 j = cpF (16 * t) (4 * m) np pp 0 j) ?_ (fun u hu => wp_some ⟨rfl, rfl, rfl, rfl, hu⟩)
  have z : ∀ (a o : Nat) (f g : Nat → Int32) j, g j = cpF a 0 f g o j := fun a o f g j => (if_neg (by omega)).symm
  have up : ∀ (a i : Nat) (f g h : Nat → Int32), (∀ j, h j = cpF a i f g 0 j) → ∀ j, va_up h (a + i) (f i) j = cpF a (i + 1) f g 0 j := by
    intro a i f g h hh j
    unfold cpF
    by_cases e : j = a + i
    · rw [upE e, if_pos (by omega), e, Nat.add_sub_cancel_left, Nat.zero_add]
    · rw [upN e, hh j]
      unfold cpF
      by_cases e2 : a ≤ j ∧ j < a + i
      · rw [if_pos e2, if_pos (by omega)]
      · rw [if_neg e2, if_neg (by omega)]
  refine wp_up (fun i v => v.2.2.2.2.2 = nI i ∧ (∀ j, v.1 j = cpF (4 * t) i nk pk 0 j) ∧ (∀ j, v.2.1 j = cpF (4 * t) i nb pb 0 j) ∧ (∀ j, v.2.2.1 j = cpF (4 * t) i nl pl 0 j) ∧ (∀ j, v.2.2.2.1 j = cpF (4 * t) i nv pv 0 j) ∧ ∀ j, v.2.2.2.2.1 j = cpF (16 * t) (4 * i) np pp 0 j) 0 m ⟨rfl, z _ _ _ _, z _ _ _ _, z _ _ _ _, z _ _ _ _, z _ _ _ _⟩ (by omega) (by omega) ?_ ?_
  · rintro i ⟨f1, f2, f3, f4, f5, y⟩ h1 h2 ⟨hy, k1, k2, k3, k4, k5⟩
    simp only at hy k1 k2 k3 k4 k5
    subst hy
    show Wp (b_X12_put_27 (nI m) nk nb nl nv np (nI t) f1 f2 f3 f4 f5 (nI i)) _
    unfold b_X12_put_27
    simp (disch := omega) only [↓reduceIte, if_pos, if_neg, ldA_n, stA_n, pI_add, pI_mul, pI_sub, pI_lt_iff, pI_le_iff, pI_eq_iff, ob_s, upE, upN, pI_dec2, asR_some, bitZ0, bitZ1, Sum.elim_inl, Sum.elim_inr, pL0, pL1, pL2, pL3, pL4, pL5, pL6, pL7, pL8, pL10, pL12, pL15, pL16, pL20, pL21, pL22, pL23, pL29, pL31, pL35, pL37, pL48, pL49, pL50, pL52, pL57, pL94, pL97, pL99, pL100, pL127, pL400, pL1000, pL1023, pL1024, pL2000, pL2001, pL2187, pL4095, pL4096, pL8191, pL8192, pL65535]
    refine wp_seq (Q := fun g => ∀ j, g j = cpF (16 * t) (4 * (i + 1)) np pp 0 j) (wp_fill (4 * (4 * t + i)) 0 4 (fun x => np (4 * i + x)) (by omega) (by omega) (fun x g h3 h4 hg => ?_) (fun g hg => ?_)) (fun u hu => wp_l ⟨rfl, up (4 * t) i nk pk f1 k1, up (4 * t) i nb pb f2 k2, up (4 * t) i nl pl f3 k3, up (4 * t) i nv pv f4 k4, hu⟩)
    · show b_X12_put_103 np (nI i) (nI (4 * t + i)) g (nI x) = _
      unfold b_X12_put_103
      simp (disch := omega) only [↓reduceIte, if_pos, if_neg, ldA_n, stA_n, pI_add, pI_mul, pI_sub, pI_lt_iff, pI_le_iff, pI_eq_iff, ob_s, upE, upN, pI_dec2, asR_some, bitZ0, bitZ1, Sum.elim_inl, Sum.elim_inr, pL0, pL1, pL2, pL3, pL4, pL5, pL6, pL7, pL8, pL10, pL12, pL15, pL16, pL20, pL21, pL22, pL23, pL29, pL31, pL35, pL37, pL48, pL49, pL50, pL52, pL57, pL94, pL97, pL99, pL100, pL127, pL400, pL1000, pL1023, pL1024, pL2000, pL2001, pL2187, pL4095, pL4096, pL8191, pL8192, pL65535]
    · show Wp (b_X12_put_103 np (nI i) (nI (4 * t + i)) g (nI 4)) _
      unfold b_X12_put_103
      rw [if_pos (show (4 : Int32) ≤ nI 4 by decide)]
      refine wp_r (fun j => ?_)
      rw [hg j, k5 j]
      unfold cpF
      by_cases e : 4 * (4 * t + i) + 0 ≤ j ∧ j < 4 * (4 * t + i) + 4
      · rw [if_pos e, if_pos (by omega)]
        congr 1
        omega
      · rw [if_neg e]
        by_cases e2 : 16 * t ≤ j ∧ j < 16 * t + 4 * i
        · rw [if_pos e2, if_pos (by omega)]
        · rw [if_neg e2, if_neg (by omega)]
  · rintro ⟨f1, f2, f3, f4, f5, y⟩ ⟨hy, k1, k2, k3, k4, k5⟩
    simp only at hy k1 k2 k3 k4 k5
    subst hy
    show Wp (b_X12_put_27 (nI m) nk nb nl nv np (nI t) f1 f2 f3 f4 f5 (nI m)) _
    unfold b_X12_put_27
    rw [if_pos (Int32.le_refl _)]
    exact wp_r ⟨k1, k2, k3, k4, k5⟩
/-- what the parts of a language are: m of them, tests ts and values vs -/
def PartsR (tq : Nat → Option TV) (m : Nat) (ts : Nat → Option Nat) (vs pk pb pl pv pp : Nat → Int32) : Prop := ∀ i, i < m → TestR tq (ts i) (pk i) (pb i) (pl i) (fun j => pp (4 * i + j)) ∧ vs i = pv i ∧ ∃ x, vs i = nI x ∧ x < 10
theorem PartsR_fr {tq : Nat → Option TV} {m : Nat} {ts : Nat → Option Nat} {vs pk pb pl pv pp pk' pb' pl' pv' pp' : Nat → Int32} (h : PartsR tq m ts vs pk pb pl pv pp) (e1 : ∀ i, i < m → pk' i = pk i) (e2 : ∀ i, i < m → pb' i = pb i) (e3 : ∀ i, i < m → pl' i = pl i) (e4 : ∀ i, i < m → pv' i = pv i) (e5 : ∀ i, i < 4 * m → pp' i = pp i) : PartsR tq m ts vs pk' pb' pl' pv' pp' := by
  intro i hi
  obtain ⟨h1, h2, h3⟩ := h i hi
  exact ⟨TestR_fr h1 (e1 i hi) (e2 i hi) (e3 i hi) (fun j hj => e5 _ (by omega)), h2.trans (e4 i hi).symm, h3⟩
theorem LangR_fr {cy : Nat → ClassId} {PT : va_W} {tq : Nat → Option TV} {lq : Nat → Bool} {r : Option Nat} {form parts truth form' parts' truth' : Int32} {pk pb pl pv pp pk' pb' pl' pv' pp' : Nat → Int32} (h : LangR cy PT tq lq r form parts truth pk pb pl pv pp) (f1 : form' = form) (f2 : parts' = parts) (f3 : truth' = truth) (e1 : ∀ i, i < 4 → pk' i = pk i) (e2 : ∀ i, i < 4 → pb' i = pb i) (e3 : ∀ i, i < 4 → pl' i = pl i) (e4 : ∀ i, i < 4 → pv' i = pv i) (e5 : ∀ i, i < 16 → pp' i = pp i) : LangR cy PT tq lq r form' parts' truth' pk' pb' pl' pv' pp' := by
  subst f1 f2 f3
  rcases h with h | ⟨q, d, f, m, tab, ts, vs, h1, h2, h3, h4, h5, h6, h7, h8, h9, h10, h11, h12⟩
  · exact Or.inl h
  · exact Or.inr ⟨q, d, f, m, tab, ts, vs, h1, h2, h3, h4, h5, h6, h7, h8, h9, h10, PartsR_fr h11 (fun i hi => e1 i (by omega)) (fun i hi => e2 i (by omega)) (fun i hi => e3 i (by omega)) (fun i hi => e4 i (by omega)) (fun i hi => e5 i (by omega)), h12⟩
/-- a language set in register t -/
theorem LangsR_set {cy : Nat → ClassId} {PT PT1 : va_W} {tq tq1 : Nat → Option TV} {lq lq1 : Nat → Bool} {lg lg1 : Nat → Option Nat} {form parts truth pk pb pl pv pp form' parts' truth' pk' pb' pl' pv' pp' : Nat → Int32} (t : Nat) (hm : ∀ q, q ∈ PT → q ∈ PT1) (hq : ∀ a v, tq a = some v → tq1 a = some v) (hl : ∀ a, lq a = true → lq1 a = true) (h : LangsR cy PT tq lq lg form parts truth pk pb pl pv pp) (hlg : ∀ l, l ≠ t → lg1 l = lg l) (f1 : ∀ l, l ≠ t → form' l = form l) (f2 : ∀ l, l ≠ t → parts' l = parts l) (f3 : ∀ l, l ≠ t → truth' l = truth l) (e1 : ∀ j, j < 4 * t ∨ 4 * t + 4 ≤ j → pk' j = pk j) (e2 : ∀ j, j < 4 * t ∨ 4 * t + 4 ≤ j → pb' j = pb j) (e3 : ∀ j, j < 4 * t ∨ 4 * t + 4 ≤ j → pl' j = pl j) (e4 : ∀ j, j < 4 * t ∨ 4 * t + 4 ≤ j → pv' j = pv j) (e5 : ∀ j, j < 16 * t ∨ 16 * t + 16 ≤ j → pp' j = pp j) (hn : LangR cy PT1 tq1 lq1 (lg1 t) (form' t) (parts' t) (truth' t) (fun i => pk' (4 * t + i)) (fun i => pb' (4 * t + i)) (fun i => pl' (4 * t + i)) (fun i => pv' (4 * t + i)) (fun i => pp' (16 * t + i))) : LangsR cy PT1 tq1 lq1 lg1 form' parts' truth' pk' pb' pl' pv' pp' := by
  intro l hl4
  by_cases c : l = t
  · subst c
    exact hn
  · rw [hlg l c]
    exact LangR_fr (LangR_mono hm hq hl (h l hl4)) (f1 l c) (f2 l c) (f3 l c) (fun i hi => e1 _ (by omega)) (fun i hi => e2 _ (by omega)) (fun i hi => e3 _ (by omega)) (fun i hi => e4 _ (by omega)) (fun i hi => e5 _ (by omega))
theorem lang_form {cy : Nat → ClassId} {PT : va_W} {tq : Nat → Option TV} {lq : Nat → Bool} {r : Option Nat} {form parts truth : Int32} {pk pb pl pv pp : Nat → Int32} (h : LangR cy PT tq lq r form parts truth pk pb pl pv pp) : (r = none ∧ form = -1 ∧ ¬ 0 ≤ form ∧ form < 0) ∨ (∃ (q : Nat) (d : Nat → Nat) (f m : Nat) (tab : Int32) (ts : Nat → Option Nat) (vs : Nat → Int32), r = some q ∧ 0 ≤ form ∧ ¬ form < 0 ∧ lq q = true ∧ (q, ob 2 (oX2 d (nI f) (nI m) tab)) ∈ PT ∧ (d 3, aR cy 4 m ts) ∈ PT ∧ (d 4, aI cy m vs) ∈ PT ∧ f < 4 ∧ form = nI f ∧ parts = nI m ∧ 1 ≤ m ∧ m ≤ 4 ∧ PartsR tq m ts vs pk pb pl pv pp ∧ ∀ s, s < 2 ^ m → bt tab s = bt truth s) := by
  rcases h with ⟨h1, h2⟩ | ⟨q, d, f, m, tab, ts, vs, h1, h2, h3, h4, h5, h6, h7, h8, h9, h10, h11, h12⟩
  · rw [h2]
    exact Or.inl ⟨h1, rfl, by decide, by decide⟩
  · refine Or.inr ⟨q, d, f, m, tab, ts, vs, h1, ?_, ?_, h2, h3, h4, h5, h6, h7, h8, h9, h10, h11, h12⟩
    · rw [h7]
      exact nI_pos' (by omega)
    · rw [h7]
      exact pI_nneg (by omega)
/-- bits of the parts that agree -/
def stB (b : Nat → Bool) : Nat → Nat
  | 0 => 0
  | i + 1 => stB b i + (if b i = true then 2 ^ i else 0)
theorem stB_lt {b : Nat → Bool} : ∀ i, stB b i < 2 ^ i
  | 0 => by show 0 < 1; omega
  | i + 1 => by
    have := stB_lt (b := b) i
    show stB b i + (if b i = true then 2 ^ i else 0) < 2 ^ (i + 1)
    rw [Nat.pow_succ]
    by_cases c : b i = true
    · rw [if_pos c]; omega
    · rw [if_neg c]; omega
theorem stB_congr {b c : Nat → Bool} {n : Nat} (h : ∀ i, i < n → b i = c i) : stB b n = stB c n := by
  induction n with
  | zero => rfl
  | succ n ih =>
    show stB b n + (if b n = true then 2 ^ n else 0) = stB c n + (if c n = true then 2 ^ n else 0)
    rw [ih (fun i hi => h i (by omega)), h n (by omega)]
theorem holds_ok {tq : Nat → Option TV} {m L : Nat} {tab : Int32} {ts : Nat → Option Nat} {vs ls pk pb pl pv pp : Nat → Int32} (hm : m ≤ 4) (hL : L ≤ 12) (P : PartsR tq m ts vs pk pb pl pv pp) : Wp (f_X2_holds m m tq (nI m) tab (nI L) ts vs ls) (fun o => o = nI (if bt tab (stB (fun i => decide (nI (vN (pk i).toNatClampNeg (pb i).toNatClampNeg (pl i).toNatClampNeg (fun j => pp (4 * i + j)) ls L) = pv i)) m) = true then 1 else 0)) := by
  unfold f_X2_holds
  obtain ⟨bb, hbb⟩ : ∃ bb : Nat → Bool, bb = fun i => decide (nI (vN (pk i).toNatClampNeg (pb i).toNatClampNeg (pl i).toNatClampNeg (fun j => pp (4 * i + j)) ls L) = pv i) := ⟨_, rfl⟩
  rw [← hbb]
  have hlt := stB_lt (b := bb) m
  have hpm : 2 ^ m ≤ 16 := Nat.pow_le_pow_right (n := 2) (by omega) hm
  refine wp_seq (Q := fun u => u = nI (stB bb m)) ?_ (fun u hu => ?_)
  · refine wp_up (fun i v => v.2 = nI i ∧ v.1 = nI (stB bb i)) 0 m ⟨rfl, rfl⟩ (by omega) (by omega) ?_ ?_
    · rintro i ⟨x, y⟩ h1 h2 ⟨hy, hx⟩
      simp only at hy hx
      subst hy hx
      obtain ⟨⟨a, v, k, b, l, t1, t2, t3, t4, t5, t6, t7⟩, p2, p3⟩ := P i h2
      have Kk := kOK_of t3
      have Kk2 := Kk.2.2
      have Kk1 := Kk.1
      have eb : bb i = decide (nI (vN k b l v.2.2.2.2.2.2 ls L) = vs i) := by
        rw [hbb]
        show decide (nI (vN (pk i).toNatClampNeg (pb i).toNatClampNeg (pl i).toNatClampNeg (fun j => pp (4 * i + j)) ls L) = pv i) = _
        rw [t4, t5, t6, nI_clamp (by omega), nI_clamp (by omega), nI_clamp (by omega), p2, vN_congr (p' := fun j => pp (4 * i + j)) t7 (fun _ _ => rfl)]
      show Wp (b_X2_holds_4 m m tq (nI m) (nI L) ts vs ls (nI (stB bb i)) (nI i)) _
      unfold b_X2_holds_4
      rw [if_neg (show ¬ nI m ≤ nI i by rw [pI_le_iff (by omega) (by omega)]; omega), ldA_n h2 (by omega), t1, tsA_s t2, valFor_ok t3 hL, ob_s, ldA_n h2 (by omega), set_or i (by omega) _ (stB_lt i)]
      by_cases c : nI (vN k b l v.2.2.2.2.2.2 ls L) = vs i
      · rw [if_pos c]
        refine wp_l ⟨pI_add, ?_⟩
        show nI (stB bb i + 2 ^ i) = nI (stB bb i + (if bb i = true then 2 ^ i else 0))
        rw [eb, decide_eq_true c, if_pos rfl]
      · rw [if_neg c]
        refine wp_l ⟨pI_add, ?_⟩
        show nI (stB bb i) = nI (stB bb i + (if bb i = true then 2 ^ i else 0))
        rw [eb, decide_eq_false c, if_neg (by decide), Nat.add_zero]
    · rintro ⟨x, y⟩ ⟨hy, hx⟩
      simp only at hy hx
      subst hy hx
      show Wp (b_X2_holds_4 m m tq (nI m) (nI L) ts vs ls (nI (stB bb m)) (nI m)) _
      unfold b_X2_holds_4
      rw [if_pos (Int32.le_refl _)]
      exact wp_r rfl
  · subst hu
    rw [acc_ok (by omega), ob_s]
    by_cases c : bt tab (stB bb m) = true
    · rw [if_pos c, bitZ1]
      exact wp_some rfl
    · rw [if_neg c, bitZ0]
      exact wp_some rfl
theorem cont_ok {tq : Nat → Option TV} {l m L w : Nat} {ts : Nat → Option Nat} {vs wl wd parts truth pk pb pl pv pp ws : Nat → Int32} (hl : l < 4) (hm : m ≤ 4) (em : parts l = nI m) (hw : w < 3) (hL : L ≤ 12) (el : wl w = nI L) (P : PartsR tq m ts vs (fun i => pk (4 * l + i)) (fun i => pb (4 * l + i)) (fun i => pl (4 * l + i)) (fun i => pv (4 * l + i)) (fun i => pp (16 * l + i))) : Wp (loopN (fun v => b_X12_contains_33 wl wd parts pk pb pl pv pp (nI l) (nI w) v.1 v.2.1 v.2.2) FU (ws, (0 : Int32), (0 : Int32))) (fun o => o.2 = nI (stB (fun i => decide (nI (vN (pk (4 * l + i)).toNatClampNeg (pb (4 * l + i)).toNatClampNeg (pl (4 * l + i)).toNatClampNeg (fun j => pp (16 * l + (4 * i + j))) (fun i => wd (12 * w + i)) L) = pv (4 * l + i))) m)) := by
  obtain ⟨bb, hbb⟩ : ∃ bb : Nat → Bool, bb = fun i => decide (nI (vN (pk (4 * l + i)).toNatClampNeg (pb (4 * l + i)).toNatClampNeg (pl (4 * l + i)).toNatClampNeg (fun j => pp (16 * l + (4 * i + j))) (fun i => wd (12 * w + i)) L) = pv (4 * l + i)) := ⟨_, rfl⟩
  rw [← hbb]
  refine wp_up (fun i v => v.2.2 = nI i ∧ v.2.1 = nI (stB bb i)) 0 m ⟨rfl, rfl⟩ (by omega) (by omega) ?_ ?_
  · rintro i ⟨f, x, y⟩ h1 h2 ⟨hy, hx⟩
    simp only at hy hx
    subst hy hx
    obtain ⟨⟨a, v, k, b, n, t1, t2, t3, t4, t5, t6, t7⟩, p2, p3⟩ := P i h2
    simp only at t4 t5 t6
    have Kk := kOK_of t3
    have Kk2 := Kk.2.2
    have Kk1 := Kk.1
    have eb : bb i = decide (nI (vN k b n (fun j => pp (4 * (4 * l + i) + j)) (fun i => wd (12 * w + i)) L) = pv (4 * l + i)) := by
      rw [hbb]
      show decide (nI (vN (pk (4 * l + i)).toNatClampNeg (pb (4 * l + i)).toNatClampNeg (pl (4 * l + i)).toNatClampNeg (fun j => pp (16 * l + (4 * i + j))) (fun i => wd (12 * w + i)) L) = pv (4 * l + i)) = _
      rw [t4, t5, t6, nI_clamp (by omega), nI_clamp (by omega), nI_clamp (by omega), vN_congr (p' := fun j => pp (4 * (4 * l + i) + j)) (fun j hj => by show pp _ = pp _; congr 1; omega) (fun _ _ => rfl)]
    show Wp (b_X12_contains_33 wl wd parts pk pb pl pv pp (nI l) (nI w) f (nI (stB bb i)) (nI i)) _
    unfold b_X12_contains_33
    rw [ldA_n hl (by omega), em, if_neg (show ¬ nI m ≤ nI i by rw [pI_le_iff (by omega) (by omega)]; omega), pL4, pI_mul, pI_add, ldA_n (by omega) (by omega), ldA_n (by omega) (by omega), ldA_n (by omega) (by omega), t4, t5, t6, pI_mul]
    refine wp_seq (valOf_ok Kk hL (by omega) (by omega) hw el) (fun u hu => ?_)
    rw [ldA_n (by omega) (by omega), hu, set_or i (by omega) _ (stB_lt i)]
    by_cases c : nI (vN k b n (fun j => pp (4 * (4 * l + i) + j)) (fun i => wd (12 * w + i)) L) = pv (4 * l + i)
    · rw [if_pos c]
      refine wp_l ⟨pI_add, ?_⟩
      show nI (stB bb i + 2 ^ i) = nI (stB bb i + (if bb i = true then 2 ^ i else 0))
      rw [eb, decide_eq_true c, if_pos rfl]
    · rw [if_neg c]
      refine wp_l ⟨pI_add, ?_⟩
      show nI (stB bb i) ||| 0 = nI (stB bb i + (if bb i = true then 2 ^ i else 0))
      rw [eb, decide_eq_false c, if_neg (by decide), Nat.add_zero, Int32.or_zero]
  · rintro ⟨f, x, y⟩ ⟨hy, hx⟩
    simp only at hy hx
    subst hy hx
    show Wp (b_X12_contains_33 wl wd parts pk pb pl pv pp (nI l) (nI w) f (nI (stB bb m)) (nI m)) _
    unfold b_X12_contains_33
    rw [ldA_n hl (by omega), em, if_pos (Int32.le_refl _)]
    exact wp_r rfl
