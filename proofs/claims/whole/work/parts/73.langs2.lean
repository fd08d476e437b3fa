set_option linter.unusedVariables false
/-! setBasic, complement, intersect, unite -/
/-- what the reference's rows are behind a call that puts a language into register t -/
def LNew (t f m : Nat) (tr : Int32) (form parts truth pk pb pl pv pp form' parts' truth' pk' pb' pl' pv' pp' : Nat → Int32) : Prop := form' = va_up form t (nI f) ∧ parts' = va_up parts t (nI m) ∧ truth' = va_up truth t tr ∧ (∀ j, j < 4 * t ∨ 4 * t + 4 ≤ j → pk' j = pk j) ∧ (∀ j, j < 4 * t ∨ 4 * t + 4 ≤ j → pb' j = pb j) ∧ (∀ j, j < 4 * t ∨ 4 * t + 4 ≤ j → pl' j = pl j) ∧ (∀ j, j < 4 * t ∨ 4 * t + 4 ≤ j → pv' j = pv j) ∧ ∀ j, j < 16 * t ∨ 16 * t + 16 ≤ j → pp' j = pp j
theorem LangsR_new {cy : Nat → ClassId} {PT PT1 : va_W} {tq : Nat → Option TV} {lq lq1 : Nat → Bool} {lg lg1 : Nat → Option Nat} {t f m q : Nat} {d : Nat → Nat} {tab tr : Int32} {ts : Nat → Option Nat} {vs form parts truth pk pb pl pv pp form' parts' truth' pk' pb' pl' pv' pp' : Nat → Int32} (h : LangsR cy PT tq lq lg form parts truth pk pb pl pv pp) (N : LNew t f m tr form parts truth pk pb pl pv pp form' parts' truth' pk' pb' pl' pv' pp') (hm : ∀ q, q ∈ PT → q ∈ PT1) (hl : ∀ a, lq a = true → lq1 a = true) (hlg : lg1 = va_up lg t (some q)) (hq : lq1 q = true) (c1 : (q, ob 2 (oX2 d (nI f) (nI m) tab)) ∈ PT1) (c2 : (d 3, aR cy 4 m ts) ∈ PT1) (c3 : (d 4, aI cy m vs) ∈ PT1) (hf : f < 4) (hm1 : 1 ≤ m) (hm4 : m ≤ 4) (P : PartsR tq m ts vs (fun i => pk' (4 * t + i)) (fun i => pb' (4 * t + i)) (fun i => pl' (4 * t + i)) (fun i => pv' (4 * t + i)) (fun i => pp' (16 * t + i))) (hb : ∀ s, s < 2 ^ m → bt tab s = bt tr s) : LangsR cy PT1 tq lq1 lg1 form' parts' truth' pk' pb' pl' pv' pp' := by
  obtain ⟨n1, n2, n3, n4, n5, n6, n7, n8⟩ := N
  subst hlg n1 n2 n3
  refine LangsR_set t hm (fun a v h => h) hl h (fun l hl => upN hl) (fun l hl => upN hl) (fun l hl => upN hl) (fun l hl => upN hl) n4 n5 n6 n7 n8 (Or.inr ⟨q, d, f, m, tab, ts, vs, upE rfl, hq, c1, c2, c3, hf, upE rfl, upE rfl, hm1, hm4, P, fun s hs => ?_⟩)
  rw [upE rfl]
  exact hb s hs
theorem sb2_ok {l t T_ : Nat} {k b n : Nat} {x : Int32} {kd bd ln pt form parts truth pk pb pl pv pp : Nat → Int32} (hl : l < 4) (ht : t < 6) (hx : f_X12_isTest (nI t) (nI T_) = some (nI 1)) (hk : k < 3) (hb9 : b ≤ 9) (e1 : kd t = nI k) (e2 : bd t = nI b) (hv : f_X12_isBetween x (nI 0) (nI (if k = 2 then b + 1 else b) - nI 1) = some (nI 1)) : Wp (f_X12_setBasic (nI l) (nI t) x (nI T_) kd bd ln pt form parts truth pk pb pl pv pp) (fun o => o.1 = 1 ∧ LNew l 0 1 (nI 2) form parts truth pk pb pl pv pp o.2.1 o.2.2.1 o.2.2.2.1 o.2.2.2.2.1 o.2.2.2.2.2.1 o.2.2.2.2.2.2.1 o.2.2.2.2.2.2.2.1 o.2.2.2.2.2.2.2.2 ∧ o.2.2.2.2.1 (4 * l) = kd t ∧ o.2.2.2.2.2.1 (4 * l) = bd t ∧ o.2.2.2.2.2.2.1 (4 * l) = ln t ∧ o.2.2.2.2.2.2.2.1 (4 * l) = x ∧ ∀ j, j < 4 → o.2.2.2.2.2.2.2.2 (16 * l + j) = pt (4 * t + j)) := by
  unfold f_X12_setBasic
  rw [isL2 hl, ob_s, if_neg (show ¬ nI 1 = (0 : Int32) by decide), hx, ob_s, if_neg (show ¬ nI 1 = (0 : Int32) by decide), rangeOf_ok ht hk hb9 e1 e2, ob_s, show f_X12_isBetween x 0 (nI (if k = 2 then b + 1 else b) - 1) = some (nI 1) from hv, ob_s, if_neg (show ¬ nI 1 = (0 : Int32) by decide), stA_n hl (by omega), stA_n hl (by omega), stA_n hl (by omega), ldA_n ht (by omega), pL4, pI_mul, stA_n (by omega) (by omega), ldA_n ht (by omega), stA_n (by omega) (by omega), ldA_n ht (by omega), stA_n (by omega) (by omega), stA_n (by omega) (by omega)]
  refine wp_seq (Q := fun g => ∀ j, g j = if 16 * l + 0 ≤ j ∧ j < 16 * l + 4 then pt (4 * t + (j - 16 * l)) else pp j) (wp_fill (16 * l) 0 4 (fun j => pt (4 * t + j)) (by omega) (by omega) (fun i g h3 h4 hg => ?_) (fun g hg => ?_)) (fun u hu => wp_some ⟨rfl, ⟨rfl, rfl, rfl, fun j hj => upN (by omega), fun j hj => upN (by omega), fun j hj => upN (by omega), fun j hj => upN (by omega), fun j hj => ?_⟩, upE rfl, upE rfl, upE rfl, upE rfl, fun j hj => ?_⟩)
  · have e : 4 * (4 * l) + i = 16 * l + i := by omega
    show b_X12_setBasic_108 pt (nI t) (nI (4 * l)) g (nI i) = _
    unfold b_X12_setBasic_108
    simp (disch := omega) only [↓reduceIte, if_pos, if_neg, ldA_n, stA_n, pI_add, pI_mul, pI_sub, pI_lt_iff, pI_le_iff, pI_eq_iff, ob_s, upE, upN, pI_dec2, asR_some, bitZ0, bitZ1, Sum.elim_inl, Sum.elim_inr, pL0, pL1, pL2, pL3, pL4, pL5, pL6, pL7, pL8, pL10, pL12, pL15, pL16, pL20, pL21, pL22, pL23, pL29, pL31, pL35, pL37, pL48, pL49, pL50, pL52, pL57, pL94, pL97, pL99, pL100, pL127, pL400, pL1000, pL1023, pL1024, pL2000, pL2001, pL2187, pL4095, pL4096, pL8191, pL8192, pL65535, e]
  · show Wp (b_X12_setBasic_108 pt (nI t) (nI (4 * l)) g (nI 4)) _
    unfold b_X12_setBasic_108
    rw [if_pos (show (4 : Int32) ≤ nI 4 by decide)]
    exact wp_r hg
  · show u j = pp j
    rw [hu, if_neg (by omega)]
  · show u (16 * l + j) = _
    rw [hu, if_pos (by omega), Nat.add_sub_cancel_left]
theorem cmp2L_ok {t l m : Nat} {np : Int32} {form parts truth pk pb pl pv pp nk nb nl nv npt : Nat → Int32} (ht : t < 4) (hl : l < 4) (hf : 0 ≤ form l) (em : parts l = nI m) (hm : m ≤ 4) : Wp (f_X12_complement (nI t) (nI l) np form parts truth pk pb pl pv pp nk nb nl nv npt) (fun o => o.1 = nI m ∧ LNew t 1 m (truth l ^^^ (-1 : Int32)) form parts truth pk pb pl pv pp o.2.2.1 o.2.2.2.1 o.2.2.2.2.1 o.2.2.2.2.2.1 o.2.2.2.2.2.2.1 o.2.2.2.2.2.2.2.1 o.2.2.2.2.2.2.2.2.1 o.2.2.2.2.2.2.2.2.2.1 ∧ (∀ i, i < m → o.2.2.2.2.2.1 (4 * t + i) = pk (4 * l + i)) ∧ (∀ i, i < m → o.2.2.2.2.2.2.1 (4 * t + i) = pb (4 * l + i)) ∧ (∀ i, i < m → o.2.2.2.2.2.2.2.1 (4 * t + i) = pl (4 * l + i)) ∧ (∀ i, i < m → o.2.2.2.2.2.2.2.2.1 (4 * t + i) = pv (4 * l + i)) ∧ ∀ i, i < 4 * m → o.2.2.2.2.2.2.2.2.2.1 (16 * t + i) = pp (16 * l + i)) := by
  unfold f_X12_complement
  rw [isL2 ht, isL2 hl, ob_s, if_neg (show ¬ nI 1 = (0 : Int32) by decide), ob_s, if_neg (show ¬ nI 1 = (0 : Int32) by decide), ldA_n hl (by omega), if_pos hf]
  refine wp_seq (addP_ok (c := 0) hl em (by omega)) (fun u hu => ?_)
  obtain ⟨u1, u2, u3, u4, u5, u6⟩ := hu
  rw [ldA_n hl (by omega), u1, Nat.zero_add]
  refine wp_seq (put_ok2 ht hm) (fun v hv => ?_)
  obtain ⟨v1, v2, v3, v4, v5, v6, v7, v8, v9⟩ := hv
  have fr : ∀ (g f h : Nat → Int32), (∀ j, g j = cpF (4 * t) m f h 0 j) → ∀ j, j < 4 * t ∨ 4 * t + 4 ≤ j → g j = h j := by
    intro g f h hg j hj
    rw [hg j]
    exact if_neg (by omega)
  have gt : ∀ (g f h s n : Nat → Int32), (∀ j, g j = cpF (4 * t) m f h 0 j) → (∀ j, f j = cpF 0 m s n (4 * l) j) → ∀ i, i < m → g (4 * t + i) = s (4 * l + i) := by
    intro g f h s n hg hf i hi
    rw [hg]
    unfold cpF
    rw [if_pos (by omega), hf]
    unfold cpF
    rw [if_pos (by omega)]
    congr 1
    omega
  refine wp_some ⟨v1, ⟨v2, v3, v4, fr _ _ _ v5, fr _ _ _ v6, fr _ _ _ v7, fr _ _ _ v8, fun j hj => ?_⟩, gt _ _ _ _ _ v5 u2, gt _ _ _ _ _ v6 u3, gt _ _ _ _ _ v7 u4, gt _ _ _ _ _ v8 u5, fun i hi => ?_⟩
  · show v.2.2.2.2.2.2.2.2 j = pp j
    rw [v9 j]
    exact if_neg (by omega)
  · show v.2.2.2.2.2.2.2.2 (16 * t + i) = _
    rw [v9]
    unfold cpF
    rw [if_pos (by omega), u6]
    unfold cpF
    rw [if_pos (by omega)]
    congr 1
    omega
/-- two rows behind each other -/
def catF (m1 : Nat) (a b : Nat → Int32) : Nat → Int32 := fun i => if i < m1 then a i else b (i - m1)
theorem join2_ok {u : Bool} {t l1 l2 m1 m2 : Nat} {np : Int32} {form parts truth pk pb pl pv pp nk nb nl nv npt : Nat → Int32} (ht : t < 4) (hl1 : l1 < 4) (hl2 : l2 < 4) (hf1 : ¬ form l1 < 0) (hf2 : 0 ≤ form l2) (em1 : parts l1 = nI m1) (em2 : parts l2 = nI m2) (h11 : 1 ≤ m1) (h21 : 1 ≤ m2) (hm : m1 + m2 ≤ 4) : Wp (f_X12_join (nI t) (nI l1) (nI l2) (nI (if u = true then 1 else 0)) np form parts truth pk pb pl pv pp nk nb nl nv npt) (fun o => o.1 = nI (m1 + m2) ∧ (∃ tr, LNew t (if u = true then 3 else 2) (m1 + m2) tr form parts truth pk pb pl pv pp o.2.2.1 o.2.2.2.1 o.2.2.2.2.1 o.2.2.2.2.2.1 o.2.2.2.2.2.2.1 o.2.2.2.2.2.2.2.1 o.2.2.2.2.2.2.2.2.1 o.2.2.2.2.2.2.2.2.2.1 ∧ ∀ s, s < 2 ^ (m1 + m2) → bt tr s = jB u (2 ^ m1) (truth l1) (truth l2) s) ∧ (∀ i, i < m1 + m2 → o.2.2.2.2.2.1 (4 * t + i) = catF m1 (fun i => pk (4 * l1 + i)) (fun i => pk (4 * l2 + i)) i) ∧ (∀ i, i < m1 + m2 → o.2.2.2.2.2.2.1 (4 * t + i) = catF m1 (fun i => pb (4 * l1 + i)) (fun i => pb (4 * l2 + i)) i) ∧ (∀ i, i < m1 + m2 → o.2.2.2.2.2.2.2.1 (4 * t + i) = catF m1 (fun i => pl (4 * l1 + i)) (fun i => pl (4 * l2 + i)) i) ∧ (∀ i, i < m1 + m2 → o.2.2.2.2.2.2.2.2.1 (4 * t + i) = catF m1 (fun i => pv (4 * l1 + i)) (fun i => pv (4 * l2 + i)) i) ∧ ∀ i, i < 4 * (m1 + m2) → o.2.2.2.2.2.2.2.2.2.1 (16 * t + i) = catF (4 * m1) (fun i => pp (16 * l1 + i)) (fun i => pp (16 * l2 + i)) i) := by
  unfold f_X12_join
  rw [isL2 ht, isL2 hl1, isL2 hl2, ob_s, if_neg (show ¬ nI 1 = (0 : Int32) by decide), ob_s, if_neg (show ¬ nI 1 = (0 : Int32) by decide), ob_s, if_neg (show ¬ nI 1 = (0 : Int32) by decide), ldA_n hl1 (by omega), if_neg hf1, ldA_n hl2 (by omega), if_pos hf2, ldA_n hl1 (by omega), em1, ldA_n hl2 (by omega), em2, pI_add, if_pos (show nI (m1 + m2) ≤ (4 : Int32) from (pI_le_iff (b := 4) (by omega) (by omega)).mpr hm), ldA_n hl1 (by omega), em1]
  refine wp_seq (jn_ok (u := u) hl1 hl2 em2 (by omega) (by omega) hm) (fun jt hjt => ?_)
  refine wp_seq (addP_ok (c := 0) hl1 em1 (by omega)) (fun w hw => ?_)
  obtain ⟨w1, w2, w3, w4, w5, w6⟩ := hw
  rw [w1, Nat.zero_add]
  refine wp_seq (addP_ok (c := m1) hl2 em2 hm) (fun z hz => ?_)
  obtain ⟨z1, z2, z3, z4, z5, z6⟩ := hz
  have key : ∀ x : Nat, Wp (j_X12_join_189 z.1 form parts truth pk pb pl pv pp z.2.1 z.2.2.1 z.2.2.2.1 z.2.2.2.2.1 z.2.2.2.2.2 jt (nI x) (nI t)) (fun o => o.1 = nI (m1 + m2) ∧ (∃ tr, LNew t x (m1 + m2) tr form parts truth pk pb pl pv pp o.2.2.1 o.2.2.2.1 o.2.2.2.2.1 o.2.2.2.2.2.1 o.2.2.2.2.2.2.1 o.2.2.2.2.2.2.2.1 o.2.2.2.2.2.2.2.2.1 o.2.2.2.2.2.2.2.2.2.1 ∧ ∀ s, s < 2 ^ (m1 + m2) → bt tr s = jB u (2 ^ m1) (truth l1) (truth l2) s) ∧ (∀ i, i < m1 + m2 → o.2.2.2.2.2.1 (4 * t + i) = catF m1 (fun i => pk (4 * l1 + i)) (fun i => pk (4 * l2 + i)) i) ∧ (∀ i, i < m1 + m2 → o.2.2.2.2.2.2.1 (4 * t + i) = catF m1 (fun i => pb (4 * l1 + i)) (fun i => pb (4 * l2 + i)) i) ∧ (∀ i, i < m1 + m2 → o.2.2.2.2.2.2.2.1 (4 * t + i) = catF m1 (fun i => pl (4 * l1 + i)) (fun i => pl (4 * l2 + i)) i) ∧ (∀ i, i < m1 + m2 → o.2.2.2.2.2.2.2.2.1 (4 * t + i) = catF m1 (fun i => pv (4 * l1 + i)) (fun i => pv (4 * l2 + i)) i) ∧ ∀ i, i < 4 * (m1 + m2) → o.2.2.2.2.2.2.2.2.2.1 (16 * t + i) = catF (4 * m1) (fun i => pp (16 * l1 + i)) (fun i => pp (16 * l2 + i)) i) := by
    intro x
    unfold j_X12_join_189
    rw [z1]
    refine wp_seq (put_ok2 ht hm) (fun v hv => ?_)
    obtain ⟨v1, v2, v3, v4, v5, v6, v7, v8, v9⟩ := hv
    have fr : ∀ (g f h : Nat → Int32), (∀ j, g j = cpF (4 * t) (m1 + m2) f h 0 j) → ∀ j, j < 4 * t ∨ 4 * t + 4 ≤ j → g j = h j := by
      intro g f h hg j hj
      rw [hg j]
      exact if_neg (by omega)
    have gt : ∀ (g f h s n e : Nat → Int32), (∀ j, g j = cpF (4 * t) (m1 + m2) f h 0 j) → (∀ j, f j = cpF m1 m2 s n (4 * l2) j) → (∀ j, n j = cpF 0 m1 s e (4 * l1) j) → ∀ i, i < m1 + m2 → g (4 * t + i) = catF m1 (fun i => s (4 * l1 + i)) (fun i => s (4 * l2 + i)) i := by
      intro g f h s n e hg hf hn i hi
      rw [hg]
      unfold cpF catF
      rw [if_pos (by omega), hf]
      unfold cpF
      by_cases c : i < m1
      · rw [if_neg (by omega), if_pos c, hn]
        unfold cpF
        rw [if_pos (by omega)]
        congr 1
        omega
      · rw [if_pos (by omega), if_neg c]
        congr 1
        omega
    refine wp_some ⟨v1, ⟨jt, ⟨v2, v3, v4, fr _ _ _ v5, fr _ _ _ v6, fr _ _ _ v7, fr _ _ _ v8, fun j hj => ?_⟩, hjt⟩, gt _ _ _ _ _ _ v5 z2 w2, gt _ _ _ _ _ _ v6 z3 w3, gt _ _ _ _ _ _ v7 z4 w4, gt _ _ _ _ _ _ v8 z5 w5, fun i hi => ?_⟩
    · show v.2.2.2.2.2.2.2.2 j = pp j
      rw [v9 j]
      exact if_neg (by omega)
    · show v.2.2.2.2.2.2.2.2 (16 * t + i) = _
      rw [v9]
      unfold cpF catF
      rw [if_pos (by omega), z6]
      unfold cpF
      by_cases c : i < 4 * m1
      · rw [if_neg (by omega), if_pos c, w6]
        unfold cpF
        rw [if_pos (by omega)]
        congr 1
        omega
      · rw [if_pos (by omega), if_neg c]
        congr 1
        omega
  cases u with
  | true =>
    rw [if_neg (show ¬ nI (if true = true then 1 else 0) = (0 : Int32) by decide)]
    exact key 3
  | false =>
    rw [if_pos (show nI (if false = true then 1 else 0) = (0 : Int32) by decide)]
    exact key 2
theorem join2_full {u : Bool} {t l1 l2 m1 m2 : Nat} {np : Int32} {form parts truth pk pb pl pv pp nk nb nl nv npt : Nat → Int32} (ht : t < 4) (hl1 : l1 < 4) (hl2 : l2 < 4) (hf1 : ¬ form l1 < 0) (hf2 : 0 ≤ form l2) (em1 : parts l1 = nI m1) (em2 : parts l2 = nI m2) (h1 : m1 ≤ 4) (h2 : m2 ≤ 4) (hm : 4 < m1 + m2) : f_X12_join (nI t) (nI l1) (nI l2) (nI (if u = true then 1 else 0)) np form parts truth pk pb pl pv pp nk nb nl nv npt = some (-3, np, form, parts, truth, pk, pb, pl, pv, pp, nk, nb, nl, nv, npt) := by
  unfold f_X12_join
  rw [isL2 ht, isL2 hl1, isL2 hl2, ob_s, if_neg (show ¬ nI 1 = (0 : Int32) by decide), ob_s, if_neg (show ¬ nI 1 = (0 : Int32) by decide), ob_s, if_neg (show ¬ nI 1 = (0 : Int32) by decide), ldA_n hl1 (by omega), if_neg hf1, ldA_n hl2 (by omega), if_pos hf2, ldA_n hl1 (by omega), em1, ldA_n hl2 (by omega), em2, pI_add, if_neg (show ¬ nI (m1 + m2) ≤ (4 : Int32) from fun h => by have := (pI_le_iff (b := 4) (by omega) (by omega)).mp h; omega)]
theorem allR_ok {tq : Nat → Option TV} {m : Nat} {ts : Nat → Option Nat} {vs pk pb pl pv pp : Nat → Int32} (P : PartsR tq m ts vs pk pb pl pv pp) : allR (fun y => (tq y).isSome) ts 0 m = true := by
  unfold allR
  rw [List.all_eq_true]
  intro j hj
  rw [List.mem_range] at hj
  obtain ⟨⟨a, v, _, _, _, h1, h2, _⟩, _⟩ := P j hj
  rw [Nat.zero_add, h1]
  show (tq a).isSome = true
  rw [h2]
  rfl
theorem cpR_n {β : Type} {P : Nat → Bool} {f g : Nat → Option Nat} {n0 n1 a b c : Nat} {k : (Nat → Option Nat) → Option β} (hr : allR P f a c = true) (h1 : a + c ≤ n0) (h2 : b + c ≤ n1) (h3 : n0 < 2 ^ 31) (h4 : n1 < 2 ^ 31) : cpR P f g n0 n1 (nI a) (nI b) (nI c) k = k (va_cpy f g a b c) := by
  unfold cpR
  rw [nI_clamp (show a < 2 ^ 31 by omega), nI_clamp (show c < 2 ^ 31 by omega), if_pos hr, cpA_n h1 h2 h3 h4]
theorem joined_ok {u : Bool} {tq : Nat → Option TV} {m1 m2 : Nat} {t1 t2 : Int32} {ts1 ts2 : Nat → Option Nat} {vs1 vs2 pk pb pl pv pp pk' pb' pl' pv' pp' : Nat → Int32} (h11 : 1 ≤ m1) (h21 : 1 ≤ m2) (hm : m1 + m2 ≤ 4) (P1 : PartsR tq m1 ts1 vs1 pk pb pl pv pp) (P2 : PartsR tq m2 ts2 vs2 pk' pb' pl' pv' pp') : Wp (f_X2_joined (nI (if u = true then 3 else 2)) m1 m1 m2 m2 tq (nI m1) t1 (nI m2) t2 ts1 vs1 ts2 vs2) (fun o => o.1 = nI (if u = true then 3 else 2) ∧ o.2.1 = nI (m1 + m2) ∧ (∀ s, s < 2 ^ m1 * 2 ^ m2 → bt o.2.2.1 s = jB u (2 ^ m1) t1 t2 s) ∧ o.2.2.2.1 = m1 + m2 ∧ o.2.2.2.2.2.1 = m1 + m2 ∧ (∀ i, i < m1 → o.2.2.2.2.1 i = ts1 i ∧ o.2.2.2.2.2.2 i = vs1 i) ∧ ∀ i, i < m2 → o.2.2.2.2.1 (m1 + i) = ts2 i ∧ o.2.2.2.2.2.2 (m1 + i) = vs2 i) := by
  have hM : 2 ^ m1 * 2 ^ m2 ≤ 16 := by
    rw [← Nat.pow_add]
    exact Nat.pow_le_pow_right (n := 2) (by omega) hm
  unfold f_X2_joined f_X2_init
  rw [pI_add, mkN_n (by omega), pL0, cpR_n (allR_ok P1) (by omega) (by omega) (by omega) (by omega), cpR_n (allR_ok P2) (by omega) (by omega) (by omega) (by omega), mkN_n (by omega), cpA_n (by omega) (by omega) (by omega) (by omega), cpA_n (by omega) (by omega) (by omega) (by omega)]
  refine wp_seq (jt_ok (u := u) (by omega) (by omega) hM) (fun o ho => wp_some ⟨rfl, rfl, ho, rfl, rfl, fun i hi => ?_, fun i hi => ?_⟩)
  · refine ⟨?_, ?_⟩
    · show va_cpy ts2 (va_cpy ts1 (fun _ => none) 0 0 m1) 0 m1 m2 i = ts1 i
      rw [pk_cpy_out (by omega), pk_cpy_in (by omega) (by omega)]
      congr 1
      omega
    · show va_cpy vs2 (va_cpy vs1 (fun _ => nI 0) 0 0 m1) 0 m1 m2 i = vs1 i
      rw [pk_cpy_out (by omega), pk_cpy_in (by omega) (by omega)]
      congr 1
      omega
  · refine ⟨?_, ?_⟩
    · show va_cpy ts2 (va_cpy ts1 (fun _ => none) 0 0 m1) 0 m1 m2 (m1 + i) = ts2 i
      rw [pk_cpy_in (by omega) (by omega)]
      congr 1
      omega
    · show va_cpy vs2 (va_cpy vs1 (fun _ => nI 0) 0 0 m1) 0 m1 m2 (m1 + i) = vs2 i
      rw [pk_cpy_in (by omega) (by omega)]
      congr 1
      omega
theorem PartsR_cat {tq : Nat → Option TV} {m1 m2 : Nat} {ts ts1 ts2 : Nat → Option Nat} {vs vs1 vs2 pk pb pl pv pp pk1 pb1 pl1 pv1 pp1 pk2 pb2 pl2 pv2 pp2 : Nat → Int32} (P1 : PartsR tq m1 ts1 vs1 pk1 pb1 pl1 pv1 pp1) (P2 : PartsR tq m2 ts2 vs2 pk2 pb2 pl2 pv2 pp2) (a : ∀ i, i < m1 → ts i = ts1 i ∧ vs i = vs1 i) (b : ∀ i, i < m2 → ts (m1 + i) = ts2 i ∧ vs (m1 + i) = vs2 i) (e1 : ∀ i, i < m1 + m2 → pk i = catF m1 pk1 pk2 i) (e2 : ∀ i, i < m1 + m2 → pb i = catF m1 pb1 pb2 i) (e3 : ∀ i, i < m1 + m2 → pl i = catF m1 pl1 pl2 i) (e4 : ∀ i, i < m1 + m2 → pv i = catF m1 pv1 pv2 i) (e5 : ∀ i, i < 4 * (m1 + m2) → pp i = catF (4 * m1) pp1 pp2 i) : PartsR tq (m1 + m2) ts vs pk pb pl pv pp := by
  intro i hi
  by_cases c : i < m1
  · obtain ⟨p1, p2, p3⟩ := P1 i c
    have ct : ∀ f g : Nat → Int32, catF m1 f g i = f i := fun f g => if_pos c
    rw [(a i c).1, (a i c).2, e1 i hi, e2 i hi, e3 i hi, e4 i hi, ct, ct, ct, ct]
    refine ⟨TestR_fr p1 rfl rfl rfl (fun j hj => ?_), p2, p3⟩
    show pp (4 * i + j) = pp1 (4 * i + j)
    rw [e5 _ (by omega)]
    exact if_pos (by omega)
  · obtain ⟨j, rfl⟩ : ∃ j, i = m1 + j := ⟨i - m1, by omega⟩
    have hj : j < m2 := by omega
    obtain ⟨p1, p2, p3⟩ := P2 j hj
    have ct : ∀ f g : Nat → Int32, catF m1 f g (m1 + j) = g j := fun f g => by
      unfold catF
      rw [if_neg c, Nat.add_sub_cancel_left]
    rw [(b j hj).1, (b j hj).2, e1 _ hi, e2 _ hi, e3 _ hi, e4 _ hi, ct, ct, ct, ct]
    refine ⟨TestR_fr p1 rfl rfl rfl (fun x hx => ?_), p2, p3⟩
    show pp (4 * (m1 + j) + x) = pp2 (4 * j + x)
    rw [e5 _ (by omega)]
    unfold catF
    rw [if_neg (by omega)]
    congr 1
    omega
