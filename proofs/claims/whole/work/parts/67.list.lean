set_option linter.unusedVariables false
/-! all words of a length, their signatures -/
theorem stN_congr {k b l : Nat} {p t t' : Nat → Int32} : ∀ L, (∀ i, i < L → t i = t' i) → stN k b l p t L = stN k b l p t' L
  | 0, _ => rfl
  | L + 1, h => by
    show tst k b l p (t L) (stN k b l p t L) = tst k b l p (t' L) (stN k b l p t' L)
    rw [stN_congr L (fun i hi => h i (by omega)), h L (by omega)]
def wSt (C : Nat) (K B N : Nat → Nat) (P : Nat → Nat → Int32) (k n w : Nat) : Nat → Nat → Nat := fun i => if i < C then stN (K i) (B i) (N i) (P i) (fun j => nI (spl k n w j)) n else fun _ => 0
theorem wSt_ok {C : Nat} {K B N : Nat → Nat} {P : Nat → Nat → Int32} {k n w : Nat} (hK : ∀ i, i < C → kOK (K i) (B i) (N i)) : sOK C K B N (wSt C K B N P k n w) := by
  refine ⟨fun i hi => ?_, fun i j => ?_⟩
  · unfold wSt
    rw [if_pos hi]
    exact stN_ok (hK i hi) n
  · unfold wSt
    by_cases hi : i < C
    · rw [if_pos hi]
      exact tOK_16 (hK i hi) (stN_ok (hK i hi) n) j
    · rw [if_neg hi]
      omega
theorem wSt_st {C : Nat} {K B N : Nat → Nat} {P : Nat → Nat → Int32} {k n w c : Nat} (hc : c < k) {i : Nat} (hi : i < C) : wSt C K B N P k (n + 1) (w * k + c) i = tst (K i) (B i) (N i) (P i) (nI c) (wSt C K B N P k n w i) := by
  have e1 : (w * k + c) / k = w := by
    rw [Nat.mul_comm, Nat.mul_add_div (by omega), Nat.div_eq_of_lt hc, Nat.add_zero]
  have e2 : (w * k + c) % k = c := by
    rw [Nat.mul_comm, Nat.mul_add_mod, Nat.mod_eq_of_lt hc]
  unfold wSt
  rw [if_pos hi, if_pos hi]
  show tst (K i) (B i) (N i) (P i) (nI (if n = n then (w * k + c) % k else spl k n ((w * k + c) / k) n)) (stN (K i) (B i) (N i) (P i) (fun j => nI (if j = n then (w * k + c) % k else spl k n ((w * k + c) / k) j)) n) = _
  rw [if_pos rfl, e1, e2, stN_congr (t' := fun j => nI (spl k n w j)) n (fun j hj => by show nI (if j = n then c else spl k n w j) = _; rw [if_neg (by omega)])]
/-- the list of the words of length n -/
def LST (C : Nat) (K B N : Nat → Nat) (P : Nat → Nat → Int32) (k n : Nat) (cnt : Int32) (low high : Nat → Int64) : Prop := cnt = nI (k ^ n) ∧ ∀ w, w < k ^ n → low w = pHf (wSt C K B N P k n w) C 0 ∧ high w = pHf (wSt C K B N P k n w) C 1
theorem pkH_0 {F : Nat → Nat} (h : ∀ i, F i = 0) : ∀ n, pkH F n = 0
  | 0 => rfl
  | n + 1 => by
    show pkH F n + F n * 65536 ^ n = 0
    rw [pkH_0 h n, h n, Nat.zero_mul]
theorem wSt_0 {C : Nat} {K B N : Nat → Nat} {P : Nat → Nat → Int32} {k h : Nat} : pHf (wSt C K B N P k 0 0) C h = 0 := by
  unfold pHf
  rw [pkH_0]
  · rfl
  · intro i
    show pk16 (wSt C K B N P k 0 0 (4 * h + i)) = 0
    unfold wSt
    by_cases c : 4 * h + i < C
    · rw [if_pos c]; rfl
    · rw [if_neg c]; rfl
theorem start_ok {C : Nat} {K B N : Nat → Nat} {P : Nat → Nat → Int32} {k : Nat} {cnt : Int32} {low high : Nat → Int64} : Wp (f_X10_start cnt low high) (fun o => LST C K B N P k 0 o.1 o.2.1 o.2.2) := by
  unfold f_X10_start
  rw [st0 (by omega) (by omega), st0 (by omega) (by omega)]
  refine wp_some ⟨rfl, fun w hw => ?_⟩
  have hw0 : w = 0 := by
    have : k ^ 0 = 1 := rfl
    omega
  subst hw0
  rw [wSt_0, wSt_0]
  show va_up low 0 0 0 = 0 ∧ va_up high 0 0 0 = 0
  exact ⟨upE rfl, upE rfl⟩
theorem len_in {tq : Nat → Option TV} {C : Nat} {mb : Nat → Option Nat} {K B N : Nat → Nat} {P : Nat → Nat → Int32} {k n w q : Nat} {low high : Nat → Int64} (hC : C ≤ 8) (hk : 1 ≤ k) (hk3 : k ≤ 3) (hw : w < q) (hq : q * k ≤ 2187) (hK : ∀ i, i < C → kOK (K i) (B i) (N i)) (D : BDat tq C mb K B N P) (I1 : ∀ x, w + 1 ≤ x → (w + 1) * k ≤ x → x < q * k → low x = pHf (wSt C K B N P k (n + 1) x) C 0 ∧ high x = pHf (wSt C K B N P k (n + 1) x) C 1) :
    Wp (loopN (fun v => b_X10_lengthen_43 tq (nI C) mb (nI k) (nI w) (pHf (wSt C K B N P k n w) C 0) (pHf (wSt C K B N P k n w) C 1) v.1 v.2.1 v.2.2) FU (low, high, (0 : Int32))) (fun o => (∀ x, x < w → o.1 x = low x ∧ o.2 x = high x) ∧ ∀ x, w * k ≤ x → x < q * k → o.1 x = pHf (wSt C K B N P k (n + 1) x) C 0 ∧ o.2 x = pHf (wSt C K B N P k (n + 1) x) C 1) := by
  have hW : w ≤ w * k := Nat.le_mul_of_pos_right w (by omega)
  have hW1 : (w + 1) * k = w * k + k := Nat.succ_mul w k
  have hWq : (w + 1) * k ≤ q * k := Nat.mul_le_mul_right k hw
  refine wp_up (fun c v => v.2.2 = nI c ∧ (∀ x, x < w → v.1 x = low x ∧ v.2.1 x = high x) ∧ (∀ x, w * k ≤ x → x < w * k + c → v.1 x = pHf (wSt C K B N P k (n + 1) x) C 0 ∧ v.2.1 x = pHf (wSt C K B N P k (n + 1) x) C 1) ∧ ∀ x, w * k + k ≤ x → x < q * k → v.1 x = pHf (wSt C K B N P k (n + 1) x) C 0 ∧ v.2.1 x = pHf (wSt C K B N P k (n + 1) x) C 1) 0 k ⟨rfl, fun x _ => ⟨rfl, rfl⟩, fun x h1 h2 => by omega, fun x h1 h2 => I1 x (by omega) (by omega) h2⟩ (by omega) (by omega) ?_ ?_
  · rintro c ⟨f, g, y⟩ h1 h2 ⟨hy, i1, i2, i3⟩
    simp only at hy i1 i2 i3
    subst hy
    have s0 := bstep_ok (h := 0) (c := nI c) hC (by omega) D (wSt_ok (k := k) (n := n) (w := w) (P := P) hK) (wSt_ok (k := k) (n := n + 1) (w := w * k + c) (P := P) hK) (fun i hi => wSt_st h2 hi)
    have s1 := bstep_ok (h := 1) (c := nI c) hC (by omega) D (wSt_ok (k := k) (n := n) (w := w) (P := P) hK) (wSt_ok (k := k) (n := n + 1) (w := w * k + c) (P := P) hK) (fun i hi => wSt_st h2 hi)
    show Wp (b_X10_lengthen_43 tq (nI C) mb (nI k) (nI w) (pHf (wSt C K B N P k n w) C 0) (pHf (wSt C K B N P k n w) C 1) f g (nI c)) _
    unfold b_X10_lengthen_43
    simp (disch := omega) only [↓reduceIte, if_pos, if_neg, ldA_n, stA_n, pI_add, pI_mul, pI_sub, pI_lt_iff, pI_le_iff, pI_eq_iff, ob_s, upE, upN, pI_dec2, asR_some, bitZ0, bitZ1, Sum.elim_inl, Sum.elim_inr, pL0, pL1, pL2, pL3, pL4, pL5, pL6, pL7, pL8, pL10, pL12, pL15, pL16, pL20, pL21, pL22, pL23, pL29, pL31, pL35, pL37, pL48, pL49, pL50, pL52, pL57, pL94, pL97, pL99, pL100, pL127, pL400, pL1000, pL1023, pL1024, pL2000, pL2001, pL2187, pL4095, pL4096, pL8191, pL8192, pL65535, s0, s1]
    refine wp_l ⟨rfl, fun x hx => ?_, fun x hx1 hx2 => ?_, fun x hx1 hx2 => ?_⟩
    · show va_up f (w * k + c) _ x = _ ∧ va_up g (w * k + c) _ x = _
      rw [upN (by omega), upN (by omega)]
      exact i1 x hx
    · show va_up f (w * k + c) _ x = _ ∧ va_up g (w * k + c) _ x = _
      by_cases e : x = w * k + c
      · rw [upE e, upE e, e]
        exact ⟨rfl, rfl⟩
      · rw [upN e, upN e]
        exact i2 x hx1 (by omega)
    · show va_up f (w * k + c) _ x = _ ∧ va_up g (w * k + c) _ x = _
      rw [upN (by omega), upN (by omega)]
      exact i3 x hx1 hx2
  · rintro ⟨f, g, y⟩ ⟨hy, i1, i2, i3⟩
    simp only at hy i1 i2 i3
    subst hy
    show Wp (b_X10_lengthen_43 tq (nI C) mb (nI k) (nI w) (pHf (wSt C K B N P k n w) C 0) (pHf (wSt C K B N P k n w) C 1) f g (nI k)) _
    unfold b_X10_lengthen_43
    rw [if_pos (Int32.le_refl _)]
    refine wp_r ⟨i1, fun x hx1 hx2 => ?_⟩
    by_cases e : x < w * k + k
    · exact i2 x hx1 e
    · exact i3 x (by omega) hx2
theorem len_ok {tq : Nat → Option TV} {C : Nat} {mb : Nat → Option Nat} {K B N : Nat → Nat} {P : Nat → Nat → Int32} {k n : Nat} {cnt : Int32} {low high : Nat → Int64} (hC : C ≤ 8) (hk : 1 ≤ k) (hk3 : k ≤ 3) (hn : n < 7) (hK : ∀ i, i < C → kOK (K i) (B i) (N i)) (D : BDat tq C mb K B N P) (H : LST C K B N P k n cnt low high) : Wp (f_X10_lengthen (nI k) tq (nI C) mb cnt low high) (fun o => LST C K B N P k (n + 1) o.1 o.2.1 o.2.2) := by
  obtain ⟨rfl, H⟩ := H
  have hp : k ^ n * k ≤ 2187 := by
    rw [← Nat.pow_succ]
    exact Nat.le_trans (Nat.pow_le_pow_left hk3 _) (Nat.le_trans (Nat.pow_le_pow_right (n := 3) (by omega) (show n + 1 ≤ 7 by omega)) (by decide))
  have hq1 : k ^ n ≤ k ^ n * k := Nat.le_mul_of_pos_right _ (by omega)
  have es : k ^ (n + 1) = k ^ n * k := Nat.pow_succ k n
  obtain ⟨q, hq⟩ : ∃ q, q = k ^ n := ⟨_, rfl⟩
  rw [← hq] at H hp hq1 es ⊢
  unfold f_X10_lengthen
  simp (disch := omega) only [↓reduceIte, if_pos, if_neg, ldA_n, stA_n, pI_add, pI_mul, pI_sub, pI_lt_iff, pI_le_iff, pI_eq_iff, ob_s, upE, upN, pI_dec2, asR_some, bitZ0, bitZ1, Sum.elim_inl, Sum.elim_inr, pL0, pL1, pL2, pL3, pL4, pL5, pL6, pL7, pL8, pL10, pL12, pL15, pL16, pL20, pL21, pL22, pL23, pL29, pL31, pL35, pL37, pL48, pL49, pL50, pL52, pL57, pL94, pL97, pL99, pL100, pL127, pL400, pL1000, pL1023, pL1024, pL2000, pL2001, pL2187, pL4095, pL4096, pL8191, pL8192, pL65535]
  refine wp_seq (Q := fun o => ∀ x, x < q * k → o.1 x = pHf (wSt C K B N P k (n + 1) x) C 0 ∧ o.2 x = pHf (wSt C K B N P k (n + 1) x) C 1) ?_ (fun u hu => wp_some ⟨by rw [es], fun w hw => hu w (by omega)⟩)
  refine wp_dn (fun i v => v.2.2 = nI i - nI 1 ∧ (∀ x, x < i → v.1 x = low x ∧ v.2.1 x = high x) ∧ ∀ x, i * k ≤ x → x < q * k → v.1 x = pHf (wSt C K B N P k (n + 1) x) C 0 ∧ v.2.1 x = pHf (wSt C K B N P k (n + 1) x) C 1) 0 q ⟨rfl, fun x _ => ⟨rfl, rfl⟩, fun x h1 h2 => by omega⟩ (by omega) (by omega) ?_ ?_
  · rintro i ⟨f, g, y⟩ h1 h2 ⟨hy, i1, i2⟩
    simp only at hy i1 i2
    subst hy
    obtain ⟨w, rfl⟩ : ∃ w, i = w + 1 := ⟨i - 1, by omega⟩
    have e1 := i1 w (by omega)
    have e2 := H w (by omega)
    rw [e2.1, e2.2] at e1
    show Wp (b_X10_lengthen_20 tq (nI C) mb (nI k) f g (nI (w + 1) - nI 1)) _
    unfold b_X10_lengthen_20
    rw [pI_sub (by omega), Nat.add_sub_cancel]
    simp (disch := omega) only [ldA_n, stA_n, pI_add, pI_mul, pI_sub, pI_lt_iff, pI_le_iff, pI_eq_iff, ob_s, upE, upN, pI_dec2, asR_some, bitZ0, bitZ1, Sum.elim_inl, Sum.elim_inr, pL0, pL1, pL2, pL3, pL4, pL5, pL6, pL7, pL8, pL10, pL12, pL15, pL16, pL20, pL21, pL22, pL23, pL29, pL31, pL35, pL37, pL48, pL49, pL50, pL52, pL57, pL94, pL97, pL99, pL100, pL127, pL400, pL1000, pL1023, pL1024, pL2000, pL2001, pL2187, pL4095, pL4096, pL8191, pL8192, pL65535]
    rw [if_neg (show ¬ w < 0 by omega), e1.1, e1.2]
    refine wp_seq (len_in hC hk hk3 (show w < q by omega) hp hK D (fun x _ h4 h5 => i2 x h4 h5)) (fun u hu => wp_l ⟨n_sub1, fun x hx => ?_, fun x hx1 hx2 => ?_⟩)
    · have a := hu.1 x hx
      have b := i1 x (by omega)
      exact ⟨a.1.trans b.1, a.2.trans b.2⟩
    · exact hu.2 x hx1 hx2
  · rintro ⟨f, g, y⟩ ⟨hy, i1, i2⟩
    simp only at hy i1 i2
    subst hy
    show Wp (b_X10_lengthen_20 tq (nI C) mb (nI k) f g (nI 0 - nI 1)) _
    unfold b_X10_lengthen_20
    rw [if_pos (show nI 0 - nI 1 < 0 from n1_neg)]
    exact wp_r (fun x hx => i2 x (by omega) hx)
/-- the signature of word x of length n -/
def sgW (T : Nat) (K B N : Nat → Nat) (P : Nat → Nat → Int32) (k n x : Nat) : Int32 := sg (fun t => nI (vN (K t) (B t) (N t) (P t) (fun j => nI (spl k n x j)) n)) (fun t => nI (rN (K t) (B t))) T T
theorem sign_ok {tq : Nat → Option TV} {C : Nat} {mb : Nat → Option Nat} {K B N : Nat → Nat} {P : Nat → Nat → Int32} {k n : Nat} {cnt : Int32} {low high : Nat → Int64} {s0 : Nat → Int32} (hC : C ≤ 8) (hq : k ^ n ≤ 2187) (hK : ∀ i, i < C → kOK (K i) (B i) (N i)) (D : BDat tq C mb K B N P) (H : LST C K B N P k n cnt low high) : Wp (f_X10_sign tq cnt (nI C) low high mb s0) (fun o => ∀ w, w < k ^ n → o w = sgW C K B N P k n w) := by
  obtain ⟨rfl, H⟩ := H
  unfold f_X10_sign
  refine wp_seq (Q := fun o => ∀ w, w < k ^ n → o w = sgW C K B N P k n w) ?_ (fun u hu => wp_some hu)
  refine wp_fill 0 0 (k ^ n) (fun w => sgW C K B N P k n w) (by omega) (by omega) (fun i f h1 h2 hf => ?_) (fun f hf => ?_)
  · have e := H i h2
    have es := bsig_ok hC D (wSt_ok (k := k) (n := n) (w := i) (P := P) hK)
    have e3 : sg (fun t => nI (vS (K t) (N t) (wSt C K B N P k n i t))) (fun t => nI (rN (K t) (B t))) C C = sgW C K B N P k n i := by
      refine sg_congr (fun t ht => ⟨?_, rfl⟩) C (Nat.le_refl _)
      show nI (vS (K t) (N t) (wSt C K B N P k n i t)) = nI (vN (K t) (B t) (N t) (P t) (fun j => nI (spl k n i j)) n)
      unfold wSt
      rw [if_pos ht, vS_N (hK t ht)]
    rw [e3] at es
    show b_X10_sign_2 tq (nI (k ^ n)) (nI C) low high mb f (nI i) = _
    unfold b_X10_sign_2
    simp (disch := omega) only [↓reduceIte, if_pos, if_neg, ldA_n, stA_n, pI_add, pI_mul, pI_sub, pI_lt_iff, pI_le_iff, pI_eq_iff, ob_s, upE, upN, pI_dec2, asR_some, bitZ0, bitZ1, Sum.elim_inl, Sum.elim_inr, pL0, pL1, pL2, pL3, pL4, pL5, pL6, pL7, pL8, pL10, pL12, pL15, pL16, pL20, pL21, pL22, pL23, pL29, pL31, pL35, pL37, pL48, pL49, pL50, pL52, pL57, pL94, pL97, pL99, pL100, pL127, pL400, pL1000, pL1023, pL1024, pL2000, pL2001, pL2187, pL4095, pL4096, pL8191, pL8192, pL65535, e.1, e.2, es, Nat.zero_add]
  · show Wp (b_X10_sign_2 tq (nI (k ^ n)) (nI C) low high mb f (nI (k ^ n))) _
    unfold b_X10_sign_2
    rw [if_pos (Int32.le_refl _)]
    exact wp_r (fun w hw => by rw [hf, if_pos (by omega), Nat.sub_zero])
theorem pow_le {k n : Nat} (hk3 : k ≤ 3) (hn : n ≤ 7) : k ^ n ≤ 2187 := Nat.le_trans (Nat.pow_le_pow_left hk3 _) (Nat.le_trans (Nat.pow_le_pow_right (n := 3) (by omega) hn) (by decide))
theorem list_ok {tq : Nat → Option TV} {C : Nat} {mb : Nat → Option Nat} {K B N : Nat → Nat} {P : Nat → Nat → Int32} {k n : Nat} {cnt : Int32} {low high : Nat → Int64} {s0 : Nat → Int32} (hC : C ≤ 8) (hk : 1 ≤ k) (hk3 : k ≤ 3) (hn : n ≤ 7) (hK : ∀ i, i < C → kOK (K i) (B i) (N i)) (D : BDat tq C mb K B N P) : Wp (f_X10_list (nI k) (nI n) tq (nI C) mb cnt low high s0) (fun o => o.1 = nI (k ^ n) ∧ ∀ w, w < k ^ n → o.2.2.2 w = sgW C K B N P k n w) := by
  unfold f_X10_list
  refine wp_seq (start_ok (C := C) (K := K) (B := B) (N := N) (P := P) (k := k)) (fun u hu => wp_seq (Q := fun o => LST C K B N P k n o.1 o.2.1 o.2.2) ?_ (fun v hv => wp_seq (sign_ok hC (pow_le hk3 hn) hK D hv) (fun z hz => wp_some ⟨hv.1, hz⟩)))
  refine wp_up (fun i v => v.2.2.2 = nI i ∧ LST C K B N P k i v.1 v.2.1 v.2.2.1) 0 n ⟨rfl, hu⟩ (by omega) (by omega) ?_ ?_
  · rintro i ⟨a, f, g, y⟩ h1 h2 ⟨hy, hl⟩
    simp only at hy hl
    subst hy
    show Wp (b_X10_list_7 tq (nI C) mb (nI k) (nI n) a f g (nI i)) _
    unfold b_X10_list_7
    simp (disch := omega) only [↓reduceIte, if_pos, if_neg, ldA_n, stA_n, pI_add, pI_mul, pI_sub, pI_lt_iff, pI_le_iff, pI_eq_iff, ob_s, upE, upN, pI_dec2, asR_some, bitZ0, bitZ1, Sum.elim_inl, Sum.elim_inr, pL0, pL1, pL2, pL3, pL4, pL5, pL6, pL7, pL8, pL10, pL12, pL15, pL16, pL20, pL21, pL22, pL23, pL29, pL31, pL35, pL37, pL48, pL49, pL50, pL52, pL57, pL94, pL97, pL99, pL100, pL127, pL400, pL1000, pL1023, pL1024, pL2000, pL2001, pL2187, pL4095, pL4096, pL8191, pL8192, pL65535]
    exact wp_seq (len_ok hC hk hk3 (by omega) hK D hl) (fun w hw => wp_l ⟨rfl, hw⟩)
  · rintro ⟨a, f, g, y⟩ ⟨hy, hl⟩
    simp only at hy hl
    subst hy
    show Wp (b_X10_list_7 tq (nI C) mb (nI k) (nI n) a f g (nI n)) _
    unfold b_X10_list_7
    rw [if_pos (Int32.le_refl _)]
    exact wp_r hl
theorem spell_ok {w n x k : Nat} {wl wd : Nat → Int32} (hw : w < 3) (hn : n ≤ 12) (hx : x < 2 ^ 31) (hk : 1 ≤ k) (hk3 : k ≤ 3) : Wp (f_X12_spell (nI w) (nI n) (nI x) (nI k) wl wd) (fun o => o.1 = va_up wl w (nI n) ∧ (∀ j, j < n → o.2 (12 * w + j) = nI (spl k n x j)) ∧ ∀ j, j < 12 * w ∨ 12 * w + 12 ≤ j → o.2 j = wd j) := by
  unfold f_X12_spell
  rw [stA_n hw (by omega)]
  refine wp_seq (Q := fun u => (∀ j, j < n → nI (spl k n x j) = u (12 * w + j)) ∧ ∀ j, j < 12 * w ∨ 12 * w + 12 ≤ j → u j = wd j) ?_ (fun u hu => wp_some ⟨rfl, fun j hj => (hu.1 j hj).symm, hu.2⟩)
  refine wp_dn (fun m v => v.2.2 = nI m - nI 1 ∧ (∃ r, r < 2 ^ 31 ∧ v.2.1 = nI r ∧ ∀ j, j < n → nI (spl k n x j) = if j < m then nI (spl k m r j) else v.1 (12 * w + j)) ∧ ∀ j, j < 12 * w ∨ 12 * w + 12 ≤ j → v.1 j = wd j) 0 n ⟨rfl, ⟨x, hx, rfl, fun j hj => by rw [if_pos hj]⟩, fun _ _ => rfl⟩ (by omega) (by omega) ?_ ?_
  · rintro m ⟨g, y, z⟩ h1 h2 ⟨hz, ⟨r, hr, hy, hg⟩, hg2⟩
    simp only at hz hy hg hg2
    subst hz hy
    have hrk : r / k < 2 ^ 31 := Nat.lt_of_le_of_lt (Nat.div_le_self _ _) hr
    show Wp (b_X12_spell_15 (nI k) (nI w) g (nI r) (nI m - nI 1)) _
    unfold b_X12_spell_15
    have hs := spell_st h1 hg
    simp (disch := omega) only [↓reduceIte, if_pos, if_neg, ldA_n, stA_n, pI_add, pI_mul, pI_sub, pI_lt_iff, pI_le_iff, pI_eq_iff, ob_s, upE, upN, pI_dec2, asR_some, bitZ0, bitZ1, Sum.elim_inl, Sum.elim_inr, pL0, pL1, pL2, pL3, pL4, pL5, pL6, pL7, pL8, pL10, pL12, pL15, pL16, pL20, pL21, pL22, pL23, pL29, pL31, pL35, pL37, pL48, pL49, pL50, pL52, pL57, pL94, pL97, pL99, pL100, pL127, pL400, pL1000, pL1023, pL1024, pL2000, pL2001, pL2187, pL4095, pL4096, pL8191, pL8192, pL65535, rmI_n, dvI_n, n_sub1]
    exact wp_l ⟨rfl, ⟨r / k, hrk, rfl, hs⟩, fun j hj => (upN (by omega)).trans (hg2 j hj)⟩
  · rintro ⟨g, y, z⟩ ⟨hz, ⟨r, hr, hy, hg⟩, hg2⟩
    simp only at hz hy hg hg2
    subst hz hy
    show Wp (b_X12_spell_15 (nI k) (nI w) g (nI r) (nI 0 - nI 1)) _
    unfold b_X12_spell_15
    rw [if_pos (show nI 0 - nI 1 < 0 from n1_neg)]
    refine wp_r ⟨fun j hj => ?_, hg2⟩
    rw [hg j hj, if_neg (by omega)]
theorem fsig_ok {tq : Nat → Option TV} {T : Nat} {mb : Nat → Option Nat} {K B N : Nat → Nat} {P : Nat → Nat → Int32} {k n : Nat} {sd : Int32} {kd bd ln pt wl wd pf s0 hd : Nat → Int32} (hT : T ≤ 6) (hk : 1 ≤ k) (hk3 : k ≤ 3) (hn : n ≤ 7) (D : TDat tq T mb kd bd ln pt K B N) (hP : ∀ t, t < T → ∀ i, i < N t → P t i = pt (4 * t + i)) : Wp (f_X12_findSignatures (nI n) kd bd ln pt (nI k) (nI T) sd wl wd pf s0 hd) (fun o => o.1 = nI (k ^ n) ∧ (∀ v, o.2.1 v = wl v) ∧ (∀ j, o.2.2.1 j = wd j) ∧ ∀ x, x < k ^ n → o.2.2.2.2.1 x = sgW T K B N P k n x) := by
  have hq := pow_le hk3 hn
  unfold f_X12_findSignatures
  rw [ld0 (by omega) (by omega)]
  refine wp_seq (Q := fun h => ∀ j, j < 12 → h j = wd j) (wp_fill 0 0 12 (fun j => wd j) (by omega) (by omega) (fun i f h1 h2 hf => ?_) (fun f hf => ?_)) (fun h hh => ?_)
  · show b_X12_findSignatures_9 wd f (nI i) = _
    unfold b_X12_findSignatures_9
    simp (disch := omega) only [↓reduceIte, if_pos, if_neg, ldA_n, stA_n, pI_add, pI_mul, pI_sub, pI_lt_iff, pI_le_iff, pI_eq_iff, ob_s, upE, upN, pI_dec2, asR_some, bitZ0, bitZ1, Sum.elim_inl, Sum.elim_inr, pL0, pL1, pL2, pL3, pL4, pL5, pL6, pL7, pL8, pL10, pL12, pL15, pL16, pL20, pL21, pL22, pL23, pL29, pL31, pL35, pL37, pL48, pL49, pL50, pL52, pL57, pL94, pL97, pL99, pL100, pL127, pL400, pL1000, pL1023, pL1024, pL2000, pL2001, pL2187, pL4095, pL4096, pL8191, pL8192, pL65535, Nat.zero_add]
  · show Wp (b_X12_findSignatures_9 wd f (nI 12)) _
    unfold b_X12_findSignatures_9
    rw [if_pos (show (12 : Int32) ≤ nI 12 by decide)]
    exact wp_r (fun j hj => by rw [hf, if_pos (by omega), Nat.sub_zero])
  refine wp_seq (Q := fun s => s = nI (k ^ n)) (wp_up (fun i v => v.2 = nI i ∧ v.1 = nI (k ^ i)) 0 n ⟨rfl, rfl⟩ (by omega) (by omega) ?_ ?_) (fun s hs => ?_)
  · rintro i ⟨x, y⟩ h1 h2 ⟨hy, hx⟩
    simp only at hy hx
    subst hy hx
    show Wp (b_X12_findSignatures_40 (nI k) (nI n) (nI (k ^ i)) (nI i)) _
    unfold b_X12_findSignatures_40
    simp (disch := omega) only [↓reduceIte, if_pos, if_neg, ldA_n, stA_n, pI_add, pI_mul, pI_sub, pI_lt_iff, pI_le_iff, pI_eq_iff, ob_s, upE, upN, pI_dec2, asR_some, bitZ0, bitZ1, Sum.elim_inl, Sum.elim_inr, pL0, pL1, pL2, pL3, pL4, pL5, pL6, pL7, pL8, pL10, pL12, pL15, pL16, pL20, pL21, pL22, pL23, pL29, pL31, pL35, pL37, pL48, pL49, pL50, pL52, pL57, pL94, pL97, pL99, pL100, pL127, pL400, pL1000, pL1023, pL1024, pL2000, pL2001, pL2187, pL4095, pL4096, pL8191, pL8192, pL65535]
    exact wp_l ⟨rfl, rfl⟩
  · rintro ⟨x, y⟩ ⟨hy, hx⟩
    simp only at hy hx
    subst hy hx
    show Wp (b_X12_findSignatures_40 (nI k) (nI n) (nI (k ^ n)) (nI n)) _
    unfold b_X12_findSignatures_40
    rw [if_pos (Int32.le_refl _)]
    exact wp_r rfl
  subst hs
  rw [st0 (by omega) (by omega)]
  refine wp_seq (Q := fun o => (∀ v, v ≠ 0 → o.1 v = wl v) ∧ (∀ j, 12 ≤ j → o.2.1 j = wd j) ∧ ∀ x, x < k ^ n → o.2.2.2 x = sgW T K B N P k n x) (wp_up (fun i v => v.2.2.2.2 = nI i ∧ (∀ c, c ≠ 0 → v.1 c = wl c) ∧ (∀ j, 12 ≤ j → v.2.1 j = wd j) ∧ ∀ x, x < i → v.2.2.2.1 x = sgW T K B N P k n x) 0 (k ^ n) ⟨rfl, fun c hc => upN hc, fun j _ => rfl, fun x hx => by omega⟩ (by omega) (by omega) ?_ ?_) (fun o ho => ?_)
  · rintro i ⟨f1, f2, f3, f4, y⟩ h1 h2 ⟨hy, i1, i2, i3⟩
    simp only at hy i1 i2 i3
    subst hy
    show Wp (b_X12_findSignatures_73 kd bd ln pt (nI k) (nI T) (nI (k ^ n)) (nI n) f1 f2 f3 f4 (nI i)) _
    unfold b_X12_findSignatures_73
    rw [if_neg (show ¬ nI (k ^ n) ≤ nI i by rw [pI_le_iff (by omega) (by omega)]; omega)]
    refine wp_seq (spell_ok (w := 0) (n := n) (x := i) (by omega) (by omega) (by omega) hk hk3) (fun u hu => wp_seq (sig2_ok (w := 0) (L := n) hT D (by omega) (by omega) (by rw [hu.1, upE rfl])) (fun v hv => ?_))
    simp (disch := omega) only [↓reduceIte, if_pos, if_neg, ldA_n, stA_n, pI_add, pI_mul, pI_sub, pI_lt_iff, pI_le_iff, pI_eq_iff, ob_s, upE, upN, pI_dec2, asR_some, bitZ0, bitZ1, Sum.elim_inl, Sum.elim_inr, pL0, pL1, pL2, pL3, pL4, pL5, pL6, pL7, pL8, pL10, pL12, pL15, pL16, pL20, pL21, pL22, pL23, pL29, pL31, pL35, pL37, pL48, pL49, pL50, pL52, pL57, pL94, pL97, pL99, pL100, pL127, pL400, pL1000, pL1023, pL1024, pL2000, pL2001, pL2187, pL4095, pL4096, pL8191, pL8192, pL65535]
    refine wp_l ⟨rfl, fun c hc => ?_, fun j hj => ?_, fun x hx => ?_⟩
    · show u.1 c = wl c
      rw [hu.1, upN hc, i1 c hc]
    · show u.2 j = wd j
      rw [hu.2.2 j (by omega), i2 j hj]
    · show va_up f4 i v.1 x = _
      by_cases e : x = i
      · rw [upE e, hv, e]
        refine sg_congr (fun t ht => ⟨?_, rfl⟩) T (Nat.le_refl _)
        show nI _ = nI _
        rw [vN_congr (p' := P t) (t' := fun j => nI (spl k n i j)) (fun c hc => (hP t ht c hc).symm) (fun j hj => hu.2.1 j hj)]
      · rw [upN e]
        exact i3 x (by omega)
  · rintro ⟨f1, f2, f3, f4, y⟩ ⟨hy, i1, i2, i3⟩
    simp only at hy i1 i2 i3
    subst hy
    show Wp (b_X12_findSignatures_73 kd bd ln pt (nI k) (nI T) (nI (k ^ n)) (nI n) f1 f2 f3 f4 (nI (k ^ n))) _
    unfold b_X12_findSignatures_73
    rw [if_pos (Int32.le_refl _)]
    exact wp_r ⟨i1, i2, i3⟩
  obtain ⟨o1, o2, o3⟩ := ho
  rw [st0 (by omega) (by omega)]
  refine wp_seq (Q := fun g => ∀ j, g j = wd j) (wp_fill 0 0 12 (fun j => wd j) (by omega) (by omega) (fun i f h1 h2 hf => ?_) (fun f hf => ?_)) (fun g hg => wp_some ⟨rfl, fun v => ?_, hg, o3⟩)
  · show b_X12_findSignatures_114 h f (nI i) = _
    unfold b_X12_findSignatures_114
    have e := hh i h2
    simp (disch := omega) only [↓reduceIte, if_pos, if_neg, ldA_n, stA_n, pI_add, pI_mul, pI_sub, pI_lt_iff, pI_le_iff, pI_eq_iff, ob_s, upE, upN, pI_dec2, asR_some, bitZ0, bitZ1, Sum.elim_inl, Sum.elim_inr, pL0, pL1, pL2, pL3, pL4, pL5, pL6, pL7, pL8, pL10, pL12, pL15, pL16, pL20, pL21, pL22, pL23, pL29, pL31, pL35, pL37, pL48, pL49, pL50, pL52, pL57, pL94, pL97, pL99, pL100, pL127, pL400, pL1000, pL1023, pL1024, pL2000, pL2001, pL2187, pL4095, pL4096, pL8191, pL8192, pL65535, Nat.zero_add, e]
  · show Wp (b_X12_findSignatures_114 h f (nI 12)) _
    unfold b_X12_findSignatures_114
    rw [if_pos (show (12 : Int32) ≤ nI 12 by decide)]
    refine wp_r (fun j => ?_)
    rw [hf]
    by_cases e : 0 + 0 ≤ j ∧ j < 0 + 12
    · rw [if_pos e, Nat.sub_zero]
    · rw [if_neg e, o2 j (by omega)]
  · show va_up o.1 0 (wl 0) v = wl v
    by_cases e : v = 0
    · rw [upE e, e]
    · rw [upN e, o1 v e]
