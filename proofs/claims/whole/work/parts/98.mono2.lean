set_option linter.unusedVariables false
/-! products in the class and in the reference -/
def GN (b k : Nat) (φ : Nat → Nat → Nat) (gn : Nat → Int32) : Prop := ∀ c j, c < k → j < b → gn (c * 400 + j) = nI (φ c j) ∧ φ c j < b
theorem foll_ok {b k m e c : Nat} {F φ : Nat → Nat → Nat} {im gn : Nat → Int32} (hb : b ≤ 400) (hk : k ≤ 3) (hm : m ≤ 400) (he : e < m) (hc : c < k) (I : IM b m F im) (G : GN b k φ gn) : Wp (f_X3_follow (nI e) (nI c) (nI m) (nI b) gn im) (fun u => IM b (m + 1) (va_up F m (fun p => φ c (F e p))) u) := by
  unfold f_X3_follow
  refine wp_seq (Q := fun u => ∀ j, u j = if m * b ≤ j ∧ j < m * b + b then nI (φ c (F e (j - m * b))) else im j) (wp_fill (m * b) 0 b (fun p => nI (φ c (F e p))) (by omega) (by omega) (fun p f h1 h2 hf => ?_) (fun f hf => ?_)) (fun u hu => wp_some (fun e' p he' hp => ?_))
  · have i1 := im_lt hb (show e ≤ 400 by omega) h2
    have i2 := im_lt hb hm h2
    have le : e * b + b ≤ m * b := by
      have : (e + 1) * b ≤ m * b := Nat.mul_le_mul_right b he
      rw [Nat.add_mul, Nat.one_mul] at this
      exact this
    obtain ⟨a1, a2⟩ := I e p he h2
    show b_X3_follow_2 (nI m) (nI b) gn (nI e) (nI c) f (nI p) = _
    unfold b_X3_follow_2
    rw [if_neg (show ¬ nI b ≤ nI p by rw [pI_le_iff (by omega) (by omega)]; omega), pI_mul, pI_add, ldA_n (by omega) (by omega), hf, if_neg (by omega), a1, pL400, pI_mul, pI_add, ldA_n (by omega) (by omega), (G c _ hc a2).1, pI_mul, pI_add, stA_n (by omega) (by omega), pL1, pI_add]
  · show Wp (b_X3_follow_2 (nI m) (nI b) gn (nI e) (nI c) f (nI b)) _
    unfold b_X3_follow_2
    rw [if_pos (Int32.le_refl _)]
    exact wp_r hf
  · rw [hu]
    by_cases ee : e' = m
    · rw [upE ee, ee, if_pos (by omega), Nat.add_sub_cancel_left]
      exact ⟨rfl, (G c _ hc (I e p he hp).2).2⟩
    · have le : e' * b + b ≤ m * b := by
        have : (e' + 1) * b ≤ m * b := Nat.mul_le_mul_right b (by omega)
        rw [Nat.add_mul, Nat.one_mul] at this
        exact this
      rw [upN ee, if_neg (by omega)]
      exact I e' p (by omega) hp
/-- the reference's elements -/
def EM (a m : Nat) (G : Nat → Nat → Nat) (el : Nat → Int32) : Prop := ∀ e i, e < m → i < a → el (400 * e + i) = nI (G e i) ∧ G e i < a
theorem prod_ok {n k a c e m : Nat} {nxt G : Nat → Nat → Nat} {g mem : Nat → Nat} {nx co me el pr : Nat → Int32} (hn : n ≤ 2000) (ha : a ≤ n) (ha4 : a ≤ 400) (hk : k ≤ 3) (hc : c < k) (N : NX1 k n nxt nx) (L : LB n a g mem co me) (hm : m ≤ 400) (he : e < m) (I : EM a m G el) : Wp (loopN (fun v => b_X12_monoidSize_94 (nI a) nx co me el (nI e) (nI c) v.1 v.2) FU (pr, (0 : Int32))) (fun u => ∀ i, i < a → u i = nI (g (nxt (mem (G e i)) c)) ∧ g (nxt (mem (G e i)) c) < a) := by
  refine wp_mono (P := fun u => ∀ j, u j = if 0 ≤ j ∧ j < 0 + a then nI (g (nxt (mem (G e (j - 0))) c)) else pr j) (wp_fill 0 0 a (fun i => nI (g (nxt (mem (G e i)) c))) (by omega) (by omega) (fun i f h1 h2 hf => ?_) (fun f hf => ?_)) (fun u hu i hi => ?_)
  · obtain ⟨a1, a2⟩ := I e i he h2
    obtain ⟨q1, q2⟩ := cb_ok hn ha hk hc N L a2
    show b_X12_monoidSize_94 (nI a) nx co me el (nI e) (nI c) f (nI i) = _
    unfold b_X12_monoidSize_94
    rw [if_neg (show ¬ nI a ≤ nI i by rw [pI_le_iff (by omega) (by omega)]; omega), pL400, pI_mul, pI_add, ldA_n (by omega) (by omega), a1, q1, ob_s, stA_n (by omega) (by omega), pL1, pI_add, Nat.zero_add]
  · show Wp (b_X12_monoidSize_94 (nI a) nx co me el (nI e) (nI c) f (nI a)) _
    unfold b_X12_monoidSize_94
    rw [if_pos (Int32.le_refl _)]
    exact wp_r hf
  · rw [hu i, if_pos (by omega), Nat.sub_zero]
    exact ⟨rfl, (cb_ok hn ha hk hc N L (I e i he hi).2).2⟩
theorem newpr_ok {a m : Nat} {G : Nat → Nat → Nat} {f : Nat → Nat} {el pr : Nat → Int32} (ha4 : a ≤ 400) (hm : m ≤ 400) (I : EM a m G el) (hp : ∀ i, i < a → pr i = nI (f i) ∧ f i < a) : Wp (f_X12_isNewProduct (nI a) (nI m) el pr) (fun u => (u = 0 ∧ ∃ r, r < m ∧ ∀ i, i < a → G r i = f i) ∨ (u = 1 ∧ ∀ r, r < m → ¬ ∀ i, i < a → G r i = f i)) := by
  unfold f_X12_isNewProduct
  refine wp_seq (Q := fun u => (u = .inl () ∧ ∃ r, r < m ∧ ∀ i, i < a → G r i = f i) ∨ (u = .inr () ∧ ∀ r, r < m → ¬ ∀ i, i < a → G r i = f i)) ?_ (fun u hu => ?_)
  · refine wp_up (fun e v => v = nI e ∧ ∀ r, r < e → ¬ ∀ i, i < a → G r i = f i) 0 m ⟨rfl, fun r h => by omega⟩ (by omega) (by omega) ?_ ?_
    · rintro e v h1 h2 ⟨rfl, X⟩
      show Wp (b_X12_isNewProduct_2 (nI a) (nI m) el pr (nI e)) _
      unfold b_X12_isNewProduct_2
      rw [if_neg (show ¬ nI m ≤ nI e by rw [pI_le_iff (by omega) (by omega)]; omega)]
      refine wp_seq (Q := fun u => (∃ i, i < a ∧ u = nI i ∧ G e i ≠ f i) ∨ (u = nI a ∧ ∀ i, i < a → G e i = f i)) ?_ (fun u hu => ?_)
      · refine wp_up (fun i v => v = nI i ∧ ∀ i', i' < i → G e i' = f i') 0 a ⟨rfl, fun r h => by omega⟩ (by omega) (by omega) ?_ ?_
        · rintro i v j1 j2 ⟨rfl, Y⟩
          obtain ⟨a1, a2⟩ := I e i h2 j2
          obtain ⟨b1, b2⟩ := hp i j2
          show Wp (b_X12_isNewProduct_12 (nI a) el pr (nI e) (nI i)) _
          unfold b_X12_isNewProduct_12
          rw [if_neg (show ¬ nI a ≤ nI i by rw [pI_le_iff (by omega) (by omega)]; omega), pL400, pI_mul, pI_add, ldA_n (by omega) (by omega), a1, ldA_n (by omega) (by omega), b1]
          by_cases c : G e i = f i
          · rw [if_pos (by rw [c])]
            refine wp_l ⟨pI_add, fun i' hi' => ?_⟩
            by_cases ei : i' = i
            · rw [ei]
              exact c
            · exact Y i' (by omega)
          · rw [if_neg (fun h => c (pI_inj (by omega) (by omega) h))]
            exact wp_r (Or.inl ⟨i, j2, rfl, c⟩)
        · rintro v ⟨rfl, Y⟩
          show Wp (b_X12_isNewProduct_12 (nI a) el pr (nI e) (nI a)) _
          unfold b_X12_isNewProduct_12
          rw [if_pos (Int32.le_refl _)]
          exact wp_r (Or.inr ⟨rfl, Y⟩)
      · rcases hu with ⟨i, hi, rfl, q⟩ | ⟨rfl, q⟩
        · rw [if_neg (show ¬ nI i = nI a from fun h => by have := pI_inj (by omega) (by omega) h; omega)]
          refine wp_l ⟨pI_add, fun r hr => ?_⟩
          by_cases er : r = e
          · rw [er]
            exact fun h => q (h i hi)
          · exact X r (by omega)
        · rw [if_pos rfl]
          exact wp_r (Or.inl ⟨rfl, e, h2, q⟩)
    · rintro v ⟨rfl, X⟩
      show Wp (b_X12_isNewProduct_2 (nI a) (nI m) el pr (nI m)) _
      unfold b_X12_isNewProduct_2
      rw [if_pos (Int32.le_refl _)]
      exact wp_r (Or.inr ⟨rfl, X⟩)
  · rcases hu with ⟨rfl, q⟩ | ⟨rfl, q⟩
    · exact wp_some (Or.inl ⟨rfl, q⟩)
    · exact wp_some (Or.inr ⟨rfl, q⟩)
theorem addpr_ok {a m : Nat} {G : Nat → Nat → Nat} {f : Nat → Nat} {el pr : Nat → Int32} (ha4 : a ≤ 400) (hm : m < 400) (I : EM a m G el) (hp : ∀ i, i < a → pr i = nI (f i) ∧ f i < a) : Wp (f_X12_addProduct pr (nI a) (nI m) el) (fun u => u.1 = nI (m + 1) ∧ EM a (m + 1) (va_up G m f) u.2) := by
  unfold f_X12_addProduct
  refine wp_seq (Q := fun u => ∀ j, u j = if 400 * m ≤ j ∧ j < 400 * m + a then nI (f (j - 400 * m)) else el j) (wp_fill (400 * m) 0 a (fun i => nI (f i)) (by omega) (by omega) (fun i f' h1 h2 hf => ?_) (fun f' hf => ?_)) (fun u hu => wp_some ⟨pI_add, fun e i he hi => ?_⟩)
  · show b_X12_addProduct_2 pr (nI a) (nI m) f' (nI i) = _
    unfold b_X12_addProduct_2
    rw [if_neg (show ¬ nI a ≤ nI i by rw [pI_le_iff (by omega) (by omega)]; omega), ldA_n (by omega) (by omega), (hp i h2).1, pL400, pI_mul, pI_add, stA_n (by omega) (by omega), pL1, pI_add]
  · show Wp (b_X12_addProduct_2 pr (nI a) (nI m) f' (nI a)) _
    unfold b_X12_addProduct_2
    rw [if_pos (Int32.le_refl _)]
    exact wp_r hf
  · show u (400 * e + i) = nI (va_up G m f e i) ∧ va_up G m f e i < a
    rw [hu]
    by_cases ee : e = m
    · rw [upE ee, ee, if_pos (by omega), Nat.add_sub_cancel_left]
      exact ⟨rfl, (hp i hi).2⟩
    · rw [upN ee, if_neg (by omega)]
      exact I e i (by omega) hi
