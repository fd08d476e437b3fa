set_option linter.unusedVariables false
/-! isGroup -/
def ij (b : Nat) (f : Nat → Nat) : Prop := ∀ i j, i < b → j < b → f i = f j → i = j
theorem ij_lab {n b k c : Nat} {nxt : Nat → Nat → Nat} {mk f r : Nat → Nat} (hN : ∀ s c, s < n → c < k → nxt s c < n) (hc : c < k) (h1 : ∀ x, x < n → f x < b) (h2 : ∀ j, j < b → r j < n ∧ f (r j) = j) (h3 : ∀ x y, x < n → y < n → (f x = f y ↔ eqv n k nxt mk x y)) : ij b (fun j => f (nxt (r j) c)) ↔ ∀ x y, x < n → y < n → eqv n k nxt mk (nxt x c) (nxt y c) → eqv n k nxt mk x y := by
  have st : ∀ x, x < n → f (nxt (r (f x)) c) = f (nxt x c) := fun x hx => by
    obtain ⟨a1, a2⟩ := h2 (f x) (h1 x hx)
    exact (h3 _ _ (hN _ c a1 hc) (hN x c hx hc)).mpr (eqv_d ((h3 _ _ a1 hx).mp a2) a1 hx hc)
  constructor
  · intro h x y hx hy e
    refine (h3 x y hx hy).mp (h (f x) (f y) (h1 x hx) (h1 y hy) ?_)
    show f (nxt (r (f x)) c) = f (nxt (r (f y)) c)
    rw [st x hx, st y hy]
    exact (h3 _ _ (hN x c hx hc) (hN y c hy hc)).mpr e
  · intro h i j hi hj e
    obtain ⟨a1, a2⟩ := h2 i hi
    obtain ⟨b1, b2⟩ := h2 j hj
    have := (h3 _ _ a1 b1).mpr (h _ _ a1 b1 ((h3 _ _ (hN _ c a1 hc) (hN _ c b1 hc)).mp e))
    rw [a2, b2] at this
    exact this
theorem ij_cn {a : Nat} {f : Nat → Nat} (hf : ∀ i, i < a → f i < a) : ij a f ↔ ∀ i, i < a → cn (fun x _ => f x) 0 i a = 1 := by
  constructor
  · intro h
    have le1 : ∀ i t, t ≤ a → cn (fun x _ => f x) 0 i t ≤ 1 := by
      intro i t
      induction t with
      | zero => intro _; exact Nat.zero_le _
      | succ t ih =>
        intro ht
        rw [cn_s]
        by_cases e : f t = i
        · have : cn (fun x _ => f x) 0 i t = 0 := cntN_none (fun x hx => decide_eq_false (fun e2 => by
            have e2 : f x = i := e2
            have := h x t (by omega) (by omega) (e2.trans e.symm)
            omega))
          rw [if_pos e, this]
          exact Nat.le_refl _
        · rw [if_neg e]
          exact ih (by omega)
    have sm : ∀ y, cs (fun x _ => f x) 0 a y ≤ y ∧ ∀ i, i < y → cn (fun x _ => f x) 0 i a = 0 → cs (fun x _ => f x) 0 a y < y := by
      intro y
      induction y with
      | zero => exact ⟨by rw [cs_0]; exact Nat.le_refl _, fun i hi => by omega⟩
      | succ y ih =>
        have q := le1 y a (Nat.le_refl _)
        rw [cs_s]
        refine ⟨by omega, fun i hi e => ?_⟩
        by_cases ei : i = y
        · rw [ei] at e
          omega
        · have := ih.2 i (by omega) e
          omega
    intro i hi
    have full : cs (fun x _ => f x) 0 a a = a := cntN_all (fun x hx => decide_eq_true (hf x hx))
    have l := le1 i a (Nat.le_refl _)
    by_cases e : cn (fun x _ => f x) 0 i a = 0
    · have := (sm a).2 i hi e
      omega
    · omega
  · intro h
    have key : ∀ i j, i < j → j < a → f i = f j → False := by
      intro i j hij hj e
      have c1 : cn (fun x _ => f x) 0 (f j) (i + 1) = cn (fun x _ => f x) 0 (f j) i + 1 := by rw [cn_s, if_pos e]
      have c2 : cn (fun x _ => f x) 0 (f j) (j + 1) = cn (fun x _ => f x) 0 (f j) j + 1 := by rw [cn_s, if_pos rfl]
      have c3 : cn (fun x _ => f x) 0 (f j) (i + 1) ≤ cn (fun x _ => f x) 0 (f j) j := cntN_mon (by omega)
      have c4 : cn (fun x _ => f x) 0 (f j) (j + 1) ≤ cn (fun x _ => f x) 0 (f j) a := cntN_mon (by omega)
      have := h (f j) (hf j hj)
      omega
    intro i j hi hj e
    rcases Nat.lt_trichotomy i j with l | l | l
    · exact (key i j l hj e).elim
    · exact l
    · exact (key j i l hi e.symm).elim
theorem hit_ok {b : Nat} {ht : Nat → Int32} (hb : b ≤ 2000) : Wp (loopN (fun v => b_X4_isPermuted_12 (nI b) v.1 v.2) FU (ht, (0 : Int32))) (fun u => ∀ j, j < b → u j = nI 0) := by
  refine wp_fill 0 0 b (fun _ => nI 0) (by omega) (by omega) (fun i f h1 h2 hf => ?_) (fun f hf => ?_)
  · show b_X4_isPermuted_12 (nI b) f (nI i) = _
    unfold b_X4_isPermuted_12
    rw [if_neg (show ¬ nI b ≤ nI i by rw [pI_le_iff (by omega) (by omega)]; omega), stA_n (by omega) (by omega), pL1, pI_add, Nat.zero_add]
    rfl
  · show Wp (b_X4_isPermuted_12 (nI b) f (nI b)) _
    unfold b_X4_isPermuted_12
    rw [if_pos (Int32.le_refl _)]
    refine wp_r (fun j hj => ?_)
    rw [hf j, if_pos (by omega)]
theorem zer_ok {b : Nat} {ht : Nat → Int32} (hb : b ≤ 2000) : Wp (loopN (fun v => b_X12_isGroup_38 (nI b) v.1 v.2) FU (ht, (0 : Int32))) (fun u => ∀ j, j < b → u j = nI 0) := by
  refine wp_fill 0 0 b (fun _ => nI 0) (by omega) (by omega) (fun i f h1 h2 hf => ?_) (fun f hf => ?_)
  · show b_X12_isGroup_38 (nI b) f (nI i) = _
    unfold b_X12_isGroup_38
    rw [if_neg (show ¬ nI b ≤ nI i by rw [pI_le_iff (by omega) (by omega)]; omega), stA_n (by omega) (by omega), pL1, pI_add, Nat.zero_add]
    rfl
  · show Wp (b_X12_isGroup_38 (nI b) f (nI b)) _
    unfold b_X12_isGroup_38
    rw [if_pos (Int32.le_refl _)]
    refine wp_r (fun j hj => ?_)
    rw [hf j, if_pos (by omega)]
theorem nb_ok {n k b c j : Nat} {nxt : Nat → Nat → Nat} {mm pl bo fi sz : Nat → Nat} {nx ms ps bs fs ss : Nat → Int32} (hn : n ≤ 2000) (hk : k ≤ 3) (hc : c < k) (N : NX1 k n nxt nx) (D : PD n b mm pl bo fi sz ms ps bs fs ss) (hj : j < b) : f_X4_nextBlock (nI j) (nI c) ms bs fs nx = some (nI (bo (nxt (mm (fi j)) c))) ∧ bo (nxt (mm (fi j)) c) < b ∧ mm (fi j) < n ∧ bo (mm (fi j)) = j := by
  have hb := PD_b D
  obtain ⟨p1, p2, p3, p4⟩ := D
  obtain ⟨f1, _, f3, f4⟩ := p3 j hj
  obtain ⟨m1, m2, m3⟩ := p1 (fi j) (by omega)
  obtain ⟨n1, n2⟩ := N _ c m2 hc
  refine ⟨?_, (p2 _ n1).2.2.2.2, m2, (p4 _ j m2 hj).mpr (by rw [m3]; omega)⟩
  unfold f_X4_nextBlock
  rw [ldA_n (by omega) (by omega), f1, ldA_n (by omega) (by omega), m1, pL3, pI_mul, pI_add, show mm (fi j) * 3 + c = 3 * mm (fi j) + c by omega, ldA_n (by omega) (by omega), n2, ldA_n (by omega) (by omega), (p2 _ n1).2.2.2.1]
theorem pin_ok {n k b c : Nat} {nxt : Nat → Nat → Nat} {mm pl bo fi sz : Nat → Nat} {nx ms ps bs fs ss ht : Nat → Int32} (hn : n ≤ 2000) (hk : k ≤ 3) (hc : c < k) (N : NX1 k n nxt nx) (D : PD n b mm pl bo fi sz ms ps bs fs ss) (h0 : ∀ j, j < b → ht j = nI 0) : Wp (loopN (fun v => b_X4_isPermuted_35 (nI b) ms bs fs nx (nI c) v.1 v.2) FU (ht, (0 : Int32))) (fun u => (∃ h, u = .inl h ∧ ¬ ij b (fun j => bo (nxt (mm (fi j)) c))) ∨ ∃ h, u = .inr h ∧ ij b (fun j => bo (nxt (mm (fi j)) c))) := by
  have hb := PD_b D
  refine wp_up (fun j v => v.2 = nI j ∧ ij j (fun j => bo (nxt (mm (fi j)) c)) ∧ ∀ i, i < b → ((v.1 i = nI 1 ∧ ∃ j', j' < j ∧ bo (nxt (mm (fi j')) c) = i) ∨ (v.1 i = nI 0 ∧ ∀ j', j' < j → bo (nxt (mm (fi j')) c) ≠ i))) 0 b ⟨rfl, fun i j hi => by omega, fun i hi => Or.inr ⟨h0 i hi, fun j' h => by omega⟩⟩ (by omega) (by omega) ?_ ?_
  · rintro j ⟨x, y⟩ h1 h2 ⟨hy, I, X⟩
    simp only at hy X
    subst hy
    obtain ⟨q1, q2, _, _⟩ := nb_ok hn hk hc N D h2
    show Wp (b_X4_isPermuted_35 (nI b) ms bs fs nx (nI c) x (nI j)) _
    unfold b_X4_isPermuted_35
    rw [if_neg (show ¬ nI b ≤ nI j by rw [pI_le_iff (by omega) (by omega)]; omega), q1, ob_s, ldA_n (by omega) (by omega)]
    rcases X _ q2 with ⟨a1, j', a2, a3⟩ | ⟨a1, a2⟩
    · rw [a1, if_pos (show nI 1 = (1 : Int32) from rfl)]
      refine wp_r (Or.inl ⟨x, rfl, fun h => ?_⟩)
      have := h j' j (by omega) h2 a3
      omega
    · rw [a1, if_neg (show ¬ nI 0 = (1 : Int32) by decide), stA_n (by omega) (by omega)]
      refine wp_l ⟨pI_add, fun i i' hi hi' e => ?_, fun i hi => ?_⟩
      · by_cases e1 : i = j
        · by_cases e2 : i' = j
          · omega
          · rw [e1] at e
            exact absurd e.symm (a2 i' (by omega))
        · by_cases e2 : i' = j
          · rw [e2] at e
            exact absurd e (a2 i (by omega))
          · exact I i i' (by omega) (by omega) e
      · show (va_up x (bo (nxt (mm (fi j)) c)) (1 : Int32) i = nI 1 ∧ _) ∨ (va_up x (bo (nxt (mm (fi j)) c)) (1 : Int32) i = nI 0 ∧ _)
        by_cases e : i = bo (nxt (mm (fi j)) c)
        · rw [upE e]
          exact Or.inl ⟨rfl, j, by omega, e.symm⟩
        · rw [upN e]
          rcases X i hi with ⟨b1, j', b2, b3⟩ | ⟨b1, b2⟩
          · exact Or.inl ⟨b1, j', by omega, b3⟩
          · refine Or.inr ⟨b1, fun j' hj' => ?_⟩
            by_cases ej : j' = j
            · rw [ej]
              exact fun h => e h.symm
            · exact b2 j' (by omega)
  · rintro ⟨x, y⟩ ⟨hy, I, X⟩
    simp only at hy X
    subst hy
    show Wp (b_X4_isPermuted_35 (nI b) ms bs fs nx (nI c) x (nI b)) _
    unfold b_X4_isPermuted_35
    rw [if_pos (Int32.le_refl _)]
    exact wp_r (Or.inr ⟨x, rfl, I⟩)
theorem perm_ok {n k b : Nat} {nxt : Nat → Nat → Nat} {mm pl bo fi sz : Nat → Nat} {nx ms ps bs fs ss ht : Nat → Int32} (hn : n ≤ 2000) (hk : k ≤ 3) (N : NX1 k n nxt nx) (D : PD n b mm pl bo fi sz ms ps bs fs ss) : Wp (f_X4_isPermuted (nI b) (nI k) ms bs fs nx ht) (fun u => (u.1 = 0 ∧ ¬ ∀ c, c < k → ij b (fun j => bo (nxt (mm (fi j)) c))) ∨ (u.1 = 1 ∧ ∀ c, c < k → ij b (fun j => bo (nxt (mm (fi j)) c)))) := by
  have hb := PD_b D
  unfold f_X4_isPermuted
  refine wp_seq (Q := fun u => (∃ h, u = .inl h ∧ ¬ ∀ c, c < k → ij b (fun j => bo (nxt (mm (fi j)) c))) ∨ ∃ h, u = .inr h ∧ ∀ c, c < k → ij b (fun j => bo (nxt (mm (fi j)) c))) ?_ (fun u hu => ?_)
  · refine wp_up (fun c v => v.2 = nI c ∧ ∀ c', c' < c → ij b (fun j => bo (nxt (mm (fi j)) c'))) 0 k ⟨rfl, fun c h => by omega⟩ (by omega) (by omega) ?_ ?_
    · rintro c ⟨x, y⟩ h1 h2 ⟨hy, I⟩
      simp only at hy
      subst hy
      show Wp (b_X4_isPermuted_2 (nI b) (nI k) ms bs fs nx x (nI c)) _
      unfold b_X4_isPermuted_2
      rw [if_neg (show ¬ nI k ≤ nI c by rw [pI_le_iff (by omega) (by omega)]; omega)]
      refine wp_seq (hit_ok (by omega)) (fun u hu => wp_seq (pin_ok hn hk h2 N D hu) (fun v hv => ?_))
      rcases hv with ⟨h, rfl, q⟩ | ⟨h, rfl, q⟩
      · exact wp_r (Or.inl ⟨h, rfl, fun a => q (a c h2)⟩)
      · refine wp_l ⟨pI_add, fun c' hc' => ?_⟩
        by_cases e : c' = c
        · rw [e]
          exact q
        · exact I c' (by omega)
    · rintro ⟨x, y⟩ ⟨hy, I⟩
      simp only at hy
      subst hy
      show Wp (b_X4_isPermuted_2 (nI b) (nI k) ms bs fs nx x (nI k)) _
      unfold b_X4_isPermuted_2
      rw [if_pos (Int32.le_refl _)]
      exact wp_r (Or.inr ⟨x, rfl, I⟩)
  · rcases hu with ⟨h, rfl, q⟩ | ⟨h, rfl, q⟩
    · exact wp_some (Or.inl ⟨rfl, q⟩)
    · exact wp_some (Or.inr ⟨rfl, q⟩)
theorem cb_ok {n k a c i : Nat} {nxt : Nat → Nat → Nat} {g mem : Nat → Nat} {nx co me : Nat → Int32} (hn : n ≤ 2000) (ha : a ≤ n) (hk : k ≤ 3) (hc : c < k) (N : NX1 k n nxt nx) (L : LB n a g mem co me) (hi : i < a) : f_X12_classBehind (nI i) (nI c) nx co me = some (nI (g (nxt (mem i) c))) ∧ g (nxt (mem i) c) < a := by
  obtain ⟨m1, m2, m3⟩ := L.2 i hi
  obtain ⟨n1, n2⟩ := N _ c m1 hc
  refine ⟨?_, (L.1 _ n1).2⟩
  unfold f_X12_classBehind
  rw [ldA_n (by omega) (by omega), m3, pL3, pI_mul, pI_add, ldA_n (by omega) (by omega), n2, ldA_n (by omega) (by omega), (L.1 _ n1).1]
theorem gcn_ok {n k a c : Nat} {nxt : Nat → Nat → Nat} {g mem : Nat → Nat} {nx co me nc : Nat → Int32} (hn : n ≤ 2000) (ha : a ≤ n) (hk : k ≤ 3) (hc : c < k) (N : NX1 k n nxt nx) (L : LB n a g mem co me) (h0 : ∀ j, j < a → nc j = nI 0) : Wp (loopN (fun v => b_X12_isGroup_61 (nI a) nx co me (nI c) v.1 v.2) FU (nc, (0 : Int32))) (fun u => ∀ j, j < a → u j = nI (cn (fun x _ => g (nxt (mem x) c)) 0 j a)) := by
  refine wp_up (fun i v => v.2 = nI i ∧ ∀ j, j < a → v.1 j = nI (cn (fun x _ => g (nxt (mem x) c)) 0 j i)) 0 a ⟨rfl, h0⟩ (by omega) (by omega) ?_ ?_
  · rintro i ⟨x, y⟩ h1 h2 ⟨hy, X⟩
    simp only at hy X
    subst hy
    obtain ⟨q1, q2⟩ := cb_ok hn ha hk hc N L h2
    show Wp (b_X12_isGroup_61 (nI a) nx co me (nI c) x (nI i)) _
    unfold b_X12_isGroup_61
    rw [if_neg (show ¬ nI a ≤ nI i by rw [pI_le_iff (by omega) (by omega)]; omega), q1, ob_s, ldA_n (by omega) (by omega), X _ q2, pL1, pI_add, stA_n (by omega) (by omega)]
    refine wp_l ⟨pI_add, fun j hj => ?_⟩
    show va_up x (g (nxt (mem i) c)) (nI (cn (fun x _ => g (nxt (mem x) c)) 0 (g (nxt (mem i) c)) i + 1)) j = _
    rw [cn_s]
    by_cases e : g (nxt (mem i) c) = j
    · rw [upE e.symm, if_pos e, e]
    · rw [upN (fun h => e h.symm), if_neg e, X j hj]
      rfl
  · rintro ⟨x, y⟩ ⟨hy, X⟩
    simp only at hy X
    subst hy
    show Wp (b_X12_isGroup_61 (nI a) nx co me (nI c) x (nI a)) _
    unfold b_X12_isGroup_61
    rw [if_pos (Int32.le_refl _)]
    exact wp_r X
theorem gch_ok {a : Nat} {f : Nat → Nat} {nc : Nat → Int32} (ha : a ≤ 2000) (hf : ∀ j, j < a → f j ≤ 2000) (h0 : ∀ j, j < a → nc j = nI (f j)) : Wp (loopN (fun v => b_X12_isGroup_92 (nI a) nc v) FU (0 : Int32)) (fun u => (u = .inl () ∧ ¬ ∀ j, j < a → f j = 1) ∨ (u = .inr () ∧ ∀ j, j < a → f j = 1)) := by
  refine wp_up (fun i v => v = nI i ∧ ∀ j, j < i → f j = 1) 0 a ⟨rfl, fun j h => by omega⟩ (by omega) (by omega) ?_ ?_
  · rintro i v h1 h2 ⟨rfl, X⟩
    have := hf i h2
    show Wp (b_X12_isGroup_92 (nI a) nc (nI i)) _
    unfold b_X12_isGroup_92
    rw [if_neg (show ¬ nI a ≤ nI i by rw [pI_le_iff (by omega) (by omega)]; omega), ldA_n (by omega) (by omega), h0 i h2]
    by_cases e : f i = 1
    · rw [if_pos (show nI (f i) = (1 : Int32) by rw [e]; rfl)]
      refine wp_l ⟨pI_add, fun j hj => ?_⟩
      by_cases ej : j = i
      · rw [ej]
        exact e
      · exact X j (by omega)
    · rw [if_neg (show ¬ nI (f i) = (1 : Int32) from fun h => e (pI_inj (b := 1) (by omega) (by omega) h))]
      exact wp_r (Or.inl ⟨rfl, fun h => e (h i h2)⟩)
  · rintro v ⟨rfl, X⟩
    show Wp (b_X12_isGroup_92 (nI a) nc (nI a)) _
    unfold b_X12_isGroup_92
    rw [if_pos (Int32.le_refl _)]
    exact wp_r (Or.inr ⟨rfl, X⟩)
theorem grp_ok {n k a : Nat} {nxt : Nat → Nat → Nat} {g mem : Nat → Nat} {nx co me nc : Nat → Int32} (hn : n ≤ 2000) (ha : a ≤ n) (hk : k ≤ 3) (N : NX1 k n nxt nx) (L : LB n a g mem co me) : Wp (loopN (fun v => b_X12_isGroup_28 (nI k) (nI a) nx co me v.1 v.2) FU (nc, (0 : Int32))) (fun u => (∃ h, u = .inl h ∧ ¬ ∀ c, c < k → ij a (fun j => g (nxt (mem j) c))) ∨ ∃ h, u = .inr h ∧ ∀ c, c < k → ij a (fun j => g (nxt (mem j) c))) := by
  refine wp_up (fun c v => v.2 = nI c ∧ ∀ c', c' < c → ij a (fun j => g (nxt (mem j) c'))) 0 k ⟨rfl, fun c h => by omega⟩ (by omega) (by omega) ?_ ?_
  · rintro c ⟨x, y⟩ h1 h2 ⟨hy, I⟩
    simp only at hy
    subst hy
    have ic := ij_cn (f := fun j => g (nxt (mem j) c)) (fun i hi => (cb_ok hn ha hk h2 N L hi).2)
    show Wp (b_X12_isGroup_28 (nI k) (nI a) nx co me x (nI c)) _
    unfold b_X12_isGroup_28
    rw [if_neg (show ¬ nI k ≤ nI c by rw [pI_le_iff (by omega) (by omega)]; omega)]
    refine wp_seq (zer_ok (by omega)) (fun u hu => wp_seq (gcn_ok hn ha hk h2 N L hu) (fun w hw => wp_seq (gch_ok (by omega) (fun j hj => Nat.le_trans cntN_le (by omega)) hw) (fun v hv => ?_)))
    rcases hv with ⟨rfl, q⟩ | ⟨rfl, q⟩
    · exact wp_r (Or.inl ⟨w, rfl, fun h => q (ic.mp (h c h2))⟩)
    · refine wp_l ⟨pI_add, fun c' hc' => ?_⟩
      by_cases e : c' = c
      · rw [e]
        exact ic.mpr q
      · exact I c' (by omega)
  · rintro ⟨x, y⟩ ⟨hy, I⟩
    simp only at hy
    subst hy
    show Wp (b_X12_isGroup_28 (nI k) (nI a) nx co me x (nI k)) _
    unfold b_X12_isGroup_28
    rw [if_pos (Int32.le_refl _)]
    exact wp_r (Or.inr ⟨x, rfl, I⟩)
theorem p_grp {x1 cnt ts a b al as' ac bl tc mp0 ip st fp ft st2 sc : Int32} {tq : Nat → Option TV} {mb atm : Nat → Option Nat} {kd bd ln pt an am ad ap all asl mk mbd ml mv mp dg fd nx' bf by' qm qp qb qf qs qk qt qq qh qo qr co nc me : Nat → Int32} {alo ahi cA cB kA kB : Nat → Int64} (hz : tc = 0) (hL : LetR a b) (hT : TestsR tq cnt mb ts kd bd ln pt) :
    W2 (f_X11_isGroup x1 tq a cnt mb al as' bl tc ac an am ad alo ahi ap all asl qm qp qb qf qs qk qt qq qh qo qr atm) (f_X12_isGroup x1 kd bd ln pt b ts fp ft st2 mp0 ip st sc mk mbd ml mv mp dg cA cB kA kB fd nx' bf by' co nc me) (fun o m => o.1 = m.1 ∧ o.2.2.2.2.1 = 0) := by
  obtain ⟨⟨T, hT6, rfl, rfl, ht⟩, hM⟩ := hT
  obtain ⟨k, hk1, hk3, rfl, rfl⟩ := hL
  subst hz
  unfold f_X11_isGroup f_X12_isGroup
  rcases testC x1 hT6 with ⟨j, hj, rfl, e1, e2⟩ | ⟨e1, e2⟩
  · rw [e1, e2, ob_s, ob_s, if_neg (show ¬ nI 1 = (0 : Int32) by decide), if_neg (show ¬ nI 1 = (0 : Int32) by decide)]
    refine w2_b (expT_ok (T := 0) (by omega) hk3 (ht j hj)) (fun o m h => ?_)
    rcases h with ⟨h1, h2⟩ | ⟨h1, h2, h3, A⟩
    · rw [if_pos h1, if_pos h2]
      exact w2_s ⟨rfl, rfl⟩
    · obtain ⟨n, mks, a1, a2, S, M⟩ := A m.2.1 fp ft st2 m.2.2.1 m.2.2.2.2.2.2.2.1
      obtain ⟨nxt, N1, N2⟩ := NX_of S.2.1 S.2.2.1
      rw [if_neg (show ¬ o.1 = 0 by rw [h1]; decide), if_neg (show ¬ m.1 = 0 by rw [h2]; decide), h3, a1, a2]
      refine w2_l (hop_ok hk3 S.2.1 N1 (fun s hs => ⟨(M s hs).1, (M s hs).2.1⟩)) (fun x hx => w2_r (min_ok hk3 S.1 S.2.1 N2 (fun s hs => ⟨(M s hs).1, (M s hs).2.2⟩)) (fun y hy => ?_))
      obtain ⟨b, mm, pl, bo, fi, sz, x1, x2, x3, x4⟩ := hx
      obtain ⟨a, g, mem, y1, y2, y3, y4, y5⟩ := hy
      rw [x1, y1]
      refine w2_l (perm_ok S.2.1 hk3 N1 x3) (fun u hu => w2_r (grp_ok S.2.1 y3 hk3 N2 y4) (fun v hv => ?_))
      have hN : ∀ s c, s < n → c < k → nxt s c < n := fun s c hs hc => (N1 s c hs hc).1
      have eq : (∀ c, c < k → ij b (fun j => bo (nxt (mm (fi j)) c))) ↔ ∀ c, c < k → ij a (fun j => g (nxt (mem j) c)) := by
        constructor
        · intro h c hc
          refine (ij_lab hN hc (fun x hx => (y4.1 x hx).2) (fun j hj => ⟨(y4.2 j hj).1, (y4.2 j hj).2.1⟩) y5).mpr ?_
          exact (ij_lab (r := fun j => mm (fi j)) hN hc (fun x hx => (x3.2.1 x hx).2.2.2.2) (fun j hj => (nb_ok S.2.1 hk3 hc N1 x3 hj).2.2) x4).mp (h c hc)
        · intro h c hc
          refine (ij_lab (r := fun j => mm (fi j)) hN hc (fun x hx => (x3.2.1 x hx).2.2.2.2) (fun j hj => (nb_ok S.2.1 hk3 hc N1 x3 hj).2.2) x4).mpr ?_
          exact (ij_lab hN hc (fun x hx => (y4.1 x hx).2) (fun j hj => ⟨(y4.2 j hj).1, (y4.2 j hj).2.1⟩) y5).mp (h c hc)
      rcases hu with ⟨u1, u2⟩ | ⟨u1, u2⟩
      · rw [if_pos u1]
        rcases hv with ⟨h, rfl, v2⟩ | ⟨h, rfl, v2⟩
        · exact w2_s ⟨rfl, x2⟩
        · exact absurd (eq.mpr v2) u2
      · rw [if_neg (show ¬ u.1 = 0 by rw [u1]; decide)]
        rcases hv with ⟨h, rfl, v2⟩ | ⟨h, rfl, v2⟩
        · exact absurd (eq.mp u2) v2
        · exact w2_s ⟨rfl, x2⟩
  · rw [e1, e2, ob_s, ob_s, if_pos (show nI 0 = (0 : Int32) from rfl), if_pos (show nI 0 = (0 : Int32) from rfl)]
    exact w2_s ⟨rfl, rfl⟩
theorem op24 {cy : Nat → ClassId} {n : Nat} {ad : Nat → Nat} {E : Nat → va_E} {PT : va_W} {tq : Nat → Option TV} {lq : Nat → Bool} (H : REL cy n ad E PT tq lq) (x1 : Int32) : OP24 (REL cy) cy n ad E PT tq lq x1 := by
  obtain ⟨rR, rL, rW0, rW1, rW2, rT, rG, rI, rA, rB, rC, rS, rM, rZ⟩ := rel_el H
  exact op2_of (p_grp rZ rL rT) (fun o m h => ⟨h.1, (rel_mk rR rL rW0 rW1 rW2 rT rG rI rA rB rC rS rM h.2)⟩)
