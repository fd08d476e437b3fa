set_option linter.unusedVariables false
/-! states; words counted by length -/
theorem p_states {x1 cnt ts a b al as' ac mp0 ip st : Int32} {tq : Nat → Option TV} {mb atm : Nat → Option Nat} {kd bd ln pt an am ad ap all asl mk mbd ml mv mp dg fd nx' bf by' : Nat → Int32} {alo ahi cA cB kA kB : Nat → Int64} (hL : LetR a b) (hT : TestsR tq cnt mb ts kd bd ln pt) :
    W2 (f_X11_states x1 tq a cnt mb al as' ac an am ad alo ahi ap all asl atm) (f_X12_states x1 kd bd ln pt b ts mp0 ip st mk mbd ml mv mp dg cA cB kA kB fd nx' bf by') (fun o m => o.1 = m.1) := by
  obtain ⟨⟨T, hT6, rfl, rfl, ht⟩, hM⟩ := hT
  obtain ⟨k, hk1, hk3, rfl, rfl⟩ := hL
  unfold f_X11_states f_X12_states
  rcases testC x1 hT6 with ⟨j, hj, rfl, e1, e2⟩ | ⟨e1, e2⟩
  · rw [e1, e2, ob_s, ob_s, if_neg (show ¬ nI 1 = (0 : Int32) by decide), if_neg (show ¬ nI 1 = (0 : Int32) by decide)]
    refine w2_b (expT_ok (T := 0) (by omega) hk3 (ht j hj)) (fun o m h => ?_)
    rcases h with ⟨h1, h2⟩ | ⟨h1, h2, _, A⟩
    · rw [if_pos h1, if_pos h2]
      exact w2_s rfl
    · obtain ⟨n, mk, a1, a2, _⟩ := A 0 0 0 0 0 (fun _ => 0)
      rw [if_neg (show ¬ o.1 = 0 by rw [h1]; decide), if_neg (show ¬ m.1 = 0 by rw [h2]; decide)]
      exact w2_s (a1.trans a2.symm)
  · rw [e1, e2, ob_s, ob_s, if_pos (show nI 0 = (0 : Int32) from rfl), if_pos (show nI 0 = (0 : Int32) from rfl)]
    exact w2_s rfl
def WI (nxt : Nat → Nat → Nat) (w : Nat → Int64) (s : Nat) (f : Nat → Int64) : Nat → Nat → Int64
  | 0 => f
  | c + 1 => va_up (WI nxt w s f c) (nxt s c) (WI nxt w s f c (nxt s c) + w s)
def WO (nxt : Nat → Nat → Nat) (k : Nat) (w : Nat → Int64) : Nat → Nat → Int64
  | 0 => fun _ => 0
  | s + 1 => WI nxt w s (WO nxt k w s) k
def WY (nxt : Nat → Nat → Nat) (k n : Nat) : Nat → Nat → Int64
  | 0 => fun s => if s = 0 then 1 else 0
  | i + 1 => WO nxt k (WY nxt k n i) n
def SM (mk : Nat → Nat) (w : Nat → Int64) : Nat → Int64
  | 0 => 0
  | s + 1 => if mk s = 1 then SM mk w s + w s else SM mk w s
/-- how many words of length i the automaton takes -/
def CT (nxt : Nat → Nat → Nat) (mk : Nat → Nat) (k n i : Nat) : Int64 := SM mk (WY nxt k n i) n
def NX1 (k n : Nat) (nxt : Nat → Nat → Nat) (nx : Nat → Int32) : Prop := ∀ s c, s < n → c < k → nxt s c < n ∧ nx (3 * s + c) = nI (nxt s c)
theorem NX_of {k n : Nat} {nx nx' : Nat → Int32} (hn : n ≤ 2000) (h : NXT k n nx nx' (fun a _ => a < n)) : ∃ nxt, NX1 k n nxt nx ∧ NX1 k n nxt nx' := by
  refine ⟨fun s c => (nx (3 * s + c)).toNatClampNeg, fun s c hs hc => ?_, fun s c hs hc => ?_⟩
  · obtain ⟨x, x1, x2, x3⟩ := h s c hs hc
    show (nx (3 * s + c)).toNatClampNeg < n ∧ nx (3 * s + c) = nI (nx (3 * s + c)).toNatClampNeg
    rw [x2, nI_clamp (by omega)]
    exact ⟨x1, rfl⟩
  · obtain ⟨x, x1, x2, x3⟩ := h s c hs hc
    show (nx (3 * s + c)).toNatClampNeg < n ∧ nx' (3 * s + c) = nI (nx (3 * s + c)).toNatClampNeg
    rw [x2, x3, nI_clamp (by omega)]
    exact ⟨x1, rfl⟩
theorem WI_up {k n : Nat} {nxt : Nat → Nat → Nat} {w f g : Nat → Int64} {s c : Nat} (h : ∀ j, j < n → g j = WI nxt w s f c j) (hx : nxt s c < n) : ∀ j, j < n → va_up g (nxt s c) (g (nxt s c) + w s) j = WI nxt w s f (c + 1) j := by
  intro j hj
  show _ = va_up (WI nxt w s f c) (nxt s c) (WI nxt w s f c (nxt s c) + w s) j
  by_cases e : j = nxt s c
  · rw [upE e, upE e, h _ hx]
  · rw [upN e, upN e, h j hj]
theorem len1_ok {k n s : Nat} {nxt : Nat → Nat → Nat} {nx : Nat → Int32} {pt w f g : Nat → Int64} (hk : k ≤ 3) (hn : n ≤ 2000) (hs : s < n) (N : NX1 k n nxt nx) (hw : ∀ j, j < n → pt j = w j) (hg : ∀ j, j < n → g j = f j) : Wp (loopN (fun v => b_X0_lengthenPaths_20 (nI k) nx pt (nI s) v.1 v.2) FU (g, (0 : Int32))) (fun u => ∀ j, j < n → u j = WI nxt w s f k j) := by
  refine wp_up (fun i v => v.2 = nI i ∧ ∀ j, j < n → v.1 j = WI nxt w s f i j) 0 k ⟨rfl, hg⟩ (by omega) (by omega) ?_ ?_
  · rintro i ⟨x, y⟩ h1 h2 ⟨hy, hx⟩
    simp only at hy hx
    subst hy
    obtain ⟨n1, n2⟩ := N s i hs h2
    show Wp (b_X0_lengthenPaths_20 (nI k) nx pt (nI s) x (nI i)) _
    unfold b_X0_lengthenPaths_20
    rw [if_neg (show ¬ nI k ≤ nI i by rw [pI_le_iff (by omega) (by omega)]; omega), pL3, pI_mul, pI_add, show s * 3 + i = 3 * s + i by omega, ldA_n (by omega) (by omega), n2, ldA_n (by omega) (by omega), ldA_n (by omega) (by omega), stA_n (by omega) (by omega), hw s hs]
    exact wp_l ⟨pI_add, WI_up (k := k) hx n1⟩
  · rintro ⟨x, y⟩ ⟨hy, hx⟩
    simp only at hy hx
    subst hy
    show Wp (b_X0_lengthenPaths_20 (nI k) nx pt (nI s) x (nI k)) _
    unfold b_X0_lengthenPaths_20
    rw [if_pos (Int32.le_refl _)]
    exact wp_r hx
theorem len2_ok {k n s : Nat} {nxt : Nat → Nat → Nat} {nx : Nat → Int32} {pt w f g : Nat → Int64} (hk : k ≤ 3) (hn : n ≤ 2000) (hs : s < n) (N : NX1 k n nxt nx) (hw : ∀ j, j < n → pt j = w j) (hg : ∀ j, j < n → g j = f j) : Wp (loopN (fun v => b_X12_countAll_110 (nI k) nx pt (nI s) v.1 v.2) FU (g, (0 : Int32))) (fun u => ∀ j, j < n → u j = WI nxt w s f k j) := by
  refine wp_up (fun i v => v.2 = nI i ∧ ∀ j, j < n → v.1 j = WI nxt w s f i j) 0 k ⟨rfl, hg⟩ (by omega) (by omega) ?_ ?_
  · rintro i ⟨x, y⟩ h1 h2 ⟨hy, hx⟩
    simp only at hy hx
    subst hy
    obtain ⟨n1, n2⟩ := N s i hs h2
    show Wp (b_X12_countAll_110 (nI k) nx pt (nI s) x (nI i)) _
    unfold b_X12_countAll_110
    rw [if_neg (show ¬ nI k ≤ nI i by rw [pI_le_iff (by omega) (by omega)]; omega), pL3, pI_mul, pI_add, ldA_n (by omega) (by omega), n2, ldA_n (by omega) (by omega), ldA_n (by omega) (by omega), stA_n (by omega) (by omega), hw s hs]
    exact wp_l ⟨pI_add, WI_up (k := k) hx n1⟩
  · rintro ⟨x, y⟩ ⟨hy, hx⟩
    simp only at hy hx
    subst hy
    show Wp (b_X12_countAll_110 (nI k) nx pt (nI s) x (nI k)) _
    unfold b_X12_countAll_110
    rw [if_pos (Int32.le_refl _)]
    exact wp_r hx
theorem lens1_ok {k n : Nat} {nxt : Nat → Nat → Nat} {nx : Nat → Int32} {pt w g : Nat → Int64} (hk : k ≤ 3) (hn : n ≤ 2000) (N : NX1 k n nxt nx) (hw : ∀ j, j < n → pt j = w j) (hg : ∀ j, j < n → g j = 0) : Wp (loopN (fun v => b_X0_lengthenPaths_10 (nI k) (nI n) nx pt v.1 v.2) FU (g, (0 : Int32))) (fun u => ∀ j, j < n → u j = WO nxt k w n j) := by
  refine wp_up (fun i v => v.2 = nI i ∧ ∀ j, j < n → v.1 j = WO nxt k w i j) 0 n ⟨rfl, hg⟩ (by omega) (by omega) ?_ ?_
  · rintro i ⟨x, y⟩ h1 h2 ⟨hy, hx⟩
    simp only at hy hx
    subst hy
    show Wp (b_X0_lengthenPaths_10 (nI k) (nI n) nx pt x (nI i)) _
    unfold b_X0_lengthenPaths_10
    rw [if_neg (show ¬ nI n ≤ nI i by rw [pI_le_iff (by omega) (by omega)]; omega)]
    exact wp_seq (len1_ok hk hn h2 N hw hx) (fun u hu => wp_l ⟨pI_add, hu⟩)
  · rintro ⟨x, y⟩ ⟨hy, hx⟩
    simp only at hy hx
    subst hy
    show Wp (b_X0_lengthenPaths_10 (nI k) (nI n) nx pt x (nI n)) _
    unfold b_X0_lengthenPaths_10
    rw [if_pos (Int32.le_refl _)]
    exact wp_r hx
theorem lens2_ok {k n : Nat} {nxt : Nat → Nat → Nat} {nx : Nat → Int32} {pt w g : Nat → Int64} (hk : k ≤ 3) (hn : n ≤ 2000) (N : NX1 k n nxt nx) (hw : ∀ j, j < n → pt j = w j) (hg : ∀ j, j < n → g j = 0) : Wp (loopN (fun v => b_X12_countAll_99 (nI k) (nI n) nx pt v.1 v.2) FU (g, (0 : Int32))) (fun u => ∀ j, j < n → u j = WO nxt k w n j) := by
  refine wp_up (fun i v => v.2 = nI i ∧ ∀ j, j < n → v.1 j = WO nxt k w i j) 0 n ⟨rfl, hg⟩ (by omega) (by omega) ?_ ?_
  · rintro i ⟨x, y⟩ h1 h2 ⟨hy, hx⟩
    simp only at hy hx
    subst hy
    show Wp (b_X12_countAll_99 (nI k) (nI n) nx pt x (nI i)) _
    unfold b_X12_countAll_99
    rw [if_neg (show ¬ nI n ≤ nI i by rw [pI_le_iff (by omega) (by omega)]; omega)]
    exact wp_seq (len2_ok hk hn h2 N hw hx) (fun u hu => wp_l ⟨pI_add, hu⟩)
  · rintro ⟨x, y⟩ ⟨hy, hx⟩
    simp only at hy hx
    subst hy
    show Wp (b_X12_countAll_99 (nI k) (nI n) nx pt x (nI n)) _
    unfold b_X12_countAll_99
    rw [if_pos (Int32.le_refl _)]
    exact wp_r hx
theorem clr_ok {n : Nat} {g : Nat → Int64} (hn : n ≤ 2000) : Wp (f_X0_clearPaths 2000 (nI n) g) (fun u => ∀ j, j < n → u j = 0) := by
  unfold f_X0_clearPaths
  refine wp_seq (Q := fun u => ∀ j, j < n → u j = 0) (wp_fill 0 0 n (fun _ => (0 : Int64)) (by omega) (by omega) (fun i f h1 h2 hf => ?_) (fun f hf => ?_)) (fun u hu => wp_some hu)
  · show b_X0_clearPaths_2 2000 (nI n) f (nI i) = _
    unfold b_X0_clearPaths_2
    rw [if_neg (show ¬ nI n ≤ nI i by rw [pI_le_iff (by omega) (by omega)]; omega), stA_n (by omega) (by omega), pL1, pI_add, Nat.zero_add]
  · show Wp (b_X0_clearPaths_2 2000 (nI n) f (nI n)) _
    unfold b_X0_clearPaths_2
    rw [if_pos (Int32.le_refl _)]
    refine wp_r (fun s hs => ?_)
    rw [hf s, if_pos (by omega)]
theorem lenP_ok {k n : Nat} {nxt : Nat → Nat → Nat} {nx : Nat → Int32} {pt w g : Nat → Int64} (hk : k ≤ 3) (hn : n ≤ 2000) (N : NX1 k n nxt nx) (hw : ∀ j, j < n → pt j = w j) : Wp (f_X0_lengthenPaths (nI k) (nI n) nx pt g) (fun u => ∀ j, j < n → u.1 j = WO nxt k w n j) := by
  unfold f_X0_lengthenPaths
  refine wp_seq (clr_ok hn) (fun u hu => wp_seq (lens1_ok hk hn N hw hu) (fun v hv => ?_))
  rw [show cpA v pt 2000 2000 (0 : Int32) (0 : Int32) (nI n) _ = _ from cpA_n (a := 0) (b := 0) (by omega) (by omega) (by omega) (by omega)]
  refine wp_some (fun j hj => ?_)
  show va_cpy v pt 0 0 n j = _
  unfold va_cpy
  rw [if_pos (by omega), ← hv j hj]
  congr 1
  omega
theorem mkP_ok {n : Nat} {mk : Nat → Nat} {mrk : Nat → Int32} {pt w : Nat → Int64} (hn : n ≤ 2000) (hM : ∀ s, s < n → mk s < 10 ∧ mrk s = nI (mk s)) (hw : ∀ j, j < n → pt j = w j) : Wp (f_X0_markedPaths (nI n) mrk pt) (fun u => u = SM mk w n) := by
  unfold f_X0_markedPaths
  refine wp_seq (Q := fun u => u = SM mk w n) ?_ (fun u hu => wp_some hu)
  refine wp_up (fun i v => v.2 = nI i ∧ v.1 = SM mk w i) 0 n ⟨rfl, rfl⟩ (by omega) (by omega) ?_ ?_
  · rintro i ⟨x, y⟩ h1 h2 ⟨hy, hx⟩
    simp only at hy hx
    subst hy hx
    obtain ⟨m1, m2⟩ := hM i h2
    show Wp (b_X0_markedPaths_4 (nI n) mrk pt (SM mk w i) (nI i)) _
    unfold b_X0_markedPaths_4
    rw [if_neg (show ¬ nI n ≤ nI i by rw [pI_le_iff (by omega) (by omega)]; omega), ldA_n (by omega) (by omega), m2]
    by_cases c : mk i = 1
    · rw [if_pos (show nI (mk i) = (1 : Int32) by rw [c]; rfl), ldA_n (by omega) (by omega), hw i h2]
      refine wp_l ⟨pI_add, ?_⟩
      show _ = if mk i = 1 then SM mk w i + w i else SM mk w i
      rw [if_pos c]
    · rw [if_neg (show ¬ nI (mk i) = (1 : Int32) from fun e => c (pI_inj (b := 1) (by omega) (by omega) e))]
      refine wp_l ⟨pI_add, ?_⟩
      show _ = if mk i = 1 then SM mk w i + w i else SM mk w i
      rw [if_neg c]
  · rintro ⟨x, y⟩ ⟨hy, hx⟩
    simp only at hy hx
    subst hy hx
    show Wp (b_X0_markedPaths_4 (nI n) mrk pt (SM mk w n) (nI n)) _
    unfold b_X0_markedPaths_4
    rw [if_pos (Int32.le_refl _)]
    exact wp_r rfl
theorem cbl_ok {k n L : Nat} {nxt : Nat → Nat → Nat} {mk : Nat → Nat} {nx mrk : Nat → Int32} {p pt g : Nat → Int64} (hk : k ≤ 3) (h1 : 1 ≤ n) (hn : n ≤ 2000) (hL : L ≤ 20) (N : NX1 k n nxt nx) (hM : ∀ s, s < n → mk s < 10 ∧ mrk s = nI (mk s)) : Wp (f_X0_countByLength (nI L) 21 (nI k) (nI n) nx mrk p pt g) (fun u => ∀ i, i ≤ L → u.1 i = CT nxt mk k n i) := by
  unfold f_X0_countByLength
  refine wp_seq (clr_ok hn) (fun u hu => ?_)
  rw [show stA u 2000 (0 : Int32) (1 : Int64) _ = _ from stA_n (j := 0) (by omega) (by omega)]
  refine wp_seq (Q := fun u => ∀ i, i ≤ L → u.1 i = CT nxt mk k n i) ?_ (fun u hu => wp_some hu)
  refine wp_up (fun i v => v.2.2.2 = nI i ∧ (∀ j, j < i → v.1 j = CT nxt mk k n j) ∧ ∀ j, j < n → v.2.1 j = WY nxt k n i j) 0 (L + 1) ⟨rfl, fun j h => by omega, fun j hj => ?_⟩ (by omega) (by omega) ?_ ?_
  · show va_up u 0 1 j = if j = 0 then 1 else 0
    by_cases e : j = 0
    · rw [upE e, if_pos e]
    · rw [upN e, if_neg e, hu j hj]
  · rintro i ⟨x, y, z, t⟩ h1 h2 ⟨ht, hx, hy⟩
    simp only at ht hx hy
    subst ht
    show Wp (b_X0_countByLength_17 21 (nI k) (nI n) nx mrk (nI L) x y z (nI i)) _
    unfold b_X0_countByLength_17
    rw [if_neg (show ¬ nI L < nI i by rw [pI_lt_iff (by omega) (by omega)]; omega), if_neg (show ¬ Int32.ofNat 21 ≤ nI i from fun h => by have := (pI_le_iff (a := 21) (by omega) (by omega)).mp h; omega)]
    refine wp_seq (mkP_ok hn hM hy) (fun a ha => ?_)
    subst ha
    rw [stA_n (by omega) (by omega)]
    refine wp_seq (lenP_ok hk hn N hy) (fun b hb => wp_l ⟨pI_add, fun j hj => ?_, hb⟩)
    show va_up x i (SM mk (WY nxt k n i) n) j = _
    by_cases e : j = i
    · rw [upE e, e]
      rfl
    · rw [upN e]
      exact hx j (by omega)
  · rintro ⟨x, y, z, t⟩ ⟨ht, hx, hy⟩
    simp only at ht hx hy
    subst ht
    show Wp (b_X0_countByLength_17 21 (nI k) (nI n) nx mrk (nI L) x y z (nI (L + 1))) _
    unfold b_X0_countByLength_17
    rw [if_pos (show nI L < nI (L + 1) by rw [pI_lt_iff (by omega) (by omega)]; omega)]
    exact wp_r (fun i hi => hx i (by omega))
theorem sum2_ok {n i : Nat} {mk : Nat → Nat} {mp fp ft st ip : Int32} {ml mv : Nat → Int32} {cA cB pt w g ct : Nat → Int64} (hn : n ≤ 2000) (hi : i ≤ 20) (hM : ∀ s, s < n → mk s < 10 ∧ f_X12_answerAt (nI s) 0 mp fp ft st ip ml mv cA cB = some (nI (mk s))) (hw : ∀ j, j < n → pt j = w j) (h0 : ct i = 0) : Wp (loopN (fun v => b_X12_countAll_47 mp fp ft st ip (nI n) ml mv cA cB pt (nI i) v.1 v.2.1 v.2.2) FU (g, ct, (0 : Int32))) (fun u => (∀ j, j < n → u.1 j = 0) ∧ u.2 i = SM mk w n ∧ ∀ j, j ≠ i → u.2 j = ct j) := by
  refine wp_up (fun s v => v.2.2 = nI s ∧ (∀ j, j < s → v.1 j = 0) ∧ v.2.1 i = SM mk w s ∧ ∀ j, j ≠ i → v.2.1 j = ct j) 0 n ⟨rfl, fun j h => by omega, h0, fun _ _ => rfl⟩ (by omega) (by omega) ?_ ?_
  · rintro s ⟨x, y, t⟩ h1 h2 ⟨ht, hx, hy, hz⟩
    simp only at ht hx hy hz
    subst ht
    obtain ⟨m1, m2⟩ := hM s h2
    show Wp (b_X12_countAll_47 mp fp ft st ip (nI n) ml mv cA cB pt (nI i) x y (nI s)) _
    unfold b_X12_countAll_47 j_X12_countAll_82
    have key : ∀ z : Int64, y i + z = SM mk w (s + 1) → Wp (stA y 21 (nI i) (y i + z) (fun counted_22 => stA x 2000 (nI s) (0 : Int64) (fun newWays_25 => some (Sum.inl (newWays_25, counted_22, nI s + (1 : Int32)) : ((Nat → Int64) × (Nat → Int64) × Int32) ⊕ ((Nat → Int64) × (Nat → Int64)))))) (Sum.elim (fun v => v.2.2 = nI (s + 1) ∧ (∀ j, j < s + 1 → v.1 j = 0) ∧ v.2.1 i = SM mk w (s + 1) ∧ ∀ j, j ≠ i → v.2.1 j = ct j) (fun u => (∀ j, j < n → u.1 j = 0) ∧ u.2 i = SM mk w n ∧ ∀ j, j ≠ i → u.2 j = ct j)) := by
      intro z hz'
      rw [stA_n (by omega) (by omega), stA_n (by omega) (by omega)]
      refine wp_l ⟨pI_add, fun j hj => ?_, ?_, fun j hj => ?_⟩
      · show va_up x s 0 j = 0
        by_cases e : j = s
        · rw [upE e]
        · rw [upN e]
          exact hx j (by omega)
      · show va_up y i (y i + z) i = _
        rw [upE rfl, hz']
      · show va_up y i (y i + z) j = _
        rw [upN hj, hz j hj]
    rw [if_neg (show ¬ nI n ≤ nI s by rw [pI_le_iff (by omega) (by omega)]; omega), ldA_n (by omega) (by omega), show f_X12_answerAt (nI s) (0 : Int32) mp fp ft st ip ml mv cA cB = _ from m2, ob_s]
    by_cases c : mk s = 1
    · rw [if_pos (show nI (mk s) = (1 : Int32) by rw [c]; rfl), ldA_n (by omega) (by omega), hw s h2]
      refine key _ ?_
      show _ = if mk s = 1 then SM mk w s + w s else SM mk w s
      rw [if_pos c, hy]
    · rw [if_neg (show ¬ nI (mk s) = (1 : Int32) from fun e => c (pI_inj (b := 1) (by omega) (by omega) e))]
      refine key _ ?_
      show _ = if mk s = 1 then SM mk w s + w s else SM mk w s
      rw [if_neg c, hy, Int64.add_zero]
  · rintro ⟨x, y, t⟩ ⟨ht, hx, hy, hz⟩
    simp only at ht hx hy hz
    subst ht
    show Wp (b_X12_countAll_47 mp fp ft st ip (nI n) ml mv cA cB pt (nI i) x y (nI n)) _
    unfold b_X12_countAll_47
    rw [if_pos (Int32.le_refl _)]
    exact wp_r ⟨hx, hy, hz⟩
theorem ca_ok {k n L : Nat} {nxt : Nat → Nat → Nat} {mk : Nat → Nat} {mp fp ft st ip : Int32} {nx ml mv : Nat → Int32} {cA cB pt g ct : Nat → Int64} (hk : k ≤ 3) (h1 : 1 ≤ n) (hn : n ≤ 2000) (hL : L ≤ 20) (N : NX1 k n nxt nx) (hM : ∀ s, s < n → mk s < 10 ∧ f_X12_answerAt (nI s) 0 mp fp ft st ip ml mv cA cB = some (nI (mk s))) : Wp (f_X12_countAll (nI L) (nI k) mp fp ft st ip (nI n) ml mv cA cB nx pt g ct) (fun u => ∀ i, i ≤ L → u.2.2 i = CT nxt mk k n i) := by
  unfold f_X12_countAll
  refine wp_seq (Q := fun u => ∀ j, j < n → u j = WY nxt k n 0 j) (wp_fill 0 0 n (fun s => if s = 0 then (1 : Int64) else 0) (by omega) (by omega) (fun i f h1 h2 hf => ?_) (fun f hf => ?_)) (fun u hu => ?_)
  · show b_X12_countAll_2 (nI n) f (nI i) = _
    unfold b_X12_countAll_2
    rw [if_neg (show ¬ nI n ≤ nI i by rw [pI_le_iff (by omega) (by omega)]; omega), stA_n (by omega) (by omega), stA_n (by omega) (by omega), pL1, pI_add, Nat.zero_add]
    by_cases c : i = 0
    · rw [if_pos (show nI i = (0 : Int32) by rw [c]; rfl), if_pos c]
    · rw [if_neg (show ¬ nI i = (0 : Int32) from fun e => c (pI_inj (b := 0) (by omega) (by omega) e)), if_neg c]
  · show Wp (b_X12_countAll_2 (nI n) f (nI n)) _
    unfold b_X12_countAll_2
    rw [if_pos (Int32.le_refl _)]
    refine wp_r (fun s hs => ?_)
    rw [hf s, if_pos (by omega), Nat.sub_zero]
    rfl
  refine wp_seq (Q := fun u => ∀ i, i ≤ L → u.2.2 i = CT nxt mk k n i) ?_ (fun u hu => wp_some hu)
  refine wp_up (fun i v => v.2.2.2 = nI i ∧ (∀ j, j < i → v.2.2.1 j = CT nxt mk k n j) ∧ ∀ j, j < n → v.1 j = WY nxt k n i j) 0 (L + 1) ⟨rfl, fun j h => by omega, hu⟩ (by omega) (by omega) ?_ ?_
  · rintro i ⟨x, y, z, t⟩ h1 h2 ⟨ht, hx, hy⟩
    simp only at ht hx hy
    subst ht
    show Wp (b_X12_countAll_33 (nI k) mp fp ft st ip (nI n) ml mv cA cB nx (nI L) x y z (nI i)) _
    unfold b_X12_countAll_33
    rw [if_neg (show ¬ nI L < nI i by rw [pI_lt_iff (by omega) (by omega)]; omega), stA_n (by omega) (by omega)]
    refine wp_seq (sum2_ok hn (by omega) hM hy (upE rfl)) (fun a ha => ?_)
    refine wp_seq (lens2_ok hk hn N hy ha.1) (fun b hb => ?_)
    refine wp_seq (Q := fun u => ∀ j, j < n → u j = b j) (wp_fill 0 0 n b (by omega) (by omega) (fun s f h1 h2 hf => ?_) (fun f hf => ?_)) (fun c hc => wp_l ⟨pI_add, fun j hj => ?_, fun j hj => ?_⟩)
    · show b_X12_countAll_158 (nI n) b f (nI s) = _
      unfold b_X12_countAll_158
      rw [if_neg (show ¬ nI n ≤ nI s by rw [pI_le_iff (by omega) (by omega)]; omega), ldA_n (by omega) (by omega), stA_n (by omega) (by omega), pL1, pI_add, Nat.zero_add]
    · show Wp (b_X12_countAll_158 (nI n) b f (nI n)) _
      unfold b_X12_countAll_158
      rw [if_pos (Int32.le_refl _)]
      refine wp_r (fun s hs => ?_)
      rw [hf s, if_pos (by omega), Nat.sub_zero]
    · show a.2 j = _
      by_cases e : j = i
      · rw [e, ha.2.1]
        rfl
      · rw [ha.2.2 j e, upN e]
        exact hx j (by omega)
    · show c j = _
      rw [hc j hj, hb j hj]
      rfl
  · rintro ⟨x, y, z, t⟩ ⟨ht, hx, hy⟩
    simp only at ht hx hy
    subst ht
    show Wp (b_X12_countAll_33 (nI k) mp fp ft st ip (nI n) ml mv cA cB nx (nI L) x y z (nI (L + 1))) _
    unfold b_X12_countAll_33
    rw [if_pos (show nI L < nI (L + 1) by rw [pI_lt_iff (by omega) (by omega)]; omega)]
    exact wp_r (fun i hi => hx i (by omega))
