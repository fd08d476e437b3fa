set_option linter.unusedVariables false
/-! the reference's classes of states (Moore) -/
def PKN (f : Nat → Nat) (nxt : Nat → Nat → Nat) (s : Nat) : Nat → Nat
  | 0 => 0
  | c + 1 => PKN f nxt s c * 2048 + f (nxt s c)
theorem PKN_lt {f : Nat → Nat} {nxt : Nat → Nat → Nat} {s : Nat} : ∀ c, (∀ i, i < c → f (nxt s i) < 2048) → PKN f nxt s c < 2048 ^ c
  | 0, _ => by show 0 < 1; omega
  | c + 1, h => by
    have h1 := PKN_lt c (fun i hi => h i (by omega))
    have h2 := h c (by omega)
    show PKN f nxt s c * 2048 + f (nxt s c) < 2048 ^ (c + 1)
    rw [Nat.pow_succ]
    omega
theorem PKN_inj {f : Nat → Nat} {nxt : Nat → Nat → Nat} {s t : Nat} : ∀ c, (∀ i, i < c → f (nxt s i) < 2048) → (∀ i, i < c → f (nxt t i) < 2048) → PKN f nxt s c = PKN f nxt t c → ∀ i, i < c → f (nxt s i) = f (nxt t i)
  | 0, _, _, _ => fun i hi => by omega
  | c + 1, h1, h2, e => by
    have e : PKN f nxt s c * 2048 + f (nxt s c) = PKN f nxt t c * 2048 + f (nxt t c) := e
    have a1 := h1 c (by omega)
    have a2 := h2 c (by omega)
    have ih := PKN_inj c (fun i hi => h1 i (by omega)) (fun i hi => h2 i (by omega)) (by omega)
    intro i hi
    by_cases c1 : i = c
    · rw [c1]; omega
    · exact ih i (by omega)
theorem PKN_congr {f : Nat → Nat} {nxt : Nat → Nat → Nat} {s t : Nat} : ∀ c, (∀ i, i < c → f (nxt s i) = f (nxt t i)) → PKN f nxt s c = PKN f nxt t c
  | 0, _ => rfl
  | c + 1, h => by
    show PKN f nxt s c * 2048 + f (nxt s c) = PKN f nxt t c * 2048 + f (nxt t c)
    rw [PKN_congr c (fun i hi => h i (by omega)), h c (by omega)]
theorem key_ok {k n s : Nat} {nxt : Nat → Nat → Nat} {nx co : Nat → Int32} {f : Nat → Nat} (hk : k ≤ 3) (hn : n ≤ 2000) (hs : s < n) (N : NX1 k n nxt nx) (hf : ∀ s, s < n → co s = nI (f s) ∧ f s < 2048) : Wp (loopN (fun v => b_X12_refine_21 (nI k) nx co (nI s) v.1 v.2) FU ((0 : Int64), (0 : Int32))) (fun u => u = lN (PKN f nxt s k)) := by
  refine wp_up (fun i v => v.2 = nI i ∧ v.1 = lN (PKN f nxt s i)) 0 k ⟨rfl, rfl⟩ (by omega) (by omega) ?_ ?_
  · rintro i ⟨x, y⟩ h1 h2 ⟨hy, hx⟩
    simp only at hy hx
    subst hy hx
    obtain ⟨n1, n2⟩ := N s i hs h2
    obtain ⟨f1, f2⟩ := hf _ n1
    show Wp (b_X12_refine_21 (nI k) nx co (nI s) (lN (PKN f nxt s i)) (nI i)) _
    unfold b_X12_refine_21
    rw [if_neg (show ¬ nI k ≤ nI i by rw [pI_le_iff (by omega) (by omega)]; omega), pL3, pI_mul, pI_add, ldA_n (by omega) (by omega), n2, ldA_n (by omega) (by omega), f1, nI_l (by omega), show (2048 : Int64) = lN 2048 from rfl, lN_mul, lN_add]
    exact wp_l ⟨pI_add, rfl⟩
  · rintro ⟨x, y⟩ ⟨hy, hx⟩
    simp only at hy hx
    subst hy hx
    show Wp (b_X12_refine_21 (nI k) nx co (nI s) (lN (PKN f nxt s k)) (nI k)) _
    unfold b_X12_refine_21
    rw [if_pos (Int32.le_refl _)]
    exact wp_r rfl
/-- a labelling with a labels, and a member of each -/
def LB (n a : Nat) (g mem : Nat → Nat) (co me : Nat → Int32) : Prop := (∀ s, s < n → co s = nI (g s) ∧ g s < a) ∧ ∀ i, i < a → mem i < n ∧ g (mem i) = i ∧ me i = nI (mem i)
def RF (n k : Nat) (nxt : Nat → Nat → Nat) (f g : Nat → Nat) : Prop := ∀ s t, s < n → t < n → (g s = g t ↔ (f s = f t ∧ ∀ c, c < k → f (nxt s c) = f (nxt t c)))
def RI (M n k : Nat) (nxt : Nat → Nat → Nat) (f : Nat → Nat) (s : Nat) (kA kB : Nat → Int64) (fd nc me : Nat → Int32) (x : Int32) : Prop := ∃ (a : Nat) (g mem : Nat → Nat) (cA cB : Nat → Int64), x = nI a ∧ a ≤ s ∧ TR M fd a kA kB cA cB ∧ (∀ t, t < s → nc t = nI (g t) ∧ g t < a ∧ cA (g t) = lN (PKN f nxt t k) ∧ cB (g t) = lN (f t)) ∧ (∀ i, i < a → mem i < s ∧ g (mem i) = i ∧ me i = nI (mem i)) ∧ ∀ i j, i < a → j < a → cA i = cA j → cB i = cB j → i = j
theorem ref_in {M k n : Nat} {nxt : Nat → Nat → Nat} {nx co : Nat → Int32} {f : Nat → Nat} {kA kB : Nat → Int64} {fd nc me : Nat → Int32} (hM : M = 8192) (hk : k ≤ 3) (hn : n ≤ 2000) (N : NX1 k n nxt nx) (hf : ∀ s, s < n → co s = nI (f s) ∧ f s < 2048) (h0 : RI M n k nxt f 0 kA kB fd nc me (nI 0)) : Wp (loopN (fun v => b_X12_refine_8 (nI k) (nI n) nx co v.1 v.2.1 v.2.2.1 v.2.2.2.1 v.2.2.2.2.1 v.2.2.2.2.2.1 v.2.2.2.2.2.2) FU (kA, kB, fd, nc, me, (0 : Int32), (0 : Int32))) (fun u => RI M n k nxt f n u.1 u.2.1 u.2.2.1 u.2.2.2.1 u.2.2.2.2.1 u.2.2.2.2.2) := by
  refine wp_up (fun s v => v.2.2.2.2.2.2 = nI s ∧ RI M n k nxt f s v.1 v.2.1 v.2.2.1 v.2.2.2.1 v.2.2.2.2.1 v.2.2.2.2.2.1) 0 n ⟨rfl, h0⟩ (by omega) (by omega) ?_ ?_
  · rintro s ⟨kA, kB, fd, nc, me, x, y⟩ h1 h2 ⟨hy, a, g, mem, cA, cB, hx, has, T, G, Mm, U⟩
    simp only at hy hx T G Mm
    subst hy hx
    obtain ⟨f1, f2⟩ := hf s h2
    show Wp (b_X12_refine_8 (nI k) (nI n) nx co kA kB fd nc me (nI a) (nI s)) _
    unfold b_X12_refine_8
    rw [if_neg (show ¬ nI n ≤ nI s by rw [pI_le_iff (by omega) (by omega)]; omega)]
    refine wp_seq (key_ok hk hn h2 N hf) (fun u hu => ?_)
    subst hu
    rw [ldA_n (by omega) (by omega), f1, nI_l (by omega)]
    refine wp_seq (slot_ok (x := lN (PKN f nxt s k)) (y := lN (f s)) hM (by omega) T) (fun u hu => ?_)
    obtain ⟨j, hj, rfl, hu⟩ := hu
    rw [ldA_n hj (by omega)]
    rcases hu with ⟨r, hr, e1, e2, e3⟩ | ⟨e1, e2, e3⟩
    · rw [e1, if_pos (nI_pos' (by omega))]
      unfold j_X12_refine_109
      rw [ldA_n hj (by omega), e1, stA_n (by omega) (by omega)]
      refine wp_l ⟨pI_add, a, va_up g s r, mem, cA, cB, rfl, by omega, T, fun t ht => ?_, fun i hi => ?_, U⟩
      · show va_up nc s (nI r) t = nI (va_up g s r t) ∧ va_up g s r t < a ∧ cA (va_up g s r t) = _ ∧ cB (va_up g s r t) = _
        by_cases c : t = s
        · rw [upE c, upE c, c]
          exact ⟨rfl, hr, e2, e3⟩
        · rw [upN c, upN c]
          exact G t (by omega)
      · obtain ⟨m1, m2, m3⟩ := Mm i hi
        refine ⟨by omega, ?_, m3⟩
        rw [upN (by omega)]
        exact m2
    · rw [e1, if_neg (show ¬ (0 : Int32) ≤ -nI 1 by decide)]
      unfold f_X12_putKey
      rw [ldA_n (by omega) (by omega), f1, nI_l (by omega), stA_n hj (by omega), stA_n hj (by omega), stA_n hj (by omega), ob_s, stA_n (by omega) (by omega)]
      unfold j_X12_refine_109
      dsimp only
      rw [ldA_n hj (by omega), upE rfl, stA_n (by omega) (by omega)]
      refine wp_l ⟨pI_add, a + 1, va_up g s a, va_up mem a s, va_up cA a (lN (PKN f nxt s k)), va_up cB a (lN (f s)), pI_add, by omega, e3, fun t ht => ?_, fun i hi => ?_, fun i j hi hj q1 q2 => ?_⟩
      · show va_up nc s (nI a) t = nI (va_up g s a t) ∧ va_up g s a t < a + 1 ∧ va_up cA a (lN (PKN f nxt s k)) (va_up g s a t) = _ ∧ va_up cB a (lN (f s)) (va_up g s a t) = _
        by_cases c : t = s
        · rw [upE c, upE c, c, upE rfl, upE rfl]
          exact ⟨rfl, by omega, rfl, rfl⟩
        · obtain ⟨g1, g2, g3, g4⟩ := G t (by omega)
          rw [upN c, upN c, upN (by omega), upN (by omega)]
          exact ⟨g1, by omega, g3, g4⟩
      · show va_up mem a s i < s + 1 ∧ va_up g s a (va_up mem a s i) = i ∧ va_up me a (nI s) i = nI (va_up mem a s i)
        by_cases c : i = a
        · rw [upE c, upE c, upE rfl]
          exact ⟨by omega, c.symm, rfl⟩
        · obtain ⟨m1, m2, m3⟩ := Mm i (by omega)
          rw [upN c, upN c, upN (by omega)]
          exact ⟨by omega, m2, m3⟩
      · by_cases c : i = a
        · by_cases c2 : j = a
          · rw [c, c2]
          · rw [upE c, upN c2] at q1 q2
            exact absurd ⟨q1.symm, q2.symm⟩ (e2 j (by omega))
        · by_cases c2 : j = a
          · rw [upN c, upE c2] at q1 q2
            exact absurd ⟨q1, q2⟩ (e2 i (by omega))
          · rw [upN c, upN c2] at q1 q2
            exact U i j (by omega) (by omega) q1 q2
  · rintro ⟨kA, kB, fd, nc, me, x, y⟩ ⟨hy, R⟩
    simp only at hy R
    subst hy
    show Wp (b_X12_refine_8 (nI k) (nI n) nx co kA kB fd nc me x (nI n)) _
    unfold b_X12_refine_8
    rw [if_pos (Int32.le_refl _)]
    exact wp_r R
theorem ref_ok {k n : Nat} {nxt : Nat → Nat → Nat} {nx co : Nat → Int32} {f : Nat → Nat} {kA kB : Nat → Int64} {fd nc me : Nat → Int32} (hk : k ≤ 3) (hn : n ≤ 2000) (N : NX1 k n nxt nx) (hf : ∀ s, s < n → co s = nI (f s) ∧ f s < 2048) : Wp (f_X12_refine (nI k) (nI n) nx kA kB fd co nc me) (fun u => ∃ (a : Nat) (g mem : Nat → Nat), u.1 = nI a ∧ a ≤ n ∧ LB n a g mem u.2.2.2.2.1 u.2.2.2.2.2.2 ∧ RF n k nxt f g) := by
  obtain ⟨M, hM⟩ : ∃ M, M = 8192 := ⟨_, rfl⟩
  unfold f_X12_refine
  refine wp_seq (clear_ok hM) (fun u hu => wp_seq (ref_in hM hk hn N hf ⟨0, fun _ => 0, fun _ => 0, fun _ => 0, fun _ => 0, rfl, by omega, TR_0 hu, fun t ht => by omega, fun i hi => by omega, fun i j hi => by omega⟩) (fun v hv => ?_))
  obtain ⟨a, g, mem, cA, cB, hx, has, T, G, Mm, U⟩ := hv
  refine wp_seq (Q := fun w => ∀ s, s < n → w s = nI (g s)) (wp_fill 0 0 n (fun s => nI (g s)) (by omega) (by omega) (fun i f h1 h2 hf => ?_) (fun f hf => ?_)) (fun w hw => wp_some ⟨a, g, mem, hx, has, ⟨fun s hs => ⟨hw s hs, (G s hs).2.1⟩, Mm⟩, fun s t hs ht => ?_⟩)
  · show b_X12_refine_130 (nI n) v.2.2.2.1 f (nI i) = _
    unfold b_X12_refine_130
    rw [if_neg (show ¬ nI n ≤ nI i by rw [pI_le_iff (by omega) (by omega)]; omega), ldA_n (by omega) (by omega), (G i h2).1, stA_n (by omega) (by omega), pL1, pI_add, Nat.zero_add]
  · show Wp (b_X12_refine_130 (nI n) v.2.2.2.1 f (nI n)) _
    unfold b_X12_refine_130
    rw [if_pos (Int32.le_refl _)]
    refine wp_r (fun s hs => ?_)
    rw [hf s, if_pos (by omega), Nat.sub_zero]
  · obtain ⟨_, a2, a3, a4⟩ := G s hs
    obtain ⟨_, b2, b3, b4⟩ := G t ht
    have p1 : ∀ i, i < k → f (nxt s i) < 2048 := fun i hi => (hf _ (N s i hs hi).1).2
    have p2 : ∀ i, i < k → f (nxt t i) < 2048 := fun i hi => (hf _ (N t i ht hi).1).2
    have pw : 2048 ^ k ≤ 2 ^ 62 := Nat.le_trans (Nat.pow_le_pow_right (n := 2048) (by omega) hk) (by decide)
    have l1 := PKN_lt k p1
    have l2 := PKN_lt k p2
    have q1 := (hf s hs).2
    have q2 := (hf t ht).2
    constructor
    · intro e
      rw [e] at a3 a4
      have e1 := lN_inj64 (show PKN f nxt s k < 2 ^ 64 by omega) (show PKN f nxt t k < 2 ^ 64 by omega) (a3.symm.trans b3)
      have e2 := lN_inj64 (show f s < 2 ^ 64 by omega) (show f t < 2 ^ 64 by omega) (a4.symm.trans b4)
      exact ⟨e2, PKN_inj k p1 p2 e1⟩
    · rintro ⟨e1, e2⟩
      refine U _ _ a2 b2 ?_ ?_
      · rw [a3, b3, PKN_congr k e2]
      · rw [a4, b4, e1]
theorem LB_n {n a : Nat} {g mem : Nat → Nat} {co me : Nat → Int32} (h : LB n a g mem co me) : ncl g n = a := ncl_lab (fun s hs => (h.1 s hs).2) (fun j hj => ⟨mem j, (h.2 j hj).1, (h.2 j hj).2.1⟩)
theorem min_ok {k n : Nat} {nxt : Nat → Nat → Nat} {mk : Nat → Nat} {x1 mp fp ft st ip sc : Int32} {ml mv nx co nc me fd : Nat → Int32} {cA cB kA kB : Nat → Int64} (hk : k ≤ 3) (h1 : 1 ≤ n) (hn : n ≤ 2000) (N : NX1 k n nxt nx) (hM : ∀ s, s < n → mk s < 10 ∧ f_X12_answerAt (nI s) x1 mp fp ft st ip ml mv cA cB = some (nI (mk s))) : Wp (f_X12_minimize x1 ml mv cA cB nx (nI k) mp fp ft st ip (nI n) sc kA kB fd co nc me) (fun u => ∃ (a : Nat) (g mem : Nat → Nat), u.1 = nI a ∧ 1 ≤ a ∧ a ≤ n ∧ LB n a g mem u.2.2.2.2.1 u.2.2.2.2.2.2 ∧ ∀ s t, s < n → t < n → (g s = g t ↔ eqv n k nxt mk s t)) := by
  unfold f_X12_minimize
  refine wp_seq (Q := fun w => ∀ s, s < n → w s = nI (mk s)) (wp_fill 0 0 n (fun s => nI (mk s)) (by omega) (by omega) (fun i f h1 h2 hf => ?_) (fun f hf => ?_)) (fun w hw => ?_)
  · show b_X12_minimize_2 ml mv cA cB mp fp ft st ip (nI n) x1 f (nI i) = _
    unfold b_X12_minimize_2
    rw [if_neg (show ¬ nI n ≤ nI i by rw [pI_le_iff (by omega) (by omega)]; omega), (hM i h2).2, ob_s, stA_n (by omega) (by omega), pL1, pI_add, Nat.zero_add]
  · show Wp (b_X12_minimize_2 ml mv cA cB mp fp ft st ip (nI n) x1 f (nI n)) _
    unfold b_X12_minimize_2
    rw [if_pos (Int32.le_refl _)]
    refine wp_r (fun s hs => ?_)
    rw [hf s, if_pos (by omega), Nat.sub_zero]
  refine wp_seq (ref_ok (f := mk) hk hn N (fun s hs => ⟨hw s hs, Nat.lt_trans (hM s hs).1 (by omega)⟩)) (fun v hv => ?_)
  obtain ⟨a, g, mem, v1, ha, L, R⟩ := hv
  refine wp_seq (Q := fun u => ∃ (a : Nat) (g mem : Nat → Nat), u.1 = nI a ∧ 1 ≤ a ∧ a ≤ n ∧ LB n a g mem u.2.2.2.2.1 u.2.2.2.2.2.2 ∧ ∀ s t, s < n → t < n → (g s = g t ↔ eqv n k nxt mk s t)) ?_ (fun u hu => wp_some hu)
  have hR : ∀ f g, RF n k nxt f g → (∀ s t, s < n → t < n → eqv n k nxt mk s t → f s = f t) → ∀ s t, s < n → t < n → eqv n k nxt mk s t → g s = g t := by
    intro f g RR hf s t hs ht e
    refine (RR s t hs ht).mpr ⟨hf s t hs ht e, fun c hc => ?_⟩
    exact hf _ _ (N s c hs hc).1 (N t c ht hc).1 (eqv_d e hs ht hc)
  refine wp_it (fun q z => ∃ (p a : Nat) (f g mem : Nat → Nat), q = n + 1 - p ∧ p ≤ n ∧ z.1 = nI p ∧ z.2.2.2.2.2.2.2 = nI a ∧ a ≤ n ∧ LB n a g mem z.2.2.2.2.1 z.2.2.2.2.2.2.1 ∧ RF n k nxt f g ∧ (p = 0 ∨ p = ncl f n) ∧ (∀ s t, s < n → t < n → f s = f t → mk s = mk t) ∧ ∀ s t, s < n → t < n → eqv n k nxt mk s t → g s = g t) (n + 1) ⟨0, a, mk, g, mem, rfl, by omega, rfl, v1, ha, L, R, Or.inl rfl, fun _ _ _ _ h => h, hR mk g R (fun s t hs ht e => eqv_m e hs ht)⟩ (by omega) ?_
  rintro q ⟨z0, z1, z2, z3, z4, z5, z6, z7⟩ ⟨p, a, f, g, mem, rfl, hp, e0, e7, ha, L, RR, hpf, hfm, he⟩
  simp only at e0 e7 L
  subst e0 e7
  have ng := LB_n L
  have a1 : 1 ≤ a := by
    have := (L.1 0 (by omega)).2
    omega
  show Wp (b_X12_minimize_38 nx (nI k) (nI n) (nI p) z1 z2 z3 z4 z5 z6 (nI a)) _
  unfold b_X12_minimize_38
  have nr := ncl_ref (f := f) (g := g) (N := n) (fun s t hs ht e => ((RR s t hs ht).mp e).1)
  by_cases c : a ≤ p
  · rw [if_pos ((pI_le_iff (by omega) (by omega)).mpr c)]
    have hpf : p = ncl f n := by
      rcases hpf with h | h
      · omega
      · exact h
    have hpa : p = a := by omega
    have hfg := nr.2 (by omega)
    refine wp_r ⟨p, g, mem, rfl, by omega, hp, by rw [hpa]; exact L, fun s t hs ht => ⟨fun e => ?_, he s t hs ht⟩⟩
    refine eqv_lab (f := g) (fun s t hs ht e => ?_) hs ht e
    obtain ⟨q1, q2⟩ := (RR s t hs ht).mp e
    exact ⟨hfm s t hs ht q1, fun c hc => hfg _ _ (N s c hs hc).1 (N t c ht hc).1 (q2 c hc)⟩
  · rw [if_neg (show ¬ nI a ≤ nI p by rw [pI_le_iff (by omega) (by omega)]; exact c)]
    refine wp_seq (ref_ok (f := g) hk hn N (fun s hs => ⟨(L.1 s hs).1, by have := (L.1 s hs).2; omega⟩)) (fun v hv => ?_)
    obtain ⟨a', g', mem', v1, ha', L', R'⟩ := hv
    exact wp_l ⟨n + 1 - a, by omega, a, a', g, g', mem', rfl, ha, rfl, v1, ha', L', R', Or.inr ng.symm, fun s t hs ht e => hfm s t hs ht ((RR s t hs ht).mp e).1, hR g g' R' he⟩
