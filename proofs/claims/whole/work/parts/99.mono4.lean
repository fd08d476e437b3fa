set_option linter.unusedVariables false
/-! monoidSize -/
theorem tg_ok {n k b : Nat} {nxt : Nat → Nat → Nat} {mm pl bo fi sz : Nat → Nat} {nx ms ps bs fs ss gn : Nat → Int32} {pts : Int32} (hn : n ≤ 2000) (hb : b ≤ 400) (hk : k ≤ 3) (N : NX1 k n nxt nx) (D : PD n b mm pl bo fi sz ms ps bs fs ss) : Wp (f_X3_takeGenerators (nI b) (nI k) ms bs fs nx pts gn) (fun u => u.1 = nI b ∧ GN b k (fun c j => bo (nxt (mm (fi j)) c)) u.2) := by
  unfold f_X3_takeGenerators
  refine wp_seq (Q := fun u => GN b k (fun c j => bo (nxt (mm (fi j)) c)) u) ?_ (fun u hu => wp_some ⟨rfl, hu⟩)
  refine wp_up (fun c v => v.2 = nI c ∧ GN b c (fun c j => bo (nxt (mm (fi j)) c)) v.1) 0 k ⟨rfl, fun c j hc => by omega⟩ (by omega) (by omega) ?_ ?_
  · rintro c ⟨x, y⟩ h1 h2 ⟨hy, G⟩
    simp only at hy G
    subst hy
    show Wp (b_X3_takeGenerators_10 (nI k) ms bs fs nx (nI b) x (nI c)) _
    unfold b_X3_takeGenerators_10
    rw [if_neg (show ¬ nI k ≤ nI c by rw [pI_le_iff (by omega) (by omega)]; omega)]
    refine wp_seq (Q := fun u => ∀ j, u j = if c * 400 + 0 ≤ j ∧ j < c * 400 + b then nI (bo (nxt (mm (fi (j - c * 400))) c)) else x j) (wp_fill (c * 400) 0 b (fun j => nI (bo (nxt (mm (fi j)) c))) (by omega) (by omega) (fun j f j1 j2 hf => ?_) (fun f hf => ?_)) (fun u hu => wp_l ⟨pI_add, fun c' j hc' hj => ?_⟩)
    · obtain ⟨q1, q2, _, _⟩ := nb_ok hn hk h2 N D j2
      show b_X3_takeGenerators_21 ms bs fs nx (nI b) (nI c) f (nI j) = _
      unfold b_X3_takeGenerators_21
      rw [if_neg (show ¬ nI b ≤ nI j by rw [pI_le_iff (by omega) (by omega)]; omega), q1, ob_s, pL400, pI_mul, pI_add, stA_n (by omega) (by omega), pL1, pI_add]
    · show Wp (b_X3_takeGenerators_21 ms bs fs nx (nI b) (nI c) f (nI b)) _
      unfold b_X3_takeGenerators_21
      rw [if_pos (Int32.le_refl _)]
      exact wp_r hf
    · show u (c' * 400 + j) = _ ∧ _
      rw [hu]
      by_cases e : c' = c
      · rw [e, if_pos (by omega), Nat.add_sub_cancel_left]
        exact ⟨rfl, (nb_ok hn hk h2 N D hj).2.1⟩
      · rw [if_neg (by omega)]
        exact G c' j (by omega) hj
  · rintro ⟨x, y⟩ ⟨hy, G⟩
    simp only at hy G
    subst hy
    show Wp (b_X3_takeGenerators_10 (nI k) ms bs fs nx (nI b) x (nI k)) _
    unfold b_X3_takeGenerators_10
    rw [if_pos (Int32.le_refl _)]
    exact wp_r G
theorem swi_ok {M b : Nat} {cnt : Int32} {im sl : Nat → Int32} (hM : M = 1024) (hb : b ≤ 400) : Wp (f_X3_startWithIdentity (nI b) cnt im sl) (fun u => u.1 = nI 1 ∧ IM b 1 (fun _ p => p) u.2.1 ∧ MT M u.2.2 1 b (fun _ p => p)) := by
  unfold f_X3_startWithIdentity
  refine wp_seq (fill_ok (by omega)) (fun s hs => ?_)
  refine wp_seq (Q := fun u => ∀ j, u j = if 0 + 0 ≤ j ∧ j < 0 + b then nI (j - 0) else im j) (wp_fill 0 0 b (fun j => nI j) (by omega) (by omega) (fun j f j1 j2 hf => ?_) (fun f hf => ?_)) (fun u hu => ?_)
  · show b_X3_startWithIdentity_15 (nI b) f (nI j) = _
    unfold b_X3_startWithIdentity_15
    rw [if_neg (show ¬ nI b ≤ nI j by rw [pI_le_iff (by omega) (by omega)]; omega), stA_n (by omega) (by omega), pL1, pI_add, Nat.zero_add]
  · show Wp (b_X3_startWithIdentity_15 (nI b) f (nI b)) _
    unfold b_X3_startWithIdentity_15
    rw [if_pos (Int32.le_refl _)]
    exact wp_r hf
  · have I : IM b 1 (fun _ p => p) u := fun e p he hp => by
      rcases (show e = 0 by omega) with rfl
      rw [hu, if_pos (by omega), Nat.zero_mul, Nat.zero_add, Nat.sub_zero]
      exact ⟨rfl, hp⟩
    refine wp_seq (show Wp (f_X3_settleLast u (nI b) (0 : Int32) s) _ from settle_ok (m := 0) (F := fun _ p => p) hM hb (by omega) I (HT_0 (fun j hj => hs.1 j (by omega)))) (fun v hv => ?_)
    rcases hv with ⟨⟨r, hr, _⟩, _⟩ | ⟨_, ⟨_, sl', rfl, T⟩ | ⟨h, _⟩⟩
    · omega
    · exact wp_some ⟨rfl, I, T⟩
    · omega
theorem bj_ok {n k b : Nat} {nxt : Nat → Nat → Nat} {mk mm pl bo fi sz g mem : Nat → Nat} {nx ms ps bs fs ss co me : Nat → Int32} (hn : n ≤ 2000) (hk1 : 1 ≤ k) (hk : k ≤ 3) (N : NX1 k n nxt nx) (D : PD n b mm pl bo fi sz ms ps bs fs ss) (h1 : ∀ x y, x < n → y < n → (bo x = bo y ↔ eqv n k nxt mk x y)) (L : LB n b g mem co me) (h2 : ∀ x y, x < n → y < n → (g x = g y ↔ eqv n k nxt mk x y)) : BJ b k (fun j => g (mm (fi j))) (fun c j => bo (nxt (mm (fi j)) c)) (fun c i => g (nxt (mem i) c)) := by
  have rp : ∀ j, j < b → mm (fi j) < n ∧ bo (mm (fi j)) = j := fun j hj => (nb_ok (c := 0) hn hk (by omega) N D hj).2.2
  have gb : ∀ x, x < n → g (mm (fi (bo x))) = g x := fun x hx => by
    obtain ⟨a1, a2⟩ := rp (bo x) (D.2.1 x hx).2.2.2.2
    exact (h2 _ _ a1 hx).mpr ((h1 _ _ a1 hx).mp a2)
  refine ⟨fun p hp => (L.1 _ (rp p hp).1).2, fun p q hp hq e => ?_, fun i hi => ?_, fun c p hc hp => ?_⟩
  · have := (h1 _ _ (rp p hp).1 (rp q hq).1).mpr ((h2 _ _ (rp p hp).1 (rp q hq).1).mp e)
    rw [(rp p hp).2, (rp q hq).2] at this
    exact this
  · obtain ⟨m1, m2, _⟩ := L.2 i hi
    refine ⟨bo (mem i), (D.2.1 _ m1).2.2.2.2, ?_⟩
    show g (mm (fi (bo (mem i)))) = i
    rw [gb _ m1, m2]
  · obtain ⟨a1, a2⟩ := rp p hp
    obtain ⟨m1, m2, _⟩ := L.2 _ (L.1 _ a1).2
    show g (mm (fi (bo (nxt (mm (fi p)) c)))) = g (nxt (mem (g (mm (fi p)))) c)
    rw [gb _ (N _ c a1 hc).1]
    exact (h2 _ _ (N _ c a1 hc).1 (N _ c m1 hc).1).mpr (eqv_d ((h2 _ _ a1 m1).mp m2.symm) a1 m1 hc)
theorem idp_ok {a : Nat} {pr : Nat → Int32} (ha : a ≤ 400) : Wp (loopN (fun v => b_X12_monoidSize_46 (nI a) v.1 v.2) FU (pr, (0 : Int32))) (fun u => ∀ i, i < a → u i = nI i ∧ i < a) := by
  refine wp_mono (P := fun u => ∀ j, u j = if 0 + 0 ≤ j ∧ j < 0 + a then nI (j - 0) else pr j) (wp_fill 0 0 a (fun j => nI j) (by omega) (by omega) (fun j f j1 j2 hf => ?_) (fun f hf => ?_)) (fun u hu i hi => ?_)
  · show b_X12_monoidSize_46 (nI a) f (nI j) = _
    unfold b_X12_monoidSize_46
    rw [if_neg (show ¬ nI a ≤ nI j by rw [pI_le_iff (by omega) (by omega)]; omega), stA_n (by omega) (by omega), pL1, pI_add, Nat.zero_add]
  · show Wp (b_X12_monoidSize_46 (nI a) f (nI a)) _
    unfold b_X12_monoidSize_46
    rw [if_pos (Int32.le_refl _)]
    exact wp_r hf
  · rw [hu i, if_pos (by omega), Nat.sub_zero]
    exact ⟨rfl, hi⟩
/-- the reference's part behind the classes -/
def RM (k a : Int32) (nx co me pr el : Nat → Int32) : Option ((Int32 × (Nat → Int32) × (Nat → Int32)) ⊕ (Int32 × (Nat → Int32) × (Nat → Int32))) := (loopN (fun v => b_X12_monoidSize_46 a v.1 v.2) FU (pr, (0 : Int32))).bind (fun u26 => (f_X12_addProduct u26 a (0 : Int32) el).bind (fun u28 => loopN (fun v => b_X12_monoidSize_73 k a nx co me v.1 v.2.1 v.2.2.1 v.2.2.2) FU (u28.1, u28.2, u26, (0 : Int32))))
theorem gen_ok {n k b : Nat} {nxt : Nat → Nat → Nat} {mk mm pl bo fi sz g mem : Nat → Nat} {nx nx' ms ps bs fs ss co me gn im sl pr el : Nat → Int32} {cnt pts : Int32} (hn : n ≤ 2000) (hk1 : 1 ≤ k) (hk : k ≤ 3) (hb : b ≤ 400) (N : NX1 k n nxt nx) (N' : NX1 k n nxt nx') (D : PD n b mm pl bo fi sz ms ps bs fs ss) (h1 : ∀ x y, x < n → y < n → (bo x = bo y ↔ eqv n k nxt mk x y)) (L : LB n b g mem co me) (h2 : ∀ x y, x < n → y < n → (g x = g y ↔ eqv n k nxt mk x y)) : W2 (f_X3_generate (nI b) (nI k) ms bs fs nx cnt pts gn im sl) (RM (nI k) (nI b) nx' co me pr el) (fun o m => (o.1 = 0 ∧ ∃ y, m = .inl y) ∨ (o.1 = 1 ∧ ∃ y, m = .inr y ∧ o.2.1 = y.1)) := by
  obtain ⟨M, hM⟩ : ∃ M, M = 1024 := ⟨_, rfl⟩
  unfold f_X3_generate RM
  rw [if_pos (show nI b ≤ (400 : Int32) from (pI_le_iff (b := 400) (by omega) (by omega)).mpr hb)]
  refine w2_l (tg_ok hn hb hk N D) (fun u hu => ?_)
  rw [hu.1]
  refine w2_l (swi_ok hM hb) (fun v hv => w2_r (idp_ok hb) (fun w hw => w2_r (show Wp (f_X12_addProduct w (nI b) (0 : Int32) el) _ from addpr_ok (m := 0) (G := fun _ i => i) (f := fun i => i) hb (by omega) (fun e i he => by omega) hw) (fun x hx => ?_)))
  obtain ⟨y, z, ey, ez, hyz⟩ := gen_out (v0 := (v.1, v.2.1, v.2.2)) (w0 := (x.1, x.2, w)) hM hn (PD_b D) hb hk N' L hu.2 (bj_ok hn hk1 hk N D h1 L h2) ⟨1, fun _ p => p, va_up (fun _ i => i) 0 (fun i => i), hv.1, hx.1, by omega, by omega, hv.2.1, hv.2.2, hx.2, fun e p he hp => by
    rcases (show e = 0 by omega) with rfl
    rw [upE rfl]⟩
  dsimp only at ey ez
  rw [ey, ez, ob_s]
  cases y with
  | inl y =>
    cases z with
    | inl z => exact w2_s (Or.inl ⟨rfl, z, rfl⟩)
    | inr z => exact absurd hyz id
  | inr y =>
    cases z with
    | inl z => exact absurd hyz id
    | inr z => exact w2_s (Or.inr ⟨rfl, z, rfl, hyz⟩)
