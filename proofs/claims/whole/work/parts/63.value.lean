set_option linter.unusedVariables false
/-! value, signature -/
theorem valT_ok {t k b l L w : Nat} {kd bd ln pt wl wd ws : Nat → Int32} (K : kOK k b l) (hl4 : l ≤ 4) (ht : t < 6) (hL : L ≤ 12) (hw : w < 3) (hl : wl w = nI L) (e1 : kd t = nI k) (e2 : bd t = nI b) (e3 : ln t = nI l) : Wp (f_X12_valueOfTest (nI t) (nI w) wl wd kd bd ln pt ws) (fun r => r.1 = nI (vN k b l (fun i => pt (4 * t + i)) (fun i => wd (12 * w + i)) L)) := by
  unfold f_X12_valueOfTest
  simp (disch := omega) only [↓reduceIte, if_pos, if_neg, ldA_n, stA_n, pI_add, pI_mul, pI_sub, pI_lt_iff, pI_le_iff, pI_eq_iff, ob_s, upE, upN, pI_dec2, asR_some, bitZ0, bitZ1, Sum.elim_inl, Sum.elim_inr, pL0, pL1, pL2, pL3, pL4, pL5, pL6, pL7, pL8, pL10, pL12, pL15, pL16, pL20, pL21, pL22, pL23, pL29, pL31, pL35, pL37, pL48, pL49, pL50, pL52, pL57, pL94, pL97, pL99, pL100, pL127, pL400, pL1000, pL1023, pL1024, pL2000, pL2001, pL2187, pL4095, pL4096, pL8191, pL8192, pL65535, e1, e2, e3]
  exact wp_seq (valOf_ok K hL (by omega) (by omega) hw hl) (fun u hu => wp_some hu)
theorem p_value {x1 cnt ts sz : Int32} {q : Nat} {tq : Nat → Option TV} {rf mb : Nat → Option Nat} {kd bd ln pt ls wl wd ws : Nat → Int32} (w : Nat) (hw : w < 3) (hr : rf w = some q) (hT : TestsR tq cnt mb ts kd bd ln pt) (hW : WordR sz ls (wl w) wd (12 * w)) : W2 (f_X11_value x1 (nI w) q tq sz ls rf cnt mb) (f_X12_value x1 (nI w) ts wl wd kd bd ln pt ws) (fun o m => o = m.1) := by
  obtain ⟨⟨T, hT6, rfl, rfl, ht⟩, hM⟩ := hT
  obtain ⟨L, hL, rfl, hl, hd⟩ := hW
  rcases testC x1 hT6 with ⟨j, hj, rfl, e1, e2⟩ | ⟨e1, e2⟩
  · obtain ⟨a, v, k, b, l, h1, h2, h3, h4, h5, h6, h7⟩ := ht j hj
    have K := kOK_of h3
    have hl4 : l ≤ 4 := by
      obtain ⟨_, _, h⟩ := K
      omega
    unfold f_X11_value f_X12_value
    rw [e1, e2]
    simp (disch := omega) only [↓reduceIte, if_pos, if_neg, ldA_n, stA_n, pI_add, pI_mul, pI_sub, pI_lt_iff, pI_le_iff, pI_eq_iff, ob_s, upE, upN, pI_dec2, asR_some, bitZ0, bitZ1, Sum.elim_inl, Sum.elim_inr, pL0, pL1, pL2, pL3, pL4, pL5, pL6, pL7, pL8, pL10, pL12, pL15, pL16, pL20, pL21, pL22, pL23, pL29, pL31, pL35, pL37, pL48, pL49, pL50, pL52, pL57, pL94, pL97, pL99, pL100, pL127, pL400, pL1000, pL1023, pL1024, pL2000, pL2001, pL2187, pL4095, pL4096, pL8191, pL8192, pL65535, isW1, isW2, h1, tsA_s h2, hr, valFor_ok h3 hL]
    refine w2_r (valT_ok K hl4 (by omega) hL hw hl h4 h5 h6) (fun u hu => w2_s ?_)
    show _ = u.1
    rw [hu, vN_congr (p' := fun i => pt (4 * j + i)) (t' := fun i => wd (12 * w + i)) h7 hd]
  · unfold f_X11_value f_X12_value
    rw [e1, e2]
    exact w2_s rfl
theorem n_value {x1 x2 cnt ts sz : Int32} {q : Nat} {tq : Nat → Option TV} {rf mb : Nat → Option Nat} {kd bd ln pt ls wl wd ws : Nat → Int32} (hT : TestsR tq cnt mb ts kd bd ln pt) (h : f_X11_isWord x2 = some (nI 0) ∧ f_X12_isWord x2 = some (nI 0)) : W2 (f_X11_value x1 x2 q tq sz ls rf cnt mb) (f_X12_value x1 x2 ts wl wd kd bd ln pt ws) (fun o m => o = m.1) := by
  obtain ⟨⟨T, hT6, rfl, rfl, ht⟩, hM⟩ := hT
  unfold f_X11_value f_X12_value
  rcases testC x1 hT6 with ⟨j, hj, rfl, e1, e2⟩ | ⟨e1, e2⟩
  · rw [e1, e2, h.1, h.2]
    exact w2_s rfl
  · rw [e1, e2]
    exact w2_s rfl
/-- a signature, from the last of T tests down -/
def sg (val rng : Nat → Int32) (T : Nat) : Nat → Int32
  | 0 => 0
  | j + 1 => val (T - (j + 1)) + rng (T - (j + 1)) * sg val rng T j
theorem sg_congr {val rng val' rng' : Nat → Int32} {T : Nat} (h : ∀ t, t < T → val t = val' t ∧ rng t = rng' t) : ∀ j, j ≤ T → sg val rng T j = sg val' rng' T j := by
  intro j
  induction j with
  | zero => intro _; rfl
  | succ j ih =>
    intro hj
    show val (T - (j + 1)) + rng (T - (j + 1)) * sg val rng T j = val' (T - (j + 1)) + rng' (T - (j + 1)) * sg val' rng' T j
    rw [(h (T - (j + 1)) (by omega)).1, (h (T - (j + 1)) (by omega)).2, ih (by omega)]
theorem sg_st {val rng : Nat → Int32} {T i : Nat} (h0 : 0 < i) (hi : i ≤ T) : sg val rng T (T - (i - 1)) = val (i - 1) + rng (i - 1) * sg val rng T (T - i) := by
  obtain ⟨m, hm⟩ : ∃ m, m = T - i := ⟨_, rfl⟩
  rw [show T - (i - 1) = m + 1 by omega, ← hm]
  show val (T - (m + 1)) + rng (T - (m + 1)) * sg val rng T m = _
  rw [show T - (m + 1) = i - 1 by omega]
/-- the tests' data as numbers -/
def TDat (tq : Nat → Option TV) (T : Nat) (mb : Nat → Option Nat) (kd bd ln pt : Nat → Int32) (K B N : Nat → Nat) : Prop := ∀ t, t < T → ∃ a v, mb t = some a ∧ tq a = some v ∧ TestOK v (K t) (B t) (N t) ∧ kd t = nI (K t) ∧ bd t = nI (B t) ∧ ln t = nI (N t) ∧ ∀ i, i < N t → v.2.2.2.2.2.2 i = pt (4 * t + i)
theorem TDat_of {tq : Nat → Option TV} {T : Nat} {mb : Nat → Option Nat} {kd bd ln pt : Nat → Int32} (h : ∀ t, t < T → TestR tq (mb t) (kd t) (bd t) (ln t) (fun i => pt (4 * t + i))) : TDat tq T mb kd bd ln pt (fun t => (kd t).toNatClampNeg) (fun t => (bd t).toNatClampNeg) (fun t => (ln t).toNatClampNeg) := by
  intro t ht
  obtain ⟨a, v, k, b, l, h1, h2, h3, h4, h5, h6, h7⟩ := h t ht
  have K := kOK_of h3
  obtain ⟨K1, K2, K3⟩ := K
  have e1 : (kd t).toNatClampNeg = k := by rw [h4, nI_clamp (by omega)]
  have e2 : (bd t).toNatClampNeg = b := by rw [h5, nI_clamp (by omega)]
  have e3 : (ln t).toNatClampNeg = l := by rw [h6, nI_clamp (by omega)]
  refine ⟨a, v, h1, h2, ?_, ?_, ?_, ?_, ?_⟩
  · dsimp only; rw [e1, e2, e3]; exact h3
  · dsimp only; rw [e1]; exact h4
  · dsimp only; rw [e2]; exact h5
  · dsimp only; rw [e3]; exact h6
  · dsimp only; rw [e3]; exact h7
/-- ranges -/
def rN (k b : Nat) : Nat := if k = 2 then b + 1 else b
theorem sig2_ok {tq : Nat → Option TV} {T L w : Nat} {mb : Nat → Option Nat} {kd bd ln pt wl wd ws : Nat → Int32} {K B N : Nat → Nat} (hT : T ≤ 6) (D : TDat tq T mb kd bd ln pt K B N) (hL : L ≤ 12) (hw : w < 3) (hl : wl w = nI L) : Wp (f_X12_signatureOf (nI w) (nI T) wl wd kd bd ln pt ws) (fun r => r.1 = sg (fun t => nI (vN (K t) (B t) (N t) (fun i => pt (4 * t + i)) (fun i => wd (12 * w + i)) L)) (fun t => nI (rN (K t) (B t))) T T) := by
  unfold f_X12_signatureOf
  refine wp_seq (Q := fun u => u.2 = sg (fun t => nI (vN (K t) (B t) (N t) (fun i => pt (4 * t + i)) (fun i => wd (12 * w + i)) L)) (fun t => nI (rN (K t) (B t))) T T) ?_ (fun u hu => wp_some hu)
  refine wp_dn (fun i v => v.2.2 = nI i - nI 1 ∧ v.2.1 = sg (fun t => nI (vN (K t) (B t) (N t) (fun i => pt (4 * t + i)) (fun i => wd (12 * w + i)) L)) (fun t => nI (rN (K t) (B t))) T (T - i)) 0 T ⟨rfl, by rw [Nat.sub_self]; rfl⟩ (by omega) (by omega) ?_ ?_
  · rintro i ⟨f, x, y⟩ h1 h2 ⟨hy, hx⟩
    simp only at hy hx
    subst hy
    obtain ⟨a, v, d1, d2, d3, d4, d5, d6, d7⟩ := D (i - 1) (by omega)
    have Kk := kOK_of d3
    have Kk2 := Kk.2.2
    show Wp (b_X12_signatureOf_9 wl wd kd bd ln pt (nI w) f x (nI i - nI 1)) _
    unfold b_X12_signatureOf_9
    have hr := rangeOf_ok (show i - 1 < 6 by omega) (show K (i - 1) < 3 by omega) Kk.1 d4 d5
    simp (disch := omega) only [↓reduceIte, if_pos, if_neg, ldA_n, stA_n, pI_add, pI_mul, pI_sub, pI_lt_iff, pI_le_iff, pI_eq_iff, ob_s, upE, upN, pI_dec2, asR_some, bitZ0, bitZ1, Sum.elim_inl, Sum.elim_inr, pL0, pL1, pL2, pL3, pL4, pL5, pL6, pL7, pL8, pL10, pL12, pL15, pL16, pL20, pL21, pL22, pL23, pL29, pL31, pL35, pL37, pL48, pL49, pL50, pL52, pL57, pL94, pL97, pL99, pL100, pL127, pL400, pL1000, pL1023, pL1024, pL2000, pL2001, pL2187, pL4095, pL4096, pL8191, pL8192, pL65535, hr]
    refine wp_seq (valT_ok Kk (by omega) (by omega) hL hw hl d4 d5 d6) (fun u hu => wp_l ⟨n_sub1, ?_⟩)
    show nI (if K (i - 1) = 2 then B (i - 1) + 1 else B (i - 1)) * x + u.1 = _
    rw [sg_st h1 h2, hu, hx, Int32.add_comm]
    rfl
  · rintro ⟨f, x, y⟩ ⟨hy, hx⟩
    simp only at hy hx
    subst hy
    show Wp (b_X12_signatureOf_9 wl wd kd bd ln pt (nI w) f x (nI 0 - nI 1)) _
    unfold b_X12_signatureOf_9
    rw [if_pos (show nI 0 - nI 1 < 0 from n1_neg)]
    exact wp_r hx
theorem p_signature {cnt ts sz : Int32} {q : Nat} {tq : Nat → Option TV} {rf mb : Nat → Option Nat} {kd bd ln pt ls wl wd ws : Nat → Int32} (w : Nat) (hw : w < 3) (hr : rf w = some q) (hT : TestsR tq cnt mb ts kd bd ln pt) (hW : WordR sz ls (wl w) wd (12 * w)) : W2 (f_X11_signature (nI w) q tq sz ls rf cnt mb) (f_X12_signature (nI w) ts wl wd kd bd ln pt ws) (fun o m => o = m.1) := by
  obtain ⟨⟨T, hT6, rfl, rfl, ht⟩, hM⟩ := hT
  obtain ⟨L, hL, rfl, hl, hd⟩ := hW
  have D := TDat_of ht
  obtain ⟨K, hK⟩ : ∃ K : Nat → Nat, K = fun t => (kd t).toNatClampNeg := ⟨_, rfl⟩
  obtain ⟨B, hB⟩ : ∃ B : Nat → Nat, B = fun t => (bd t).toNatClampNeg := ⟨_, rfl⟩
  obtain ⟨N, hN⟩ : ∃ N : Nat → Nat, N = fun t => (ln t).toNatClampNeg := ⟨_, rfl⟩
  rw [← hK, ← hB, ← hN] at D
  unfold f_X11_signature f_X12_signature
  rw [isW1 hw, isW2 hw]
  show W2 ((loopN (fun v => b_X11_signature_24 q tq (nI L) ls rf mb (nI w) v.1 v.2) FU ((0 : Int32), (nI T - (1 : Int32)))).bind (fun u16 => some u16)) ((f_X12_signatureOf (nI w) (nI T) wl wd kd bd ln pt ws).bind (fun u3 => some (u3.1, u3.2))) _
  refine w2_l (P := fun u => u = sg (fun t => nI (vN (K t) (B t) (N t) (fun i => pt (4 * t + i)) (fun i => wd (12 * w + i)) L)) (fun t => nI (rN (K t) (B t))) T T) ?_ (fun u hu => w2_r (sig2_ok hT6 D hL hw hl) (fun m hm => w2_s (by rw [hu, hm])))
  refine wp_dn (fun i v => v.2 = nI i - nI 1 ∧ v.1 = sg (fun t => nI (vN (K t) (B t) (N t) (fun i => pt (4 * t + i)) (fun i => wd (12 * w + i)) L)) (fun t => nI (rN (K t) (B t))) T (T - i)) 0 T ⟨rfl, by rw [Nat.sub_self]; rfl⟩ (by omega) (by omega) ?_ ?_
  · rintro i ⟨x, y⟩ h1 h2 ⟨hy, hx⟩
    simp only at hy hx
    subst hy
    obtain ⟨a, v, d1, d2, d3, d4, d5, d6, d7⟩ := D (i - 1) (by omega)
    show Wp (b_X11_signature_24 q tq (nI L) ls rf mb (nI w) x (nI i - nI 1)) _
    unfold b_X11_signature_24
    simp (disch := omega) only [↓reduceIte, if_pos, if_neg, ldA_n, stA_n, pI_add, pI_mul, pI_sub, pI_lt_iff, pI_le_iff, pI_eq_iff, ob_s, upE, upN, pI_dec2, asR_some, bitZ0, bitZ1, Sum.elim_inl, Sum.elim_inr, pL0, pL1, pL2, pL3, pL4, pL5, pL6, pL7, pL8, pL10, pL12, pL15, pL16, pL20, pL21, pL22, pL23, pL29, pL31, pL35, pL37, pL48, pL49, pL50, pL52, pL57, pL94, pL97, pL99, pL100, pL127, pL400, pL1000, pL1023, pL1024, pL2000, pL2001, pL2187, pL4095, pL4096, pL8191, pL8192, pL65535, d1, tsA_s d2, hr, valFor_ok d3 hL]
    refine wp_l ⟨n_sub1, ?_⟩
    show nI (vN (K (i - 1)) (B (i - 1)) (N (i - 1)) v.2.2.2.2.2.2 ls L) + v.2.2.1 * x = _
    rw [sg_st h1 h2, hx, d3.2.2.1, vN_congr (p' := fun c => pt (4 * (i - 1) + c)) (t' := fun i => wd (12 * w + i)) d7 hd]
    rfl
  · rintro ⟨x, y⟩ ⟨hy, hx⟩
    simp only at hy hx
    subst hy
    show Wp (b_X11_signature_24 q tq (nI L) ls rf mb (nI w) x (nI 0 - nI 1)) _
    unfold b_X11_signature_24
    rw [if_pos (show nI 0 - nI 1 < 0 from n1_neg)]
    exact wp_r hx
theorem n_signature {x cnt ts sz : Int32} {q : Nat} {tq : Nat → Option TV} {rf mb : Nat → Option Nat} {kd bd ln pt ls wl wd ws : Nat → Int32} (h : f_X11_isWord x = some (nI 0) ∧ f_X12_isWord x = some (nI 0)) : f_X11_signature x q tq sz ls rf cnt mb = some (-1) ∧ f_X12_signature x ts wl wd kd bd ln pt ws = some (-1, ws) := by
  unfold f_X11_signature f_X12_signature
  rw [h.1, h.2]
  exact ⟨rfl, rfl⟩
