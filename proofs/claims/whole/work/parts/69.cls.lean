set_option linter.unusedVariables false
/-! classes, classSize, findCollision: both sides -/
theorem tests_data {tq : Nat → Option TV} {cnt ts : Int32} {mb : Nat → Option Nat} {kd bd ln pt : Nat → Int32} (h : TestsR tq cnt mb ts kd bd ln pt) : ∃ (T : Nat) (K B N : Nat → Nat) (P : Nat → Nat → Int32), T ≤ 6 ∧ cnt = nI T ∧ ts = nI T ∧ TDat tq T mb kd bd ln pt K B N ∧ BDat tq T mb K B N P ∧ (∀ i, i < T → kOK (K i) (B i) (N i)) ∧ ∀ t, t < T → ∀ i, i < N t → P t i = pt (4 * t + i) := by
  obtain ⟨⟨T, hT6, h1, h2, ht⟩, hM⟩ := h
  have D := TDat_of ht
  refine ⟨T, _, _, _, _, hT6, h1, h2, D, BDat_of D, fun i hi => ?_, fun t ht' i hi => ?_⟩
  · obtain ⟨a, v, _, _, h3, _⟩ := D i hi
    exact kOK_of h3
  · obtain ⟨a, v, d1, d2, d3, d4, d5, d6, d7⟩ := D t ht'
    rw [← d7 i hi]
    show patOf tq (mb t) i = _
    unfold patOf
    rw [d1, show (some a).bind tq = tq a from rfl, d2]
    rfl
theorem n07 (x : Int32) : (∃ n, n ≤ 7 ∧ x = nI n) ∨ (f_X12_isBetween x 0 7 = some 0 ∧ (x < 0 ∨ (¬ x < 0 ∧ ¬ x ≤ 7))) := by
  rcases btw_out (x := x) (a := 0) (b := 7) (by omega) (by omega) with ⟨j, h1, h2, rfl⟩ | ⟨h, h2⟩
  · exact Or.inl ⟨j, h2, rfl⟩
  · refine Or.inr ⟨h, ?_⟩
    by_cases c : x < 0
    · exact Or.inl c
    · exact Or.inr ⟨c, fun h3 => by
        rcases h2 with h2 | h2
        · exact c h2
        · exact absurd h3 (Int32.not_le.mpr h2)⟩
theorem p_classes {x1 le le' cnt ts c0 sd : Int32} {tq : Nat → Option TV} {mb : Nat → Option Nat} {kd bd ln pt wl wd pf s0 s1 hd sl : Nat → Int32} {low high : Nat → Int64} (hL : LetR le le') (hT : TestsR tq cnt mb ts kd bd ln pt) : W2 (f_X11_classes x1 tq le cnt mb c0 low high s0 sl) (f_X12_classes x1 kd bd ln pt le' ts sd wl wd pf s1 hd) (fun o m => o.1 = m.1 ∧ (∀ v, m.2.2.1 v = wl v) ∧ ∀ j, m.2.2.2.1 j = wd j) := by
  obtain ⟨k, hk1, hk3, rfl, rfl⟩ := hL
  obtain ⟨T, K, B, N, P, hT6, rfl, rfl, D, BD, hK, hP⟩ := tests_data hT
  unfold f_X11_classes f_X12_classes
  rcases n07 x1 with ⟨n, hn, rfl⟩ | ⟨h1, h2⟩
  · have hq := pow_le hk3 hn
    rw [if_neg (pI_nneg (by omega)), if_pos (show nI n ≤ (7 : Int32) from (pI_le_iff (b := 7) (by omega) (by omega)).mpr hn), show f_X12_isBetween (nI n) 0 7 = some (nI 1) from btw_in (a := 0) (b := 7) (by omega) hn (by omega), ob_s, if_neg (show ¬ nI 1 = (0 : Int32) by decide)]
    refine w2_l (list_ok (by omega) hk1 hk3 hn hK BD) (fun u hu => w2_r (fsig_ok hT6 hk1 hk3 hn D hP) (fun v hv => ?_))
    obtain ⟨v1, v2, v3, v4⟩ := hv
    rw [hu.1, v1]
    refine w2_l (dist_ok hq) (fun a ha => w2_r (cls_ok hq) (fun b hb => w2_s ⟨?_, v2, v3⟩))
    show a.1 = b
    rw [ha, hb, ncl_congr (g := v.2.2.2.2.1) (fun s t hs ht => by rw [hu.2 s hs, hu.2 t ht, v4 s hs, v4 t ht])]
  · rw [h1]
    rcases h2 with h2 | ⟨h2, h3⟩
    · rw [if_pos h2]
      exact w2_s ⟨rfl, fun _ => rfl, fun _ => rfl⟩
    · rw [if_neg h2, if_neg h3]
      exact w2_s ⟨rfl, fun _ => rfl, fun _ => rfl⟩
theorem p_classSize {x1 x2 le le' cnt ts c0 sd : Int32} {tq : Nat → Option TV} {mb : Nat → Option Nat} {kd bd ln pt wl wd pf s0 s1 hd : Nat → Int32} {low high : Nat → Int64} (hL : LetR le le') (hT : TestsR tq cnt mb ts kd bd ln pt) : W2 (f_X11_classSize x1 x2 tq le cnt mb c0 low high s0) (f_X12_classSize x1 x2 kd bd ln pt le' ts sd wl wd pf s1 hd) (fun o m => o.1 = m.1 ∧ (∀ v, m.2.2.1 v = wl v) ∧ ∀ j, m.2.2.2.1 j = wd j) := by
  obtain ⟨k, hk1, hk3, rfl, rfl⟩ := hL
  obtain ⟨T, K, B, N, P, hT6, rfl, rfl, D, BD, hK, hP⟩ := tests_data hT
  unfold f_X11_classSize f_X12_classSize
  rcases n07 x1 with ⟨n, hn, rfl⟩ | ⟨h1, h2⟩
  · have hq := pow_le hk3 hn
    rw [if_neg (pI_nneg (by omega)), if_pos (show nI n ≤ (7 : Int32) from (pI_le_iff (b := 7) (by omega) (by omega)).mpr hn), show f_X12_isBetween (nI n) 0 7 = some (nI 1) from btw_in (a := 0) (b := 7) (by omega) hn (by omega), ob_s, if_neg (show ¬ nI 1 = (0 : Int32) by decide)]
    refine w2_l (list_ok (by omega) hk1 hk3 hn hK BD) (fun u hu => w2_r (fsig_ok hT6 hk1 hk3 hn D hP) (fun v hv => ?_))
    obtain ⟨v1, v2, v3, v4⟩ := hv
    rw [hu.1, v1]
    exact w2_b (csz_ok hq (fun w hw => by rw [hu.2 w hw, v4 w hw])) (fun a b hab => w2_s ⟨hab, v2, v3⟩)
  · rw [h1]
    rcases h2 with h2 | ⟨h2, h3⟩
    · rw [if_pos h2]
      exact w2_s ⟨rfl, fun _ => rfl, fun _ => rfl⟩
    · rw [if_neg h2, if_neg h3]
      exact w2_s ⟨rfl, fun _ => rfl, fun _ => rfl⟩
/-- what both find -/
def FCX (wl wd : Nat → Int32) (o : Int32 × Int32 × Int32 × (Nat → Int64) × (Nat → Int64) × (Nat → Int32) × (Nat → Int32) × Int32) (m : Int32 × (Nat → Int32) × (Nat → Int32) × (Nat → Int32) × (Nat → Int32) × (Nat → Int32) × Int32 × Int32 × Int32) : Prop := (∀ v, m.2.1 v = wl v) ∧ (∀ j, m.2.2.1 j = wd j) ∧ ∃ n a b, n ≤ 7 ∧ a < 2187 ∧ b < 2187 ∧ o.2.1 = nI a ∧ o.2.2.1 = nI b ∧ o.2.2.2.2.2.2.2 = nI n ∧ m.2.2.2.2.2.2.1 = nI n ∧ m.2.2.2.2.2.2.2.1 = nI a ∧ m.2.2.2.2.2.2.2.2 = nI b
theorem fc_loop {q0 q1 : Nat} {c0 p1 p2 sd : Int32} {T k : Nat} {tq : Nat → Option TV} {mb : Nat → Option Nat} {K B N : Nat → Nat} {P : Nat → Nat → Int32} {kd bd ln pt wl wd pf s0 s1 hd sl : Nat → Int32} {low high : Nat → Int64} (hT6 : T ≤ 6) (hk1 : 1 ≤ k) (hk3 : k ≤ 3) (D : TDat tq T mb kd bd ln pt K B N) (BD : BDat tq T mb K B N P) (hK : ∀ i, i < T → kOK (K i) (B i) (N i)) (hP : ∀ t, t < T → ∀ i, i < N t → P t i = pt (4 * t + i)) (H0 : LST T K B N P k 0 c0 low high) :
    W2 (loopN (fun v => b_X11_findCollision_9 q0 q1 tq (nI k) (nI T) mb v.1 v.2.1 v.2.2.1 v.2.2.2.1 v.2.2.2.2.1 v.2.2.2.2.2.1 v.2.2.2.2.2.2.1 v.2.2.2.2.2.2.2) FU (c0, p1, p2, low, high, s0, sl, (1 : Int32))) (loopN (fun v => b_X12_findCollision_2 kd bd ln pt (nI k) (nI T) v.1 v.2.1 v.2.2.1 v.2.2.2.1 v.2.2.2.2.1 v.2.2.2.2.2.1 v.2.2.2.2.2.2) FU (sd, wl, wd, pf, s1, hd, (1 : Int32))) (SR (FCX wl wd) (fun _ m => (∀ v, m.2.1 v = wl v) ∧ ∀ j, m.2.2.1 j = wd j)) := by
  refine w2_up (fun n v w => v.2.2.2.2.2.2.2 = nI n ∧ w.2.2.2.2.2.2 = nI n ∧ LST T K B N P k (n - 1) v.1 v.2.2.2.1 v.2.2.2.2.1 ∧ (∀ c, w.2.1 c = wl c) ∧ ∀ j, w.2.2.1 j = wd j) 1 8 ⟨rfl, rfl, H0, fun _ => rfl, fun _ => rfl⟩ (by omega) (by omega) ?_ ?_
  · rintro n ⟨a1, a2, a3, a4, a5, a6, a7, a8⟩ ⟨b1, b2, b3, b4, b5, b6, b7⟩ h1 h2 ⟨e1, e2, e3, e4, e5⟩
    simp only at e1 e2 e3 e4 e5
    subst e1 e2
    have hn7 : n ≤ 7 := by omega
    have hq := pow_le hk3 hn7
    show W2 (b_X11_findCollision_9 q0 q1 tq (nI k) (nI T) mb a1 a2 a3 a4 a5 a6 a7 (nI n)) (b_X12_findCollision_2 kd bd ln pt (nI k) (nI T) b1 b2 b3 b4 b5 b6 (nI n)) _
    unfold b_X11_findCollision_9 b_X12_findCollision_2
    rw [if_neg (show ¬ (7 : Int32) < nI n by rw [pL7, pI_lt_iff (by omega) (by omega)]; omega), if_neg (show ¬ (7 : Int32) < nI n by rw [pL7, pI_lt_iff (by omega) (by omega)]; omega)]
    refine w2_l (len_ok (by omega) hk1 hk3 (show n - 1 < 7 by omega) hK BD e3) (fun u hu => ?_)
    rw [show n - 1 + 1 = n by omega] at hu
    refine w2_l (sign_ok (by omega) hq hK BD hu) (fun s hs => ?_)
    rw [hu.1]
    refine w2_l (pair1_ok hq) (fun r hr => w2_r (fsig_ok hT6 hk1 hk3 hn7 D hP) (fun v hv => ?_))
    obtain ⟨v1, v2, v3, v4⟩ := hv
    rw [v1]
    refine w2_r (pair2_ok hq) (fun t ht => ?_)
    have heq : ∀ w, w < k ^ n → s w = v.2.2.2.2.1 w := fun w hw => by rw [hs w hw, v4 w hw]
    have ew : ∀ c, v.2.1 c = wl c := fun c => (v2 c).trans (e4 c)
    have ed : ∀ j, v.2.2.1 j = wd j := fun j => (v3 j).trans (e5 j)
    rcases hr with ⟨r1, r2⟩ | ⟨r1, a, b, r2, r3, r4, r5, r6⟩
    · rcases ht with ⟨rfl, t2⟩ | ⟨a, b, rfl, t2, t3, t4⟩
      · rw [r1, if_pos rfl]
        refine w2_ll ⟨pI_add, pI_add, ?_, ew, ed⟩
        rw [show n + 1 - 1 = n by omega]
        exact ⟨rfl, hu.2⟩
      · refine absurd ?_ (r2 a b t2.1 t3)
        rw [heq a (by have := t2.1; omega), heq b t3]
        exact t2.2.1
    · rcases ht with ⟨rfl, t2⟩ | ⟨a', b', rfl, t2, t3, t4⟩
      · refine absurd ?_ (t2 a b r4.1 r5)
        rw [← heq a (by have := r4.1; omega), ← heq b r5]
        exact r4.2.1
      · obtain ⟨rfl, rfl⟩ := pair_un heq r4 r5 r6 t2 t3 t4
        have := r4.1
        rw [r1, if_neg (show ¬ (1 : Int32) = 0 by decide)]
        exact w2_rr ⟨ew, ed, n, a, b, hn7, by omega, by omega, r2, r3, rfl, rfl, rfl, rfl⟩
  · rintro ⟨a1, a2, a3, a4, a5, a6, a7, a8⟩ ⟨b1, b2, b3, b4, b5, b6, b7⟩ ⟨e1, e2, e3, e4, e5⟩
    simp only at e1 e2 e3 e4 e5
    subst e1 e2
    show W2 (b_X11_findCollision_9 q0 q1 tq (nI k) (nI T) mb a1 a2 a3 a4 a5 a6 a7 (nI 8)) (b_X12_findCollision_2 kd bd ln pt (nI k) (nI T) b1 b2 b3 b4 b5 b6 (nI 8)) _
    unfold b_X11_findCollision_9 b_X12_findCollision_2
    rw [if_pos (show (7 : Int32) < nI 8 by decide), if_pos (show (7 : Int32) < nI 8 by decide)]
    exact w2_rr ⟨e4, e5⟩
theorem p_findCollision {q0 q1 : Nat} {le le' cnt ts z0 z1 c0 p1 p2 sd : Int32} {tq : Nat → Option TV} {rf mb : Nat → Option Nat} {l0 l1 kd bd ln pt wl wd pf s0 s1 hd sl : Nat → Int32} {low high : Nat → Int64} (h0 : rf 0 = some q0) (h1 : rf 1 = some q1) (hL : LetR le le') (hT : TestsR tq cnt mb ts kd bd ln pt) (W0 : WordR z0 l0 (wl 0) wd 0) (W1 : WordR z1 l1 (wl 1) wd 12) : W2 (f_X11_findCollision q0 q1 tq le rf cnt mb z0 z1 c0 p1 p2 l0 l1 low high s0 sl) (f_X12_findCollision kd bd ln pt le' ts sd wl wd pf s1 hd) (fun o m => o.1 = m.1 ∧ WordR o.2.1 o.2.2.2.2.2.2.1 (m.2.2.1 0) m.2.2.2.1 0 ∧ WordR o.2.2.1 o.2.2.2.2.2.2.2.1 (m.2.2.1 1) m.2.2.2.1 12 ∧ m.2.2.1 2 = wl 2 ∧ ∀ j, 24 ≤ j → m.2.2.2.1 j = wd j) := by
  obtain ⟨k, hk1, hk3, rfl, rfl⟩ := hL
  obtain ⟨T, K, B, N, P, hT6, rfl, rfl, D, BD, hK, hP⟩ := tests_data hT
  unfold f_X11_findCollision f_X12_findCollision
  refine w2_l (start_ok (C := T) (K := K) (B := B) (N := N) (P := P) (k := k)) (fun u hu => w2_b (fc_loop hT6 hk1 hk3 D BD hK hP hu) (fun v w hvw => ?_))
  cases v with
  | inl v =>
    cases w with
    | inl w =>
      obtain ⟨f1, f2, n, a, b, g1, g2, g3, g4, g5, g6, g7, g8, g9⟩ := hvw
      rw [Sum.elim_inl, Sum.elim_inl, ld0 (by omega) (by omega), h0, asR_some, g4, g5, g6, g7, g8, g9]
      refine w2_l (listed_ok (by omega) (by omega) hk1 hk3) (fun x hx => ?_)
      rw [ld1 (by omega) (by omega), h1, asR_some]
      refine w2_l (listed_ok (by omega) (by omega) hk1 hk3) (fun y hy => w2_r (spell_ok (w := 0) (by omega) (by omega) (by omega) hk1 hk3) (fun s hs => w2_r (spell_ok (w := 1) (by omega) (by omega) (by omega) hk1 hk3) (fun t ht => ?_)))
      obtain ⟨s1, s2, s3⟩ := hs
      obtain ⟨t1, t2, t3⟩ := ht
      refine w2_s ⟨rfl, ⟨n, by omega, hx.1, ?_, fun i hi => ?_⟩, ⟨n, by omega, hy.1, ?_, fun i hi => ?_⟩, ?_, fun j hj => ?_⟩
      · show t.1 0 = nI n
        rw [t1, upN (by omega), s1, upE rfl]
      · show x.2 i = t.2 (0 + i)
        rw [hx.2 i hi, t3 (0 + i) (by omega)]
        exact (s2 i hi).symm
      · show t.1 1 = nI n
        rw [t1, upE rfl]
      · show y.2 i = t.2 (12 + i)
        rw [hy.2 i hi]
        exact (t2 i hi).symm
      · show t.1 2 = wl 2
        rw [t1, upN (by omega), s1, upN (by omega), f1]
      · show t.2 j = wd j
        rw [t3 j (by omega), s3 j (by omega), f2]
    | inr w => exact absurd hvw id
  | inr v =>
    cases w with
    | inl w => exact absurd hvw id
    | inr w =>
      obtain ⟨e1, e2⟩ := hvw
      refine w2_s ⟨rfl, ?_, ?_, e1 2, fun j _ => e2 j⟩
      · exact WordR_fr W0 (e1 0) (fun i _ => e2 _)
      · exact WordR_fr W1 (e1 1) (fun i _ => e2 _)
