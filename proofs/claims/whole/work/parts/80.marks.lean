set_option linter.unusedVariables false
/-! marks of the class, answers of the reference -/
def SHP (k n : Nat) (nx dp pa la nx' bf by' : Nat → Int32) : Prop := 1 ≤ n ∧ n ≤ 2000 ∧ NXT k n nx nx' (fun a _ => a < n) ∧ (bf 0 = -nI 1 ∧ dp 0 = nI 0 ∧ ∀ s, 0 < s → s < n → ∃ p c d, p < s ∧ c < k ∧ d < s ∧ pa s = nI p ∧ bf s = nI p ∧ la s = nI c ∧ by' s = nI c ∧ dp p = nI d ∧ dp s = nI (d + 1))
def ANS (q n : Nat) (mk : Nat → Nat) (marks : Nat → Int32) (ans : Int32 → Option Int32) : Prop := ∀ s, s < n → mk s < q ∧ marks s = nI (mk s) ∧ ans (nI s) = some (nI (mk s))
def AT (q k : Nat) (st : Int32) (nx mrk dp pa la : Nat → Int32) (st' : Int32) (nx' bf by' : Nat → Int32) (ans : Int32 → Option Int32) : Prop := ∃ n mk, st = nI n ∧ st' = nI n ∧ SHP k n nx dp pa la nx' bf by' ∧ ANS q n mk mrk ans
theorem SHP_of {C C' : Nat} {K B N : Nat → Nat} {r : Nat → Nat} {k n : Nat} {Sg : Nat → Nat → Nat → Nat} {nx dp : Nat → Int32} {lo hi : Nat → Int64} {pa la : Nat → Int32} {cA cB : Nat → Int64} {nx' bf by' : Nat → Int32} (A : AU C C' K B N r k n Sg nx dp lo hi pa la cA cB nx' bf by') : SHP k n nx dp pa la nx' bf by' := ⟨A.1, A.2.1, A.2.2.2, A.2.2.1.2.2⟩
theorem vS_lt {C : Nat} {K B N : Nat → Nat} {S : Nat → Nat → Nat} (H : sOK C K B N S) (k l i : Nat) : vS k l (S i) < 10 := by
  unfold vS
  by_cases c : k = 1
  · rw [if_pos c]; exact H.2 _ _
  · rw [if_neg c]; exact H.2 _ _
theorem markV_ok {tq : Nat → Option TV} {C n : Nat} {mb : Nat → Option Nat} {K B N : Nat → Nat} {P : Nat → Nat → Int32} {Sg : Nat → Nat → Nat → Nat} {lo hi : Nat → Int64} {marks : Nat → Int32} (hC : C ≤ 8) (h0 : 0 < C) (hn : n ≤ 2000) (D : BDat tq C mb K B N P) (E : ∀ s, s < n → sOK C K B N (Sg s) ∧ lo s = pHf (Sg s) C 0 ∧ hi s = pHf (Sg s) C 1) : Wp (f_X0_markValues tq (nI n) lo hi mb marks) (fun u => ∀ s, s < n → u s = nI (vS (K 0) (N 0) (Sg s 0))) := by
  unfold f_X0_markValues
  refine wp_seq (Q := fun u => ∀ s, s < n → u s = nI (vS (K 0) (N 0) (Sg s 0))) (wp_fill 0 0 n (fun s => nI (vS (K 0) (N 0) (Sg s 0))) (by omega) (by omega) (fun i f h1 h2 hf => ?_) (fun f hf => ?_)) (fun u hu => wp_some hu)
  · show b_X0_markValues_2 tq (nI n) lo hi mb f (nI i) = _
    obtain ⟨H, e1, e2⟩ := E i h2
    unfold b_X0_markValues_2
    rw [if_neg (show ¬ nI n ≤ nI i by rw [pI_le_iff (by omega) (by omega)]; omega), ldA_n (by omega) (by omega), ldA_n (by omega) (by omega), e1, e2, show f_X1_valueAt (0 : Int32) (pHf (Sg i) C 0) (pHf (Sg i) C 1) tq mb = some (nI (vS (K 0) (N 0) (Sg i 0))) from bval_ok hC h0 D H, ob_s, stA_n (by omega) (by omega), pL1, pI_add, Nat.zero_add]
  · show Wp (b_X0_markValues_2 tq (nI n) lo hi mb f (nI n)) _
    unfold b_X0_markValues_2
    rw [if_pos (Int32.le_refl _)]
    refine wp_r (fun s hs => ?_)
    rw [hf s, if_pos (by omega), Nat.sub_zero]
theorem markM_ok {tq : Nat → Option TV} {C m n : Nat} {tab : Int32} {mb : Nat → Option Nat} {vs : Nat → Int32} {K B N : Nat → Nat} {P : Nat → Nat → Int32} {Sg : Nat → Nat → Nat → Nat} {lo hi : Nat → Int64} {marks : Nat → Int32} (hC : C ≤ 8) (hm : m ≤ 4) (hmC : m ≤ C) (hn : n ≤ 2000) (D : BDat tq C mb K B N P) (E : ∀ s, s < n → sOK C K B N (Sg s) ∧ lo s = pHf (Sg s) C 0 ∧ hi s = pHf (Sg s) C 1) : Wp (f_X0_markMembers m tq (nI n) (nI m) tab lo hi vs mb marks) (fun u => ∀ s, s < n → u s = nI (if bt tab (stB (fun i => decide (nI (vS (K i) (N i) (Sg s i)) = vs i)) m) = true then 1 else 0)) := by
  unfold f_X0_markMembers
  refine wp_seq (Q := fun u => ∀ s, s < n → u s = nI (if bt tab (stB (fun i => decide (nI (vS (K i) (N i) (Sg s i)) = vs i)) m) = true then 1 else 0)) (wp_fill 0 0 n (fun s => nI (if bt tab (stB (fun i => decide (nI (vS (K i) (N i) (Sg s i)) = vs i)) m) = true then 1 else 0)) (by omega) (by omega) (fun i f h1 h2 hf => ?_) (fun f hf => ?_)) (fun u hu => wp_some hu)
  · show b_X0_markMembers_2 m tq (nI n) (nI m) tab lo hi vs mb f (nI i) = _
    obtain ⟨H, e1, e2⟩ := E i h2
    have hh := holdsAt_ok (off := 0) (m := m) (tab := tab) (vs := vs) hC hm (by omega) D H
    simp only [Nat.zero_add] at hh
    unfold b_X0_markMembers_2
    rw [if_neg (show ¬ nI n ≤ nI i by rw [pI_le_iff (by omega) (by omega)]; omega), ldA_n (by omega) (by omega), ldA_n (by omega) (by omega), e1, e2, show f_X2_holdsAt (0 : Int32) (pHf (Sg i) C 0) (pHf (Sg i) C 1) m tq (nI m) tab vs mb = _ from hh, ob_s]
    by_cases c : bt tab (stB (fun j => decide (nI (vS (K j) (N j) (Sg i j)) = vs j)) m) = true
    · rw [if_pos c, if_neg (show ¬ nI 1 = (0 : Int32) by decide), stA_n (by omega) (by omega), pL1, pI_add, Nat.zero_add]
    · rw [if_neg c, if_pos (show nI 0 = (0 : Int32) from rfl), stA_n (by omega) (by omega), pL1, pI_add, Nat.zero_add]
      rfl
  · show Wp (b_X0_markMembers_2 m tq (nI n) (nI m) tab lo hi vs mb f (nI n)) _
    unfold b_X0_markMembers_2
    rw [if_pos (Int32.le_refl _)]
    refine wp_r (fun s hs => ?_)
    rw [hf s, if_pos (by omega), Nat.sub_zero]
theorem TDat_b {tq : Nat → Option TV} {C : Nat} {mbx mb : Nat → Option Nat} {kx bx lx px : Nat → Int32} {K B N : Nat → Nat} (D : TDat tq C mbx kx bx lx px K B N) (h : ∀ i, i < C → mb i = mbx i) : BDat tq C mb K B N (fun i => patOf tq (mb i)) := by
  refine BDat_of (kd := kx) (bd := bx) (ln := lx) (pt := px) (fun t ht => ?_)
  obtain ⟨a, v, d1, d2⟩ := D t ht
  exact ⟨a, v, (h t ht).trans d1, d2⟩
theorem TDat_k {tq : Nat → Option TV} {C : Nat} {mbx : Nat → Option Nat} {kx bx lx px : Nat → Int32} {K B N : Nat → Nat} (D : TDat tq C mbx kx bx lx px K B N) : ∀ i, i < C → kOK (K i) (B i) (N i) := by
  intro t ht
  obtain ⟨a, v, d1, d2, d3, _⟩ := D t ht
  exact kOK_of d3
theorem TDat_m {tq : Nat → Option TV} {C : Nat} {mbx : Nat → Option Nat} {kx bx lx px mk mbd ml : Nat → Int32} {K B N : Nat → Nat} (D : TDat tq C mbx kx bx lx px K B N) (h1 : ∀ i, i < C → mk i = kx i) (h2 : ∀ i, i < C → mbd i = bx i) (h3 : ∀ i, i < C → ml i = lx i) : MDat C mk mbd ml K B N := by
  intro t ht
  obtain ⟨a, v, d1, d2, d3, d4, d5, d6, _⟩ := D t ht
  exact ⟨kOK_of d3, (h1 t ht).trans d4, (h2 t ht).trans d5, (h3 t ht).trans d6⟩
theorem TDat_p {tq : Nat → Option TV} {C : Nat} {mbx mb : Nat → Option Nat} {kx bx lx px : Nat → Int32} {K B N : Nat → Nat} (D : TDat tq C mbx kx bx lx px K B N) (h : ∀ i, i < C → mb i = mbx i) {m i : Nat} (hm : m < C) (hi : i < N m) : px (4 * m + i) = patOf tq (mb m) i := by
  obtain ⟨a, v, d1, d2, d3, d4, d5, d6, d7⟩ := D m hm
  rw [h m hm, d1, ← d7 i hi]
  show _ = (((some a).bind tq).map (fun v => v.2.2.2.2.2.2)).getD (fun _ => 0) i
  show _ = ((tq a).map (fun v => v.2.2.2.2.2.2)).getD (fun _ => 0) i
  rw [d2]
  rfl
theorem N_le4 {k b l : Nat} (h : kOK k b l) : l ≤ 4 := by
  have := h.2.2
  omega
theorem TDat_r {tq : Nat → Option TV} {C : Nat} {mbx mb : Nat → Option Nat} {kx bx lx px mp : Nat → Int32} {K B N : Nat → Nat} (D : TDat tq C mbx kx bx lx px K B N) (h : ∀ i, i < C → mb i = mbx i) (h4 : ∀ j, j < 4 * C → mp j = px j) : RHO C C K B N (fun i => patOf tq (mb i)) K B N mp (fun i => i) := by
  refine ⟨fun m hm => Or.inl ⟨hm, rfl, rfl, rfl, fun i hi => ?_⟩, fun i hi => ⟨i, hi, rfl⟩⟩
  have := N_le4 (TDat_k D m hm)
  have hi : i < N m := hi
  rw [h4 _ (by omega)]
  exact TDat_p D h hm hi
theorem bit_cases {o m : Int32} (h : (o = 0 ∧ m = 0) ∨ (o = 1 ∧ m = 1)) : o = m := by
  rcases h with ⟨h1, h2⟩ | ⟨h1, h2⟩ <;> rw [h1, h2]
theorem expT_ok {tq : Nat → Option TV} {t T k : Nat} {mb atm : Nat → Option Nat} {al as' ac st mp0 ip : Int32} {kd bd ln pt an am ad ap all asl mk mbd ml mv mp dg fd nx' bf by' : Nat → Int32} {alo ahi cA cB kA kB : Nat → Int64} (ht : t < 6) (hk3 : k ≤ 3) (H : TestR tq (mb t) (kd t) (bd t) (ln t) (fun i => pt (4 * t + i))) :
    W2 (f_X11_exploreTest (nI t) tq (nI k) mb al as' ac an am ad alo ahi ap all asl atm) (f_X12_buildsTest (nI t) kd bd ln pt (nI k) mp0 ip st mk mbd ml mv mp dg cA cB kA kB fd nx' bf by') (fun o m => (o.1 = 0 ∧ m.1 = 0) ∨ (o.1 = 1 ∧ m.1 = 1 ∧ o.2.1 = nI k ∧ ∀ mp' fp ft st ip mv, AT 10 k o.2.2.1 o.2.2.2.2.1 o.2.2.2.2.2.1 o.2.2.2.2.2.2.1 o.2.2.2.2.2.2.2.2.2.1 o.2.2.2.2.2.2.2.2.2.2.1 m.2.2.2.1 m.2.2.2.2.2.2.2.2.2.2.2.2.2.2.2.1 m.2.2.2.2.2.2.2.2.2.2.2.2.2.2.2.2.1 m.2.2.2.2.2.2.2.2.2.2.2.2.2.2.2.2.2 (fun s => f_X12_answerAt s 1 mp' fp ft st ip m.2.2.2.2.2.2.1 mv m.2.2.2.2.2.2.2.2.2.2.1 m.2.2.2.2.2.2.2.2.2.2.2.1))) := by
  have D := TDat_of (T := 1) (mb := fun _ => mb t) (kd := fun _ => kd t) (bd := fun _ => bd t) (ln := fun _ => ln t) (pt := fun i => pt (4 * t + i)) (tq := tq) (fun x hx => by
    rcases (show x = 0 by omega) with rfl
    exact TestR_fr H rfl rfl rfl (fun x hx => by show pt (4 * t + (4 * 0 + x)) = _; rw [show 4 * 0 + x = x by omega]))
  obtain ⟨K, hK⟩ : ∃ K : Nat → Nat, K = fun _ => (kd t).toNatClampNeg := ⟨_, rfl⟩
  obtain ⟨B, hB⟩ : ∃ B : Nat → Nat, B = fun _ => (bd t).toNatClampNeg := ⟨_, rfl⟩
  obtain ⟨N, hN⟩ : ∃ N : Nat → Nat, N = fun _ => (ln t).toNatClampNeg := ⟨_, rfl⟩
  rw [← hK, ← hB, ← hN] at D
  obtain ⟨a, v, d1, d2, _⟩ := D 0 (by omega)
  have hmb : ∀ i, i < 1 → va_up atm 0 (some a) i = (fun _ => mb t) i := fun i hi => by
    rcases (show i = 0 by omega) with rfl
    rw [upE rfl]
    exact d1.symm
  unfold f_X11_exploreTest f_X12_buildsTest f_X0_restart
  rw [ob_s, ldA_n (by omega) (by omega), show mb t = some a from d1, tsA_s d2, show f_X1_add a (0 : Int32) atm = some (nI 1, va_up atm 0 (some a)) from add_ok (c := 0) (by omega), ob_s, ldA_n (by omega) (by omega), ldA_n (by omega) (by omega), ldA_n (by omega) (by omega), pL4, pI_mul]
  refine w2_r (addPart_ok (c := 0) (o := 4 * t) (by omega) (by omega) (by omega)) (fun w hw => ?_)
  obtain ⟨w1, w2, w3, w4, w5, w6⟩ := hw
  have w1 : w.1 = nI 1 := w1
  rw [w1]
  dsimp only
  have BD := TDat_b D hmb
  have MD : MDat 1 w.2.1 w.2.2.1 w.2.2.2.1 K B N := TDat_m D (fun i hi => by
      rcases (show i = 0 by omega) with rfl
      rw [w2, upE rfl]) (fun i hi => by
      rcases (show i = 0 by omega) with rfl
      rw [w3, upE rfl]) (fun i hi => by
      rcases (show i = 0 by omega) with rfl
      rw [w4, upE rfl])
  have R := TDat_r (mp := w.2.2.2.2.2) D hmb (fun j hj => by
    rw [w6 j, if_pos (by omega)]
    rfl)
  refine w2_b (exp_ok (by omega) (by omega) hk3 (TDat_k D) BD MD R) (fun o m hom => ?_)
  rcases hom with ⟨h1, h2⟩ | ⟨h1, h2, n, Sg, h3, h4, A⟩
  · rw [if_pos h1, h2, show (0 : Int32) = nI 0 from rfl, bitZ0]
    exact w2_s (Or.inl ⟨rfl, rfl⟩)
  · have hn := A.2.1
    rw [if_neg (show ¬ o.1 = 0 by rw [h1]; decide), h2, show (1 : Int32) = nI 1 from rfl, bitZ1, h3]
    refine w2_l (markV_ok (by omega) (by omega) hn BD (fun s hs => ⟨(A.2.2.1.1 s hs).1, (A.2.2.1.1 s hs).2.2.1, (A.2.2.1.1 s hs).2.2.2.1⟩)) (fun u hu => w2_s (Or.inr ⟨rfl, rfl, rfl, fun mp' fp ft st ip mv => ⟨n, fun s => vS (K 0) (N 0) (Sg s 0), rfl, h4, SHP_of A, fun s hs => ?_⟩⟩))
    obtain ⟨H1, H2, H3, H4, H5, H6⟩ := A.2.2.1.1 s hs
    refine ⟨vS_lt H1 _ _ _, hu s hs, ?_⟩
    show f_X12_answerAt (nI s) 1 mp' fp ft st ip w.2.2.2.1 mv m.2.2.2.1 m.2.2.2.2.1 = _
    unfold f_X12_answerAt
    rw [if_neg (show ¬ (1 : Int32) = 0 by decide)]
    obtain ⟨y, hy, rfl⟩ := vat_ok (s := s) (m := 0) (C := 1) (by omega) (by omega) (by omega) MD H1 H5 H6
    rw [show f_X12_valueAt (nI s) (0 : Int32) w.2.2.2.1 m.2.2.2.1 m.2.2.2.2.1 = _ from hy, ob_s]
theorem expL_ok {tq : Nat → Option TV} {l m k : Nat} {tab : Int32} {ts atm : Nat → Option Nat} {al as' ac mp0 fp ft ip st : Int32} {vs parts truth pk pb pl pv pp an am ad ap all asl mk mbd ml mv mp dg fd nx' bf by' : Nat → Int32} {alo ahi cA cB kA kB : Nat → Int64} (hl : l < 4) (hk3 : k ≤ 3) (h1m : 1 ≤ m) (hm : m ≤ 4) (em : parts l = nI m) (P : PartsR tq m ts vs (fun i => pk (4 * l + i)) (fun i => pb (4 * l + i)) (fun i => pl (4 * l + i)) (fun i => pv (4 * l + i)) (fun i => pp (16 * l + i))) (hb : ∀ s, s < 2 ^ m → bt tab s = bt (truth l) s) :
    W2 (f_X11_exploreLanguage m m tq (nI m) tab (nI k) ts vs al as' ac an am ad alo ahi ap all asl atm) (f_X12_buildsLanguage (nI l) parts truth pk pb pl pv pp (nI k) mp0 fp ft ip st mk mbd ml mv mp dg cA cB kA kB fd nx' bf by') (fun o m => (o.1 = 0 ∧ m.1 = 0) ∨ (o.1 = 1 ∧ m.1 = 1 ∧ o.2.1 = nI k ∧ ∀ st2, AT 2 k o.2.2.1 o.2.2.2.2.1 o.2.2.2.2.2.1 o.2.2.2.2.2.2.1 o.2.2.2.2.2.2.2.2.2.1 o.2.2.2.2.2.2.2.2.2.2.1 m.2.2.2.2.2.1 m.2.2.2.2.2.2.2.2.2.2.2.2.2.2.2.2.2.1 m.2.2.2.2.2.2.2.2.2.2.2.2.2.2.2.2.2.2.1 m.2.2.2.2.2.2.2.2.2.2.2.2.2.2.2.2.2.2.2 (fun s => f_X12_answerAt s 0 m.2.1 m.2.2.1 m.2.2.2.1 st2 m.2.2.2.2.1 m.2.2.2.2.2.2.2.2.1 m.2.2.2.2.2.2.2.2.2.1 m.2.2.2.2.2.2.2.2.2.2.2.2.1 m.2.2.2.2.2.2.2.2.2.2.2.2.2.1))) := by
  have D := TDat_of (T := m) (tq := tq) (mb := ts) (kd := fun i => pk (4 * l + i)) (bd := fun i => pb (4 * l + i)) (ln := fun i => pl (4 * l + i)) (pt := fun i => pp (16 * l + i)) (fun x hx => (P x hx).1)
  obtain ⟨K, hK⟩ : ∃ K : Nat → Nat, K = fun i => ((fun i => pk (4 * l + i)) i).toNatClampNeg := ⟨_, rfl⟩
  obtain ⟨B, hB⟩ : ∃ B : Nat → Nat, B = fun i => ((fun i => pb (4 * l + i)) i).toNatClampNeg := ⟨_, rfl⟩
  obtain ⟨N, hN⟩ : ∃ N : Nat → Nat, N = fun i => ((fun i => pl (4 * l + i)) i).toNatClampNeg := ⟨_, rfl⟩
  rw [← hK, ← hB, ← hN] at D
  unfold f_X11_exploreLanguage f_X12_buildsLanguage f_X0_restart
  rw [ob_s]
  refine w2_l (show Wp (f_X2_addTestsTo m tq (nI m) ts (0 : Int32) atm) _ from addT_ok (c := 0) P (by omega)) (fun x hx => w2_r (show Wp (f_X12_addLanguage (nI l) parts pk pb pl pv pp (0 : Int32) mk mbd ml mv mp) _ from addLang_ok (c := 0) hl em hm (by omega)) (fun w hw => ?_))
  obtain ⟨x1, x2⟩ := hx
  obtain ⟨w1, w2, w3, w4, w5, w6⟩ := hw
  rw [Nat.zero_add] at x1 w1
  rw [x1, w1, ldA_n hl (by omega)]
  have z : ∀ (f g : Nat → Int32) i, i < m → cpF 0 m f g (4 * l) i = f (4 * l + i) := fun f g i hi => by
    unfold cpF
    rw [if_pos (by omega), Nat.sub_zero]
  have hmb : ∀ i, i < m → x.2 i = ts i := fun i hi => by rw [x2 i, if_pos (by omega), Nat.sub_zero]
  have BD := TDat_b D hmb
  have MD : MDat m w.2.1 w.2.2.1 w.2.2.2.1 K B N := TDat_m D (fun i hi => by rw [w2 i, z _ _ i hi]) (fun i hi => by rw [w3 i, z _ _ i hi]) (fun i hi => by rw [w4 i, z _ _ i hi])
  have R := TDat_r (mp := w.2.2.2.2.2) D hmb (fun j hj => by
    rw [w6 j]
    unfold cpF
    rw [if_pos (by omega), Nat.mul_zero, Nat.sub_zero])
  refine w2_b (exp_ok (by omega) (by omega) hk3 (TDat_k D) BD MD R) (fun o mo hom => ?_)
  rcases hom with ⟨h1, h2⟩ | ⟨h1, h2, n, Sg, h3, h4, A⟩
  · rw [if_pos h1, h2, show (0 : Int32) = nI 0 from rfl, bitZ0]
    exact w2_s (Or.inl ⟨rfl, rfl⟩)
  · have hn := A.2.1
    rw [if_neg (show ¬ o.1 = 0 by rw [h1]; decide), h2, show (1 : Int32) = nI 1 from rfl, bitZ1, h3]
    refine w2_l (markM_ok (by omega) hm (Nat.le_refl _) hn BD (fun s hs => ⟨(A.2.2.1.1 s hs).1, (A.2.2.1.1 s hs).2.2.1, (A.2.2.1.1 s hs).2.2.2.1⟩)) (fun u hu => w2_s (Or.inr ⟨rfl, rfl, rfl, fun st2 => ⟨n, fun s => if bt tab (stB (fun i => decide (nI (vS (K i) (N i) (Sg s i)) = vs i)) m) = true then 1 else 0, rfl, h4, SHP_of A, fun s hs => ?_⟩⟩))
    obtain ⟨H1, H2, H3, H4, H5, H6⟩ := A.2.2.1.1 s hs
    refine ⟨?_, hu s hs, ?_⟩
    · show (if bt tab (stB (fun i => decide (nI (vS (K i) (N i) (Sg s i)) = vs i)) m) = true then 1 else 0) < 2
      by_cases c : bt tab (stB (fun i => decide (nI (vS (K i) (N i) (Sg s i)) = vs i)) m) = true
      · rw [if_pos c]; omega
      · rw [if_neg c]; omega
    · show f_X12_answerAt (nI s) 0 (nI m) (nI m) (truth l) st2 (0 : Int32) w.2.2.2.1 w.2.2.2.2.1 mo.2.2.2.1 mo.2.2.2.2.1 = _
      unfold f_X12_answerAt
      rw [if_pos rfl]
      obtain ⟨y, hy, e⟩ := bits_ok (s := s) (n := n) (mv := w.2.2.2.2.1) (by omega) (by omega) MD H1 H5 H6
      have e2 : stB (fun j => decide (nI (vS (K j) (N j) (Sg s j)) = w.2.2.2.2.1 j)) m = stB (fun i => decide (nI (vS (K i) (N i) (Sg s i)) = vs i)) m := stB_congr (fun i hi => by
        rw [w5 i, z _ _ i hi, (P i hi).2.1])
      have hlt := stB_lt (b := fun i => decide (nI (vS (K i) (N i) (Sg s i)) = vs i)) m
      have hpm : 2 ^ m ≤ 16 := Nat.pow_le_pow_right (n := 2) (by omega) hm
      have e : y = nI (stB (fun j => decide (nI (vS (K j) (N j) (Sg s j)) = w.2.2.2.2.1 j)) m) := e
      rw [hy, ob_s, if_pos rfl, e, e2, st_lo m (by omega) _ (by omega), Nat.mod_eq_of_lt hlt, bit_s (by omega), ← hb _ hlt]
