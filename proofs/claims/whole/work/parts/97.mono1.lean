set_option linter.unusedVariables false
/-! the class's monoid: its elements and their table -/
def IM (b m : Nat) (F : Nat → Nat → Nat) (im : Nat → Int32) : Prop := ∀ e p, e < m → p < b → im (e * b + p) = nI (F e p) ∧ F e p < b
theorem im_lt {b e p : Nat} (hb : b ≤ 400) (he : e ≤ 400) (hp : p < b) : e * b + p < 160400 := by
  have : e * b ≤ 400 * 400 := Nat.mul_le_mul he hb
  omega
def hI (f : Nat → Nat) : Nat → Int32
  | 0 => 0
  | p + 1 => hI f p * 31 + nI (f p)
def hE (b : Nat) (f : Nat → Nat) : Nat := (hI f b * (-1640531535 : Int32)).toBitVec.toNat / 2 ^ 22
theorem hE_lt {b : Nat} {f : Nat → Nat} : hE b f < 1024 := by
  have := (hI f b * (-1640531535 : Int32)).toBitVec.isLt
  unfold hE
  omega
theorem hI_congr {f g : Nat → Nat} : ∀ b, (∀ p, p < b → f p = g p) → hI f b = hI g b
  | 0, _ => rfl
  | b + 1, h => by
    show hI f b * 31 + nI (f b) = hI g b * 31 + nI (g b)
    rw [hI_congr b (fun p hp => h p (by omega)), h b (by omega)]
theorem hE_congr {b : Nat} {f g : Nat → Nat} (h : ∀ p, p < b → f p = g p) : hE b f = hE b g := by
  unfold hE
  rw [hI_congr b h]
theorem and1023M {a M : Nat} (hM : M = 1024) (h : a < 2 ^ 31) : nI a &&& (1023 : Int32) = nI (a % M) := by
  rw [hM]
  exact pk_andN (by omega) 10 (by decide)
theorem hashE_ok {b m e : Nat} {F : Nat → Nat → Nat} {im : Nat → Int32} (hb : b ≤ 400) (he : e < m) (hm : m ≤ 401) (I : IM b m F im) : f_X3_hashOf (nI e) (nI b) im = some (nI (hE b (F e))) := by
  have key : Wp (loopN (fun v => b_X3_hashOf_4 (nI b) im (nI e) v.1 v.2) FU ((0 : Int32), (0 : Int32))) (fun u => u = hI (F e) b) := by
    refine wp_up (fun p v => v.2 = nI p ∧ v.1 = hI (F e) p) 0 b ⟨rfl, rfl⟩ (by omega) (by omega) ?_ ?_
    · rintro p ⟨x, y⟩ h1 h2 ⟨hy, hx⟩
      simp only at hy hx
      subst hy hx
      have := im_lt hb (show e ≤ 400 by omega) h2
      show Wp (b_X3_hashOf_4 (nI b) im (nI e) (hI (F e) p) (nI p)) _
      unfold b_X3_hashOf_4
      rw [if_neg (show ¬ nI b ≤ nI p by rw [pI_le_iff (by omega) (by omega)]; omega), pI_mul, pI_add, ldA_n (by omega) (by omega), (I e p he h2).1]
      exact wp_l ⟨pI_add, rfl⟩
    · rintro ⟨x, y⟩ ⟨hy, hx⟩
      simp only at hy hx
      subst hy hx
      show Wp (b_X3_hashOf_4 (nI b) im (nI e) (hI (F e) b) (nI b)) _
      unfold b_X3_hashOf_4
      rw [if_pos (Int32.le_refl _)]
      exact wp_r rfl
  obtain ⟨u, eu, rfl⟩ := key
  unfold f_X3_hashOf
  rw [eu, ob_s, show ushI (hI (F e) b * (-1640531535 : Int32)) (22 : Int32) = nI (hE b (F e)) from ush_n (s := 22) (k := 22) (by decide)]
theorem same_ok {b m e e' : Nat} {F : Nat → Nat → Nat} {im : Nat → Int32} (hb : b ≤ 400) (he : e < m) (he' : e' < m) (hm : m ≤ 401) (I : IM b m F im) : Wp (f_X3_areSame (nI e) (nI e') (nI b) im) (fun u => (u = nI 0 ∧ ¬ ∀ p, p < b → F e p = F e' p) ∨ (u = nI 1 ∧ ∀ p, p < b → F e p = F e' p)) := by
  unfold f_X3_areSame
  refine wp_seq (Q := fun u => (u = .inl () ∧ ¬ ∀ p, p < b → F e p = F e' p) ∨ (u = .inr () ∧ ∀ p, p < b → F e p = F e' p)) ?_ (fun u hu => ?_)
  · refine wp_up (fun p v => v = nI p ∧ ∀ p', p' < p → F e p' = F e' p') 0 b ⟨rfl, fun p h => by omega⟩ (by omega) (by omega) ?_ ?_
    · rintro p v h1 h2 ⟨rfl, X⟩
      have i1 := im_lt hb (show e ≤ 400 by omega) h2
      have i2 := im_lt hb (show e' ≤ 400 by omega) h2
      obtain ⟨a1, a2⟩ := I e p he h2
      obtain ⟨b1, b2⟩ := I e' p he' h2
      show Wp (b_X3_areSame_2 (nI b) im (nI e) (nI e') (nI p)) _
      unfold b_X3_areSame_2
      rw [if_neg (show ¬ nI b ≤ nI p by rw [pI_le_iff (by omega) (by omega)]; omega), pI_mul, pI_add, ldA_n (by omega) (by omega), a1, pI_mul, pI_add, ldA_n (by omega) (by omega), b1]
      by_cases c : F e p = F e' p
      · rw [if_pos (by rw [c])]
        refine wp_l ⟨pI_add, fun p' hp' => ?_⟩
        by_cases ep : p' = p
        · rw [ep]
          exact c
        · exact X p' (by omega)
      · rw [if_neg (fun h => c (pI_inj (by omega) (by omega) h))]
        exact wp_r (Or.inl ⟨rfl, fun h => c (h p h2)⟩)
    · rintro v ⟨rfl, X⟩
      show Wp (b_X3_areSame_2 (nI b) im (nI e) (nI e') (nI b)) _
      unfold b_X3_areSame_2
      rw [if_pos (Int32.le_refl _)]
      exact wp_r (Or.inr ⟨rfl, X⟩)
  · rcases hu with ⟨rfl, q⟩ | ⟨rfl, q⟩
    · exact wp_some (Or.inl ⟨rfl, q⟩)
    · exact wp_some (Or.inr ⟨rfl, q⟩)
def MT (M : Nat) (sl : Nat → Int32) (m b : Nat) (F : Nat → Nat → Nat) : Prop := HT M sl m (fun _ => True) (fun i => hE b (F i))
theorem setl_ok {M b m d : Nat} {F : Nat → Nat → Nat} {im sl : Nat → Int32} (hM : M = 1024) (hb : b ≤ 400) (hm : m ≤ 400) (I : IM b (m + 1) F im) (h1' : ∀ j, j < M → sl j = -nI 1 ∨ ∃ i, i < m ∧ True ∧ sl j = nI i) (d1 : d < M) (d2 : sl ((hE b (F m) + d) % M) = -nI 1) (d3 : ∀ d', d' < d → sl ((hE b (F m) + d') % M) ≠ -nI 1) : Wp (loopN (fun v => b_X3_settleLast_11 im (nI b) (nI m) sl (nI (hE b (F m))) v) FU (0 : Int32)) (fun u => (u = .inl (nI ((hE b (F m) + d) % M)) ∧ ∀ d', d' < d → ∀ r, r < m → sl ((hE b (F m) + d') % M) = nI r → ¬ ∀ p, p < b → F r p = F m p) ∨ (u = .inr (.inl ()) ∧ ∃ r, r < m ∧ ∀ p, p < b → F r p = F m p)) := by
  have hl := hE_lt (b := b) (f := F m)
  refine wp_up (fun i v => v = nI i ∧ ∀ d', d' < i → ∀ r, r < m → sl ((hE b (F m) + d') % M) = nI r → ¬ ∀ p, p < b → F r p = F m p) 0 d ⟨rfl, fun d' h => by omega⟩ (by omega) (by omega) ?_ ?_
  · rintro i v h1 h2 ⟨rfl, X⟩
    have hmm := Nat.mod_lt (hE b (F m) + i) (show 0 < M by omega)
    obtain ⟨r, hr, _, er⟩ := (h1' _ hmm).resolve_left (d3 i h2)
    show Wp (b_X3_settleLast_11 im (nI b) (nI m) sl (nI (hE b (F m))) (nI i)) _
    unfold b_X3_settleLast_11
    rw [if_neg (show ¬ (1024 : Int32) ≤ nI i from fun h => by have := (pI_le_iff (a := 1024) (by omega) (by omega)).mp h; omega), pI_add, and1023M hM (by omega), ldA_n (by omega) (by omega), er, if_pos (nI_pos' (by omega)), ldA_n (by omega) (by omega), er]
    refine wp_seq (same_ok hb (show r < m + 1 by omega) (show m < m + 1 by omega) (by omega) I) (fun u hu => ?_)
    rcases hu with ⟨rfl, q⟩ | ⟨rfl, q⟩
    · rw [if_pos (show nI 0 = (0 : Int32) from rfl)]
      refine wp_l ⟨pI_add, fun d' hd' r' hr' er' => ?_⟩
      by_cases e : d' = i
      · rw [e, er] at er'
        rw [← pI_inj (by omega) (by omega) er']
        exact q
      · exact X d' (by omega) r' hr' er'
    · rw [if_neg (show ¬ nI 1 = (0 : Int32) by decide)]
      exact wp_r (Or.inr ⟨rfl, r, hr, q⟩)
  · rintro v ⟨rfl, X⟩
    have hmm := Nat.mod_lt (hE b (F m) + d) (show 0 < M by omega)
    show Wp (b_X3_settleLast_11 im (nI b) (nI m) sl (nI (hE b (F m))) (nI d)) _
    unfold b_X3_settleLast_11
    rw [if_neg (show ¬ (1024 : Int32) ≤ nI d from fun h => by have := (pI_le_iff (a := 1024) (by omega) (by omega)).mp h; omega), pI_add, and1023M hM (by omega), ldA_n (by omega) (by omega), d2, if_neg (show ¬ (0 : Int32) ≤ -nI 1 by decide)]
    exact wp_r (Or.inl ⟨rfl, X⟩)
theorem settle_ok {M b m : Nat} {F : Nat → Nat → Nat} {im sl : Nat → Int32} (hM : M = 1024) (hb : b ≤ 400) (hm : m ≤ 400) (I : IM b (m + 1) F im) (T : MT M sl m b F) : Wp (f_X3_settleLast im (nI b) (nI m) sl) (fun u => ((∃ r, r < m ∧ ∀ p, p < b → F r p = F m p) ∧ u = (1, nI m, sl)) ∨ ((∀ r, r < m → ¬ ∀ p, p < b → F r p = F m p) ∧ ((m < 400 ∧ ∃ sl', u = (1, nI (m + 1), sl') ∧ MT M sl' (m + 1) b F) ∨ (m = 400 ∧ u.1 = 0)))) := by
  have hl := hE_lt (b := b) (f := F m)
  obtain ⟨d, d1, d2, d3⟩ := HT_empty T (by omega) (hE b (F m))
  unfold f_X3_settleLast
  rw [hashE_ok hb (show m < m + 1 by omega) (by omega) I, ob_s]
  refine wp_seq (setl_ok hM hb hm I T.1 d1 d2 d3) (fun u hu => ?_)
  rcases hu with ⟨rfl, X⟩ | ⟨rfl, q⟩
  · have hmm := Nat.mod_lt (hE b (F m) + d) (show 0 < M by omega)
    have hno : ∀ r, r < m → ¬ ∀ p, p < b → F r p = F m p := by
      intro r hr hc
      refine HT_no (i := r) (d := d) T (by omega) hr trivial ?_ (fun d' hd' e3 => ?_)
      · show sl ((hE b (F r) + d) % M) = _
        rw [hE_congr hc]
        exact d2
      · have e3 : sl ((hE b (F r) + d') % M) = nI r := e3
        rw [hE_congr hc] at e3
        exact X d' hd' r hr e3 hc
    rw [Sum.elim_inl]
    by_cases c : m < 400
    · rw [if_pos (show nI m < (400 : Int32) from (pI_lt_iff (b := 400) (by omega) (by omega)).mpr c), stA_n (by omega) (by omega), pL1, pI_add]
      exact wp_some (Or.inr ⟨hno, Or.inl ⟨c, _, rfl, HT_ins T (by omega) (by omega) d1 d2 d3 trivial⟩⟩)
    · rw [if_neg (show ¬ nI m < (400 : Int32) from fun h => c ((pI_lt_iff (b := 400) (by omega) (by omega)).mp h))]
      exact wp_some (Or.inr ⟨hno, Or.inr ⟨by omega, rfl⟩⟩)
  · exact wp_some (Or.inl ⟨q, rfl⟩)
