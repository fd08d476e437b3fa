set_option linter.unusedVariables false
/-! a test's state: four numbers below 16 -/
theorem bt_nI {n j : Nat} (hn : n < 2 ^ 32) : bt (nI n) j = n.testBit j := by
  show (nI n).toBitVec.toNat.testBit j = _
  rw [pk_tn hn]
theorem nib_put1 {A d B v s P : Nat} (hP : 2 ^ s = P) (hs : s < 28) (hB : B < P) (hd : d < 16) (hv : v < 16) (h1 : P * (16 * A + d) + B < 2 ^ 31) (h2 : P * (16 * A + v) + B < 2 ^ 31) : (nI (P * (16 * A + d) + B) &&& ((nI 15 <<< (nI s &&& nI 31)) ^^^ -nI 1)) ||| (nI v <<< (nI s &&& nI 31)) = nI (P * (16 * A + v) + B) := by
  subst hP
  apply b_ext
  intro j hj
  have e15 : ∀ i, bt (nI 15) i = decide (i < 4) := by
    intro i
    rw [bt_nI (by decide), show (15 : Nat) = 2 ^ 4 - 1 from rfl, Nat.testBit_two_pow_sub_one]
  have f1 : bt (nI (2 ^ s * (16 * A + d) + B)) j = if j < s then B.testBit j else if j - s < 4 then d.testBit (j - s) else A.testBit (j - s - 4) := by
    rw [bt_nI (by omega), Nat.testBit_two_pow_mul_add _ hB, show 16 * A + d = 2 ^ 4 * A + d from rfl, Nat.testBit_two_pow_mul_add _ (show d < 2 ^ 4 from hd)]
  have f2 : bt (nI (2 ^ s * (16 * A + v) + B)) j = if j < s then B.testBit j else if j - s < 4 then v.testBit (j - s) else A.testBit (j - s - 4) := by
    rw [bt_nI (by omega), Nat.testBit_two_pow_mul_add _ hB, show 16 * A + v = 2 ^ 4 * A + v from rfl, Nat.testBit_two_pow_mul_add _ (show v < 2 ^ 4 from hv)]
  have f3 : bt (nI 15 <<< (nI s &&& nI 31)) j = (decide (s ≤ j) && decide (j - s < 4)) := by
    rw [show (nI 31) = (31 : Int32) from rfl, b_shl s (by omega) _ hj, e15]
  have f4 : bt (nI v <<< (nI s &&& nI 31)) j = (decide (s ≤ j) && v.testBit (j - s)) := by
    rw [show (nI 31) = (31 : Int32) from rfl, b_shl s (by omega) _ hj, bt_nI (by omega)]
  have f5 : bt (-nI 1) j = true := b_m1 j hj
  rw [b_or, b_and, b_xor, f1, f2, f3, f4, f5]
  by_cases c1 : j < s
  · rw [if_pos c1, if_pos c1, decide_eq_false (show ¬ s ≤ j by omega)]
    simp
  · rw [if_neg c1, if_neg c1, decide_eq_true (show s ≤ j by omega)]
    by_cases c2 : j - s < 4
    · rw [if_pos c2, if_pos c2, decide_eq_true c2]
      simp
    · have hvb : v.testBit (j - s) = false := Nat.testBit_lt_two_pow (Nat.lt_of_lt_of_le hv (show 2 ^ 4 ≤ 2 ^ (j - s) from Nat.pow_le_pow_right (by omega) (by omega)))
      rw [if_neg c2, if_neg c2, decide_eq_false c2, hvb]
      simp
def pk16 (σ : Nat → Nat) : Nat := σ 0 + 16 * σ 1 + 256 * σ 2 + 4096 * σ 3
theorem pk16_congr {f g : Nat → Nat} (h : ∀ j, j < 4 → f j = g j) : pk16 f = pk16 g := by
  unfold pk16
  rw [h 0 (by omega), h 1 (by omega), h 2 (by omega), h 3 (by omega)]
theorem pk16_lt {σ : Nat → Nat} (h : ∀ j, σ j < 16) : pk16 σ < 65536 := by
  have h0 := h 0
  have h1 := h 1
  have h2 := h 2
  have h3 := h 3
  unfold pk16
  omega
theorem nib_put {σ : Nat → Nat} {v i : Nat} (hσ : ∀ j, σ j < 16) (hv : v < 16) (hi : i < 4) : (nI (pk16 σ) &&& ((nI 15 <<< (nI (4 * i) &&& nI 31)) ^^^ -nI 1)) ||| (nI v <<< (nI (4 * i) &&& nI 31)) = nI (pk16 (fun j => if j = i then v else σ j)) := by
  have h0 := hσ 0
  have h1 := hσ 1
  have h2 := hσ 2
  have h3 := hσ 3
  rcases (show i = 0 ∨ i = 1 ∨ i = 2 ∨ i = 3 by omega) with rfl | rfl | rfl | rfl
  · have e : pk16 σ = 1 * (16 * (σ 1 + 16 * σ 2 + 256 * σ 3) + σ 0) + 0 := by unfold pk16; omega
    have e2 : pk16 (fun j => if j = 0 then v else σ j) = v + 16 * σ 1 + 256 * σ 2 + 4096 * σ 3 := rfl
    rw [e, e2, nib_put1 (s := 4 * 0) rfl (by omega) (by omega) h0 hv (by omega) (by omega)]
    congr 1
    omega
  · have e : pk16 σ = 16 * (16 * (σ 2 + 16 * σ 3) + σ 1) + σ 0 := by unfold pk16; omega
    have e2 : pk16 (fun j => if j = 1 then v else σ j) = σ 0 + 16 * v + 256 * σ 2 + 4096 * σ 3 := rfl
    rw [e, e2, nib_put1 (s := 4 * 1) rfl (by omega) (by omega) h1 hv (by omega) (by omega)]
    congr 1
    omega
  · have e : pk16 σ = 256 * (16 * (σ 3) + σ 2) + (σ 0 + 16 * σ 1) := by unfold pk16; omega
    have e2 : pk16 (fun j => if j = 2 then v else σ j) = σ 0 + 16 * σ 1 + 256 * v + 4096 * σ 3 := rfl
    rw [e, e2, nib_put1 (s := 4 * 2) rfl (by omega) (by omega) h2 hv (by omega) (by omega)]
    congr 1
    omega
  · have e : pk16 σ = 4096 * (16 * 0 + σ 3) + (σ 0 + 16 * σ 1 + 256 * σ 2) := by unfold pk16; omega
    have e2 : pk16 (fun j => if j = 3 then v else σ j) = σ 0 + 16 * σ 1 + 256 * σ 2 + 4096 * v := rfl
    rw [e, e2, nib_put1 (s := 4 * 3) rfl (by omega) (by omega) h3 hv (by omega) (by omega)]
    congr 1
    omega
theorem nib_get {σ : Nat → Nat} {i : Nat} (hσ : ∀ j, σ j < 16) (hi : i < 4) : ushI (nI (pk16 σ)) (nI (4 * i)) &&& nI 15 = nI (σ i) := by
  have hp := pk16_lt hσ
  have h0 := hσ 0
  have h1 := hσ 1
  have h2 := hσ 2
  have h3 := hσ 3
  unfold ushI
  rw [pk_ushrN (by omega) (nI (4 * i)) (4 * i) (by rcases (show i = 0 ∨ i = 1 ∨ i = 2 ∨ i = 3 by omega) with rfl | rfl | rfl | rfl <;> decide), pk_andN (Nat.lt_of_le_of_lt (Nat.div_le_self _ _) (by omega)) 4 (by decide)]
  congr 1
  rcases (show i = 0 ∨ i = 1 ∨ i = 2 ∨ i = 3 by omega) with rfl | rfl | rfl | rfl
  · show pk16 σ / 1 % 16 = σ 0
    unfold pk16
    omega
  · show pk16 σ / 16 % 16 = σ 1
    unfold pk16
    omega
  · show pk16 σ / 256 % 16 = σ 2
    unfold pk16
    omega
  · show pk16 σ / 4096 % 16 = σ 3
    unfold pk16
    omega
/-- a count modulo b, or at most b -/
def bnd (k b v : Nat) : Nat := if k = 2 then (if v < b then v else b) else v % b
theorem bnd_lt {k b s : Nat} (hb : 1 ≤ b) : bnd k b s < (if k = 2 then b + 1 else b) := by
  unfold bnd
  by_cases h : k = 2
  · rw [if_pos h, if_pos h]
    by_cases h2 : s < b
    · rw [if_pos h2]; omega
    · rw [if_neg h2]; omega
  · rw [if_neg h, if_neg h]
    exact Nat.mod_lt _ hb
theorem bnd_add {k b x y : Nat} : bnd k b (bnd k b x + bnd k b y) = bnd k b (x + y) := by
  unfold bnd
  by_cases h : k = 2
  · simp only [if_pos h]
    by_cases h1 : x < b
    · by_cases h2 : y < b
      · rw [if_pos h1, if_pos h2]
      · rw [if_pos h1, if_neg h2, if_neg (by omega), if_neg (by omega)]
    · rw [if_neg h1]
      have : ∀ z, ¬ b + z < b := by intro z; omega
      rw [if_neg (this _), if_neg (by omega)]
  · simp only [if_neg h]
    exact (Nat.add_mod x y b).symm
theorem bnd_add1 {k b x : Nat} (hb : 1 ≤ b) : bnd k b (bnd k b x + 1) = bnd k b (x + 1) := by
  unfold bnd
  by_cases h : k = 2
  · simp only [if_pos h]
    by_cases h1 : x < b
    · rw [if_pos h1]
    · rw [if_neg h1, if_neg (by omega), if_neg (by omega)]
  · simp only [if_neg h]
    exact Nat.mod_add_mod x b 1
theorem bnd_0 {k b : Nat} (hb : 1 ≤ b) : bnd k b 0 = 0 := by
  unfold bnd
  by_cases h : k = 2
  · rw [if_pos h, if_pos (by omega)]
  · rw [if_neg h, Nat.zero_mod]
def kOK (k b l : Nat) : Prop := b ≤ 9 ∧ 1 ≤ b ∧ ((k = 1 ∧ l = 0) ∨ ((k = 0 ∨ k = 2) ∧ 1 ≤ l ∧ l ≤ 4))
theorem kOK_of {v : TV} {k b l : Nat} (h : TestOK v k b l) : kOK k b l := by
  obtain ⟨_, _, _, _, _, h1, h2⟩ := h
  refine ⟨h1, ?_, ?_⟩ <;> omega
def tOK (k b l : Nat) (σ : Nat → Nat) : Prop := ∀ i, σ i < (if (k = 1 ∧ i = 0) ∨ i < l then (if k = 2 then b + 1 else b) else 1)
/-- a letter more -/
def tst (k b l : Nat) (p : Nat → Int32) (c : Int32) (σ : Nat → Nat) : Nat → Nat := fun i => if k = 1 then (if i = 0 then (σ 0 + 1) % b else σ i) else if i < l ∧ p i = c then bnd k b (σ i + (if i = 0 then 1 else σ (i - 1))) else σ i
theorem tst_1 {b l : Nat} {p : Nat → Int32} {c : Int32} {σ : Nat → Nat} : tst 1 b l p c σ 0 = (σ 0 + 1) % b := rfl
theorem tst_n {k b l i : Nat} {p : Nat → Int32} {c : Int32} {σ : Nat → Nat} (h : ¬ k = 1) : tst k b l p c σ i = if i < l ∧ p i = c then bnd k b (σ i + (if i = 0 then 1 else σ (i - 1))) else σ i := by
  unfold tst
  rw [if_neg h]
theorem tOK_16 {k b l : Nat} {σ : Nat → Nat} (K : kOK k b l) (h : tOK k b l σ) : ∀ j, σ j < 10 := by
  intro j
  have h1 := h j
  have h2 := K.1
  by_cases c : (k = 1 ∧ j = 0) ∨ j < l
  · rw [if_pos c] at h1
    by_cases c2 : k = 2
    · rw [if_pos c2] at h1; omega
    · rw [if_neg c2] at h1; omega
  · rw [if_neg c] at h1; omega
theorem tOK_0 {k b l : Nat} (K : kOK k b l) : tOK k b l (fun _ => 0) := by
  intro i
  show 0 < (if (k = 1 ∧ i = 0) ∨ i < l then (if k = 2 then b + 1 else b) else 1)
  have h2 := K.2.1
  by_cases c : (k = 1 ∧ i = 0) ∨ i < l
  · rw [if_pos c]
    by_cases c2 : k = 2
    · rw [if_pos c2]; omega
    · rw [if_neg c2]; omega
  · rw [if_neg c]; omega
theorem tst_ok {k b l : Nat} {p : Nat → Int32} {c : Int32} {σ : Nat → Nat} (K : kOK k b l) (h : tOK k b l σ) : tOK k b l (tst k b l p c σ) := by
  intro i
  have hi := h i
  unfold tst
  by_cases c1 : k = 1
  · rw [if_pos c1]
    by_cases c2 : i = 0
    · rw [if_pos c2, if_pos (Or.inl ⟨c1, c2⟩), if_neg (by omega)]
      exact Nat.mod_lt _ K.2.1
    · rw [if_neg c2]
      exact hi
  · rw [if_neg c1]
    by_cases c2 : i < l ∧ p i = c
    · rw [if_pos c2, if_pos (Or.inr c2.1)]
      exact bnd_lt K.2.1
    · rw [if_neg c2]
      exact hi
theorem bounded_ok {k b s : Nat} (hk : k < 3) (hb1 : 1 ≤ b) (hb : b ≤ 9) (hs : s < 100) (h : k ≠ 2 → s < 2 * b) : f_X8_bounded (nI s) (nI k) (nI b) = some (nI (bnd k b s)) := by
  unfold f_X8_bounded bnd mnI
  by_cases c : k = 2
  · subst c
    by_cases c2 : s < b
    · simp (disch := omega) only [↓reduceIte, if_pos, if_neg, ldA_n, stA_n, pI_add, pI_mul, pI_sub, pI_lt_iff, pI_le_iff, pI_eq_iff, ob_s, upE, upN, pI_dec2, asR_some, bitZ0, bitZ1, Sum.elim_inl, Sum.elim_inr, pL0, pL1, pL2, pL3, pL4, pL5, pL6, pL7, pL8, pL10, pL12, pL15, pL16, pL20, pL21, pL22, pL23, pL29, pL31, pL35, pL37, pL48, pL49, pL50, pL52, pL57, pL94, pL97, pL99, pL100, pL127, pL400, pL1000, pL1023, pL1024, pL2000, pL2001, pL2187, pL4095, pL4096, pL8191, pL8192, pL65535]
    · by_cases c3 : s = b
      · subst c3
        simp (disch := omega) only [↓reduceIte, if_pos, if_neg, ldA_n, stA_n, pI_add, pI_mul, pI_sub, pI_lt_iff, pI_le_iff, pI_eq_iff, ob_s, upE, upN, pI_dec2, asR_some, bitZ0, bitZ1, Sum.elim_inl, Sum.elim_inr, pL0, pL1, pL2, pL3, pL4, pL5, pL6, pL7, pL8, pL10, pL12, pL15, pL16, pL20, pL21, pL22, pL23, pL29, pL31, pL35, pL37, pL48, pL49, pL50, pL52, pL57, pL94, pL97, pL99, pL100, pL127, pL400, pL1000, pL1023, pL1024, pL2000, pL2001, pL2187, pL4095, pL4096, pL8191, pL8192, pL65535]
      · simp (disch := omega) only [↓reduceIte, if_pos, if_neg, ldA_n, stA_n, pI_add, pI_mul, pI_sub, pI_lt_iff, pI_le_iff, pI_eq_iff, ob_s, upE, upN, pI_dec2, asR_some, bitZ0, bitZ1, Sum.elim_inl, Sum.elim_inr, pL0, pL1, pL2, pL3, pL4, pL5, pL6, pL7, pL8, pL10, pL12, pL15, pL16, pL20, pL21, pL22, pL23, pL29, pL31, pL35, pL37, pL48, pL49, pL50, pL52, pL57, pL94, pL97, pL99, pL100, pL127, pL400, pL1000, pL1023, pL1024, pL2000, pL2001, pL2187, pL4095, pL4096, pL8191, pL8192, pL65535]
  · have h2 := h c
    by_cases c2 : s < b
    · simp (disch := omega) only [↓reduceIte, if_pos, if_neg, ldA_n, stA_n, pI_add, pI_mul, pI_sub, pI_lt_iff, pI_le_iff, pI_eq_iff, ob_s, upE, upN, pI_dec2, asR_some, bitZ0, bitZ1, Sum.elim_inl, Sum.elim_inr, pL0, pL1, pL2, pL3, pL4, pL5, pL6, pL7, pL8, pL10, pL12, pL15, pL16, pL20, pL21, pL22, pL23, pL29, pL31, pL35, pL37, pL48, pL49, pL50, pL52, pL57, pL94, pL97, pL99, pL100, pL127, pL400, pL1000, pL1023, pL1024, pL2000, pL2001, pL2187, pL4095, pL4096, pL8191, pL8192, pL65535, Nat.mod_eq_of_lt c2]
    · have e : s % b = s - b := by
        rw [Nat.mod_eq_sub_mod (by omega), Nat.mod_eq_of_lt (by omega)]
      simp (disch := omega) only [↓reduceIte, if_pos, if_neg, ldA_n, stA_n, pI_add, pI_mul, pI_sub, pI_lt_iff, pI_le_iff, pI_eq_iff, ob_s, upE, upN, pI_dec2, asR_some, bitZ0, bitZ1, Sum.elim_inl, Sum.elim_inr, pL0, pL1, pL2, pL3, pL4, pL5, pL6, pL7, pL8, pL10, pL12, pL15, pL16, pL20, pL21, pL22, pL23, pL29, pL31, pL35, pL37, pL48, pL49, pL50, pL52, pL57, pL94, pL97, pL99, pL100, pL127, pL400, pL1000, pL1023, pL1024, pL2000, pL2001, pL2187, pL4095, pL4096, pL8191, pL8192, pL65535, e]
theorem step_ok {k b l : Nat} {p : Nat → Int32} {c : Int32} {σ : Nat → Nat} (K : kOK k b l) (h : tOK k b l σ) : f_X8_step (nI (pk16 σ)) c l (nI k) (nI b) (nI l) p = some (nI (pk16 (tst k b l p c σ))) := by
  have h10 := tOK_16 K h
  have h16 : ∀ j, σ j < 16 := fun j => Nat.lt_of_lt_of_le (h10 j) (by omega)
  have t10 := tOK_16 K (tst_ok (p := p) (c := c) K h)
  have t16 : ∀ j, tst k b l p c σ j < 16 := fun j => Nat.lt_of_lt_of_le (t10 j) (by omega)
  obtain ⟨hb9, hb1, hk⟩ := K
  by_cases c1 : k = 1
  · subst c1
    have hl : l = 0 := by omega
    subst hl
    have z : ∀ j, 0 < j → σ j = 0 := by
      intro j hj
      have := h j
      rw [if_neg (by omega)] at this
      omega
    have z0 : σ 0 < b := by
      have := h 0
      rw [if_pos (by omega), if_neg (by omega)] at this
      exact this
    have e1 : pk16 σ = σ 0 := by
      unfold pk16
      rw [z 1 (by omega), z 2 (by omega), z 3 (by omega)]
      omega
    have e2 : pk16 (tst 1 b 0 p c σ) = (σ 0 + 1) % b := by
      show (σ 0 + 1) % b + 16 * σ 1 + 256 * σ 2 + 4096 * σ 3 = _
      rw [z 1 (by omega), z 2 (by omega), z 3 (by omega)]
      omega
    rw [e1, e2]
    unfold f_X8_step
    have e3 := bounded_ok (k := 1) (s := σ 0 + 1) (by omega) hb1 hb9 (by omega) (fun _ => by omega)
    simp (disch := omega) only [↓reduceIte, if_pos, if_neg, ldA_n, stA_n, pI_add, pI_mul, pI_sub, pI_lt_iff, pI_le_iff, pI_eq_iff, ob_s, upE, upN, pI_dec2, asR_some, bitZ0, bitZ1, Sum.elim_inl, Sum.elim_inr, pL0, pL1, pL2, pL3, pL4, pL5, pL6, pL7, pL8, pL10, pL12, pL15, pL16, pL20, pL21, pL22, pL23, pL29, pL31, pL35, pL37, pL48, pL49, pL50, pL52, pL57, pL94, pL97, pL99, pL100, pL127, pL400, pL1000, pL1023, pL1024, pL2000, pL2001, pL2187, pL4095, pL4096, pL8191, pL8192, pL65535, e3]
    rfl
  · have hk3 : k < 3 := by omega
    have hl4 : 1 ≤ l ∧ l ≤ 4 := by omega
    unfold f_X8_step
    rw [if_neg (show ¬ nI k = (1 : Int32) from fun e => c1 (pI_inj (by omega) (by omega) e))]
    have key : Wp (loopN (fun v => b_X8_step_24 l (nI k) (nI b) (nI l) p (nI (pk16 σ)) c v.1 v.2.1 v.2.2) FU (nI (pk16 σ), (1 : Int32), (0 : Int32))) (fun u => u = nI (pk16 (tst k b l p c σ))) := by
      refine wp_up (fun i v => v.2.2 = nI i ∧ v.2.1 = nI (if i = 0 then 1 else σ (i - 1)) ∧ v.1 = nI (pk16 (fun j => if j < i then tst k b l p c σ j else σ j))) 0 l ⟨rfl, rfl, rfl⟩ (by omega) (by omega) ?_ ?_
      · rintro i ⟨x, y, z⟩ h1 h2 ⟨hz, hy, hx⟩
        simp only at hz hy hx
        subst hz hy hx
        have g16 : ∀ j, (fun j => if j < i then tst k b l p c σ j else σ j) j < 16 := by
          intro j
          show (if j < i then tst k b l p c σ j else σ j) < 16
          by_cases cj : j < i
          · rw [if_pos cj]; exact t16 j
          · rw [if_neg cj]; exact h16 j
        have n1 : ∀ s, (if i + 1 = 0 then 1 else σ (i + 1 - 1)) = s ↔ σ i = s := by
          intro s
          rw [if_neg (by omega), Nat.add_sub_cancel]
        show Wp (b_X8_step_24 l (nI k) (nI b) (nI l) p (nI (pk16 σ)) c (nI (pk16 (fun j => if j < i then tst k b l p c σ j else σ j))) (nI (if i = 0 then 1 else σ (i - 1))) (nI i)) _
        unfold b_X8_step_24
        rw [pL4, pI_mul, pL15, nib_get h16 (by omega)]
        have hi := h10 i
        have hsh : (if i = 0 then 1 else σ (i - 1)) ≤ 9 := by
          by_cases ci : i = 0
          · rw [if_pos ci]; omega
          · rw [if_neg ci]
            have := h10 (i - 1)
            omega
        by_cases cp : p i = c
        · have e1 : tst k b l p c σ i = bnd k b (σ i + (if i = 0 then 1 else σ (i - 1))) := by
            rw [tst_n c1, if_pos ⟨h2, cp⟩]
          have e2 : f_X8_bounded (nI (σ i + (if i = 0 then 1 else σ (i - 1)))) (nI k) (nI b) = some (nI (tst k b l p c σ i)) := by
            rw [e1]
            refine bounded_ok hk3 hb1 hb9 (by omega) (fun c2 => ?_)
            have a1 := h i
            rw [if_pos (Or.inr h2), if_neg c2] at a1
            by_cases ci : i = 0
            · rw [if_pos ci]; omega
            · rw [if_neg ci]
              have a2 := h (i - 1)
              rw [if_pos (Or.inr (by omega)), if_neg c2] at a2
              omega
          have e3 := nib_put (i := i) g16 (t16 i) (by omega)
          rw [if_neg (show ¬ nI l ≤ nI i by rw [pI_le_iff (by omega) (by omega)]; omega), ldA_n (by omega) (by omega), if_pos cp, pI_add, e2, pL1, pL31]
          refine wp_l ⟨pI_add, ?_, ?_⟩
          · show nI (σ i) = nI (if i + 1 = 0 then 1 else σ (i + 1 - 1))
            rw [if_neg (by omega), Nat.add_sub_cancel]
          · refine Eq.trans e3 ?_
            congr 1
            refine pk16_congr (fun j hj => ?_)
            show (if j = i then tst k b l p c σ i else if j < i then tst k b l p c σ j else σ j) = if j < i + 1 then tst k b l p c σ j else σ j
            by_cases cj : j = i
            · rw [if_pos cj, if_pos (by omega), cj]
            · rw [if_neg cj]
              by_cases cj2 : j < i
              · rw [if_pos cj2, if_pos (by omega)]
              · rw [if_neg cj2, if_neg (by omega)]
        · have e1 : tst k b l p c σ i = σ i := by
            rw [tst_n c1, if_neg (fun h => cp h.2)]
          rw [if_neg (show ¬ nI l ≤ nI i by rw [pI_le_iff (by omega) (by omega)]; omega), ldA_n (by omega) (by omega), if_neg cp, pL1]
          refine wp_l ⟨pI_add, ?_, ?_⟩
          · show nI (σ i) = nI (if i + 1 = 0 then 1 else σ (i + 1 - 1))
            rw [if_neg (by omega), Nat.add_sub_cancel]
          · refine congrArg nI (pk16_congr (fun j hj => ?_))
            show (if j < i then tst k b l p c σ j else σ j) = if j < i + 1 then tst k b l p c σ j else σ j
            by_cases cj : j = i
            · rw [if_neg (by omega), if_pos (by omega), cj, e1]
            · by_cases cj2 : j < i
              · rw [if_pos cj2, if_pos (by omega)]
              · rw [if_neg cj2, if_neg (by omega)]
      · rintro ⟨x, y, z⟩ ⟨hz, hy, hx⟩
        simp only at hz hy hx
        subst hz hx
        show Wp (b_X8_step_24 l (nI k) (nI b) (nI l) p (nI (pk16 σ)) c (nI (pk16 (fun j => if j < l then tst k b l p c σ j else σ j))) y (nI l)) _
        unfold b_X8_step_24
        rw [if_pos (Int32.le_refl _)]
        refine wp_r ?_
        congr 1
        refine pk16_congr (fun j hj => ?_)
        show (if j < l then tst k b l p c σ j else σ j) = _
        by_cases cj : j < l
        · rw [if_pos cj]
        · rw [if_neg cj]
          rw [tst_n c1, if_neg (fun h => cj h.1)]
    obtain ⟨u, e, rfl⟩ := key
    rw [e]
    rfl
/-- the state behind the first L letters of t -/
def stN (k b l : Nat) (p t : Nat → Int32) : Nat → Nat → Nat
  | 0 => fun _ => 0
  | L + 1 => tst k b l p (t L) (stN k b l p t L)
theorem stN_ok {k b l : Nat} {p t : Nat → Int32} (K : kOK k b l) : ∀ L, tOK k b l (stN k b l p t L)
  | 0 => tOK_0 K
  | L + 1 => tst_ok K (stN_ok K L)
theorem stN_1 {b l : Nat} {p t : Nat → Int32} : ∀ L, stN 1 b l p t L 0 = L % b
  | 0 => (Nat.zero_mod b).symm
  | L + 1 => by
    show tst 1 b l p (t L) (stN 1 b l p t L) 0 = _
    rw [tst_1, stN_1 L]
    exact Nat.mod_add_mod L b 1
theorem stN_v {k b l : Nat} {p t : Nat → Int32} (K : kOK k b l) (h1 : k ≠ 1) : ∀ L i, i < l → stN k b l p t L i = bnd k b (occN p t L (i + 1)) := by
  intro L
  induction L with
  | zero =>
    intro i hi
    show 0 = bnd k b (if i + 1 = 0 then 1 else 0)
    rw [if_neg (by omega), bnd_0 K.2.1]
  | succ L ih =>
    intro i hi
    show tst k b l p (t L) (stN k b l p t L) i = _
    rw [tst_n h1, ih i hi, occN_s, Nat.add_sub_cancel]
    by_cases c : p i = t L
    · rw [if_pos (show i < l ∧ p i = t L from ⟨hi, c⟩), if_pos (show 0 < i + 1 ∧ p i = t L from ⟨by omega, c⟩)]
      by_cases ci : i = 0
      · rw [if_pos ci, ci, occN_0, bnd_add1 K.2.1]
      · rw [if_neg ci, ih (i - 1) (by omega), Nat.sub_add_cancel (by omega), bnd_add]
    · rw [if_neg (show ¬ (i < l ∧ p i = t L) from fun h => c h.2), if_neg (show ¬ (0 < i + 1 ∧ p i = t L) from fun h => c h.2)]
      rfl
/-- a test's value for the first L letters of t -/
def vN (k b l : Nat) (p t : Nat → Int32) (L : Nat) : Nat := if k = 1 then L % b else bnd k b (occN p t L l)
/-- a state's value -/
def vS (k l : Nat) (σ : Nat → Nat) : Nat := if k = 1 then σ 0 else σ (l - 1)
theorem vS_N {k b l : Nat} {p t : Nat → Int32} {L : Nat} (K : kOK k b l) : vS k l (stN k b l p t L) = vN k b l p t L := by
  unfold vS vN
  by_cases h : k = 1
  · subst h
    rw [if_pos rfl, if_pos rfl, stN_1]
  · have hl : 1 ≤ l := by
      obtain ⟨_, _, h2⟩ := K
      omega
    rw [if_neg h, if_neg h, stN_v K h L (l - 1) (by omega), Nat.sub_add_cancel hl]
theorem vN_congr {k b l L : Nat} {p p' t t' : Nat → Int32} (hp : ∀ i, i < l → p i = p' i) (ht : ∀ i, i < L → t i = t' i) : vN k b l p t L = vN k b l p' t' L := by
  unfold vN
  rw [occN_congr hp ht l (Nat.le_refl _)]
theorem vN_lt {k b l L : Nat} {p t : Nat → Int32} (K : kOK k b l) : vN k b l p t L < 10 := by
  rw [← vS_N K]
  have := tOK_16 K (stN_ok (p := p) (t := t) K L)
  unfold vS
  by_cases h : k = 1
  · rw [if_pos h]; exact this 0
  · rw [if_neg h]; exact this (l - 1)
theorem valueAt_ok {k b l : Nat} {σ : Nat → Nat} (K : kOK k b l) (h : tOK k b l σ) : f_X8_valueAt (nI (pk16 σ)) (nI k) (nI l) = some (nI (vS k l σ)) := by
  have h16 : ∀ j, σ j < 16 := fun j => Nat.lt_of_lt_of_le (tOK_16 K h j) (by omega)
  obtain ⟨hb9, hb1, hk⟩ := K
  unfold f_X8_valueAt vS
  by_cases c : k = 1
  · subst c
    have hl : l = 0 := by omega
    subst hl
    have z : ∀ j, 0 < j → σ j = 0 := by
      intro j hj
      have := h j
      rw [if_neg (by omega)] at this
      omega
    have e1 : pk16 σ = σ 0 := by
      unfold pk16
      rw [z 1 (by omega), z 2 (by omega), z 3 (by omega)]
      omega
    simp (disch := omega) only [↓reduceIte, if_pos, if_neg, ldA_n, stA_n, pI_add, pI_mul, pI_sub, pI_lt_iff, pI_le_iff, pI_eq_iff, ob_s, upE, upN, pI_dec2, asR_some, bitZ0, bitZ1, Sum.elim_inl, Sum.elim_inr, pL0, pL1, pL2, pL3, pL4, pL5, pL6, pL7, pL8, pL10, pL12, pL15, pL16, pL20, pL21, pL22, pL23, pL29, pL31, pL35, pL37, pL48, pL49, pL50, pL52, pL57, pL94, pL97, pL99, pL100, pL127, pL400, pL1000, pL1023, pL1024, pL2000, pL2001, pL2187, pL4095, pL4096, pL8191, pL8192, pL65535, e1]
  · have e := nib_get h16 (i := l - 1) (by omega)
    simp (disch := omega) only [↓reduceIte, if_pos, if_neg, ldA_n, stA_n, pI_add, pI_mul, pI_sub, pI_lt_iff, pI_le_iff, pI_eq_iff, ob_s, upE, upN, pI_dec2, asR_some, bitZ0, bitZ1, Sum.elim_inl, Sum.elim_inr, pL0, pL1, pL2, pL3, pL4, pL5, pL6, pL7, pL8, pL10, pL12, pL15, pL16, pL20, pL21, pL22, pL23, pL29, pL31, pL35, pL37, pL48, pL49, pL50, pL52, pL57, pL94, pL97, pL99, pL100, pL127, pL400, pL1000, pL1023, pL1024, pL2000, pL2001, pL2187, pL4095, pL4096, pL8191, pL8192, pL65535, e]
theorem valFor_ok {v : TV} {k b l L : Nat} {t : Nat → Int32} (T : TestOK v k b l) (hL : L ≤ 12) : f_X8_valueFor v.2.2.2.2.2.1 v.1 v.2.1 v.2.2.2.1 (nI L) v.2.2.2.2.2.2 t = some (nI (vN k b l v.2.2.2.2.2.2 t L)) := by
  have K := kOK_of T
  obtain ⟨t1, t2, t3, t4, t5, _, _⟩ := T
  rw [t1, t2, t4, t5]
  have key : Wp (loopN (fun x => b_X8_valueFor_4 l (nI k) (nI b) (nI l) (nI L) v.2.2.2.2.2.2 t x.1 x.2) FU ((0 : Int32), (0 : Int32))) (fun u => u = nI (pk16 (stN k b l v.2.2.2.2.2.2 t L))) := by
    refine wp_up (fun i x => x.2 = nI i ∧ x.1 = nI (pk16 (stN k b l v.2.2.2.2.2.2 t i))) 0 L ⟨rfl, rfl⟩ (by omega) (by omega) ?_ ?_
    · rintro i ⟨x, y⟩ h1 h2 ⟨hy, hx⟩
      simp only at hy hx
      subst hy hx
      show Wp (b_X8_valueFor_4 l (nI k) (nI b) (nI l) (nI L) v.2.2.2.2.2.2 t (nI (pk16 (stN k b l v.2.2.2.2.2.2 t i))) (nI i)) _
      unfold b_X8_valueFor_4
      simp (disch := omega) only [↓reduceIte, if_pos, if_neg, ldA_n, stA_n, pI_add, pI_mul, pI_sub, pI_lt_iff, pI_le_iff, pI_eq_iff, ob_s, upE, upN, pI_dec2, asR_some, bitZ0, bitZ1, Sum.elim_inl, Sum.elim_inr, pL0, pL1, pL2, pL3, pL4, pL5, pL6, pL7, pL8, pL10, pL12, pL15, pL16, pL20, pL21, pL22, pL23, pL29, pL31, pL35, pL37, pL48, pL49, pL50, pL52, pL57, pL94, pL97, pL99, pL100, pL127, pL400, pL1000, pL1023, pL1024, pL2000, pL2001, pL2187, pL4095, pL4096, pL8191, pL8192, pL65535, step_ok K (stN_ok K i)]
      exact wp_l ⟨rfl, rfl⟩
    · rintro ⟨x, y⟩ ⟨hy, hx⟩
      simp only at hy hx
      subst hy hx
      show Wp (b_X8_valueFor_4 l (nI k) (nI b) (nI l) (nI L) v.2.2.2.2.2.2 t (nI (pk16 (stN k b l v.2.2.2.2.2.2 t L))) (nI L)) _
      unfold b_X8_valueFor_4
      rw [if_pos (Int32.le_refl _)]
      exact wp_r rfl
  obtain ⟨u, e, rfl⟩ := key
  unfold f_X8_valueFor
  rw [e]
  show (f_X8_valueAt (nI (pk16 (stN k b l v.2.2.2.2.2.2 t L))) (nI k) (nI l)).bind (fun u8 => some u8) = _
  rw [valueAt_ok K (stN_ok K L), vS_N K]
  rfl
theorem valOf_ok {k b l L n o w : Nat} {p wl wd ws : Nat → Int32} (K : kOK k b l) (hL : L ≤ 12) (ho : o + l ≤ n) (hn : n < 1000) (hw : w < 3) (hl : wl w = nI L) : Wp (f_X12_valueOf (nI k) (nI b) (nI o) (nI l) (nI w) n p wl wd ws) (fun r => r.1 = nI (vN k b l (fun i => p (o + i)) (fun i => wd (12 * w + i)) L)) := by
  have hb := K.1
  have hb1 := K.2.1
  have hk := K.2.2
  unfold f_X12_valueOf vN
  by_cases c : k = 1
  · subst c
    simp (disch := omega) only [↓reduceIte, if_pos, if_neg, ldA_n, stA_n, pI_add, pI_mul, pI_sub, pI_lt_iff, pI_le_iff, pI_eq_iff, ob_s, upE, upN, pI_dec2, asR_some, bitZ0, bitZ1, Sum.elim_inl, Sum.elim_inr, pL0, pL1, pL2, pL3, pL4, pL5, pL6, pL7, pL8, pL10, pL12, pL15, pL16, pL20, pL21, pL22, pL23, pL29, pL31, pL35, pL37, pL48, pL49, pL50, pL52, pL57, pL94, pL97, pL99, pL100, pL127, pL400, pL1000, pL1023, pL1024, pL2000, pL2001, pL2187, pL4095, pL4096, pL8191, pL8192, pL65535, hl, rmI_n]
    exact wp_some rfl
  · rw [if_neg (show ¬ nI k = (1 : Int32) from fun e => c (pI_inj (by omega) (by omega) e)), if_neg c]
    refine wp_seq (occ2_ok (by omega) ho hn hw hl hL) (fun r hr => ?_)
    obtain ⟨r1, r2⟩ := r
    simp only at hr
    subst hr
    have hB := occN_b (p := fun i => p (o + i)) (t := fun i => wd (12 * w + i)) (j := l) hL
    unfold bnd
    by_cases c0 : k = 0
    · subst c0
      simp (disch := omega) only [↓reduceIte, if_pos, if_neg, ldA_n, stA_n, pI_add, pI_mul, pI_sub, pI_lt_iff, pI_le_iff, pI_eq_iff, ob_s, upE, upN, pI_dec2, asR_some, bitZ0, bitZ1, Sum.elim_inl, Sum.elim_inr, pL0, pL1, pL2, pL3, pL4, pL5, pL6, pL7, pL8, pL10, pL12, pL15, pL16, pL20, pL21, pL22, pL23, pL29, pL31, pL35, pL37, pL48, pL49, pL50, pL52, pL57, pL94, pL97, pL99, pL100, pL127, pL400, pL1000, pL1023, pL1024, pL2000, pL2001, pL2187, pL4095, pL4096, pL8191, pL8192, pL65535, rmI_n]
      exact wp_some rfl
    · have c2 : k = 2 := by omega
      subst c2
      by_cases c3 : b ≤ occN (fun i => p (o + i)) (fun i => wd (12 * w + i)) L l
      · simp (disch := omega) only [↓reduceIte, if_pos, if_neg, ldA_n, stA_n, pI_add, pI_mul, pI_sub, pI_lt_iff, pI_le_iff, pI_eq_iff, ob_s, upE, upN, pI_dec2, asR_some, bitZ0, bitZ1, Sum.elim_inl, Sum.elim_inr, pL0, pL1, pL2, pL3, pL4, pL5, pL6, pL7, pL8, pL10, pL12, pL15, pL16, pL20, pL21, pL22, pL23, pL29, pL31, pL35, pL37, pL48, pL49, pL50, pL52, pL57, pL94, pL97, pL99, pL100, pL127, pL400, pL1000, pL1023, pL1024, pL2000, pL2001, pL2187, pL4095, pL4096, pL8191, pL8192, pL65535]
        exact wp_some rfl
      · simp (disch := omega) only [↓reduceIte, if_pos, if_neg, ldA_n, stA_n, pI_add, pI_mul, pI_sub, pI_lt_iff, pI_le_iff, pI_eq_iff, ob_s, upE, upN, pI_dec2, asR_some, bitZ0, bitZ1, Sum.elim_inl, Sum.elim_inr, pL0, pL1, pL2, pL3, pL4, pL5, pL6, pL7, pL8, pL10, pL12, pL15, pL16, pL20, pL21, pL22, pL23, pL29, pL31, pL35, pL37, pL48, pL49, pL50, pL52, pL57, pL94, pL97, pL99, pL100, pL127, pL400, pL1000, pL1023, pL1024, pL2000, pL2001, pL2187, pL4095, pL4096, pL8191, pL8192, pL65535]
        exact wp_some rfl
