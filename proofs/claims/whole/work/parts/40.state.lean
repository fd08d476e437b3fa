set_option linter.unusedVariables false
/-! the cells of the class and of the reference by numbers: 127 cells; the class's object has number 52, the reference's 0; a Monoid, once made, has the numbers from 123 on -/
def gI (e : va_E) : Nat → Int32 := match e with
  | .inl (_, _, .inl f) => f
  | _ => fun _ => 0
def gJ (e : va_E) : Nat → Int64 := match e with
  | .inl (_, _, .inr (.inl f)) => f
  | _ => fun _ => 0
def gR (e : va_E) : Nat → Option Nat := match e with
  | .inl (_, _, .inr (.inr (.inr (.inr f)))) => f
  | _ => fun _ => none
def gV (e : va_E) (j : Nat) : Value := match e with
  | .inr (_, fs) => fs.getD j .null
  | _ => .null
def gS (e : va_E) (j : Nat) : Int32 := match gV e j with
  | .int x => x
  | _ => 0
def ddL : List (List Nat) := [[0, 1, 2, 3, 4, 5, 6, 7, 8, 9, 0, 0, 0, 10, 11, 0, 12, 13, 14, 15, 16, 17, 18, 19, 20, 21, 22, 23, 24, 0, 25, 26, 27, 28, 29, 30, 0, 0, 0, 0, 0, 31, 32, 33, 34, 35, 36, 37, 38, 0, 39, 40, 41, 0, 42, 43, 0, 44, 45, 46, 47, 48, 49, 50, 51, 0, 0, 0], [], [], [], [], [], [], [], [], [], [], [], [], [], [], [], [], [], [], [], [], [], [], [], [], [], [], [], [], [], [], [], [], [], [], [], [], [], [], [], [], [], [], [], [], [], [], [], [], [], [], [], [53, 67, 0, 81, 0, 82, 89, 92, 97, 110, 123, 122], [0, 54, 64, 66], [], [56, 0, 57], [], [], [59, 0, 60], [], [], [62, 0, 63], [], [], [65, 0], [], [], [0, 68, 78, 80], [], [70, 0, 71], [], [], [73, 0, 74], [], [], [76, 0, 77], [], [], [79, 0], [], [], [], [], [0, 0, 84], [], [0, 0, 86], [], [0, 0, 88], [], [90, 0, 91], [], [], [93, 94, 95, 96, 0, 0, 0], [], [], [], [], [98, 0, 0, 100, 101, 102, 103, 104, 105, 106, 107, 108, 109], [99, 0], [], [], [], [], [], [], [], [], [], [], [], [0, 111, 112, 113, 114, 115, 116, 117, 0, 118, 119, 120, 121], [], [], [], [], [], [], [], [], [], [], [], [], [0, 0, 124, 125, 126], [], [], []]
def dd (ad : Nat → Nat) (k : Nat) : Nat → Nat := fun j => ad ((ddL.getD k []).getD j 0)
def nmL (cy : Nat → ClassId) (ad : Nat → Nat) : List (va_E → va_E) := [(fun e => ob 11 (oX12 (dd ad 0) (gS e 0) (gS e 10) (gS e 11) (gS e 12) (gS e 15) (gS e 29) (gS e 36) (gS e 37) (gS e 38) (gS e 39) (gS e 40) (gS e 49) (gS e 53) (gS e 56) (gS e 65) (gS e 66) (gS e 67))),
  (fun e => aI cy 3 (gI e)),
  (fun e => aI cy 36 (gI e)),
  (fun e => aI cy 13 (gI e)),
  (fun e => aI cy 4 (gI e)),
  (fun e => aI cy 6 (gI e)),
  (fun e => aI cy 6 (gI e)),
  (fun e => aI cy 6 (gI e)),
  (fun e => aI cy 24 (gI e)),
  (fun e => aI cy 8 (gI e)),
  (fun e => aI cy 2187 (gI e)),
  (fun e => aI cy 12 (gI e)),
  (fun e => aI cy 4 (gI e)),
  (fun e => aI cy 4 (gI e)),
  (fun e => aI cy 4 (gI e)),
  (fun e => aI cy 16 (gI e)),
  (fun e => aI cy 16 (gI e)),
  (fun e => aI cy 16 (gI e)),
  (fun e => aI cy 16 (gI e)),
  (fun e => aI cy 64 (gI e)),
  (fun e => aI cy 4 (gI e)),
  (fun e => aI cy 4 (gI e)),
  (fun e => aI cy 4 (gI e)),
  (fun e => aI cy 4 (gI e)),
  (fun e => aI cy 16 (gI e)),
  (fun e => aI cy 8 (gI e)),
  (fun e => aI cy 8 (gI e)),
  (fun e => aI cy 8 (gI e)),
  (fun e => aI cy 8 (gI e)),
  (fun e => aI cy 32 (gI e)),
  (fun e => aI cy 4 (gI e)),
  (fun e => aJ cy 2000 (gJ e)),
  (fun e => aJ cy 2000 (gJ e)),
  (fun e => aJ cy 8192 (gJ e)),
  (fun e => aJ cy 8192 (gJ e)),
  (fun e => aI cy 8192 (gI e)),
  (fun e => aI cy 6000 (gI e)),
  (fun e => aI cy 2000 (gI e)),
  (fun e => aI cy 2000 (gI e)),
  (fun e => aI cy 2000 (gI e)),
  (fun e => aI cy 2000 (gI e)),
  (fun e => aI cy 2000 (gI e)),
  (fun e => aI cy 160000 (gI e)),
  (fun e => aI cy 400 (gI e)),
  (fun e => aJ cy 2000 (gJ e)),
  (fun e => aJ cy 2000 (gJ e)),
  (fun e => aJ cy 21 (gJ e)),
  (fun e => aI cy 3 (gI e)),
  (fun e => aI cy 3 (gI e)),
  (fun e => aI cy 63 (gI e)),
  (fun e => aI cy 21 (gI e)),
  (fun e => aI cy 240 (gI e)),
  (fun e => ob 10 (oX11 (dd ad 52) (gV e 10) (gS e 2) (gS e 4))),
  (fun e => ob 5 (oX5 (dd ad 53) (gS e 0))),
  (fun e => aR cy 5 3 (gR e)),
  (fun e => ob 8 (oX9 (dd ad 55) (gS e 1))),
  (fun e => aI cy 12 (gI e)),
  (fun e => aI cy 13 (gI e)),
  (fun e => ob 8 (oX9 (dd ad 58) (gS e 1))),
  (fun e => aI cy 12 (gI e)),
  (fun e => aI cy 13 (gI e)),
  (fun e => ob 8 (oX9 (dd ad 61) (gS e 1))),
  (fun e => aI cy 12 (gI e)),
  (fun e => aI cy 13 (gI e)),
  (fun e => ob 1 (oX1 (dd ad 64) (gS e 1))),
  (fun e => aR cy 4 8 (gR e)),
  (fun e => aR cy 2 4 (gR e)),
  (fun e => ob 5 (oX5 (dd ad 67) (gS e 0))),
  (fun e => aR cy 5 3 (gR e)),
  (fun e => ob 8 (oX9 (dd ad 69) (gS e 1))),
  (fun e => aI cy 12 (gI e)),
  (fun e => aI cy 13 (gI e)),
  (fun e => ob 8 (oX9 (dd ad 72) (gS e 1))),
  (fun e => aI cy 12 (gI e)),
  (fun e => aI cy 13 (gI e)),
  (fun e => ob 8 (oX9 (dd ad 75) (gS e 1))),
  (fun e => aI cy 12 (gI e)),
  (fun e => aI cy 13 (gI e)),
  (fun e => ob 1 (oX1 (dd ad 78) (gS e 1))),
  (fun e => aR cy 4 8 (gR e)),
  (fun e => aR cy 2 4 (gR e)),
  (fun e => aI cy 8 (gI e)),
  (fun e => aR cy 3 3 (gR e)),
  (fun e => ob 6 (oX6 (dd ad 83) (gS e 0) (gS e 1))),
  (fun e => aI cy 21 (gI e)),
  (fun e => ob 6 (oX6 (dd ad 85) (gS e 0) (gS e 1))),
  (fun e => aI cy 21 (gI e)),
  (fun e => ob 6 (oX6 (dd ad 87) (gS e 0) (gS e 1))),
  (fun e => aI cy 21 (gI e)),
  (fun e => ob 8 (oX9 (dd ad 89) (gS e 1))),
  (fun e => aI cy 12 (gI e)),
  (fun e => aI cy 13 (gI e)),
  (fun e => ob 9 (oX10 (dd ad 92) (gS e 4) (gS e 5) (gS e 6))),
  (fun e => aJ cy 2187 (gJ e)),
  (fun e => aJ cy 2187 (gJ e)),
  (fun e => aI cy 2187 (gI e)),
  (fun e => aI cy 4096 (gI e)),
  (fun e => ob 0 (oX0 (dd ad 97) (gS e 1) (gS e 2))),
  (fun e => ob 1 (oX1 (dd ad 98) (gS e 1))),
  (fun e => aR cy 4 8 (gR e)),
  (fun e => aI cy 6000 (gI e)),
  (fun e => aI cy 2000 (gI e)),
  (fun e => aI cy 2000 (gI e)),
  (fun e => aJ cy 2000 (gJ e)),
  (fun e => aJ cy 2000 (gJ e)),
  (fun e => aI cy 2000 (gI e)),
  (fun e => aI cy 2000 (gI e)),
  (fun e => aI cy 4096 (gI e)),
  (fun e => aJ cy 2000 (gJ e)),
  (fun e => aJ cy 2000 (gJ e)),
  (fun e => ob 4 (oX4 (dd ad 110) (gS e 0) (gS e 8))),
  (fun e => aI cy 2000 (gI e)),
  (fun e => aI cy 2000 (gI e)),
  (fun e => aI cy 2000 (gI e)),
  (fun e => aI cy 2000 (gI e)),
  (fun e => aI cy 2000 (gI e)),
  (fun e => aI cy 2000 (gI e)),
  (fun e => aI cy 2000 (gI e)),
  (fun e => aI cy 2000 (gI e)),
  (fun e => aI cy 2000 (gI e)),
  (fun e => aI cy 6003 (gI e)),
  (fun e => aI cy 6000 (gI e)),
  (fun e => aJ cy 21 (gJ e)),
  (fun e => ob 3 (oX3 (dd ad 123) (gS e 0) (gS e 1))),
  (fun e => aI cy 1200 (gI e)),
  (fun e => aI cy 160400 (gI e)),
  (fun e => aI cy 1024 (gI e))]
def nm (cy : Nat → ClassId) (ad : Nat → Nat) (k : Nat) (e : va_E) : va_E := ((nmL cy ad).getD k id) e
/-- each cell is of its kind -/
def SH (cy : Nat → ClassId) (n : Nat) (ad : Nat → Nat) (E : Nat → va_E) : Prop := ∀ k, k < n → E k = nm cy ad k (E k)
theorem SH_upds {cy : Nat → ClassId} {n : Nat} {ad : Nat → Nat} {E : Nat → va_E} {L : List (Nat × va_E)} (h : SH cy n ad E) (hn : (L.map (fun q => q.1)).Nodup) (hL : ∀ q ∈ L, nm cy ad q.1 q.2 = q.2) : SH cy n ad (upds E L) := by
  intro k hk
  by_cases hm : k ∈ L.map (fun q => q.1)
  · obtain ⟨q, hq, rfl⟩ := List.mem_map.mp hm
    rw [upds_eq hn q hq]
    exact (hL q hq).symm
  · rw [upds_ne hm]
    exact h k hk
theorem lcN {f : Nat × va_E → Nat × va_E} : ([] : va_W) = ([] : List (Nat × va_E)).map f := rfl
theorem lcC {a : Nat} {e e' : va_E} {l l' : va_W} (h : e = e') (t : l = l') : (a, e) :: l = (a, e') :: l' := by rw [h, t]
theorem faN {α : Type} {p : α → Prop} : ∀ q ∈ ([] : List α), p q := fun _ h => absurd h List.not_mem_nil
theorem faC {α : Type} {p : α → Prop} {a : α} {l : List α} (h : p a) (t : ∀ q ∈ l, p q) : ∀ q ∈ a :: l, p q := fun q hq => (List.mem_cons.mp hq).elim (fun e => e ▸ h) (t q)
abbrev RelT : Type := Nat → (Nat → Nat) → (Nat → va_E) → va_W → (Nat → Option TV) → (Nat → Bool) → Prop
