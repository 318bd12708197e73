/-! THE RELATION: what the component's cells (0 .. 70) and the model's (71 .. 101) hold says the same. Cells that every call makes anew are left out (core). -/
def coreA : List Nat := [2, 3, 4, 7, 8, 9, 10, 11, 12, 13, 14, 15, 16, 17, 20, 34, 35, 36, 37, 40, 41, 44, 45, 48, 49, 52, 53, 56, 57, 60, 61, 63, 64, 65, 66, 67, 68, 69, 70, 72, 73, 74, 75, 76, 77, 78, 79, 80, 81, 82, 83, 84, 85, 86, 87, 88, 89, 91]
def core (k j : Nat) : Bool := coreA.contains k || (k == 0 && (j == 3 || j == 4)) || (k == 1 && j == 2) || (k == 5 && j == 2) || (k == 19 && j == 1) || (k == 33 && (j == 0 || j == 1 || j == 4 || j == 7)) || (k == 71 && (j == 1 || j == 3 || j == 11 || j == 14 || j == 15 || j == 16 || j == 17 || j == 18 || j == 19 || j == 58 || j == 59))
/-- what lasts -/
def xpj (w : xI) : xI := fun k j => if core k j = true then w k j else 0
/-- all sums of the stones from k on; made: the fewest of each difference -/
def tabPut (T : Nat → Int32) (sum used : Int32) : Nat → Int32 :=
  let d := if 0 ≤ sum then sum else 0 - sum
  if T d.toNatClampNeg = -1 ∨ used < T d.toNatClampNeg then upd T d.toNatClampNeg used else T
def tabLay (st : Nat → Int32) : Nat → Nat → Int32 → Int32 → (Nat → Int32) → (Nat → Int32)
  | 0, _, sum, used, T => tabPut T sum used
  | m + 1, k, sum, used, T => tabLay st m (k + 1) (sum - st k) (used + 1) (tabLay st m (k + 1) (sum + st k) (used + 1) (tabLay st m (k + 1) sum used T))
/-- the fewest of n stones st by which a difference is made -/
def tabOf (st : Nat → Int32) (n : Nat) : Nat → Int32 := tabLay st n 0 0 0 (fun _ => -1)
def R_scale (v : xI) : Prop := (∀ j, j < 3 → v 72 j = v 2 j) ∧ (1 ≤ v 2 0 ∧ v 2 0 ≤ 3) ∧ (1 ≤ v 2 1 ∧ v 2 1 ≤ 3) ∧ (0 ≤ v 2 2 ∧ v 2 2 ≤ 9)
def R_stone (v : xI) : Prop := v 71 1 = v 1 2 ∧ (0 ≤ v 1 2 ∧ v 1 2 ≤ 5) ∧ (∀ j, j < 5 → v 73 j = v 3 j) ∧ (∀ j, j < 5 → 0 ≤ v 3 j ∧ v 3 j ≤ 99) ∧ ∀ d, d < 1000 → v 4 d = tabOf (v 3) (v 1 2).toNatClampNeg d
def R_yard (v : xI) : Prop := v 71 3 = v 5 2 ∧ (0 ≤ v 5 2 ∧ v 5 2 ≤ 10) ∧ (∀ c, c < 10 → v 74 c = v (8 + c) 0 ∧ v 75 c = v (8 + c) 1 ∧ v 76 c = v (8 + c) 2 ∧ v 77 c = v (8 + c) 3 ∧ v 78 c = v (8 + c) 4 ∧ v 79 c = v 7 c) ∧
  ∀ c, c < 10 → (0 ≤ v (8 + c) 0 ∧ v (8 + c) 0 ≤ 1) ∧ (0 ≤ v (8 + c) 1 ∧ v (8 + c) 1 ≤ 5) ∧ (0 ≤ v (8 + c) 2 ∧ v (8 + c) 2 ≤ 99) ∧ (0 ≤ v (8 + c) 3 ∧ v (8 + c) 3 ≤ 99) ∧ (0 ≤ v (8 + c) 4 ∧ v (8 + c) 4 ≤ 9) ∧ (0 ≤ v 7 c ∧ v 7 c ≤ 9)
def R_tape (v : xI) : Prop := v 71 11 = v 19 1 ∧ (0 ≤ v 19 1 ∧ v 19 1 ≤ 160) ∧ ∀ j, j < (v 19 1).toNatClampNeg → v 80 j = v 20 j ∧ 0 ≤ v 20 j ∧ v 20 j ≤ 255
/-- the model's sign for a token of the component's -/
def mTok (x : Int32) : Int32 := if 0 ≤ x then 100000 + x else if -6 ≤ x then -1 - x else if x = -7 then 11 else if x = -8 then 12 else if x = -9 then 13 else if x = -10 then 14 else if x = -11 then 15 else if x = -12 then 16 else if x = -13 then 17 else if x = -14 then 18 else 19
/-- how high the stack stands behind tokens a .. a + n - 1, if it never wants what isn't there -/
def hgt (c : Nat → Int32) : Nat → Nat → Nat → Option Nat
  | _, 0, h => some h
  | a, n + 1, h => if -6 ≤ c a then hgt c (a + 1) n (h + 1) else if c a = -9 ∨ c a = -15 then (if 1 ≤ h then hgt c (a + 1) n h else none) else if 2 ≤ h then hgt c (a + 1) n (h - 1) else none
def TextOk (v : xI) (t : Nat) : Prop := ∃ (e1 e2 e3 : Nat), e1 ≤ e2 ∧ e2 ≤ e3 ∧ e3 ≤ 160 ∧ (v (41 + 4 * t) 0 = nI e1 ∧ v (41 + 4 * t) 1 = nI e2 ∧ v (41 + 4 * t) 2 = nI e3) ∧ (v 82 (4 * t) = 0 ∧ v 82 (4 * t + 1) = nI e1 ∧ v 82 (4 * t + 2) = nI e2 ∧ v 82 (4 * t + 3) = nI e3) ∧
  (∀ j, j < e3 → v 81 (200 * t + j) = mTok (v (40 + 4 * t) j) ∧ -15 ≤ v (40 + 4 * t) j ∧ v (40 + 4 * t) j ≤ 9999) ∧ hgt (v (40 + 4 * t)) 0 e1 0 = some 1 ∧ hgt (v (40 + 4 * t)) e1 (e2 - e1) 0 = some 1 ∧ hgt (v (40 + 4 * t)) e2 (e3 - e2) 0 = some 1
def R_text (v : xI) : Prop := v 71 14 = v 0 3 ∧ (1 ≤ v 0 3 ∧ v 0 3 ≤ 6) ∧ v 71 15 = v 0 4 ∧ (0 ≤ v 0 4 ∧ v 0 4 < v 0 3) ∧ ∀ t, t < (v 0 3).toNatClampNeg → TextOk v t
def R_img (v : xI) : Prop := v 71 16 = v 33 0 ∧ (v 33 0 = 0 ∨ v 33 0 = 1) ∧ (v 33 0 = 1 → (v 71 17 = v 33 4 ∧ 0 ≤ v 33 4 ∧ v 33 4 ≤ 5) ∧ (v 71 18 = v 33 7 ∧ 0 ≤ v 33 7 ∧ v 33 7 ≤ 10) ∧ (v 71 19 = v 33 1 ∧ 0 ≤ v 33 1 ∧ v 33 1 < v 0 3) ∧
  (∀ j, j < 3 → v 83 j = v 34 j) ∧ (1 ≤ v 34 0 ∧ v 34 0 ≤ 3) ∧ (1 ≤ v 34 1 ∧ v 34 1 ≤ 3) ∧ (0 ≤ v 34 2 ∧ v 34 2 ≤ 9) ∧ (∀ j, j < 5 → v 84 j = v 35 j ∧ 0 ≤ v 35 j ∧ v 35 j ≤ 99) ∧ (∀ c, c < 10 → (v 85 c = v 36 c ∧ 0 ≤ v 36 c ∧ v 36 c ≤ 9) ∧ (v 86 c = v 37 c ∧ 0 ≤ v 37 c ∧ v 37 c ≤ 1)))
def R_sheet (v : xI) : Prop := ∀ s, s < 4 → v 87 s = v (63 + 2 * s) 0 ∧ v 88 s = v (63 + 2 * s) 1 ∧ (-1 ≤ v (63 + 2 * s) 0 ∧ v (63 + 2 * s) 0 ≤ 2) ∧ (0 ≤ v (63 + 2 * s) 1 ∧ v (63 + 2 * s) 1 ≤ 40) ∧ ∀ i, i < 40 → v 89 (40 * s + i) = v (64 + 2 * s) i
def xWords : List Int32 := [109, 97, 121, 32, 32, 32, 32, 32, 102, 105, 110, 101, 32, 32, 32, 32, 116, 111, 108, 108, 32, 32, 32, 32, 105, 110, 32, 32, 32, 32, 32, 32, 111, 117, 116, 32, 32, 32, 32, 32, 111, 102, 102, 32, 32, 32, 32, 32, 104, 111, 117, 114, 32, 32, 32, 32, 109, 97, 110, 121, 32, 32, 32, 32, 115, 116, 111, 110, 101, 115, 32, 32, 111, 114, 32, 32, 32, 32, 32, 32, 97, 110, 100, 32, 32, 32, 32, 32, 110, 111, 116, 32, 32, 32, 32, 32]
def R_const (v : xI) : Prop := (∀ j, j < 96 → v 91 j = xWords.getD j 0) ∧ v 71 58 = -1 ∧ v 71 59 = 0
def RelP (v : xI) : Prop := R_scale v ∧ R_stone v ∧ R_yard v ∧ R_tape v ∧ R_text v ∧ R_img v ∧ R_sheet v ∧ R_const v
def Rel (w : xI) : Prop := RelP (xpj w)
/-- a call of both: the same answer, and the relation again -/
def OpI (f g : xI → Option (Int32 × xI)) : Prop := ∀ w, Rel w → ∃ r w1 w2, f w = some (r, w1) ∧ g w1 = some (r, w2) ∧ Rel w2
def OpL (f g : xI → Option (Int64 × xI)) : Prop := ∀ w, Rel w → ∃ r w1 w2, f w = some (r, w1) ∧ g w1 = some (r, w2) ∧ Rel w2
