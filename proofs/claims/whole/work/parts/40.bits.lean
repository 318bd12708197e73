-- ===== sets as bits =====
theorem sm31 : ∀ c, c < 31 → ((nI c &&& 31).toBitVec.smod 32).toNat = c := by decide +kernel
theorem b_bit {S c : Nat} (hS : S < 2 ^ 31) (hc : c < 31) : (nI S >>> (nI c &&& 31)) &&& 1 = if S.testBit c = true then 1 else 0 := by
  rw [pk_shrN hS _ c (sm31 c hc), pk_andN (Nat.lt_of_le_of_lt (Nat.div_le_self _ _) (by omega)) 1 rfl, Nat.testBit_eq_decide_div_mod_eq]
  have h2 : S / 2 ^ c % 2 ^ 1 = 0 ∨ S / 2 ^ c % 2 ^ 1 = 1 := by omega
  rcases h2 with h | h
  · rw [h, if_neg (by decide)]; rfl
  · rw [h, if_pos (by decide)]; rfl
theorem b_on {S c : Nat} (hS : S < 2 ^ 31) (hc : c < 31) : ((nI S >>> (nI c &&& 31)) &&& 1 = 1) ↔ S.testBit c = true := by
  rw [b_bit hS hc]
  by_cases h : S.testBit c = true
  · rw [if_pos h]; exact ⟨fun _ => h, fun _ => rfl⟩
  · rw [if_neg h]; exact ⟨fun z => absurd z (by decide), fun z => absurd z h⟩
theorem b_off {S c : Nat} (hS : S < 2 ^ 31) (hc : c < 31) : ((nI S >>> (nI c &&& 31)) &&& 1 = 0) ↔ S.testBit c = false := by
  rw [b_bit hS hc]
  by_cases h : S.testBit c = true
  · rw [if_pos h, h]; exact ⟨fun z => absurd z (by decide), fun z => absurd z (by decide)⟩
  · rw [if_neg h]; exact ⟨fun _ => by simpa using h, fun _ => rfl⟩
theorem b_shl {c : Nat} (hc : c < 31) : (1 : Int32) <<< (nI c &&& 31) = nI (2 ^ c) := by
  have h := pk_shlN (n := 1) (nI c &&& 31) c (sm31 c hc) (by rw [Nat.one_mul]; exact Nat.pow_lt_pow_right (by decide) (by omega))
  rw [Nat.one_mul] at h
  exact h
theorem b_ext {a b : Int32} (h : a.toBitVec.toNat = b.toBitVec.toNat) : a = b := Int32.toBitVec_inj.mp (BitVec.eq_of_toNat_eq h)
theorem b_and {S T : Nat} (hS : S < 2 ^ 31) (hT : T < 2 ^ 31) : nI S &&& nI T = nI (S &&& T) := by
  have h3 : S &&& T < 2 ^ 31 := Nat.and_lt_two_pow S hT
  refine b_ext ?_
  rw [pk_tn (by omega)]
  show ((nI S).toBitVec &&& (nI T).toBitVec).toNat = S &&& T
  rw [BitVec.toNat_and, pk_tn (by omega), pk_tn (by omega)]
theorem b_or {S T : Nat} (hS : S < 2 ^ 31) (hT : T < 2 ^ 31) : nI S ||| nI T = nI (S ||| T) := by
  have h3 : S ||| T < 2 ^ 31 := Nat.or_lt_two_pow hS hT
  refine b_ext ?_
  rw [pk_tn (by omega)]
  show ((nI S).toBitVec ||| (nI T).toBitVec).toNat = S ||| T
  rw [BitVec.toNat_or, pk_tn (by omega), pk_tn (by omega)]
/-- S without T -/
def bdif (S T : Nat) : Nat := S &&& (T ^^^ (2 ^ 32 - 1))
theorem bdif_bit (S T : Nat) (hS : S < 2 ^ 31) (i : Nat) : (bdif S T).testBit i = (S.testBit i && !T.testBit i) := by
  unfold bdif
  rw [Nat.testBit_and, Nat.testBit_xor, Nat.testBit_two_pow_sub_one]
  by_cases h : i < 32
  · simp [h]
  · have : S.testBit i = false := Nat.testBit_lt_two_pow (Nat.lt_of_lt_of_le hS (Nat.pow_le_pow_right (by decide) (by omega)))
    rw [this]; rfl
theorem bdif_lt {S T n : Nat} (hS : S < 2 ^ n) : bdif S T < 2 ^ n := by
  unfold bdif
  rw [Nat.and_comm]
  exact Nat.and_lt_two_pow _ hS
theorem b_dif {S T : Nat} (hS : S < 2 ^ 31) (hT : T < 2 ^ 31) : nI S &&& (nI T ^^^ (-1)) = nI (bdif S T) := by
  have h3 : bdif S T < 2 ^ 31 := bdif_lt hS
  refine b_ext ?_
  rw [pk_tn (by omega)]
  show ((nI S).toBitVec &&& ((nI T).toBitVec ^^^ (-1 : Int32).toBitVec)).toNat = bdif S T
  rw [BitVec.toNat_and, BitVec.toNat_xor, pk_tn (by omega), pk_tn (by omega)]
  rfl
/-- how many of the first n are in a set -/
def bsum (f : Nat → Nat) (p : Nat → Bool) : Nat → Nat → Nat
  | 0, _ => 0
  | m + 1, k => (if p k = true then f k else 0) + bsum f p m (k + 1)
theorem bsum_cg {f g : Nat → Nat} {p q : Nat → Bool} : ∀ m k, (∀ i, k ≤ i → i < k + m → p i = q i ∧ (p i = true → f i = g i)) → bsum f p m k = bsum g q m k := by
  intro m
  induction m with
  | zero => intro k _; rfl
  | succ m ih =>
    intro k h
    obtain ⟨h1, h2⟩ := h k (Nat.le_refl _) (by omega)
    show (if p k = true then f k else 0) + bsum f p m (k + 1) = (if q k = true then g k else 0) + bsum g q m (k + 1)
    rw [ih (k + 1) (fun i a b => h i (by omega) (by omega)), ← h1]
    by_cases c : p k = true
    · rw [if_pos c, if_pos c, h2 c]
    · rw [if_neg c, if_neg c]
theorem bsum_le {f : Nat → Nat} {p : Nat → Bool} {B : Nat} : ∀ m k, (∀ i, k ≤ i → i < k + m → f i ≤ B) → bsum f p m k ≤ B * m := by
  intro m
  induction m with
  | zero => intro k _; exact Nat.zero_le _
  | succ m ih =>
    intro k h
    have h1 := h k (Nat.le_refl _) (by omega)
    have h2 := ih (k + 1) (fun i a b => h i (by omega) (by omega))
    show (if p k = true then f k else 0) + bsum f p m (k + 1) ≤ B * (m + 1)
    rw [Nat.mul_succ]
    by_cases c : p k = true
    · rw [if_pos c]; omega
    · rw [if_neg c]; omega
def bcV (a1 : Int32) : Int32 :=
  let x1 := a1 - ((a1.toUInt32 >>> ((1 : Int32).toUInt32 &&& Int32.toUInt32 31)).toInt32 &&& (1431655765 : Int32))
  let x2 := (x1 &&& (858993459 : Int32)) + ((x1.toUInt32 >>> ((2 : Int32).toUInt32 &&& Int32.toUInt32 31)).toInt32 &&& (858993459 : Int32))
  let x3 := (x2 + (x2.toUInt32 >>> ((4 : Int32).toUInt32 &&& Int32.toUInt32 31)).toInt32) &&& (252645135 : Int32)
  let x4 := x3 + (x3.toUInt32 >>> ((8 : Int32).toUInt32 &&& Int32.toUInt32 31)).toInt32
  let x5 := x4 + (x4.toUInt32 >>> ((16 : Int32).toUInt32 &&& Int32.toUInt32 31)).toInt32
  x5 &&& (63 : Int32)
def one1 : Nat → Nat := fun _ => 1
/-- how many are in a set of the first ten -/
def pop (S : Nat) : Nat := bsum one1 (fun c => S.testBit c) 10 0
theorem bcV_pop : ∀ S, S < 1024 → bcV (nI S) = nI (pop S) := by decide +kernel
theorem s_bits {γ : Type} {S : Nat} (hS : S < 1024) (w : xI) (K : Int32 → xI → Option γ) : xbind (f_J6_bitCount_0f7a4 (nI S) w) K = K (nI (pop S)) w := by
  have e : f_J6_bitCount_0f7a4 (nI S) w = some (bcV (nI S), w) := rfl
  rw [e, bcV_pop S hS, xbind_some]
theorem pop_le (S : Nat) : pop S ≤ 10 := by
  have := bsum_le (f := one1) (p := fun c => S.testBit c) (B := 1) 10 0 (fun _ _ _ => Nat.le_refl _)
  unfold pop
  omega
theorem bsum_cut {f : Nat → Nat} {p : Nat → Bool} : ∀ (d m k : Nat), (∀ i, k + m ≤ i → i < k + m + d → p i = false) → bsum f p (m + d) k = bsum f p m k := by
  intro d m
  induction m with
  | zero =>
    intro k h
    rw [Nat.zero_add]
    show bsum f p d k = 0
    induction d generalizing k with
    | zero => rfl
    | succ d ih =>
      show (if p k = true then f k else 0) + bsum f p d (k + 1) = 0
      rw [h k (by omega) (by omega), if_neg (by decide), ih (k + 1) (fun i a b => h i (by omega) (by omega))]
  | succ m ih =>
    intro k h
    rw [show m + 1 + d = (m + d) + 1 by omega]
    show (if p k = true then f k else 0) + bsum f p (m + d) (k + 1) = (if p k = true then f k else 0) + bsum f p m (k + 1)
    rw [ih (k + 1) (fun i a b => h i (by omega) (by omega))]
theorem bit_ge {S n i : Nat} (hS : S < 2 ^ n) (h : n ≤ i) : S.testBit i = false := Nat.testBit_lt_two_pow (Nat.lt_of_lt_of_le hS (Nat.pow_le_pow_right (by decide) h))
theorem pop_n {S n : Nat} (hS : S < 2 ^ n) (hn : n ≤ 10) : pop S = bsum one1 (fun c => S.testBit c) n 0 := by
  unfold pop
  have h := bsum_cut (f := one1) (p := fun c => S.testBit c) (10 - n) n 0 (fun i a b => bit_ge hS (by omega))
  rw [show n + (10 - n) = 10 by omega] at h
  exact h
theorem pw10 {n : Nat} (hn : n ≤ 10) : 2 ^ n ≤ 1024 := Nat.pow_le_pow_right (by decide) hn
/-- a set of whom one asks whether all of it is among the first n -/
theorem b_all (x : Int32) {n : Nat} (hn : n ≤ 10) : (x &&& (nI (2 ^ n - 1) ^^^ (-1)) = 0) ↔ (0 ≤ x ∧ x ≤ nI (2 ^ n - 1)) := by
  have hp := pw10 hn
  have h0 : 0 < 2 ^ n := Nat.two_pow_pos n
  have hm : (nI (2 ^ n - 1)).toBitVec.toNat = 2 ^ n - 1 := pk_tn (by omega)
  constructor
  · intro h
    have e : x = x &&& nI (2 ^ n - 1) := by
      refine b_ext (Nat.eq_of_testBit_eq (fun i => ?_))
      have hb : (x &&& (nI (2 ^ n - 1) ^^^ (-1))).toBitVec.toNat = 0 := by rw [h]; rfl
      have hb2 : (x.toBitVec.toNat &&& ((2 ^ n - 1) ^^^ (2 ^ 32 - 1))) = 0 := by
        rw [← hm]
        exact hb
      show x.toBitVec.toNat.testBit i = (x.toBitVec &&& (nI (2 ^ n - 1)).toBitVec).toNat.testBit i
      rw [BitVec.toNat_and, hm, Nat.testBit_and, Nat.testBit_two_pow_sub_one]
      have hi : (x.toBitVec.toNat &&& ((2 ^ n - 1) ^^^ (2 ^ 32 - 1))).testBit i = false := by rw [hb2]; exact Nat.zero_testBit i
      rw [Nat.testBit_and, Nat.testBit_xor, Nat.testBit_two_pow_sub_one, Nat.testBit_two_pow_sub_one] at hi
      by_cases c : i < n
      · simp [c]
      · by_cases c2 : i < 32
        · simp [c, c2] at hi; simp [c, hi]
        · have : x.toBitVec.toNat.testBit i = false := Nat.testBit_lt_two_pow (Nat.lt_of_lt_of_le x.toBitVec.isLt (Nat.pow_le_pow_right (by decide) (by omega)))
          simp [c, this]
    rw [pk_and x n hm] at e
    have hl : x.toBitVec.toNat % 2 ^ n < 2 ^ n := Nat.mod_lt _ h0
    rw [e]
    exact ⟨nI_pos' (by omega), nI_le (by omega) (by omega)⟩
  · intro h
    obtain ⟨S, hS, rfl⟩ := nI_bd (n := 2 ^ n - 1) (by omega) h.1 h.2
    rw [b_dif (by omega) (by omega)]
    have : bdif S (2 ^ n - 1) = 0 := by
      refine Nat.eq_of_testBit_eq (fun i => ?_)
      rw [bdif_bit _ _ (by omega), Nat.testBit_two_pow_sub_one, Nat.zero_testBit]
      by_cases c : i < n
      · simp [c]
      · rw [bit_ge (n := n) (i := i) (show S < 2 ^ n by omega) (by omega), Bool.false_and]
    rw [this]; rfl
