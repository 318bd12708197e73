-- ===== plain facts =====
theorem xbind_some {β γ : Type} (b : β) (w : xI) (K : β → xI → Option γ) : xbind (some (b, w)) K = K b w := rfl
theorem xchk_true {α : Type} (X : Option α) : xchk true X = X := rfl
theorem xlet_eq {β γ : Type} (v : β) (k : β → γ) : xlet v k = k v := rfl
theorem s_within {γ : Type} (a lo hi : Int32) (w : xI) (K : Int32 → xI → Option γ) : xbind (f_X10_within a lo hi w) K = if lo ≤ a ∧ a ≤ hi then K 1 w else K 0 w := by
  unfold f_X10_within
  by_cases h1 : a < lo
  · rw [if_pos h1, if_neg (fun h => absurd h1 (Int32.not_lt.mpr h.1))]; rfl
  · by_cases h2 : hi < a
    · rw [if_neg h1, if_pos h2, if_neg (fun h => absurd h2 (Int32.not_lt.mpr h.2))]; rfl
    · rw [if_neg h1, if_neg h2, if_pos ⟨Int32.not_lt.mp h1, Int32.not_lt.mp h2⟩]; rfl
theorem s_in {γ : Type} (a lo hi : Int32) (w : xI) (K : Int32 → xI → Option γ) : xbind (f_X11_in a lo hi w) K = if lo ≤ a ∧ a ≤ hi then K 1 w else K 0 w := by
  unfold f_X11_in
  by_cases h1 : a < lo
  · rw [if_pos h1, if_neg (fun h => absurd h1 (Int32.not_lt.mpr h.1))]; rfl
  · by_cases h2 : hi < a
    · rw [if_neg h1, if_pos h2, if_neg (fun h => absurd h2 (Int32.not_lt.mpr h.2))]; rfl
    · rw [if_neg h1, if_neg h2, if_pos ⟨Int32.not_lt.mp h1, Int32.not_lt.mp h2⟩]; rfl
/-- a bounded int as a number -/
theorem nI_bd {x : Int32} {n : Nat} (hn : n < 2 ^ 31) (h0 : 0 ≤ x) (h1 : x ≤ nI n) : ∃ j : Nat, j ≤ n ∧ x = nI j := by
  obtain ⟨j, hj, rfl⟩ := nI_of (x := x) (Int32.not_lt.mpr h0)
  exact ⟨j, (nI_leI hj hn).mp h1, rfl⟩
theorem xin_nI {k n : Nat} (hk : k < n) (hn : n < 2 ^ 31) : xin (nI k) n = true := by
  unfold xin
  rw [nI_clamp (by omega)]
  simp only [Bool.and_eq_true, decide_eq_true_eq]
  exact ⟨nI_pos' (by omega), hk⟩
-- ===== what lasts =====
theorem xpj_core {w : xI} {k j : Nat} (h : core k j = true) : xpj w k j = w k j := if_pos h
theorem xpj_up {w : xI} {k j : Nat} {x : Int32} (h : core k j = true) : xpj (xup w k j x) = xup (xpj w) k j x := by
  funext a b
  unfold xpj xup
  by_cases ha : a = k
  · subst ha
    by_cases hb : b = j
    · subst hb; simp [h]
    · simp [hb]
  · simp [ha]
theorem xpj_scr {w : xI} {k j : Nat} {x : Int32} (h : core k j = false) : xpj (xup w k j x) = xpj w := by
  funext a b
  unfold xpj xup
  by_cases ha : a = k
  · subst ha
    by_cases hb : b = j
    · subst hb; simp [h]
    · simp [hb]
  · simp [ha]
theorem xpj_all {w : xI} {k : Nat} (h : ∀ j, core k j = true) : xpj w k = w k := by
  funext j
  exact xpj_core (h j)
theorem coreA_all {k : Nat} (h : coreA.contains k = true) (j : Nat) : core k j = true := by
  unfold core
  rw [h]
  simp
theorem core_cart {c : Nat} (hc : c < 10) (j : Nat) : core (8 + c) j = true := by
  refine coreA_all ?_ j
  match c, hc with
  | 0, _ => rfl | 1, _ => rfl | 2, _ => rfl | 3, _ => rfl | 4, _ => rfl | 5, _ => rfl | 6, _ => rfl | 7, _ => rfl | 8, _ => rfl | 9, _ => rfl
  | k + 10, h => omega
theorem core_sheet {s : Nat} (hs : s < 4) (j : Nat) : core (63 + 2 * s) j = true ∧ core (64 + 2 * s) j = true := by
  match s, hs with
  | 0, _ => exact ⟨coreA_all rfl j, coreA_all rfl j⟩
  | 1, _ => exact ⟨coreA_all rfl j, coreA_all rfl j⟩
  | 2, _ => exact ⟨coreA_all rfl j, coreA_all rfl j⟩
  | 3, _ => exact ⟨coreA_all rfl j, coreA_all rfl j⟩
  | k + 4, h => omega
theorem core_text {t : Nat} (ht : t < 6) (j : Nat) : core (40 + 4 * t) j = true ∧ core (41 + 4 * t) j = true := by
  match t, ht with
  | 0, _ => exact ⟨coreA_all rfl j, coreA_all rfl j⟩
  | 1, _ => exact ⟨coreA_all rfl j, coreA_all rfl j⟩
  | 2, _ => exact ⟨coreA_all rfl j, coreA_all rfl j⟩
  | 3, _ => exact ⟨coreA_all rfl j, coreA_all rfl j⟩
  | 4, _ => exact ⟨coreA_all rfl j, coreA_all rfl j⟩
  | 5, _ => exact ⟨coreA_all rfl j, coreA_all rfl j⟩
  | k + 6, h => omega
-- ===== parts of the relation that a change leaves =====
theorem R_scale.cg {v v' : xI} (hk : ∀ k, (k = 2 ∨ k = 72) → v' k = v k) (h : R_scale v) : R_scale v' := by
  unfold R_scale
  rw [hk 2 (by omega), hk 72 (by omega)]
  exact h
theorem R_stone.cg {v v' : xI} (hk : ∀ k, (k = 3 ∨ k = 4 ∨ k = 73) → v' k = v k) (h1 : v' 71 1 = v 71 1) (h2 : v' 1 2 = v 1 2) (h : R_stone v) : R_stone v' := by
  unfold R_stone
  rw [hk 3 (by omega), hk 4 (by omega), hk 73 (by omega), h1, h2]
  exact h
theorem R_yard.cg {v v' : xI} (hk : ∀ k, (k = 7 ∨ (8 ≤ k ∧ k ≤ 17) ∨ (74 ≤ k ∧ k ≤ 79)) → v' k = v k) (h1 : v' 71 3 = v 71 3) (h2 : v' 5 2 = v 5 2) (h : R_yard v) : R_yard v' := by
  obtain ⟨a, b, c, d⟩ := h
  refine ⟨by rw [h1, h2]; exact a, by rw [h2]; exact b, fun i hi => ?_, fun i hi => ?_⟩
  · rw [hk 74 (by omega), hk 75 (by omega), hk 76 (by omega), hk 77 (by omega), hk 78 (by omega), hk 79 (by omega), hk (8 + i) (by omega), hk 7 (by omega)]
    exact c i hi
  · rw [hk (8 + i) (by omega), hk 7 (by omega)]
    exact d i hi
theorem R_tape.cg {v v' : xI} (hk : ∀ k, (k = 20 ∨ k = 80) → v' k = v k) (h1 : v' 71 11 = v 71 11) (h2 : v' 19 1 = v 19 1) (h : R_tape v) : R_tape v' := by
  unfold R_tape
  rw [hk 20 (by omega), hk 80 (by omega), h1, h2]
  exact h
theorem TextOk.cg {v v' : xI} {t : Nat} (ht : t < 6) (hk : ∀ k, ((40 ≤ k ∧ k ≤ 61) ∨ k = 81 ∨ k = 82) → v' k = v k) (h : TextOk v t) : TextOk v' t := by
  unfold TextOk
  rw [hk (41 + 4 * t) (by omega), hk (40 + 4 * t) (by omega), hk 81 (by omega), hk 82 (by omega)]
  exact h
theorem nI_toNat_le {x : Int32} {n : Nat} (hn : n < 2 ^ 31) (h0 : 0 ≤ x) (h1 : x ≤ nI n) : x.toNatClampNeg ≤ n := by
  obtain ⟨j, hj, rfl⟩ := nI_bd hn h0 h1
  rw [nI_clamp (by omega)]
  exact hj
theorem Int32_01 {x : Int32} (h : 1 ≤ x) : 0 ≤ x := Int32.le_trans (by decide) h
theorem R_text.cg {v v' : xI} (hk : ∀ k, ((40 ≤ k ∧ k ≤ 61) ∨ k = 81 ∨ k = 82) → v' k = v k) (h1 : v' 71 14 = v 71 14) (h2 : v' 71 15 = v 71 15) (h3 : v' 0 3 = v 0 3) (h4 : v' 0 4 = v 0 4) (h : R_text v) : R_text v' := by
  obtain ⟨a, b, c, d, e⟩ := h
  refine ⟨by rw [h1, h3]; exact a, by rw [h3]; exact b, by rw [h2, h4]; exact c, by rw [h3, h4]; exact d, fun t ht => ?_⟩
  rw [h3] at ht
  have h6 : (v 0 3).toNatClampNeg ≤ 6 := nI_toNat_le (by decide) (Int32_01 b.1) b.2
  exact (e t ht).cg (by omega) hk
theorem R_img.cg {v v' : xI} (hk : ∀ k, ((34 ≤ k ∧ k ≤ 37) ∨ (83 ≤ k ∧ k ≤ 86)) → v' k = v k) (h1 : v' 71 16 = v 71 16) (h2 : v' 71 17 = v 71 17) (h3 : v' 71 18 = v 71 18) (h4 : v' 71 19 = v 71 19) (h5 : v' 33 0 = v 33 0) (h6 : v' 33 1 = v 33 1) (h7 : v' 33 4 = v 33 4) (h8 : v' 33 7 = v 33 7) (h9 : v 0 3 ≤ v' 0 3) (h : R_img v) : R_img v' := by
  obtain ⟨a, b, c⟩ := h
  refine ⟨by rw [h1, h5]; exact a, by rw [h5]; exact b, fun hk1 => ?_⟩
  rw [h5] at hk1
  obtain ⟨c1, c2, c3, c4, c5, c6, c7, c8, c9⟩ := c hk1
  rw [hk 34 (by omega), hk 35 (by omega), hk 36 (by omega), hk 37 (by omega), hk 83 (by omega), hk 84 (by omega), hk 85 (by omega), hk 86 (by omega), h2, h3, h4, h6, h7, h8]
  exact ⟨c1, c2, ⟨c3.1, c3.2.1, Int32.lt_of_lt_of_le c3.2.2 h9⟩, c4, c5, c6, c7, c8, c9⟩
theorem R_sheet.cg {v v' : xI} (hk : ∀ k, ((63 ≤ k ∧ k ≤ 70) ∨ (87 ≤ k ∧ k ≤ 89)) → v' k = v k) (h : R_sheet v) : R_sheet v' := by
  intro s hs
  rw [hk 87 (by omega), hk 88 (by omega), hk 89 (by omega), hk (63 + 2 * s) (by omega), hk (64 + 2 * s) (by omega)]
  exact h s hs
theorem R_const.cg {v v' : xI} (h0 : v' 91 = v 91) (h1 : v' 71 58 = v 71 58) (h2 : v' 71 59 = v 71 59) (h : R_const v) : R_const v' := by
  unfold R_const
  rw [h0, h1, h2]
  exact h
