theorem t_add {a b : Int32} {p q : Int} (ha : a.toInt = p) (hb : b.toInt = q) (h1 : -2 ^ 31 ≤ p + q) (h2 : p + q < 2 ^ 31) : (a + b).toInt = p + q := by
  rw [Int32.toInt_add, ha, hb]
  exact Int.bmod_eq_of_le (by omega) (by omega)
theorem t_sub {a b : Int32} {p q : Int} (ha : a.toInt = p) (hb : b.toInt = q) (h1 : -2 ^ 31 ≤ p - q) (h2 : p - q < 2 ^ 31) : (a - b).toInt = p - q := by
  rw [Int32.toInt_sub, ha, hb]
  exact Int.bmod_eq_of_le (by omega) (by omega)
theorem t_abs {a : Int32} (h : a.toInt.natAbs < 2 ^ 31) : (if 0 ≤ a then a else 0 - a) = nI a.toInt.natAbs := by
  by_cases h0 : 0 ≤ a
  · rw [if_pos h0]
    have h0' := Int32.le_iff_toInt_le.mp h0
    rw [show (0 : Int32).toInt = 0 from rfl] at h0'
    exact Int32.toInt_inj.mp (by rw [nI_toInt h]; omega)
  · rw [if_neg h0]
    have h0' : ¬ (0 : Int) ≤ a.toInt := fun z => h0 (Int32.le_iff_toInt_le.mpr z)
    exact Int32.toInt_inj.mp (by rw [nI_toInt h, t_sub (p := 0) (q := a.toInt) rfl rfl (by omega) (by omega)]; omega)
/-- one whole cell anew -/
def xuc (w : xI) (c : Nat) (T : Nat → Int32) : xI := fun k => if k = c then T else w k
theorem xuc_ne (w : xI) (c : Nat) (T : Nat → Int32) {k : Nat} (h : k ≠ c) : xuc w c T k = w k := if_neg h
theorem xuc_same (w : xI) (c : Nat) (T : Nat → Int32) : xuc w c T c = T := if_pos rfl
theorem xuc_xuc (w : xI) (c : Nat) (T U : Nat → Int32) : xuc (xuc w c T) c U = xuc w c U := by
  funext k; unfold xuc; by_cases h : k = c
  · rw [if_pos h, if_pos h]
  · rw [if_neg h, if_neg h, if_neg h]
theorem xuc_self (w : xI) (c : Nat) : xuc w c (w c) = w := by
  funext k; unfold xuc; by_cases h : k = c
  · rw [if_pos h, h]
  · rw [if_neg h]
theorem xup_xuc (w : xI) (c j : Nat) (x : Int32) : xup w c j x = xuc w c (upd (w c) j x) := by
  funext k i
  by_cases h : k = c
  · subst h; simp [xup, xuc, upd]
  · rw [xup_ne _ _ _ h, xuc_ne _ _ _ h]
theorem s_leafX (rec : Int32 → Int32 → Int32 → xI → Option (Unit × xI)) (s u : Int32) (w : xI) (h : s.toInt.natAbs < 1000) : f_X5_lay_L13 rec s u w = some ((), xuc w 4 (tabPut (w 4) s u)) := by
  have e : xin (nI s.toInt.natAbs) 1000 = true := xin_nI h (by decide)
  unfold f_X5_lay_L13 tabPut
  rw [xlet_eq, t_abs (by omega), if_neg (show ¬ (999 : Int32) < nI s.toInt.natAbs from nI_nlt (a := 999) (by omega) (by omega)), e, xchk_true, xchk_true, xchk_true]
  show _ = some ((), xuc w 4 (if w 4 (nI s.toInt.natAbs).toNatClampNeg = -1 ∨ u < w 4 (nI s.toInt.natAbs).toNatClampNeg then upd (w 4) (nI s.toInt.natAbs).toNatClampNeg u else w 4))
  by_cases h1 : w 4 (nI s.toInt.natAbs).toNatClampNeg = -1
  · rw [if_pos h1, if_pos (Or.inl h1), xup_xuc]
  · rw [if_neg h1]
    by_cases h2 : w 4 (nI s.toInt.natAbs).toNatClampNeg ≤ u
    · rw [if_pos h2, if_neg (fun z => z.elim h1 (fun y => absurd y (Int32.not_lt.mpr h2))), xuc_self]
    · rw [if_neg h2, if_pos (Or.inr (Int32.not_le.mp h2)), xup_xuc]
def bdS (st : Nat → Int32) : Prop := ∀ j, j < 5 → 0 ≤ (st j).toInt ∧ (st j).toInt ≤ 100
theorem s_lay {n : Nat} (hn : n ≤ 5) : ∀ (m k fu : Nat) (s u : Int32) (w : xI), k + m = n → m < fu → w 1 2 = nI n → bdS (w 3) → s.toInt.natAbs ≤ 100 * k → f_X5_lay fu (nI k) s u w = some ((), xuc w 4 (tabLay (w 3) m k s u (w 4))) := by
  intro m
  induction m with
  | zero =>
    intro k fu s u w h1 h2 hw hb hs
    obtain ⟨f, rfl⟩ : ∃ f, fu = f + 1 := ⟨fu - 1, by omega⟩
    rw [f_X5_lay, f_X5_lay_o, hw, if_pos (nI_le (by omega) (by omega)), s_leafX _ _ _ _ (by omega)]; rfl
  | succ m ih =>
    intro k fu s u w h1 h2 hw hb hs
    obtain ⟨f, rfl⟩ : ∃ f, fu = f + 1 := ⟨fu - 1, by omega⟩
    have hk := hb k (by omega)
    have b1 : (s + w 3 k).toInt.natAbs ≤ 100 * (k + 1) := by rw [t_add rfl rfl (by omega) (by omega)]; omega
    have b2 : (s - w 3 k).toInt.natAbs ≤ 100 * (k + 1) := by rw [t_sub rfl rfl (by omega) (by omega)]; omega
    rw [f_X5_lay, f_X5_lay_o, hw, if_neg (nI_ge (a := k) (b := n) (by omega) (by omega)), if_pos (show nI k < (5 : Int32) from nI_lt (b := 5) (by omega) (by omega)), nI_1, ih (k + 1) f s u w (by omega) (by omega) hw hb (by omega), xbind_some, xin_nI (by omega) (by decide), xchk_true, nI_clamp (by omega), xuc_ne _ _ _ (by decide)]
    rw [ih (k + 1) f _ _ _ (by omega) (by omega) (by rw [xuc_ne _ _ _ (by decide)]; exact hw) (by rw [xuc_ne _ _ _ (by decide)]; exact hb) b1, xbind_some, xchk_true, xuc_xuc, xuc_same, xuc_ne _ _ _ (by decide), xuc_ne _ _ _ (by decide)]
    rw [ih (k + 1) f _ _ _ (by omega) (by omega) (by rw [xuc_ne _ _ _ (by decide)]; exact hw) (by rw [xuc_ne _ _ _ (by decide)]; exact hb) b2, xbind_some, xuc_xuc, xuc_same, xuc_ne _ _ _ (by decide)]
    rfl
/-- every difference below k as not to be made -/
def fillT (k : Nat) (T : Nat → Int32) : Nat → Int32 := fun j => if k ≤ j ∧ j < 1000 then -1 else T j
theorem fill_up (w : xI) (c : Nat) {k : Nat} (h : k < 1000) : xuc (xup w c k (-1)) c (fillT (k + 1) (xup w c k (-1) c)) = xuc w c (fillT k (w c)) := by
  funext i
  unfold xuc
  by_cases hi : i = c
  · rw [if_pos hi, if_pos hi]
    funext j
    unfold fillT
    by_cases h1 : k ≤ j ∧ j < 1000
    · rw [if_pos h1]
      by_cases h2 : j = k
      · rw [if_neg (by omega), h2]; simp [xup, upd]
      · rw [if_pos ⟨by omega, h1.2⟩]
    · rw [if_neg h1, if_neg (by omega)]; simp [xup, upd]; intro z; omega
  · rw [if_neg hi, if_neg hi, xup_ne _ _ _ hi]
theorem s_layAllL {n : Nat} (hn : n ≤ 5) : ∀ (m k fu : Nat) (w : xI), k + m = 1000 → m < fu → w 1 2 = nI n → bdS (w 3) → f_X5_layAll_L2 fu (nI k) w = some ((), xuc w 4 (tabLay (w 3) n 0 0 0 (fillT k (w 4)))) := by
  intro m
  induction m with
  | zero =>
    intro k fu w h1 h2 hw hb
    obtain ⟨f, rfl⟩ : ∃ f, fu = f + 1 := ⟨fu - 1, by omega⟩
    have e : fillT k (w 4) = w 4 := by funext j; unfold fillT; rw [if_neg (by omega)]
    have hl := s_lay hn n 0 8 0 0 w (by omega) (by omega) hw hb (by decide)
    rw [nI_0] at hl
    rw [f_X5_layAll_L2, if_pos (show (999 : Int32) < nI k from nI_lt (a := 999) (by omega) (by omega)), hl, e]; rfl
  | succ m ih =>
    intro k fu w h1 h2 hw hb
    obtain ⟨f, rfl⟩ : ∃ f, fu = f + 1 := ⟨fu - 1, by omega⟩
    rw [f_X5_layAll_L2, if_neg (show ¬ (999 : Int32) < nI k from nI_nlt (a := 999) (by omega) (by omega)), xin_nI (by omega) (by decide), xchk_true, xlet_eq, nI_1, nI_clamp (by omega), ih (k + 1) f _ (by omega) (by omega) (by rw [xup_ne _ _ _ (by decide)]; exact hw) (by rw [xup_ne _ _ _ (by decide)]; exact hb), xup_ne _ _ _ (by decide : (3 : Nat) ≠ 4)]
    have := fill_up w 4 (k := k) (by omega)
    congr 2
    funext i
    by_cases hi : i = 4
    · subst hi
      rw [xuc_same, xuc_same]
      have e2 := congrFun this 4
      rw [xuc_same, xuc_same] at e2
      rw [e2]
    · rw [xuc_ne _ _ _ hi, xuc_ne _ _ _ hi, xup_ne _ _ _ hi]
