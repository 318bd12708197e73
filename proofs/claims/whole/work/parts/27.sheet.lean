/-- row r, places lo .. hi - 1 are 0 then -/
def zf (w : xI) (r lo hi : Nat) : xI := fun a => if a = r then (fun j => if lo ≤ j ∧ j < hi then 0 else w r j) else w a
theorem zf_ne (w : xI) {r a : Nat} (lo hi : Nat) (h : a ≠ r) : zf w r lo hi a = w a := if_neg h
theorem zf_same (w : xI) (r lo hi : Nat) : zf w r lo hi r = fun j => if lo ≤ j ∧ j < hi then 0 else w r j := if_pos rfl
theorem zf_step (w : xI) (r lo hi : Nat) (h : lo < hi) : zf (xup w r lo 0) r (lo + 1) hi = zf w r lo hi := by
  funext a j
  unfold zf xup
  by_cases ha : a = r
  · subst ha
    simp only [if_true]
    by_cases h1 : lo + 1 ≤ j ∧ j < hi
    · rw [if_pos h1, if_pos ⟨by omega, h1.2⟩]
    · rw [if_neg h1]
      by_cases h2 : j = lo
      · rw [if_pos h2, if_pos ⟨by omega, by omega⟩]
      · rw [if_neg h2, if_neg (by omega)]
  · simp [ha]
theorem zf_nil (w : xI) (r k : Nat) : zf w r k k = w := by
  funext a j
  unfold zf
  by_cases ha : a = r
  · subst ha
    rw [if_pos rfl, if_neg (by omega)]
  · rw [if_neg ha]
theorem s_become_L {o : Nat} : ∀ (m k fu : Nat) (w : xI), k + m = 40 → m < fu → f_X6_become_L12 o fu (nI k) w = some ((), zf w (o + 1) k 40) := by
  intro m
  induction m with
  | zero =>
    intro k fu w h1 h2
    obtain ⟨f, rfl⟩ : ∃ f, fu = f + 1 := ⟨fu - 1, by omega⟩
    have hk : k = 40 := by omega
    subst hk
    rw [f_X6_become_L12, if_pos (by decide), zf_nil]
  | succ m ih =>
    intro k fu w h1 h2
    obtain ⟨f, rfl⟩ : ∃ f, fu = f + 1 := ⟨fu - 1, by omega⟩
    rw [f_X6_become_L12, if_neg (show ¬ (40 : Int32) ≤ nI k from nI_ge (a := k) (b := 40) (by omega) (by decide)), xin_nI (by omega) (by decide), xchk_true, xlet_eq, nI_clamp (by omega), nI_1, ih (k + 1) f _ (by omega) (by omega), zf_step _ _ _ _ (by omega)]
theorem s_become (o : Nat) (a b : Int32) (w : xI) : f_X6_become o a b w = some ((), zf (xup (xup w o 0 a) o 1 b) (o + 1) 0 40) := by
  unfold f_X6_become
  exact s_become_L 40 0 2000 _ (by omega) (by omega)
theorem s_sheet_L {s : Nat} (hs : s < 4) : ∀ (m k fu : Nat) (w : xI), k + m = 40 → m < fu → f_X11_sheet_L70 fu (nI s) (nI k) w = some (1, zf w 89 (40 * s + k) (40 * s + 40)) := by
  intro m
  induction m with
  | zero =>
    intro k fu w h1 h2
    obtain ⟨f, rfl⟩ : ∃ f, fu = f + 1 := ⟨fu - 1, by omega⟩
    have hk : k = 40 := by omega
    subst hk
    rw [f_X11_sheet_L70, if_pos (by decide), zf_nil]
  | succ m ih =>
    intro k fu w h1 h2
    obtain ⟨f, rfl⟩ : ∃ f, fu = f + 1 := ⟨fu - 1, by omega⟩
    have e : (40 : Int32) * nI s + nI k = nI (40 * s + k) := by rw [show (40 : Int32) = nI 40 from rfl, pk_mul, nI_add]
    rw [f_X11_sheet_L70, if_neg (show ¬ (40 : Int32) ≤ nI k from nI_ge (a := k) (b := 40) (by omega) (by decide)), e, xin_nI (by omega) (by decide), xchk_true, xlet_eq, nI_clamp (by omega), nI_1, ih (k + 1) f _ (by omega) (by omega)]
    rw [show 40 * s + (k + 1) = 40 * s + k + 1 by omega, zf_step _ _ _ _ (by omega)]
theorem s_isSheet {γ : Type} (a : Int32) (w : xI) (K : Int32 → xI → Option γ) : xbind (f_X10_isSheet a w) K = if 0 ≤ a ∧ a ≤ 3 then K 1 w else K 0 w := by
  unfold f_X10_isSheet
  rw [s_within]
  by_cases h : 0 ≤ a ∧ a ≤ 3
  · rw [if_pos h, if_pos h]; rfl
  · rw [if_neg h, if_neg h]; rfl
/-- sheet s becomes of sort p and size q, all 0 -/
theorem Rel_become {w : xI} {s : Nat} {p q : Int32} (hR : Rel w) (hs : s < 4) (hp : -1 ≤ p ∧ p ≤ 2) (hq : 0 ≤ q ∧ q ≤ 40) : Rel (zf (xup (xup (zf (xup (xup w (63 + 2 * s) 0 p) (63 + 2 * s) 1 q) (63 + 2 * s + 1) 0 40) 87 s p) 88 s q) 89 (40 * s) (40 * s + 40)) := by
  refine hR.sheet (fun k h1 h2 => ?_) (fun i hi => ?_)
  · rw [zf_ne _ _ _ (by omega), xup_ne _ _ _ (by omega), xup_ne _ _ _ (by omega), zf_ne _ _ _ (by omega), xup_ne _ _ _ (by omega), xup_ne _ _ _ (by omega)]
  · obtain ⟨a, b, c, d, e⟩ := hR.sh i hi
    rw [zf_same, zf_ne _ _ _ (by omega : (87 : Nat) ≠ 89), zf_ne _ _ _ (by omega : (88 : Nat) ≠ 89), zf_ne _ _ _ (by omega : 63 + 2 * i ≠ 89), zf_ne _ _ _ (by omega : 64 + 2 * i ≠ 89)]
    rw [xup_same, xup_ne _ _ _ (by decide : (87 : Nat) ≠ 88), xup_same, xup_ne _ _ _ (by omega : 63 + 2 * i ≠ 88), xup_ne _ _ _ (by omega : 63 + 2 * i ≠ 87), xup_ne _ _ _ (by omega : 64 + 2 * i ≠ 88), xup_ne _ _ _ (by omega : 64 + 2 * i ≠ 87), xup_ne _ _ _ (by decide : (88 : Nat) ≠ 87), xup_ne _ _ _ (by decide : (89 : Nat) ≠ 88), xup_ne _ _ _ (by decide : (89 : Nat) ≠ 87), zf_ne _ _ _ (by omega : (87 : Nat) ≠ 63 + 2 * s + 1), zf_ne _ _ _ (by omega : (88 : Nat) ≠ 63 + 2 * s + 1), zf_ne _ _ _ (by omega : (89 : Nat) ≠ 63 + 2 * s + 1), zf_ne _ _ _ (by omega : 63 + 2 * i ≠ 63 + 2 * s + 1)]
    rw [xup_ne _ _ _ (by omega : (87 : Nat) ≠ 63 + 2 * s), xup_ne _ _ _ (by omega : (87 : Nat) ≠ 63 + 2 * s), xup_ne _ _ _ (by omega : (88 : Nat) ≠ 63 + 2 * s), xup_ne _ _ _ (by omega : (88 : Nat) ≠ 63 + 2 * s), xup_ne _ _ _ (by omega : (89 : Nat) ≠ 63 + 2 * s), xup_ne _ _ _ (by omega : (89 : Nat) ≠ 63 + 2 * s)]
    by_cases h : i = s
    · subst h
      rw [xup_same, xup_same, show 64 + 2 * i = 63 + 2 * i + 1 by omega, zf_same]
      refine ⟨?_, ?_, ?_, ?_, fun j hj => ?_⟩
      · simp [upd]
      · simp [upd]
      · simp [upd]; exact hp
      · simp [upd]; exact hq
      · simp only
        rw [if_pos ⟨by omega, by omega⟩, if_pos ⟨by omega, by omega⟩]
    · rw [xup_ne _ _ _ (by omega : 63 + 2 * i ≠ 63 + 2 * s), xup_ne _ _ _ (by omega : 63 + 2 * i ≠ 63 + 2 * s), zf_ne _ _ _ (by omega : 64 + 2 * i ≠ 63 + 2 * s + 1), xup_ne _ _ _ (by omega : 64 + 2 * i ≠ 63 + 2 * s), xup_ne _ _ _ (by omega : 64 + 2 * i ≠ 63 + 2 * s)]
      refine ⟨?_, ?_, c, d, fun j hj => ?_⟩
      · unfold upd; rw [if_neg h]; exact a
      · unfold upd; rw [if_neg h]; exact b
      · show (if 40 * s ≤ 40 * i + j ∧ 40 * i + j < 40 * s + 40 then 0 else w 89 (40 * i + j)) = _
        rw [if_neg (by omega)]; exact e j hj
theorem op_sheet (a1 : Int32) (a2 : Int32) (a3 : Int32) : OpI (f_X10_sheet a1 a2 a3) (f_X11_sheet a1 a2 a3) := by
  intro w hR
  by_cases h1 : 0 ≤ a1 ∧ a1 ≤ 3
  · obtain ⟨s, hs, rfl⟩ := nI_bd (n := 3) (by decide) h1.1 h1.2
    have e1 : xin (nI s) 4 = true := xin_nI (by omega) (by decide)
    have e2 : (nI s).toNatClampNeg = s := nI_clamp (by omega)
    by_cases h2 : -1 ≤ a2 ∧ a2 ≤ 2
    · have L : ∀ w : xI, f_X11_sheet_L70 2000 (nI s) 0 w = some (1, zf w 89 (40 * s) (40 * s + 40)) := fun w => s_sheet_L (by omega) 40 0 2000 w (by omega) (by omega)
      by_cases h3 : a2 = -1
      · exact OpI.q 1 (zf (xup (xup w (63 + 2 * s) 0 (-1)) (63 + 2 * s) 1 0) (63 + 2 * s + 1) 0 40) _ (by simp [f_X10_sheet, s_isSheet, h1, s_within, h3, e1, e2, xchk, xlet, s_become, xbind_some]) (by simp [f_X11_sheet, s_in, h1, h3, f_X11_sheet_L44, e1, e2, xchk, L]) (Rel_become (s := s) (p := -1) (q := 0) hR (by omega) (by decide) (by decide))
      · by_cases h4 : a3 ≤ 40
        · by_cases h5 : 0 ≤ a3
          · exact OpI.q 1 (zf (xup (xup w (63 + 2 * s) 0 a2) (63 + 2 * s) 1 a3) (63 + 2 * s + 1) 0 40) _ (by simp [f_X10_sheet, s_isSheet, h1, s_within, h2, h3, h4, h5, e1, e2, xchk, xlet, s_become, xbind_some]) (by simp [f_X11_sheet, s_in, h1, h2, h3, h4, h5, f_X11_sheet_L44, e1, e2, xchk, L]) (Rel_become (s := s) (p := a2) (q := a3) hR (by omega) h2 ⟨h5, h4⟩)
          · exact OpI.q (-14) w w (by simp [f_X10_sheet, s_isSheet, h1, s_within, h2, h3, h4, h5]) (by simp [f_X11_sheet, s_in, h1, h2, h3, h4, h5]) hR
        · exact OpI.q (-2) w w (by simp [f_X10_sheet, s_isSheet, h1, s_within, h2, h3, h4]) (by simp [f_X11_sheet, s_in, h1, h2, h3, h4]) hR
    · exact OpI.q (-2) w w (by simp [f_X10_sheet, s_isSheet, h1, s_within, h2]) (by simp [f_X11_sheet, s_in, h1, h2]) hR
  · exact OpI.q (-2) w w (by simp [f_X10_sheet, s_isSheet, h1]) (by simp [f_X11_sheet, s_in, h1]) hR
theorem Rel_cell {w : xI} {s i : Nat} {x : Int32} (hR : Rel w) (hs : s < 4) (hi : i < 40) : Rel (xup (xup w (63 + 2 * s + 1) i x) 89 (40 * s + i) x) := by
  refine hR.sheet (fun k h1 h2 => ?_) (fun t ht => ?_)
  · rw [xup_ne _ _ _ (by omega), xup_ne _ _ _ (by omega)]
  · obtain ⟨a, b, c, d, e⟩ := hR.sh t ht
    rw [xup_ne _ _ _ (by decide : (87 : Nat) ≠ 89), xup_ne _ _ _ (by omega : (87 : Nat) ≠ 63 + 2 * s + 1), xup_ne _ _ _ (by decide : (88 : Nat) ≠ 89), xup_ne _ _ _ (by omega : (88 : Nat) ≠ 63 + 2 * s + 1), xup_ne _ _ _ (by omega : 63 + 2 * t ≠ 89), xup_ne _ _ _ (by omega : 63 + 2 * t ≠ 63 + 2 * s + 1), xup_ne _ _ _ (by omega : 64 + 2 * t ≠ 89), xup_same, xup_ne _ _ _ (by omega : (89 : Nat) ≠ 63 + 2 * s + 1)]
    refine ⟨a, b, c, d, fun j hj => ?_⟩
    by_cases h : t = s
    · subst h
      rw [show 64 + 2 * t = 63 + 2 * t + 1 by omega, xup_same, ← show 64 + 2 * t = 63 + 2 * t + 1 by omega]
      unfold upd
      by_cases hji : j = i
      · rw [if_pos hji, if_pos (by omega)]
      · rw [if_neg hji, if_neg (by omega)]; exact e j hj
    · rw [xup_ne _ _ _ (by omega)]
      unfold upd
      rw [if_neg (by omega)]
      exact e j hj
theorem s_put (o i : Nat) (x : Int32) (w : xI) {n : Nat} (hn : w o 1 = nI n) (hi : i < n) (h40 : n ≤ 40) : f_X6_put o (nI i) x w = some ((), xup w (o + 1) i (if w o 0 = 0 then x.toInt8.toInt32 else if w o 0 = 1 then x.toInt16.toInt32 else x)) := by
  have h1 : 0 ≤ nI i ∧ nI i ≤ w o 1 - 1 := (lt_pred _ hn (by omega)).mpr ⟨nI_pos' (by omega), by rw [hn]; exact nI_lt hi (by omega)⟩
  have e1 : xin (nI i) 40 = true := xin_nI (by omega) (by decide)
  have e2 : (nI i).toNatClampNeg = i := nI_clamp (by omega)
  unfold f_X6_put
  rw [s_within, if_pos h1, if_neg (by decide), e1, e2]
  by_cases c0 : w o 0 = 0
  · simp [c0, xchk]
  · by_cases c1 : w o 0 = 1
    · simp [c1, xchk]
    · simp [c0, c1, xchk]
theorem op_cell (a1 : Int32) (a2 : Int32) (a3 : Int32) : OpI (f_X10_cell a1 a2 a3) (f_X11_cell a1 a2 a3) := by
  intro w hR
  by_cases h1 : 0 ≤ a1 ∧ a1 ≤ 3
  · obtain ⟨s, hs, rfl⟩ := nI_bd (n := 3) (by decide) h1.1 h1.2
    have e1 : xin (nI s) 4 = true := xin_nI (by omega) (by decide)
    have e2 : (nI s).toNatClampNeg = s := nI_clamp (by omega)
    obtain ⟨a, b, c, d, e⟩ := hR.sh s (by omega)
    by_cases h2 : w (63 + 2 * s) 0 = -1
    · exact OpI.q (-11) w w (by simp [f_X10_cell, s_isSheet, h1, e1, e2, xchk, xlet, h2]) (by simp [f_X11_cell, s_in, h1, e1, e2, xchk, a, h2]) hR
    · obtain ⟨n, hn, en⟩ := nI_bd (n := 40) (by decide) d.1 d.2
      by_cases h3 : 0 ≤ a2 ∧ a2 ≤ w (63 + 2 * s) 1 - 1
      · have h4 := (lt_pred _ en (by omega)).mp h3
        obtain ⟨i, hi, rfl⟩ := nI_of (Int32.not_lt.mpr h4.1)
        have hin : i < n := (nI_ltI hi (by omega)).mp (by rw [← en]; exact h4.2)
        have p := s_put (63 + 2 * s) i a3 w en hin hn
        generalize hx : (if w (63 + 2 * s) 0 = 0 then a3.toInt8.toInt32 else if w (63 + 2 * s) 0 = 1 then a3.toInt16.toInt32 else a3) = x at p
        have k87 : ∀ x, xup w (63 + 2 * s + 1) i x 87 s = w (63 + 2 * s) 0 := fun x => by rw [xup_ne _ _ _ (by omega)]; exact a
        have k88 : ∀ x, xup w (63 + 2 * s + 1) i x 88 s = w (63 + 2 * s) 1 := fun x => by rw [xup_ne _ _ _ (by omega)]; exact b
        have em : (40 : Int32) * nI s + nI i = nI (40 * s + i) := by rw [show (40 : Int32) = nI 40 from rfl, pk_mul, nI_add]
        have e3 : xin (nI (40 * s + i)) 160 = true := xin_nI (by omega) (by decide)
        have e4 : (nI (40 * s + i)).toNatClampNeg = 40 * s + i := nI_clamp (by omega)
        refine OpI.q 1 (xup w (63 + 2 * s + 1) i x) (xup (xup w (63 + 2 * s + 1) i x) 89 (40 * s + i) x) (by simp [f_X10_cell, s_isSheet, h1, e1, e2, xchk, xlet, h2, s_within, h3, p, xbind_some]) ?_ (Rel_cell hR (by omega) (by omega))
        by_cases c0 : w (63 + 2 * s) 0 = 0
        · rw [if_pos c0] at hx
          simp [f_X11_cell, s_in, h1, e1, e2, xchk, k87, k88, h2, h3, c0, em, e3, e4, hx]
        · rw [if_neg c0] at hx
          by_cases c1 : w (63 + 2 * s) 0 = 1
          · rw [if_pos c1] at hx
            simp [f_X11_cell, s_in, h1, e1, e2, xchk, k87, k88, h3, c1, em, e3, e4, hx]
          · rw [if_neg c1] at hx
            simp [f_X11_cell, s_in, h1, e1, e2, xchk, k87, k88, h2, h3, c0, c1, em, e3, e4, hx]
      · exact OpI.q (-12) w w (by simp [f_X10_cell, s_isSheet, h1, e1, e2, xchk, xlet, h2, s_within, h3]) (by simp [f_X11_cell, s_in, h1, e1, e2, xchk, a, b, h2, h3]) hR
  · exact OpI.q (-2) w w (by simp [f_X10_cell, s_isSheet, h1]) (by simp [f_X11_cell, s_in, h1]) hR
