theorem Rel_scale {w : xI} {j : Nat} {x : Int32} (hR : Rel w) (hj : j < 3) (hx : (j = 0 ∨ j = 1 → 1 ≤ x ∧ x ≤ 3) ∧ (j = 2 → 0 ≤ x ∧ x ≤ 9)) : Rel (xup (xup w 2 j x) 72 j x) := by
  unfold Rel at *
  rw [xpj_up (coreA_all rfl j), xpj_up (coreA_all rfl j)]
  generalize xpj w = v at *
  obtain ⟨⟨a1, a2, a3, a4⟩, hst, hy, htp, htx, him, hsh, hc⟩ := hR
  have hk : ∀ k, k ≠ 2 → k ≠ 72 → (xup (xup v 2 j x) 72 j x) k = v k := fun k h1 h2 => by rw [xup_ne _ _ _ h2, xup_ne _ _ _ h1]
  have e72 : (xup (xup v 2 j x) 72 j x) 72 = upd (v 72) j x := by rw [xup_same, xup_ne _ _ _ (by decide)]
  have e2 : (xup (xup v 2 j x) 72 j x) 2 = upd (v 2) j x := by rw [xup_ne _ _ _ (by decide), xup_same]
  refine ⟨?_, hst.cg (fun k h => hk k (by omega) (by omega)) rfl rfl, hy.cg (fun k h => hk k (by omega) (by omega)) rfl rfl, htp.cg (fun k h => hk k (by omega) (by omega)) rfl rfl, htx.cg (fun k h => hk k (by omega) (by omega)) rfl rfl rfl rfl, him.cg (fun k h => hk k (by omega) (by omega)) rfl rfl rfl rfl rfl rfl rfl rfl (Int32.le_refl _), hsh.cg (fun k h => hk k (by omega) (by omega)), hc.cg rfl rfl rfl⟩
  unfold R_scale
  rw [e72, e2]
  unfold upd
  refine ⟨fun i hi => ?_, ?_, ?_, ?_⟩
  · by_cases h : i = j
    · rw [if_pos h, if_pos h]
    · rw [if_neg h, if_neg h]; exact a1 i hi
  · by_cases h : 0 = j
    · rw [if_pos h]; exact hx.1 (Or.inl h.symm)
    · rw [if_neg h]; exact a2
  · by_cases h : 1 = j
    · rw [if_pos h]; exact hx.1 (Or.inr h.symm)
    · rw [if_neg h]; exact a3
  · by_cases h : 2 = j
    · rw [if_pos h]; exact hx.2 h.symm
    · rw [if_neg h]; exact a4
theorem OpI.q {f g : xI → Option (Int32 × xI)} {w : xI} (r : Int32) (w1 w2 : xI) (h1 : f w = some (r, w1)) (h2 : g w1 = some (r, w2)) (h3 : Rel w2) : ∃ r w1 w2, f w = some (r, w1) ∧ g w1 = some (r, w2) ∧ Rel w2 := ⟨r, w1, w2, h1, h2, h3⟩
-- ===== the relation's facts, said of w itself =====
theorem Rel.sc {w : xI} (hR : Rel w) : (∀ j, j < 3 → w 72 j = w 2 j) ∧ (1 ≤ w 2 0 ∧ w 2 0 ≤ 3) ∧ (1 ≤ w 2 1 ∧ w 2 1 ≤ 3) ∧ (0 ≤ w 2 2 ∧ w 2 2 ≤ 9) := by
  have h := hR.1
  unfold R_scale at h
  rw [xpj_all (k := 72) (coreA_all rfl), xpj_all (k := 2) (coreA_all rfl)] at h
  exact h
theorem Rel.st {w : xI} (hR : Rel w) : w 71 1 = w 1 2 ∧ (0 ≤ w 1 2 ∧ w 1 2 ≤ 5) ∧ (∀ j, j < 5 → w 73 j = w 3 j) ∧ (∀ j, j < 5 → 0 ≤ w 3 j ∧ w 3 j ≤ 99) ∧ ∀ d, d < 1000 → w 4 d = tabOf (w 3) (w 1 2).toNatClampNeg d := by
  have h := hR.2.1
  unfold R_stone at h
  rw [xpj_all (k := 73) (coreA_all rfl), xpj_all (k := 3) (coreA_all rfl), xpj_all (k := 4) (coreA_all rfl)] at h
  exact h
theorem Rel.yd {w : xI} (hR : Rel w) : w 71 3 = w 5 2 ∧ (0 ≤ w 5 2 ∧ w 5 2 ≤ 10) ∧ (∀ c, c < 10 → w 74 c = w (8 + c) 0 ∧ w 75 c = w (8 + c) 1 ∧ w 76 c = w (8 + c) 2 ∧ w 77 c = w (8 + c) 3 ∧ w 78 c = w (8 + c) 4 ∧ w 79 c = w 7 c) ∧
  ∀ c, c < 10 → (0 ≤ w (8 + c) 0 ∧ w (8 + c) 0 ≤ 1) ∧ (0 ≤ w (8 + c) 1 ∧ w (8 + c) 1 ≤ 5) ∧ (0 ≤ w (8 + c) 2 ∧ w (8 + c) 2 ≤ 99) ∧ (0 ≤ w (8 + c) 3 ∧ w (8 + c) 3 ≤ 99) ∧ (0 ≤ w (8 + c) 4 ∧ w (8 + c) 4 ≤ 9) ∧ (0 ≤ w 7 c ∧ w 7 c ≤ 9) := by
  obtain ⟨a, b, c, d⟩ := hR.2.2.1
  refine ⟨a, b, fun i hi => ?_, fun i hi => ?_⟩
  · have h := c i hi
    rw [xpj_all (k := 8 + i) (core_cart hi), xpj_all (k := 74) (coreA_all rfl), xpj_all (k := 75) (coreA_all rfl), xpj_all (k := 76) (coreA_all rfl), xpj_all (k := 77) (coreA_all rfl), xpj_all (k := 78) (coreA_all rfl), xpj_all (k := 79) (coreA_all rfl), xpj_all (k := 7) (coreA_all rfl)] at h
    exact h
  · have h := d i hi
    rw [xpj_all (k := 8 + i) (core_cart hi), xpj_all (k := 7) (coreA_all rfl)] at h
    exact h
theorem Rel.tp {w : xI} (hR : Rel w) : w 71 11 = w 19 1 ∧ (0 ≤ w 19 1 ∧ w 19 1 ≤ 160) ∧ ∀ j, j < (w 19 1).toNatClampNeg → w 80 j = w 20 j ∧ 0 ≤ w 20 j ∧ w 20 j ≤ 255 := by
  have h := hR.2.2.2.1
  unfold R_tape at h
  rw [xpj_all (k := 80) (coreA_all rfl), xpj_all (k := 20) (coreA_all rfl)] at h
  exact h
theorem Rel.tx {w : xI} (hR : Rel w) : w 71 14 = w 0 3 ∧ (1 ≤ w 0 3 ∧ w 0 3 ≤ 6) ∧ w 71 15 = w 0 4 ∧ (0 ≤ w 0 4 ∧ w 0 4 < w 0 3) ∧ ∀ t, t < (w 0 3).toNatClampNeg → TextOk w t := by
  obtain ⟨a, b, c, d, e⟩ := hR.2.2.2.2.1
  have b' : 1 ≤ w 0 3 ∧ w 0 3 ≤ 6 := b
  refine ⟨a, b, c, d, fun t ht => ?_⟩
  have h6 : (w 0 3).toNatClampNeg ≤ 6 := nI_toNat_le (by decide) (Int32_01 b'.1) b'.2
  have h := e t ht
  unfold TextOk at *
  rw [xpj_all (k := 41 + 4 * t) (fun j => (core_text (by omega) j).2), xpj_all (k := 40 + 4 * t) (fun j => (core_text (by omega) j).1), xpj_all (k := 81) (coreA_all rfl), xpj_all (k := 82) (coreA_all rfl)] at h
  exact h
theorem Rel.im {w : xI} (hR : Rel w) : R_img w := by
  have h := hR.2.2.2.2.2.1
  unfold R_img at *
  rw [xpj_all (k := 83) (coreA_all rfl), xpj_all (k := 34) (coreA_all rfl), xpj_all (k := 84) (coreA_all rfl), xpj_all (k := 35) (coreA_all rfl), xpj_all (k := 85) (coreA_all rfl), xpj_all (k := 36) (coreA_all rfl), xpj_all (k := 86) (coreA_all rfl), xpj_all (k := 37) (coreA_all rfl)] at h
  exact h
theorem Rel.sh {w : xI} (hR : Rel w) : R_sheet w := by
  intro s hs
  have h := hR.2.2.2.2.2.2.1 s hs
  rw [xpj_all (k := 87) (coreA_all rfl), xpj_all (k := 88) (coreA_all rfl), xpj_all (k := 89) (coreA_all rfl), xpj_all (k := 63 + 2 * s) (fun j => (core_sheet hs j).1), xpj_all (k := 64 + 2 * s) (fun j => (core_sheet hs j).2)] at h
  exact h
theorem Rel.ct {w : xI} (hR : Rel w) : R_const w := by
  have h := hR.2.2.2.2.2.2.2
  unfold R_const at *
  rw [xpj_all (k := 91) (coreA_all rfl)] at h
  exact h
theorem lt_pred {x : Int32} {n : Nat} (a : Int32) (hx : x = nI n) (hn : n < 2 ^ 30) : (0 ≤ a ∧ a ≤ x - 1) ↔ (0 ≤ a ∧ a < x) := by
  subst hx
  refine and_congr_right (fun h0 => ?_)
  obtain ⟨j, hj, rfl⟩ := nI_of (Int32.not_lt.mpr h0)
  rw [Int32.le_iff_toInt_le, Int32.lt_iff_toInt_lt, show nI n - 1 = nI n - nI 1 from rfl, pk_sub_toInt (by omega) (by decide), nI_toInt hj, nI_toInt (by omega)]
  omega
theorem s_has {γ : Type} (a : Int32) (w : xI) (K : Int32 → xI → Option γ) : xbind (f_X9_has a w) K = if 0 ≤ a ∧ a < w 5 2 then K 1 w else K 0 w := by
  unfold f_X9_has
  by_cases h1 : a < 0
  · rw [if_pos h1, if_neg (fun h => absurd h1 (Int32.not_lt.mpr h.1))]; rfl
  · by_cases h2 : w 5 2 ≤ a
    · rw [if_neg h1, if_pos h2, if_neg (fun h => absurd h2 (Int32.not_le.mpr h.2))]; rfl
    · rw [if_neg h1, if_neg h2, if_pos ⟨Int32.not_lt.mp h1, Int32.not_le.mp h2⟩]; rfl
theorem s_isCart {γ : Type} {n : Nat} (a : Int32) (w : xI) (hn : w 71 3 = nI n) (h10 : n ≤ 10) (K : Int32 → xI → Option γ) : xbind (f_X11_isCart a w) K = if 0 ≤ a ∧ a < w 71 3 then K 1 w else K 0 w := by
  unfold f_X11_isCart
  rw [s_in]
  by_cases h : 0 ≤ a ∧ a < w 71 3
  · rw [if_pos h, if_pos ((lt_pred a hn (by omega)).mpr h)]; rfl
  · rw [if_neg h, if_neg (fun z => h ((lt_pred a hn (by omega)).mp z))]; rfl
theorem s_hourX {γ : Type} (a : Int32) (w : xI) (K : Int32 → xI → Option γ) : xbind (f_X10_isHour a w) K = if 0 ≤ a ∧ a ≤ 9 then K 1 w else K 0 w := by
  unfold f_X10_isHour
  rw [s_within]
  by_cases h : 0 ≤ a ∧ a ≤ 9
  · rw [if_pos h, if_pos h]; rfl
  · rw [if_neg h, if_neg h]; rfl
theorem s_hourM {γ : Type} (a : Int32) (w : xI) (K : Int32 → xI → Option γ) : xbind (f_X11_isHour a w) K = if 0 ≤ a ∧ a ≤ 9 then K 1 w else K 0 w := by
  unfold f_X11_isHour
  rw [s_in]
  by_cases h : 0 ≤ a ∧ a ≤ 9
  · rw [if_pos h, if_pos h]; rfl
  · rw [if_neg h, if_neg h]; rfl
-- ===== calls =====
theorem op_scale (a1 : Int32) (a2 : Int32) : OpI (f_X10_scale a1 a2) (f_X11_scale a1 a2) := by
  intro w hR
  have hS := hR.sc.1
  by_cases h1 : 0 ≤ a1 ∧ a1 ≤ 2
  · obtain ⟨j, hj, rfl⟩ := nI_bd (n := 2) (by decide) h1.1 h1.2
    have e1 : xin (nI j) 3 = true := xin_nI (by omega) (by decide)
    have e2 : (nI j).toNatClampNeg = j := nI_clamp (by omega)
    have e3 : xup w 2 j a2 72 j = w 2 j := by rw [xup_ne _ _ _ (by decide)]; exact hS j (by omega)
    by_cases hj2 : nI j = 2
    · have hj3 : j = 2 := (nI_eq (by omega) (by decide)).mp hj2
      subst hj3
      have z2 : xin 2 3 = true := rfl
      have t2 : (2 : Int32).toNatClampNeg = 2 := rfl
      by_cases h2 : 0 ≤ a2 ∧ a2 ≤ 9
      · exact OpI.q (w 2 2) (xup w 2 2 a2) _ (by simp [f_X10_scale, s_within, h1, hj2, h2, f_X10_scale_L32, z2, t2, xchk, xlet]) (by simp [f_X11_scale, s_in, h1, hj2, h2, f_X11_scale_L33, z2, t2, e3, xchk, xlet]) (Rel_scale (j := 2) (x := a2) hR (by omega) ⟨by omega, fun _ => h2⟩)
      · exact OpI.q (-2) w w (by simp [f_X10_scale, s_within, h1, hj2, h2, f_X10_scale_L32, xchk, xlet]) (by simp [f_X11_scale, s_in, h1, hj2, h2, f_X11_scale_L33, xchk, xlet]) hR
    · have hj3 : ¬ j = 2 := fun h => hj2 (by rw [h]; rfl)
      by_cases h2 : 1 ≤ a2 ∧ a2 ≤ 3
      · exact OpI.q (w 2 j) (xup w 2 j a2) _ (by simp [f_X10_scale, s_within, h1, hj2, h2, f_X10_scale_L32, e1, e2, xchk, xlet]) (by simp [f_X11_scale, s_in, h1, hj2, h2, f_X11_scale_L33, e1, e2, e3, xchk, xlet]) (Rel_scale (j := j) (x := a2) hR (by omega) ⟨fun _ => h2, fun h => absurd h hj3⟩)
      · exact OpI.q (-2) w w (by simp [f_X10_scale, s_within, h1, hj2, h2, f_X10_scale_L32, xchk, xlet]) (by simp [f_X11_scale, s_in, h1, hj2, h2, f_X11_scale_L33, xchk, xlet]) hR
  · exact OpI.q (-1) w w (by simp [f_X10_scale, s_within, h1]) (by simp [f_X11_scale, s_in, h1]) hR
theorem op_stoneTold (a1 : Int32) : OpI (f_X10_stoneTold a1) (f_X11_stoneTold a1) := by
  intro w hR
  obtain ⟨s1, s2, s3, s4, s5⟩ := hR.st
  obtain ⟨n, hn, en⟩ := nI_bd (n := 5) (by decide) s2.1 s2.2
  by_cases h1 : 0 ≤ a1 ∧ a1 ≤ w 1 2 - 1
  · have h2 := (lt_pred a1 en (by omega)).mp h1
    obtain ⟨j, hj, rfl⟩ := nI_of (Int32.not_lt.mpr h2.1)
    rw [en] at h2
    have hjn : j < n := (nI_ltI hj (by omega)).mp h2.2
    have e1 : xin (nI j) 5 = true := xin_nI (by omega) (by decide)
    have e2 : (nI j).toNatClampNeg = j := nI_clamp hj
    exact OpI.q (w 3 j) w w (by simp [f_X10_stoneTold, s_within, h1, e1, e2, xchk]) (by simp [f_X11_stoneTold, s_in, s1, h1, e1, e2, xchk, s3 j (by omega)]) hR
  · exact OpI.q (-5) w w (by simp [f_X10_stoneTold, s_within, h1]) (by simp [f_X11_stoneTold, s_in, s1, h1]) hR
theorem op_count (a1 : Int32) : OpI (f_X10_count a1) (f_X11_count a1) := by
  intro w hR
  have hS := hR.sc.1
  have z0 : xin 0 3 = true := rfl
  have z1 : xin 1 3 = true := rfl
  have z2 : xin 2 3 = true := rfl
  have t0 : (0 : Int32).toNatClampNeg = 0 := rfl
  have t1 : (1 : Int32).toNatClampNeg = 1 := rfl
  have t2 : (2 : Int32).toNatClampNeg = 2 := rfl
  by_cases c3 : a1 = 3
  · subst c3; exact OpI.q (w 1 2) w w (by simp [f_X10_count]) (by simp [f_X11_count, hR.st.1]) hR
  by_cases c4 : a1 = 4
  · subst c4; exact OpI.q (w 5 2) w w (by simp [f_X10_count]) (by simp [f_X11_count, hR.yd.1]) hR
  by_cases c5 : a1 = 5
  · subst c5; exact OpI.q (w 0 3) w w (by simp [f_X10_count]) (by simp [f_X11_count, hR.tx.1]) hR
  by_cases c6 : a1 = 6
  · subst c6; exact OpI.q (w 0 4) w w (by simp [f_X10_count]) (by simp [f_X11_count, hR.tx.2.2.1]) hR
  by_cases c7 : a1 = 7
  · subst c7; exact OpI.q (w 19 1) w w (by simp [f_X10_count]) (by simp [f_X11_count, hR.tp.1]) hR
  by_cases h1 : 0 ≤ a1 ∧ a1 ≤ 2
  · obtain ⟨j, hj, rfl⟩ := nI_bd (n := 2) (by decide) h1.1 h1.2
    match j, hj with
    | 0, _ => exact OpI.q (w 2 0) w w (by simp [f_X10_count, nI_0, z0, t0, xchk]) (by simp [f_X11_count, s_in, nI_0, z0, t0, xchk, hS]) hR
    | 1, _ => exact OpI.q (w 2 1) w w (by simp [f_X10_count, show nI 1 = 1 from rfl, z1, t1, xchk]) (by simp [f_X11_count, s_in, show nI 1 = 1 from rfl, z1, t1, xchk, hS]) hR
    | 2, _ => exact OpI.q (w 2 2) w w (by simp [f_X10_count, show nI 2 = 2 from rfl, z2, t2, xchk]) (by simp [f_X11_count, s_in, show nI 2 = 2 from rfl, z2, t2, xchk, hS]) hR
    | k + 3, h => omega
  · have c0 : ¬ a1 = 0 := fun h => h1 (by rw [h]; decide)
    have c1 : ¬ a1 = 1 := fun h => h1 (by rw [h]; decide)
    have c2 : ¬ a1 = 2 := fun h => h1 (by rw [h]; decide)
    exact OpI.q (-2) w w (by simp [f_X10_count, c0, c1, c2, c3, c4, c5, c6, c7]) (by simp [f_X11_count, s_in, c3, c4, c5, c6, c7, h1]) hR
theorem Rel_force {w : xI} {x : Int32} (hR : Rel w) (h0 : 0 ≤ x) (h1 : x < w 0 3) : Rel (xup (xup w 0 4 x) 71 15 x) := by
  unfold Rel at *
  have h1 : x < xpj w 0 3 := h1
  rw [xpj_up rfl, xpj_up rfl]
  generalize xpj w = v at *
  obtain ⟨hsc, hst, hy, htp, htx, him, hsh, hc⟩ := hR
  have hk : ∀ k, k ≠ 0 → k ≠ 71 → (xup (xup v 0 4 x) 71 15 x) k = v k := fun k h1 h2 => by rw [xup_ne _ _ _ h2, xup_ne _ _ _ h1]
  refine ⟨hsc.cg (fun k h => hk k (by omega) (by omega)), hst.cg (fun k h => hk k (by omega) (by omega)) rfl rfl, hy.cg (fun k h => hk k (by omega) (by omega)) rfl rfl, htp.cg (fun k h => hk k (by omega) (by omega)) rfl rfl, ?_, him.cg (fun k h => hk k (by omega) (by omega)) rfl rfl rfl rfl rfl rfl rfl rfl (Int32.le_refl _), hsh.cg (fun k h => hk k (by omega) (by omega)), hc.cg rfl rfl rfl⟩
  obtain ⟨a, b, c, d, e⟩ := htx
  have h6 : (v 0 3).toNatClampNeg ≤ 6 := nI_toNat_le (by decide) (Int32_01 b.1) b.2
  exact ⟨a, b, rfl, ⟨h0, h1⟩, fun t ht => (e t ht).cg (Nat.lt_of_lt_of_le ht h6) (fun k h => hk k (by omega) (by omega))⟩
theorem op_force (a1 : Int32) : OpI (f_X10_force a1) (f_X11_force a1) := by
  intro w hR
  obtain ⟨a, b, c, d, e⟩ := hR.tx
  obtain ⟨n, hn, en⟩ := nI_bd (n := 6) (by decide) (Int32_01 b.1) b.2
  have q1 : xup w 0 4 a1 71 14 = w 0 3 := a
  have q2 : xup w 0 4 a1 71 15 = w 0 4 := c
  by_cases h1 : 0 ≤ a1 ∧ a1 ≤ w 0 3 - 1
  · have h2 := (lt_pred a1 en (by omega)).mp h1
    exact OpI.q (w 0 4) (xup w 0 4 a1) _ (by simp [f_X10_force, s_within, h1, xlet]) (by simp [f_X11_force, s_in, h1, xlet, q1, q2]) (Rel_force hR h2.1 h2.2)
  · exact OpI.q (-2) w w (by simp [f_X10_force, s_within, h1, xlet]) (by simp [f_X11_force, s_in, h1, xlet, a]) hR
theorem cart_ix {w : xI} (hR : Rel w) {a : Int32} (h : 0 ≤ a ∧ a < w 5 2) : ∃ c : Nat, c < 10 ∧ a = nI c ∧ xin a 10 = true ∧ a.toNatClampNeg = c ∧ nI c < w 5 2 := by
  obtain ⟨n, hn, en⟩ := nI_bd (n := 10) (by decide) hR.yd.2.1.1 hR.yd.2.1.2
  obtain ⟨j, hj, rfl⟩ := nI_of (Int32.not_lt.mpr h.1)
  have h2 := h.2
  rw [en] at h2
  have hjn : j < n := (nI_ltI hj (by omega)).mp h2
  exact ⟨j, by omega, rfl, xin_nI (by omega) (by decide), nI_clamp hj, h.2⟩
theorem Rel.n {w : xI} (hR : Rel w) : ∃ n : Nat, n ≤ 10 ∧ w 5 2 = nI n ∧ w 71 3 = nI n := by
  obtain ⟨n, hn, en⟩ := nI_bd (n := 10) (by decide) hR.yd.2.1.1 hR.yd.2.1.2
  exact ⟨n, hn, en, hR.yd.1.trans en⟩
theorem op_cartTold (a1 : Int32) (a2 : Int32) : OpI (f_X10_cartTold a1 a2) (f_X11_cartTold a1 a2) := by
  intro w hR
  obtain ⟨n, hn, en, em⟩ := hR.n
  by_cases h1 : 0 ≤ a1 ∧ a1 < w 5 2
  · have h1m : 0 ≤ a1 ∧ a1 < w 71 3 := by rw [hR.yd.1]; exact h1
    obtain ⟨c, hc, -, e1, e2, -⟩ := cart_ix hR h1
    obtain ⟨y0, y1, y2, y3, y4, y5⟩ := hR.yd.2.2.1 c hc
    by_cases c0 : a2 = 0
    · exact OpI.q (w 7 c) w w (by simp [f_X10_cartTold, s_has, h1, c0, e1, e2, xchk, xlet]) (by simp [f_X11_cartTold, s_isCart _ _ em hn, h1m, c0, e1, e2, xchk, y5]) hR
    by_cases c1 : a2 = 1
    · exact OpI.q (w (8 + c) 0) w w (by simp [f_X10_cartTold, s_has, h1, c0, c1, e1, e2, xchk, xlet]) (by simp [f_X11_cartTold, s_isCart _ _ em hn, h1m, c0, c1, e1, e2, xchk, y0]) hR
    by_cases c2 : a2 = 2
    · exact OpI.q (w (8 + c) 1) w w (by simp [f_X10_cartTold, s_has, h1, c0, c1, c2, e1, e2, xchk, xlet]) (by simp [f_X11_cartTold, s_isCart _ _ em hn, h1m, c0, c1, c2, e1, e2, xchk, y1]) hR
    by_cases c3 : a2 = 3
    · exact OpI.q (w (8 + c) 2) w w (by simp [f_X10_cartTold, s_has, h1, c0, c1, c2, c3, e1, e2, xchk, xlet]) (by simp [f_X11_cartTold, s_isCart _ _ em hn, h1m, c0, c1, c2, c3, e1, e2, xchk, y2]) hR
    by_cases c4 : a2 = 4
    · exact OpI.q (w (8 + c) 3) w w (by simp [f_X10_cartTold, s_has, h1, c0, c1, c2, c3, c4, e1, e2, xchk, xlet]) (by simp [f_X11_cartTold, s_isCart _ _ em hn, h1m, c0, c1, c2, c3, c4, e1, e2, xchk, y3]) hR
    by_cases c5 : a2 = 5
    · exact OpI.q (w (8 + c) 4) w w (by simp [f_X10_cartTold, s_has, h1, c0, c1, c2, c3, c4, c5, e1, e2, xchk, xlet]) (by simp [f_X11_cartTold, s_isCart _ _ em hn, h1m, c0, c1, c2, c3, c4, c5, e1, e2, xchk, y4]) hR
    exact OpI.q (-7) w w (by simp [f_X10_cartTold, s_has, h1, c0, c1, c2, c3, c4, c5, e1, e2, xchk, xlet]) (by simp [f_X11_cartTold, s_isCart _ _ em hn, h1m, c0, c1, c2, c3, c4, c5, e1, e2, xchk]) hR
  · have h1m : ¬ (0 ≤ a1 ∧ a1 < w 71 3) := by rw [hR.yd.1]; exact h1
    exact OpI.q (-5) w w (by simp [f_X10_cartTold, s_has, h1]) (by simp [f_X11_cartTold, s_isCart _ _ em hn, h1m]) hR
