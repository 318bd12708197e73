-- ===== a change of one part, said of w itself =====
theorem xpj_cg {w w' : xI} {k : Nat} (h : w' k = w k) : xpj w' k = xpj w k := by
  funext j
  unfold xpj
  rw [h]
theorem xpj_cg2 {w w' : xI} {k j : Nat} (h : w' k j = w k j) : xpj w' k j = xpj w k j := by
  unfold xpj
  rw [h]
theorem R_stone.pj {w : xI} (h : R_stone w) : R_stone (xpj w) := by
  unfold R_stone
  rw [xpj_all (k := 73) (coreA_all rfl), xpj_all (k := 3) (coreA_all rfl), xpj_all (k := 4) (coreA_all rfl)]
  exact h
theorem R_yard.pj {w : xI} (h : R_yard w) : R_yard (xpj w) := by
  obtain ⟨a, b, c, d⟩ := h
  refine ⟨a, b, fun i hi => ?_, fun i hi => ?_⟩
  · rw [xpj_all (k := 8 + i) (core_cart hi), xpj_all (k := 74) (coreA_all rfl), xpj_all (k := 75) (coreA_all rfl), xpj_all (k := 76) (coreA_all rfl), xpj_all (k := 77) (coreA_all rfl), xpj_all (k := 78) (coreA_all rfl), xpj_all (k := 79) (coreA_all rfl), xpj_all (k := 7) (coreA_all rfl)]
    exact c i hi
  · rw [xpj_all (k := 8 + i) (core_cart hi), xpj_all (k := 7) (coreA_all rfl)]
    exact d i hi
theorem R_tape.pj {w : xI} (h : R_tape w) : R_tape (xpj w) := by
  unfold R_tape
  rw [xpj_all (k := 80) (coreA_all rfl), xpj_all (k := 20) (coreA_all rfl)]
  exact h
theorem R_text.pj {w : xI} (h : R_text w) : R_text (xpj w) := by
  obtain ⟨a, b, c, d, e⟩ := h
  refine ⟨a, b, c, d, fun t ht => ?_⟩
  have ht : t < (w 0 3).toNatClampNeg := ht
  have h6 : (w 0 3).toNatClampNeg ≤ 6 := nI_toNat_le (by decide) (Int32_01 b.1) b.2
  have h := e t ht
  unfold TextOk at *
  rw [xpj_all (k := 41 + 4 * t) (fun j => (core_text (by omega) j).2), xpj_all (k := 40 + 4 * t) (fun j => (core_text (by omega) j).1), xpj_all (k := 81) (coreA_all rfl), xpj_all (k := 82) (coreA_all rfl)]
  exact h
theorem R_img.pj {w : xI} (h : R_img w) : R_img (xpj w) := by
  unfold R_img at *
  rw [xpj_all (k := 83) (coreA_all rfl), xpj_all (k := 34) (coreA_all rfl), xpj_all (k := 84) (coreA_all rfl), xpj_all (k := 35) (coreA_all rfl), xpj_all (k := 85) (coreA_all rfl), xpj_all (k := 36) (coreA_all rfl), xpj_all (k := 86) (coreA_all rfl), xpj_all (k := 37) (coreA_all rfl)]
  exact h
theorem R_sheet.pj {w : xI} (h : R_sheet w) : R_sheet (xpj w) := by
  intro s hs
  rw [xpj_all (k := 87) (coreA_all rfl), xpj_all (k := 88) (coreA_all rfl), xpj_all (k := 89) (coreA_all rfl), xpj_all (k := 63 + 2 * s) (fun j => (core_sheet hs j).1), xpj_all (k := 64 + 2 * s) (fun j => (core_sheet hs j).2)]
  exact h s hs
theorem Rel.scr {w w' : xI} (hR : Rel w) (h : ∀ k j, core k j = true → w' k j = w k j) : Rel w' := by
  have e : xpj w' = xpj w := by
    funext k j
    unfold xpj
    by_cases hc : core k j = true
    · rw [if_pos hc, if_pos hc, h k j hc]
    · rw [if_neg hc, if_neg hc]
  unfold Rel
  rw [e]
  exact hR
/-- carts -/
theorem Rel.yard {w w' : xI} (hR : Rel w) (hk : ∀ k, k ≠ 7 → ¬ (8 ≤ k ∧ k ≤ 17) → ¬ (74 ≤ k ∧ k ≤ 79) → k ≠ 5 → k ≠ 71 → w' k = w k) (h71 : ∀ j, j ≠ 3 → w' 71 j = w 71 j) (hy : R_yard w') : Rel w' := by
  obtain ⟨a1, a2, a3, a4, a5, a6, a7, a8⟩ := hR
  have g : ∀ k, k ≠ 7 → ¬ (8 ≤ k ∧ k ≤ 17) → ¬ (74 ≤ k ∧ k ≤ 79) → k ≠ 5 → k ≠ 71 → xpj w' k = xpj w k := fun k h1 h2 h3 h4 h5 => xpj_cg (hk k h1 h2 h3 h4 h5)
  have g71 : ∀ j, j ≠ 3 → xpj w' 71 j = xpj w 71 j := fun j hj => xpj_cg2 (h71 j hj)
  have g2 : ∀ k j, k ≠ 7 → ¬ (8 ≤ k ∧ k ≤ 17) → ¬ (74 ≤ k ∧ k ≤ 79) → k ≠ 5 → k ≠ 71 → xpj w' k j = xpj w k j := fun k j h1 h2 h3 h4 h5 => by rw [g k h1 h2 h3 h4 h5]
  exact ⟨a1.cg (fun k h => g k (by omega) (by omega) (by omega) (by omega) (by omega)), a2.cg (fun k h => g k (by omega) (by omega) (by omega) (by omega) (by omega)) (g71 _ (by decide)) (g2 1 2 (by decide) (by decide) (by decide) (by decide) (by decide)), hy.pj, a4.cg (fun k h => g k (by omega) (by omega) (by omega) (by omega) (by omega)) (g71 _ (by decide)) (g2 19 1 (by decide) (by decide) (by decide) (by decide) (by decide)), a5.cg (fun k h => g k (by omega) (by omega) (by omega) (by omega) (by omega)) (g71 _ (by decide)) (g71 _ (by decide)) (g2 0 3 (by decide) (by decide) (by decide) (by decide) (by decide)) (g2 0 4 (by decide) (by decide) (by decide) (by decide) (by decide)),
    a6.cg (fun k h => g k (by omega) (by omega) (by omega) (by omega) (by omega)) (g71 _ (by decide)) (g71 _ (by decide)) (g71 _ (by decide)) (g71 _ (by decide)) (g2 33 0 (by decide) (by decide) (by decide) (by decide) (by decide)) (g2 33 1 (by decide) (by decide) (by decide) (by decide) (by decide)) (g2 33 4 (by decide) (by decide) (by decide) (by decide) (by decide)) (g2 33 7 (by decide) (by decide) (by decide) (by decide) (by decide)) (by rw [g2 0 3 (by decide) (by decide) (by decide) (by decide) (by decide)]; exact Int32.le_refl _), a7.cg (fun k h => g k (by omega) (by omega) (by omega) (by omega) (by omega)), a8.cg (g 91 (by decide) (by decide) (by decide) (by decide) (by decide)) (g71 _ (by decide)) (g71 _ (by decide))⟩
/-- sheets -/
theorem Rel.sheet {w w' : xI} (hR : Rel w) (hk : ∀ k, ¬ (63 ≤ k ∧ k ≤ 70) → ¬ (87 ≤ k ∧ k ≤ 89) → w' k = w k) (hy : R_sheet w') : Rel w' := by
  obtain ⟨a1, a2, a3, a4, a5, a6, a7, a8⟩ := hR
  have g : ∀ k, ¬ (63 ≤ k ∧ k ≤ 70) → ¬ (87 ≤ k ∧ k ≤ 89) → xpj w' k = xpj w k := fun k h1 h2 => xpj_cg (hk k h1 h2)
  have g2 : ∀ k j, ¬ (63 ≤ k ∧ k ≤ 70) → ¬ (87 ≤ k ∧ k ≤ 89) → xpj w' k j = xpj w k j := fun k j h1 h2 => by rw [g k h1 h2]
  have z : ∀ k j, ¬ (63 ≤ k ∧ k ≤ 70) → ¬ (87 ≤ k ∧ k ≤ 89) → xpj w' k j = xpj w k j := g2
  exact ⟨a1.cg (fun k h => g k (by omega) (by omega)), a2.cg (fun k h => g k (by omega) (by omega)) (z _ _ (by decide) (by decide)) (z _ _ (by decide) (by decide)), a3.cg (fun k h => g k (by omega) (by omega)) (z _ _ (by decide) (by decide)) (z _ _ (by decide) (by decide)), a4.cg (fun k h => g k (by omega) (by omega)) (z _ _ (by decide) (by decide)) (z _ _ (by decide) (by decide)), a5.cg (fun k h => g k (by omega) (by omega)) (z _ _ (by decide) (by decide)) (z _ _ (by decide) (by decide)) (z _ _ (by decide) (by decide)) (z _ _ (by decide) (by decide)),
    a6.cg (fun k h => g k (by omega) (by omega)) (z _ _ (by decide) (by decide)) (z _ _ (by decide) (by decide)) (z _ _ (by decide) (by decide)) (z _ _ (by decide) (by decide)) (z _ _ (by decide) (by decide)) (z _ _ (by decide) (by decide)) (z _ _ (by decide) (by decide)) (z _ _ (by decide) (by decide)) (by rw [z 0 3 (by decide) (by decide)]; exact Int32.le_refl _), hy.pj, a8.cg (g 91 (by decide) (by decide)) (z _ _ (by decide) (by decide)) (z _ _ (by decide) (by decide))⟩
/-- stones -/
theorem Rel.stone {w w' : xI} (hR : Rel w) (hk : ∀ k, k ≠ 1 → k ≠ 3 → k ≠ 4 → k ≠ 73 → k ≠ 71 → w' k = w k) (h71 : ∀ j, j ≠ 1 → w' 71 j = w 71 j) (hy : R_stone w') : Rel w' := by
  obtain ⟨a1, a2, a3, a4, a5, a6, a7, a8⟩ := hR
  have g : ∀ k, k ≠ 1 → k ≠ 3 → k ≠ 4 → k ≠ 73 → k ≠ 71 → xpj w' k = xpj w k := fun k h1 h2 h3 h4 h5 => xpj_cg (hk k h1 h2 h3 h4 h5)
  have g71 : ∀ j, j ≠ 1 → xpj w' 71 j = xpj w 71 j := fun j hj => xpj_cg2 (h71 j hj)
  have g2 : ∀ k j, k ≠ 1 → k ≠ 3 → k ≠ 4 → k ≠ 73 → k ≠ 71 → xpj w' k j = xpj w k j := fun k j h1 h2 h3 h4 h5 => by rw [g k h1 h2 h3 h4 h5]
  exact ⟨a1.cg (fun k h => g k (by omega) (by omega) (by omega) (by omega) (by omega)), hy.pj, a3.cg (fun k h => g k (by omega) (by omega) (by omega) (by omega) (by omega)) (g71 _ (by decide)) (g2 5 2 (by decide) (by decide) (by decide) (by decide) (by decide)), a4.cg (fun k h => g k (by omega) (by omega) (by omega) (by omega) (by omega)) (g71 _ (by decide)) (g2 19 1 (by decide) (by decide) (by decide) (by decide) (by decide)), a5.cg (fun k h => g k (by omega) (by omega) (by omega) (by omega) (by omega)) (g71 _ (by decide)) (g71 _ (by decide)) (g2 0 3 (by decide) (by decide) (by decide) (by decide) (by decide)) (g2 0 4 (by decide) (by decide) (by decide) (by decide) (by decide)),
    a6.cg (fun k h => g k (by omega) (by omega) (by omega) (by omega) (by omega)) (g71 _ (by decide)) (g71 _ (by decide)) (g71 _ (by decide)) (g71 _ (by decide)) (g2 33 0 (by decide) (by decide) (by decide) (by decide) (by decide)) (g2 33 1 (by decide) (by decide) (by decide) (by decide) (by decide)) (g2 33 4 (by decide) (by decide) (by decide) (by decide) (by decide)) (g2 33 7 (by decide) (by decide) (by decide) (by decide) (by decide)) (by rw [g2 0 3 (by decide) (by decide) (by decide) (by decide) (by decide)]; exact Int32.le_refl _), a7.cg (fun k h => g k (by omega) (by omega) (by omega) (by omega) (by omega)), a8.cg (g 91 (by decide) (by decide) (by decide) (by decide) (by decide)) (g71 _ (by decide)) (g71 _ (by decide))⟩
/-- the tape -/
theorem Rel.tape {w w' : xI} (hR : Rel w) (hk : ∀ k, k ≠ 19 → k ≠ 20 → k ≠ 80 → k ≠ 71 → w' k = w k) (h71 : ∀ j, j ≠ 11 → w' 71 j = w 71 j) (hy : R_tape w') : Rel w' := by
  obtain ⟨a1, a2, a3, a4, a5, a6, a7, a8⟩ := hR
  have g : ∀ k, k ≠ 19 → k ≠ 20 → k ≠ 80 → k ≠ 71 → xpj w' k = xpj w k := fun k h1 h2 h3 h4 => xpj_cg (hk k h1 h2 h3 h4)
  have g71 : ∀ j, j ≠ 11 → xpj w' 71 j = xpj w 71 j := fun j hj => xpj_cg2 (h71 j hj)
  have g2 : ∀ k j, k ≠ 19 → k ≠ 20 → k ≠ 80 → k ≠ 71 → xpj w' k j = xpj w k j := fun k j h1 h2 h3 h4 => by rw [g k h1 h2 h3 h4]
  exact ⟨a1.cg (fun k h => g k (by omega) (by omega) (by omega) (by omega)), a2.cg (fun k h => g k (by omega) (by omega) (by omega) (by omega)) (g71 _ (by decide)) (g2 1 2 (by decide) (by decide) (by decide) (by decide)), a3.cg (fun k h => g k (by omega) (by omega) (by omega) (by omega)) (g71 _ (by decide)) (g2 5 2 (by decide) (by decide) (by decide) (by decide)), hy.pj, a5.cg (fun k h => g k (by omega) (by omega) (by omega) (by omega)) (g71 _ (by decide)) (g71 _ (by decide)) (g2 0 3 (by decide) (by decide) (by decide) (by decide)) (g2 0 4 (by decide) (by decide) (by decide) (by decide)),
    a6.cg (fun k h => g k (by omega) (by omega) (by omega) (by omega)) (g71 _ (by decide)) (g71 _ (by decide)) (g71 _ (by decide)) (g71 _ (by decide)) (g2 33 0 (by decide) (by decide) (by decide) (by decide)) (g2 33 1 (by decide) (by decide) (by decide) (by decide)) (g2 33 4 (by decide) (by decide) (by decide) (by decide)) (g2 33 7 (by decide) (by decide) (by decide) (by decide)) (by rw [g2 0 3 (by decide) (by decide) (by decide) (by decide)]; exact Int32.le_refl _), a7.cg (fun k h => g k (by omega) (by omega) (by omega) (by omega)), a8.cg (g 91 (by decide) (by decide) (by decide) (by decide)) (g71 _ (by decide)) (g71 _ (by decide))⟩
/-- the image -/
theorem Rel.img {w w' : xI} (hR : Rel w) (hk : ∀ k, ¬ (33 ≤ k ∧ k ≤ 37) → ¬ (83 ≤ k ∧ k ≤ 86) → k ≠ 71 → w' k = w k) (h71 : ∀ j, ¬ (16 ≤ j ∧ j ≤ 19) → w' 71 j = w 71 j) (hy : R_img w') : Rel w' := by
  obtain ⟨a1, a2, a3, a4, a5, a6, a7, a8⟩ := hR
  have g : ∀ k, ¬ (33 ≤ k ∧ k ≤ 37) → ¬ (83 ≤ k ∧ k ≤ 86) → k ≠ 71 → xpj w' k = xpj w k := fun k h1 h2 h3 => xpj_cg (hk k h1 h2 h3)
  have g71 : ∀ j, ¬ (16 ≤ j ∧ j ≤ 19) → xpj w' 71 j = xpj w 71 j := fun j hj => xpj_cg2 (h71 j hj)
  have g2 : ∀ k j, ¬ (33 ≤ k ∧ k ≤ 37) → ¬ (83 ≤ k ∧ k ≤ 86) → k ≠ 71 → xpj w' k j = xpj w k j := fun k j h1 h2 h3 => by rw [g k h1 h2 h3]
  exact ⟨a1.cg (fun k h => g k (by omega) (by omega) (by omega)), a2.cg (fun k h => g k (by omega) (by omega) (by omega)) (g71 _ (by decide)) (g2 1 2 (by decide) (by decide) (by decide)), a3.cg (fun k h => g k (by omega) (by omega) (by omega)) (g71 _ (by decide)) (g2 5 2 (by decide) (by decide) (by decide)), a4.cg (fun k h => g k (by omega) (by omega) (by omega)) (g71 _ (by decide)) (g2 19 1 (by decide) (by decide) (by decide)), a5.cg (fun k h => g k (by omega) (by omega) (by omega)) (g71 _ (by decide)) (g71 _ (by decide)) (g2 0 3 (by decide) (by decide) (by decide)) (g2 0 4 (by decide) (by decide) (by decide)), hy.pj, a7.cg (fun k h => g k (by omega) (by omega) (by omega)), a8.cg (g 91 (by decide) (by decide) (by decide)) (g71 _ (by decide)) (g71 _ (by decide))⟩
