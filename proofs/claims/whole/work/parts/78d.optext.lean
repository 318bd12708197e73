-- ===== op text =====
theorem Rel.text {w w' : xI} (hR : Rel w) (hk : ∀ k, k ≠ 19 → k ≠ 0 → ¬ (39 ≤ k ∧ k ≤ 62) → k ≠ 71 → k ≠ 81 → k ≠ 82 → k ≠ 92 → w' k = w k) (h71 : ∀ j, j ≠ 11 → j ≠ 14 → j < 20 ∨ 36 < j → w' 71 j = w 71 j) (h03 : w 0 3 ≤ w' 0 3) (hx : R_text w') (hy : R_tape w') : Rel w' := by
  obtain ⟨a1, a2, a3, a4, a5, a6, a7, a8⟩ := hR
  have g : ∀ k, k ≠ 19 → k ≠ 0 → ¬ (39 ≤ k ∧ k ≤ 62) → k ≠ 71 → k ≠ 81 → k ≠ 82 → k ≠ 92 → xpj w' k = xpj w k := fun k h1 h2 h3 h4 h5 h6 h7 => xpj_cg (hk k h1 h2 h3 h4 h5 h6 h7)
  have g71 : ∀ j, j ≠ 11 → j ≠ 14 → j < 20 ∨ 36 < j → xpj w' 71 j = xpj w 71 j := fun j a b c => xpj_cg2 (h71 j a b c)
  have g2 : ∀ k j, k ≠ 19 → k ≠ 0 → ¬ (39 ≤ k ∧ k ≤ 62) → k ≠ 71 → k ≠ 81 → k ≠ 82 → k ≠ 92 → xpj w' k j = xpj w k j := fun k j h1 h2 h3 h4 h5 h6 h7 => by rw [g k h1 h2 h3 h4 h5 h6 h7]
  exact ⟨a1.cg (fun k h => g k (by omega) (by omega) (by omega) (by omega) (by omega) (by omega) (by omega)), a2.cg (fun k h => g k (by omega) (by omega) (by omega) (by omega) (by omega) (by omega) (by omega)) (g71 _ (by decide) (by decide) (by decide)) (g2 1 2 (by decide) (by decide) (by decide) (by decide) (by decide) (by decide) (by decide)), a3.cg (fun k h => g k (by omega) (by omega) (by omega) (by omega) (by omega) (by omega) (by omega)) (g71 _ (by decide) (by decide) (by decide)) (g2 5 2 (by decide) (by decide) (by decide) (by decide) (by decide) (by decide) (by decide)), hy.pj, hx.pj,
    a6.cg (fun k h => g k (by omega) (by omega) (by omega) (by omega) (by omega) (by omega) (by omega)) (g71 _ (by decide) (by decide) (by decide)) (g71 _ (by decide) (by decide) (by decide)) (g71 _ (by decide) (by decide) (by decide)) (g71 _ (by decide) (by decide) (by decide)) (g2 33 0 (by decide) (by decide) (by decide) (by decide) (by decide) (by decide) (by decide)) (g2 33 1 (by decide) (by decide) (by decide) (by decide) (by decide) (by decide) (by decide)) (g2 33 4 (by decide) (by decide) (by decide) (by decide) (by decide) (by decide) (by decide)) (g2 33 7 (by decide) (by decide) (by decide) (by decide) (by decide) (by decide) (by decide)) (by rw [xpj_core (w := w) (k := 0) (j := 3) rfl, xpj_core (w := w') (k := 0) (j := 3) rfl]; exact h03), a7.cg (fun k h => g k (by omega) (by omega) (by omega) (by omega) (by omega) (by omega) (by omega)), a8.cg (g 91 (by decide) (by decide) (by decide) (by decide) (by decide) (by decide) (by decide)) (g71 _ (by decide) (by decide) (by decide)) (g71 _ (by decide) (by decide) (by decide))⟩
theorem TextOk.fr {v v' : xI} {t : Nat} (h : TextOk v t) (h40 : v' (40 + 4 * t) = v (40 + 4 * t)) (h41 : v' (41 + 4 * t) = v (41 + 4 * t)) (h81 : ∀ j, j < 200 * t + 200 → v' 81 j = v 81 j) (h82 : ∀ j, j < 4 * t + 4 → v' 82 j = v 82 j) : TextOk v' t := by
  obtain ⟨e1, e2, e3, l1, l2, l3, hx, ⟨y0, y1, y2, y3⟩, hc, hg⟩ := h
  refine ⟨e1, e2, e3, l1, l2, l3, by rw [h41]; exact hx, ⟨by rw [h82 _ (by omega)]; exact y0, by rw [h82 _ (by omega)]; exact y1, by rw [h82 _ (by omega)]; exact y2, by rw [h82 _ (by omega)]; exact y3⟩, fun j hj => ?_, by rw [h40]; exact hg⟩
  rw [h40, h81 _ (by omega)]
  exact hc j hj
theorem gd_mem : ∀ (l : List Int32) (i : Nat), i < l.length → l.getD i 0 ∈ l := by
  intro l
  induction l with
  | nil => intro i h; exact absurd h (Nat.not_lt_zero i)
  | cons x l ih =>
    intro i h
    cases i with
    | zero => exact List.mem_cons_self ..
    | succ i => exact List.mem_cons_of_mem _ (ih i (by simpa using h))
theorem TxY.bd {T : Nat → Int32} {z : Nat} {c0 c1 c2 : List Int32} (h : TxY T z c0 c1 c2) : c0.length + c1.length + c2.length ≤ z ∧ GoodC c0 ∧ GoodC c1 ∧ GoodC c2 := by
  obtain ⟨p1, p2, p3, h0, h1, h2, -⟩ := h
  have b0 := tx1_bd (k := 0) (by decide) (Nat.zero_le z) h0
  have b1 := tx1_bd (k := 1) (by decide) b0.2.1 h1
  have b2 := tx1_bd (k := 2) (by decide) b1.2.1 h2
  have := b0.2.2.1
  have := b1.2.2.1
  have := b2.2.2.1
  have := b2.2.1
  exact ⟨by omega, b0.2.2.2, b1.2.2.2, b2.2.2.2⟩
theorem TextOk.new {v : xI} {t : Nat} {c0 c1 c2 : List Int32} (hl : c0.length + c1.length + c2.length ≤ 160) (g0 : GoodC c0) (g1 : GoodC c1) (g2 : GoodC c2) (x0 : v (41 + 4 * t) 0 = nI c0.length) (x1 : v (41 + 4 * t) 1 = nI (c0.length + c1.length)) (x2 : v (41 + 4 * t) 2 = nI (c0.length + c1.length + c2.length)) (hX : ∀ i, i < (c0 ++ c1 ++ c2).length → v (40 + 4 * t) i = (c0 ++ c1 ++ c2).getD i 0) (y : v 82 (4 * t) = 0 ∧ v 82 (4 * t + 1) = nI c0.length ∧ v 82 (4 * t + 2) = nI (c0.length + c1.length) ∧ v 82 (4 * t + 3) = nI (c0.length + c1.length + c2.length)) (hY : ∀ i, i < (c0 ++ c1 ++ c2).length → v 81 (200 * t + i) = mTok ((c0 ++ c1 ++ c2).getD i 0)) : TextOk v t := by
  have el : (c0 ++ c1 ++ c2).length = c0.length + c1.length + c2.length := by rw [List.length_append, List.length_append]
  rw [el] at hX hY
  refine ⟨c0.length, c0.length + c1.length, c0.length + c1.length + c2.length, by omega, by omega, hl, ⟨x0, x1, x2⟩, y, fun j hj => ?_, ?_, ?_, ?_⟩
  · rw [hX j hj, hY j hj]
    have m := gd_mem (c0 ++ c1 ++ c2) j (by rw [el]; exact hj)
    have b : -15 ≤ (c0 ++ c1 ++ c2).getD j 0 ∧ (c0 ++ c1 ++ c2).getD j 0 ≤ 9999 := by
      rcases List.mem_append.mp m with q | q
      · rcases List.mem_append.mp q with q | q
        · exact g0.1 _ q
        · exact g1.1 _ q
      · exact g2.1 _ q
    exact ⟨rfl, b⟩
  · rw [hgt_L c0 0 0 (fun i hi => by rw [Nat.zero_add, hX i (by omega), List.append_assoc, gd_lt _ _ _ hi])]
    exact g0.2 0
  · rw [show c0.length + c1.length - c0.length = c1.length by omega, hgt_L c1 c0.length 0 (fun i hi => by rw [hX _ (by omega), List.append_assoc, gd_ge, gd_lt _ _ _ hi])]
    exact g1.2 0
  · rw [show c0.length + c1.length + c2.length - (c0.length + c1.length) = c2.length by omega, hgt_L c2 (c0.length + c1.length) 0 (fun i hi => by
      rw [hX _ (by omega)]
      have := gd_ge (c0 ++ c1) c2 i
      rw [List.length_append] at this
      exact this)]
    exact g2.2 0
theorem op_text : OpI (f_X10_text ) (f_X11_text ) := by
  intro w hR
  obtain ⟨N, hN, e03, e14, -⟩ := hR.texts
  obtain ⟨x1, x2, x3, x4, x5⟩ := hR.tx
  obtain ⟨p1, p2, p3⟩ := hR.tp
  obtain ⟨z, hz, ez⟩ := nI_bd (n := 160) (by decide) p2.1 p2.2
  rw [ez, nI_clamp (by omega)] at p3
  by_cases c : N < 6
  · have eC : f_X10_text w = xbind (f_X4_readInto (39 + 4 * N) w) fun r5 w6 => if r5 < 0 then (some ((((w6 0 3) + (1 : Int32)) - (1 : Int32)), (xup w6 0 3 ((w6 0 3) + (1 : Int32))))) else (some (((-100 : Int32) - r5), w6)) := by
      unfold f_X10_text
      rw [e03, if_pos (show nI N < 6 from nI_lt (b := 6) c (by decide)), xin_nI c (by decide), xchk_true, xlet_eq, nI_clamp (by omega)]
    obtain ⟨iN, iY⟩ := s_into (T := w 20) c hz rfl ez
    have bm : ∀ u : xI, (∀ q, 71 ≤ q → u q = w q) → Bm (w 20) z N u := fun u h => ⟨by rw [h 71 (by decide), p1, ez], fun j hj => by rw [h 80 (by decide)]; exact (p3 j hj).1, fun j hj => by rw [h 91 (by decide)]; exact hR.ct.1 j hj, by rw [h 71 (by decide)]; exact e14⟩
    have old : ∀ u : xI, (∀ q, q ≠ 19 → q ≠ 0 → ¬ (39 + 4 * N ≤ q ∧ q ≤ 41 + 4 * N) → q ≠ 71 → q ≠ 81 → q ≠ 82 → q ≠ 92 → u q = w q) → (∀ j, j < 200 * N → u 81 j = w 81 j) → (∀ j, j < 4 * N → u 82 j = w 82 j) → ∀ t, t < N → TextOk u t := fun u h h81 h82 t ht => (x5 t (by rw [e03, nI_clamp (by omega)]; exact ht)).fr (h _ (by omega) (by omega) (by omega) (by omega) (by omega) (by omega) (by omega)) (h _ (by omega) (by omega) (by omega) (by omega) (by omega) (by omega) (by omega)) (fun j hj => h81 j (by omega)) (fun j hj => h82 j (by omega))
    have tape0 : ∀ u : xI, u 71 11 = 0 → u 19 1 = 0 → R_tape u := fun u a b => ⟨by rw [a, b], by rw [b]; decide, fun j hj => by rw [b] at hj; exact absurd hj (Nat.not_lt_zero j)⟩
    rcases tx_or (w 20) z with ⟨c0, c1, c2, hT⟩ | ⟨f, hT⟩
    · obtain ⟨u1, a1, a2, a3, a4, a5, a6, a7⟩ := iY c0 c1 c2 hT
      obtain ⟨bl, g0, g1, g2⟩ := hT.bd
      have u03 : u1 0 3 = nI N := by rw [a2 0 (by decide) (by omega) (by omega) (by omega)]; exact e03
      have q1 : ∀ q, 71 ≤ q → xup u1 0 3 (nI (N + 1)) q = w q := fun q hq => by rw [xup_ne _ _ _ (by omega)]; exact a2 q (by omega) (by omega) (by omega) (by omega)
      obtain ⟨u2, b1, b2, b3, b4, b5, b6⟩ := (s_mtext c hz (bm _ q1)).2 c0 c1 c2 hT
      have q0 : ∀ q, q < 71 → u2 q = xup u1 0 3 (nI (N + 1)) q := fun q hq => b2.1 q (by omega) (by omega) (by omega) (by omega)
      have qa : ∀ q, q ≠ 19 → q ≠ 0 → ¬ (39 + 4 * N ≤ q ∧ q ≤ 41 + 4 * N) → q ≠ 71 → q ≠ 81 → q ≠ 82 → q ≠ 92 → u2 q = w q := fun q h1 h2 h3 h4 h5 h6 h7 => by rw [b2.1 q h4 h5 h6 h7, xup_ne _ _ _ h2]; exact a2 q h1 (by omega) (by omega) (by omega)
      have q71 : ∀ j, j ≠ 11 → j ≠ 14 → j < 20 ∨ 36 < j → u2 71 j = w 71 j := fun j h1 h2 h3 => by rw [b2.2.1 j h1 h2 (by omega), q1 71 (by decide)]
      have q03 : u2 0 3 = nI (N + 1) := by rw [q0 0 (by decide), xup_same, upd_s]
      have q04 : u2 0 4 = w 0 4 := by rw [q0 0 (by decide), xup_same, upd_n _ _ (by decide), a2 0 (by decide) (by omega) (by omega) (by omega)]
      have q41 : ∀ q, 39 ≤ q → q < 71 → u2 q = u1 q := fun q h1 h2 => by rw [q0 q h2, xup_ne _ _ _ (by omega)]
      refine OpI.q (nI N) (xup u1 0 3 (nI (N + 1))) u2 ?_ b1 (hR.text (fun k h1 h2 h3 h4 h5 h6 h7 => qa k h1 h2 (by omega) h4 h5 h6 h7) q71 (by rw [e03, q03]; exact nI_le (by omega) (by omega)) ⟨by rw [b4, q03], by rw [q03]; exact ⟨nI_le (a := 1) (by omega) (by omega), nI_le (b := 6) (by omega) (by decide)⟩, by rw [q71 15 (by decide) (by decide) (by decide), x3, q04], by rw [q04, q03]; exact ⟨x4.1, Int32.lt_of_lt_of_le x4.2 (by rw [e03]; exact nI_le (by omega) (by omega))⟩, fun t ht => ?_⟩ (tape0 _ b3 (by rw [q0 19 (by decide), xup_ne _ _ _ (by decide)]; exact a3)))
      · rw [eC, a1, xbind_some, if_pos (by decide), u03, nI_1, nI_pred]
      · rw [q03, nI_clamp (by omega)] at ht
        by_cases d : t < N
        · exact old u2 qa (fun j hj => by rw [b2.2.2.1 j hj, q1 81 (by decide)]) (fun j hj => by rw [b2.2.2.2 j hj, q1 82 (by decide)]) t d
        · have et : t = N := by omega
          subst et
          exact TextOk.new (by omega) g0 g1 g2 (by rw [q41 _ (by omega) (by omega)]; exact a4) (by rw [q41 _ (by omega) (by omega)]; exact a5) (by rw [q41 _ (by omega) (by omega)]; exact a6) (fun i hi => by rw [q41 _ (by omega) (by omega)]; exact a7 i hi) b5 b6
    · obtain ⟨hf, u1, a1, a2, a3⟩ := iN f hT
      have q1 : ∀ q, 71 ≤ q → u1 q = w q := fun q hq => a2 q (by omega) (by omega) (by omega) (by omega)
      obtain ⟨u2, b1, b2, b3, b4⟩ := (s_mtext c hz (bm _ q1)).1 f hT
      have q0 : ∀ q, q < 71 → u2 q = u1 q := fun q hq => b2.1 q (by omega) (by omega) (by omega) (by omega)
      have qa : ∀ q, q ≠ 19 → q ≠ 0 → ¬ (39 + 4 * N ≤ q ∧ q ≤ 41 + 4 * N) → q ≠ 71 → q ≠ 81 → q ≠ 82 → q ≠ 92 → u2 q = w q := fun q h1 h2 h3 h4 h5 h6 h7 => by rw [b2.1 q h4 h5 h6 h7]; exact a2 q h1 (by omega) (by omega) (by omega)
      have q71 : ∀ j, j ≠ 11 → j ≠ 14 → j < 20 ∨ 36 < j → u2 71 j = w 71 j := fun j h1 h2 h3 => by rw [b2.2.1 j h1 h2 (by omega), q1 71 (by decide)]
      have q00 : u2 0 = w 0 := by rw [q0 0 (by decide), a2 0 (by decide) (by omega) (by omega) (by omega)]
      refine OpI.q (-100 - nI f) u1 u2 ?_ b1 (hR.text (fun k h1 h2 h3 h4 h5 h6 h7 => qa k h1 h2 (by omega) h4 h5 h6 h7) q71 (by rw [q00]; exact Int32.le_refl _) ⟨by rw [b4, q00, e03], by rw [q00]; exact x2, by rw [q71 15 (by decide) (by decide) (by decide), x3, q00], by rw [q00]; exact x4, fun t ht => ?_⟩ (tape0 _ b3 (by rw [q0 19 (by decide)]; exact a3)))
      · rw [eC, a1, xbind_some, if_neg (nI_pos (by omega))]
      · rw [q00, e03, nI_clamp (by omega)] at ht
        exact old u2 qa (fun j hj => by rw [b2.2.2.1 j hj, q1 81 (by decide)]) (fun j hj => by rw [b2.2.2.2 j hj, q1 82 (by decide)]) t ht
  · have e6 : N = 6 := by omega
    subst e6
    refine OpI.q (-4) w w ?_ ?_ hR
    · unfold f_X10_text
      rw [e03, if_neg (by decide)]
    · unfold f_X11_text
      rw [e14, if_pos (by decide)]
