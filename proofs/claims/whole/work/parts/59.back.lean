theorem R_scale.pj {w : xI} (h : R_scale w) : R_scale (xpj w) := by
  unfold R_scale
  rw [xpj_all (k := 72) (coreA_all rfl), xpj_all (k := 2) (coreA_all rfl)]
  exact h
/-- what an image gives back -/
theorem Rel.back {w w' : xI} (hR : Rel w) (hk : ∀ k, ¬ (k ≤ 5) → ¬ (7 ≤ k ∧ k ≤ 17) → ¬ (71 ≤ k ∧ k ≤ 79) → w' k = w k) (h0 : ∀ j, j ≠ 4 → w' 0 j = w 0 j) (h71 : ∀ j, j ≠ 1 → j ≠ 3 → j ≠ 15 → w' 71 j = w 71 j) (hsc : R_scale w') (hst : R_stone w') (hy : R_yard w') (h15 : w' 71 15 = w' 0 4) (h4 : 0 ≤ w' 0 4 ∧ w' 0 4 < w' 0 3) : Rel w' := by
  obtain ⟨a1, a2, a3, a4, a5, a6, a7, a8⟩ := hR
  have g : ∀ k, ¬ (k ≤ 5) → ¬ (7 ≤ k ∧ k ≤ 17) → ¬ (71 ≤ k ∧ k ≤ 79) → xpj w' k = xpj w k := fun k h1 h2 h3 => xpj_cg (hk k h1 h2 h3)
  have g71 : ∀ j, j ≠ 1 → j ≠ 3 → j ≠ 15 → xpj w' 71 j = xpj w 71 j := fun j x y z => xpj_cg2 (h71 j x y z)
  have g0 : xpj w' 0 3 = xpj w 0 3 := xpj_cg2 (h0 3 (by decide))
  have g2 : ∀ k j, ¬ (k ≤ 5) → ¬ (7 ≤ k ∧ k ≤ 17) → ¬ (71 ≤ k ∧ k ≤ 79) → xpj w' k j = xpj w k j := fun k j h1 h2 h3 => by rw [g k h1 h2 h3]
  refine ⟨hsc.pj, hst.pj, hy.pj, a4.cg (fun k h => g k (by omega) (by omega) (by omega)) (g71 _ (by decide) (by decide) (by decide)) (g2 19 1 (by decide) (by decide) (by decide)), ?_, a6.cg (fun k h => g k (by omega) (by omega) (by omega)) (g71 _ (by decide) (by decide) (by decide)) (g71 _ (by decide) (by decide) (by decide)) (g71 _ (by decide) (by decide) (by decide)) (g71 _ (by decide) (by decide) (by decide)) (g2 33 0 (by decide) (by decide) (by decide)) (g2 33 1 (by decide) (by decide) (by decide)) (g2 33 4 (by decide) (by decide) (by decide)) (g2 33 7 (by decide) (by decide) (by decide)) (by rw [g0]; exact Int32.le_refl _), a7.cg (fun k h => g k (by omega) (by omega) (by omega)), a8.cg (g 91 (by decide) (by decide) (by decide)) (g71 _ (by decide) (by decide) (by decide)) (g71 _ (by decide) (by decide) (by decide))⟩
  obtain ⟨b1, b2, b3, b4, b5⟩ := a5
  refine ⟨by rw [g71 14 (by decide) (by decide) (by decide), g0]; exact b1, by rw [g0]; exact b2, h15, h4, fun t ht => ?_⟩
  rw [g0] at ht
  have h6 : (xpj w 0 3).toNatClampNeg ≤ 6 := nI_toNat_le (by decide) (Int32_01 b2.1) b2.2
  exact (b5 t ht).cg (by omega) (fun k h => g k (by omega) (by omega) (by omega))
theorem s_gbL : ∀ (m c fu : Nat) (u : xI), c + m = 10 → m < fu → ∃ u', f_X2_giveBack_L57 fu (nI c) u = some ((), u') ∧ (∀ q, q ≠ 5 → ¬ (8 ≤ q ∧ q ≤ 17) → u' q = u q) ∧ u' 5 = upd (u 5) 2 (u 33 7) ∧ ∀ i, i < 10 → u' (8 + i) = if c ≤ i then upd (u (8 + i)) 0 (u 37 i) else u (8 + i) := by
  intro m
  induction m with
  | zero =>
    intro c fu u h1 h2
    obtain ⟨f, rfl⟩ : ∃ f, fu = f + 1 := ⟨fu - 1, by omega⟩
    refine ⟨xup u 5 2 (u 33 7), ?_, fun q a b => xup_ne _ _ _ a, xup_same _ _ _ _, fun i hi => ?_⟩
    · rw [f_X2_giveBack_L57, if_pos (show (10 : Int32) ≤ nI c from nI_le (a := 10) (by omega) (by omega))]
    · rw [xup_ne _ _ _ (by omega), if_neg (by omega)]
  | succ m ih =>
    intro c fu u h1 h2
    obtain ⟨f, rfl⟩ : ∃ f, fu = f + 1 := ⟨fu - 1, by omega⟩
    obtain ⟨u', r1, r2, r3, r4⟩ := ih (c + 1) f (xup u (8 + c) 0 (u 37 c)) (by omega) (by omega)
    refine ⟨u', ?_, fun q a b => by rw [r2 q a b, xup_ne _ _ _ (by omega)], by rw [r3, xup_ne _ _ _ (by omega), xup_ne _ _ _ (by omega)], fun i hi => ?_⟩
    · rw [f_X2_giveBack_L57, if_neg (show ¬ (10 : Int32) ≤ nI c from nI_ge (b := 10) (by omega) (by omega)), xin_nI (by omega) (by decide), xchk_true, xlet_eq, xchk_true, xlet_eq, nI_1, nI_clamp (by omega)]
      exact r1
    · rw [r4 i hi, xup_ne (a := 37) _ _ _ (by omega)]
      by_cases e : i = c
      · rw [e, if_neg (by omega), if_pos (Nat.le_refl _), xup_same]
      · rw [xup_ne _ _ _ (by omega)]
        by_cases g : c ≤ i
        · rw [if_pos g, if_pos (by omega)]
        · rw [if_neg g, if_neg (by omega)]
theorem s_bk36 : ∀ (m j fu : Nat) (u : xI), j + m = 3 → m < fu → ∃ z, f_X11_back_L36 fu (nI j) u = f_X11_back_L61 2000 0 z ∧ (∀ q, q ≠ 72 → z q = u q) ∧ ∀ i, i < 3 → z 72 i = if j ≤ i then u 83 i else u 72 i := by
  intro m
  induction m with
  | zero =>
    intro j fu u h1 h2
    obtain ⟨f, rfl⟩ : ∃ f, fu = f + 1 := ⟨fu - 1, by omega⟩
    refine ⟨u, ?_, fun _ _ => rfl, fun i hi => by rw [if_neg (by omega)]⟩
    rw [f_X11_back_L36, if_pos (show (3 : Int32) ≤ nI j from nI_le (a := 3) (by omega) (by omega))]
  | succ m ih =>
    intro j fu u h1 h2
    obtain ⟨f, rfl⟩ : ∃ f, fu = f + 1 := ⟨fu - 1, by omega⟩
    obtain ⟨z, r1, r2, r3⟩ := ih (j + 1) f (xup u 72 j (u 83 j)) (by omega) (by omega)
    refine ⟨z, ?_, fun q a => by rw [r2 q a, xup_ne _ _ _ a], fun i hi => ?_⟩
    · rw [f_X11_back_L36, if_neg (show ¬ (3 : Int32) ≤ nI j from nI_ge (b := 3) (by omega) (by omega)), xin_nI (by omega) (by decide), xchk_true, xchk_true, xlet_eq, nI_1, nI_clamp (by omega)]
      exact r1
    · rw [r3 i hi, xup_ne _ _ _ (by decide), xup_same]
      by_cases e : i = j
      · rw [e, upd_s, if_neg (by omega), if_pos (Nat.le_refl _)]
      · rw [upd_n _ _ e]
        by_cases g : j ≤ i
        · rw [if_pos g, if_pos (by omega)]
        · rw [if_neg g, if_neg (by omega)]
theorem s_bk61 : ∀ (m j fu : Nat) (u : xI), j + m = 5 → m < fu → ∃ z, f_X11_back_L61 fu (nI j) u = f_X11_back_L86 2000 0 z ∧ (∀ q, q ≠ 73 → z q = u q) ∧ ∀ i, i < 5 → z 73 i = if j ≤ i then u 84 i else u 73 i := by
  intro m
  induction m with
  | zero =>
    intro j fu u h1 h2
    obtain ⟨f, rfl⟩ : ∃ f, fu = f + 1 := ⟨fu - 1, by omega⟩
    refine ⟨u, ?_, fun _ _ => rfl, fun i hi => by rw [if_neg (by omega)]⟩
    rw [f_X11_back_L61, if_pos (show (5 : Int32) ≤ nI j from nI_le (a := 5) (by omega) (by omega))]
  | succ m ih =>
    intro j fu u h1 h2
    obtain ⟨f, rfl⟩ : ∃ f, fu = f + 1 := ⟨fu - 1, by omega⟩
    obtain ⟨z, r1, r2, r3⟩ := ih (j + 1) f (xup u 73 j (u 84 j)) (by omega) (by omega)
    refine ⟨z, ?_, fun q a => by rw [r2 q a, xup_ne _ _ _ a], fun i hi => ?_⟩
    · rw [f_X11_back_L61, if_neg (show ¬ (5 : Int32) ≤ nI j from nI_ge (b := 5) (by omega) (by omega)), xin_nI (by omega) (by decide), xchk_true, xchk_true, xlet_eq, nI_1, nI_clamp (by omega)]
      exact r1
    · rw [r3 i hi, xup_ne _ _ _ (by decide), xup_same]
      by_cases e : i = j
      · rw [e, upd_s, if_neg (by omega), if_pos (Nat.le_refl _)]
      · rw [upd_n _ _ e]
        by_cases g : j ≤ i
        · rw [if_pos g, if_pos (by omega)]
        · rw [if_neg g, if_neg (by omega)]
theorem s_bk86 : ∀ (m c fu : Nat) (u : xI), c + m = 10 → m < fu → ∃ z, f_X11_back_L86 fu (nI c) u = some (u 71 3, z) ∧ (∀ q, q ≠ 79 → q ≠ 74 → z q = u q) ∧ ∀ i, i < 10 → z 79 i = (if c ≤ i then u 85 i else u 79 i) ∧ z 74 i = (if c ≤ i then u 86 i else u 74 i) := by
  intro m
  induction m with
  | zero =>
    intro j fu u h1 h2
    obtain ⟨f, rfl⟩ : ∃ f, fu = f + 1 := ⟨fu - 1, by omega⟩
    refine ⟨u, ?_, fun _ _ _ => rfl, fun i hi => by rw [if_neg (by omega), if_neg (by omega)]; exact ⟨rfl, rfl⟩⟩
    rw [f_X11_back_L86, if_pos (show (10 : Int32) ≤ nI j from nI_le (a := 10) (by omega) (by omega))]
  | succ m ih =>
    intro j fu u h1 h2
    obtain ⟨f, rfl⟩ : ∃ f, fu = f + 1 := ⟨fu - 1, by omega⟩
    obtain ⟨z, r1, r2, r3⟩ := ih (j + 1) f (xup (xup u 79 j (u 85 j)) 74 j (u 86 j)) (by omega) (by omega)
    rw [xup_ne _ _ _ (by decide), xup_ne _ _ _ (by decide)] at r1
    refine ⟨z, ?_, fun q a b => by rw [r2 q a b, xup_ne _ _ _ b, xup_ne _ _ _ a], fun i hi => ?_⟩
    · rw [f_X11_back_L86, if_neg (show ¬ (10 : Int32) ≤ nI j from nI_ge (b := 10) (by omega) (by omega)), xin_nI (by omega) (by decide), xchk_true, xchk_true, xchk_true, xchk_true, xlet_eq, nI_1, nI_clamp (by omega)]
      exact r1
    · obtain ⟨q1, q2⟩ := r3 i hi
      rw [q1, q2, xup_ne _ _ _ (by decide : (85 : Nat) ≠ 74), xup_ne _ _ _ (by decide : (85 : Nat) ≠ 79), xup_ne _ _ _ (by decide : (79 : Nat) ≠ 74), xup_same, xup_ne _ _ _ (by decide : (86 : Nat) ≠ 74), xup_ne _ _ _ (by decide : (86 : Nat) ≠ 79), xup_same, xup_ne _ _ _ (by decide : (74 : Nat) ≠ 79)]
      by_cases e : i = j
      · rw [e, upd_s, upd_s, if_neg (by omega), if_pos (Nat.le_refl _), if_neg (by omega), if_pos (Nat.le_refl _)]; exact ⟨rfl, rfl⟩
      · rw [upd_n _ _ e, upd_n _ _ e]
        by_cases g : j ≤ i
        · rw [if_pos g, if_pos (by omega), if_pos (by omega), if_pos g]; exact ⟨rfl, rfl⟩
        · rw [if_neg g, if_neg (by omega), if_neg (by omega), if_neg g]; exact ⟨rfl, rfl⟩
theorem op_back : OpI (f_X10_back) (f_X11_back) := by
  intro w hR
  obtain ⟨i1, i2, i3⟩ := hR.im
  by_cases c0 : w 33 0 = 0
  · exact OpI.q (-3) w w (by unfold f_X10_back; rw [if_pos c0]) (by unfold f_X11_back; rw [i1, if_pos c0]) hR
  · have c1 : w 33 0 = 1 := i2.resolve_left c0
    obtain ⟨⟨p1, p1'⟩, ⟨p2, p2'⟩, ⟨p3, p3'⟩, p4, p5, p6, p7, p8, p9⟩ := i3 c1
    obtain ⟨ns, hns, ens⟩ := nI_bd (n := 5) (by decide) p1'.1 p1'.2
    -- the component
    generalize hb : xcopy (xcopy w 34 2 (0 : Int32) (0 : Int32) (3 : Int32)) 35 3 (0 : Int32) (0 : Int32) (5 : Int32) = b
    have bq : ∀ q, q ≠ 2 → q ≠ 3 → b q = w q := fun q h1 h2 => by rw [← hb]; exact (if_neg h2).trans (if_neg h1)
    have b2 : ∀ j, j < 3 → b 2 j = w 34 j := fun j hj => by
      rw [← hb]
      show va_cpy (w 34) (w 2) (0 : Int32).toNatClampNeg (0 : Int32).toNatClampNeg (3 : Int32).toNatClampNeg j = w 34 j
      exact cpy0 0 0 rfl rfl 3 rfl hj
    have b3 : ∀ j, j < 5 → b 3 j = w 35 j := fun j hj => by
      rw [← hb]
      show va_cpy (w 35) (w 3) (0 : Int32).toNatClampNeg (0 : Int32).toNatClampNeg (5 : Int32).toNatClampNeg j = w 35 j
      exact cpy0 0 0 rfl rfl 5 rfl hj
    generalize hd : xup b 1 2 (b 33 4) = d
    have dq : ∀ q, q ≠ 1 → d q = b q := fun q hq => by rw [← hd, xup_ne _ _ _ hq]
    have d12 : d 1 2 = w 33 4 := by rw [← hd, xup_same, upd_s, bq 33 (by decide) (by decide)]
    have d3 : ∀ j, j < 5 → 0 ≤ d 3 j ∧ d 3 j ≤ 99 := fun j hj => by rw [dq 3 (by decide), b3 j hj]; exact (p8 j hj).2
    obtain ⟨T, t1, t2⟩ := s_layAll (w := d) hns (d12.trans ens) d3
    generalize he : xcopy (xuc d 4 T) 36 7 (0 : Int32) (0 : Int32) (10 : Int32) = e
    have eq' : ∀ q, q ≠ 7 → q ≠ 4 → e q = d q := fun q h1 h2 => by rw [← he]; exact (if_neg h1).trans (xuc_ne _ _ _ h2)
    have e4 : e 4 = T := by rw [← he]; exact (if_neg (by decide)).trans (xuc_same _ _ _)
    have e7 : ∀ j, j < 10 → e 7 j = w 36 j := fun j hj => by
      rw [← he]
      show va_cpy (xuc d 4 T 36) (xuc d 4 T 7) (0 : Int32).toNatClampNeg (0 : Int32).toNatClampNeg (10 : Int32).toNatClampNeg j = w 36 j
      rw [cpy0 0 0 rfl rfl 10 rfl hj, xuc_ne _ _ _ (by decide), dq 36 (by decide), bq 36 (by decide) (by decide)]
    obtain ⟨x, x1, x2, x3, x4⟩ := s_gbL 10 0 2000 e (by omega) (by omega)
    rw [nI_0] at x1
    have xq : ∀ q, q ≠ 1 → q ≠ 2 → q ≠ 3 → q ≠ 4 → q ≠ 5 → q ≠ 7 → ¬ (8 ≤ q ∧ q ≤ 17) → x q = w q := fun q a b c d' f g h => by rw [x2 q f h, eq' q g d', dq q a, bq q b c]
    have gb : f_X2_giveBack w = some ((), x) := by
      have k3 : (decide (¬ (0 : Int32) < 0) && (decide (¬ (0 : Int32) < 0) && (decide (¬ (3 : Int32) < 0) && (decide ((0 : Int32).toNatClampNeg + (3 : Int32).toNatClampNeg ≤ 3) && decide ((0 : Int32).toNatClampNeg + (3 : Int32).toNatClampNeg ≤ 3))))) = true := rfl
      have k5 : (decide (¬ (0 : Int32) < 0) && (decide (¬ (0 : Int32) < 0) && (decide (¬ (5 : Int32) < 0) && (decide ((0 : Int32).toNatClampNeg + (5 : Int32).toNatClampNeg ≤ 5) && decide ((0 : Int32).toNatClampNeg + (5 : Int32).toNatClampNeg ≤ 5))))) = true := rfl
      have k10 : (decide (¬ (0 : Int32) < 0) && (decide (¬ (0 : Int32) < 0) && (decide (¬ (10 : Int32) < 0) && (decide ((0 : Int32).toNatClampNeg + (10 : Int32).toNatClampNeg ≤ 10) && decide ((0 : Int32).toNatClampNeg + (10 : Int32).toNatClampNeg ≤ 10))))) = true := rfl
      unfold f_X2_giveBack
      rw [k3, xchk_true, k5, xchk_true, hb, hd, t1, xbind_some, k10, xchk_true, he, x1]
    generalize hw1 : xup x 0 4 (x 33 1) = w1
    have w1q : ∀ q, q ≠ 0 → w1 q = x q := fun q hq => by rw [← hw1, xup_ne _ _ _ hq]
    have w104 : w1 0 4 = w 33 1 := by rw [← hw1, xup_same, upd_s, xq 33 (by decide) (by decide) (by decide) (by decide) (by decide) (by decide) (by decide)]
    have w10j : ∀ j, j ≠ 4 → w1 0 j = w 0 j := fun j hj => by rw [← hw1, xup_same, upd_n _ _ hj, xq 0 (by decide) (by decide) (by decide) (by decide) (by decide) (by decide) (by decide)]
    have w1w : ∀ q, q ≠ 0 → q ≠ 1 → q ≠ 2 → q ≠ 3 → q ≠ 4 → q ≠ 5 → q ≠ 7 → ¬ (8 ≤ q ∧ q ≤ 17) → w1 q = w q := fun q z a b c d' f g h => by rw [w1q q z, xq q a b c d' f g h]
    have wM : ∀ q, 18 ≤ q → w1 q = w q := fun q hq => w1w q (by omega) (by omega) (by omega) (by omega) (by omega) (by omega) (by omega) (by omega)
    -- the model
    generalize hz : xup (xup (xup w1 71 1 (w 71 17)) 71 3 (w 71 18)) 71 15 (w 71 19) = z
    have zq : ∀ q, q ≠ 71 → z q = w1 q := fun q hq => by rw [← hz, xup_ne _ _ _ hq, xup_ne _ _ _ hq, xup_ne _ _ _ hq]
    have zj : ∀ j, j ≠ 1 → j ≠ 3 → j ≠ 15 → z 71 j = w 71 j := fun j a b c => by rw [← hz, xup_same, upd_n _ _ c, xup_same, upd_n _ _ b, xup_same, upd_n _ _ a, wM 71 (by decide)]
    obtain ⟨z1, l1, l2, l3⟩ := s_bk36 3 0 2000 z (by omega) (by omega)
    obtain ⟨z2, m1, m2, m3⟩ := s_bk61 5 0 2000 z1 (by omega) (by omega)
    obtain ⟨w2, n1, n2, n3⟩ := s_bk86 10 0 2000 z2 (by omega) (by omega)
    rw [nI_0] at l1 m1 n1
    have f71 : w2 71 = z 71 := by rw [n2 71 (by decide) (by decide), m2 71 (by decide), l2 71 (by decide)]
    have fq : ∀ q, q ≠ 71 → q ≠ 72 → q ≠ 73 → q ≠ 74 → q ≠ 79 → w2 q = w1 q := fun q a b c d' f => by rw [n2 q f d', m2 q c, l2 q b, zq q a]
    have g1 : w2 71 1 = w 33 4 := by rw [f71, ← hz, xup_same, upd_n _ _ (by decide), xup_same, upd_n _ _ (by decide), xup_same, upd_s, p1]
    have g3 : w2 71 3 = w 33 7 := by rw [f71, ← hz, xup_same, upd_n _ _ (by decide), xup_same, upd_s, p2]
    have g15 : w2 71 15 = w 33 1 := by rw [f71, ← hz, xup_same, upd_s, p3]
    have v5 : w2 5 2 = w 33 7 := by rw [fq 5 (by decide) (by decide) (by decide) (by decide) (by decide), w1q 5 (by decide), x3, upd_s, eq' 33 (by decide) (by decide), dq 33 (by decide), bq 33 (by decide) (by decide)]
    have v12 : w2 1 2 = w 33 4 := by rw [fq 1 (by decide) (by decide) (by decide) (by decide) (by decide), w1q 1 (by decide), x2 1 (by decide) (by decide), eq' 1 (by decide) (by decide), d12]
    have v2 : w2 2 = b 2 := by rw [fq 2 (by decide) (by decide) (by decide) (by decide) (by decide), w1q 2 (by decide), x2 2 (by decide) (by decide), eq' 2 (by decide) (by decide), dq 2 (by decide)]
    have v3 : w2 3 = d 3 := by rw [fq 3 (by decide) (by decide) (by decide) (by decide) (by decide), w1q 3 (by decide), x2 3 (by decide) (by decide), eq' 3 (by decide) (by decide)]
    have v4 : w2 4 = T := by rw [fq 4 (by decide) (by decide) (by decide) (by decide) (by decide), w1q 4 (by decide), x2 4 (by decide) (by decide), e4]
    have v72 : ∀ j, j < 3 → w2 72 j = w 34 j := fun j hj => by rw [n2 72 (by decide) (by decide), m2 72 (by decide), l3 j hj, if_pos (Nat.zero_le _), zq 83 (by decide), wM 83 (by decide), p4 j hj]
    have v73 : ∀ j, j < 5 → w2 73 j = w 35 j := fun j hj => by rw [n2 73 (by decide) (by decide), m3 j hj, if_pos (Nat.zero_le _), l2 84 (by decide), zq 84 (by decide), wM 84 (by decide), (p8 j hj).1]
    have v7 : ∀ c, c < 10 → w2 7 c = w 36 c := fun c hc => by rw [fq 7 (by decide) (by decide) (by decide) (by decide) (by decide), w1q 7 (by decide), x2 7 (by decide) (by decide), e7 c hc]
    have v8 : ∀ c, c < 10 → w2 (8 + c) = upd (w (8 + c)) 0 (w 37 c) := fun c hc => by rw [fq _ (by omega) (by omega) (by omega) (by omega) (by omega), w1q _ (by omega), x4 c hc, if_pos (Nat.zero_le _), eq' _ (by omega) (by omega), dq _ (by omega), bq _ (by omega) (by omega), eq' 37 (by decide) (by decide), dq 37 (by decide), bq 37 (by decide) (by decide)]
    have v7479 : ∀ c, c < 10 → w2 79 c = w 36 c ∧ w2 74 c = w 37 c := fun c hc => by
      obtain ⟨q1, q2⟩ := n3 c hc
      rw [q1, q2, if_pos (Nat.zero_le _), if_pos (Nat.zero_le _), m2 85 (by decide), l2 85 (by decide), zq 85 (by decide), wM 85 (by decide), m2 86 (by decide), l2 86 (by decide), zq 86 (by decide), wM 86 (by decide)]
      exact ⟨(p9 c hc).1.1, (p9 c hc).2.1⟩
    refine OpI.q (w 33 7) w1 w2 ?_ ?_ (hR.back (fun k h1 h2 h3 => ?_) (fun j hj => ?_) (fun j a b c => by rw [f71, zj j a b c]) ⟨fun j hj => ?_, ?_, ?_, ?_⟩ ⟨?_, ?_, fun j hj => ?_, fun j hj => ?_, fun j hj => ?_⟩ ⟨?_, ?_, fun c hc => ?_, fun c hc => ?_⟩ ?_ ?_)
    · unfold f_X10_back
      rw [if_neg c0, gb, xbind_some, hw1]
      have : x 5 2 = w 33 7 := by rw [← v5, fq 5 (by decide) (by decide) (by decide) (by decide) (by decide), w1q 5 (by decide)]
      rw [this]
    · unfold f_X11_back
      rw [wM 71 (by decide), i1, if_neg c0, hz, l1, m1, n1]
      rw [n2 71 (by decide) (by decide)] at g3
      rw [g3]
    · rw [fq k (by omega) (by omega) (by omega) (by omega) (by omega)]; exact w1w k (by omega) (by omega) (by omega) (by omega) (by omega) (by omega) (by omega) (by omega)
    · rw [fq 0 (by decide) (by decide) (by decide) (by decide) (by decide)]; exact w10j j hj
    · rw [v72 j hj, v2, b2 j hj]
    · rw [v2, b2 0 (by decide)]; exact p5
    · rw [v2, b2 1 (by decide)]; exact p6
    · rw [v2, b2 2 (by decide)]; exact p7
    · rw [g1, v12]
    · rw [v12]; exact p1'
    · rw [v73 j hj, v3, dq 3 (by decide), b3 j hj]
    · rw [v3]; exact d3 j hj
    · rw [v4, v3, v12, t2 j hj, ens, nI_clamp (by omega)]
    · rw [g3, v5]
    · rw [v5]; exact p2'
    · obtain ⟨y0, y1, y2, y3, y4, y5⟩ := hR.yd.2.2.1 c hc
      rw [v8 c hc, upd_s, upd_n _ _ (by decide), upd_n _ _ (by decide), upd_n _ _ (by decide), upd_n _ _ (by decide), (v7479 c hc).1, (v7479 c hc).2, v7 c hc, fq 75 (by decide) (by decide) (by decide) (by decide) (by decide), fq 76 (by decide) (by decide) (by decide) (by decide) (by decide), fq 77 (by decide) (by decide) (by decide) (by decide) (by decide), fq 78 (by decide) (by decide) (by decide) (by decide) (by decide), wM 75 (by decide), wM 76 (by decide), wM 77 (by decide), wM 78 (by decide)]
      exact ⟨rfl, y1, y2, y3, y4, rfl⟩
    · obtain ⟨y0, y1, y2, y3, y4, y5⟩ := hR.yd.2.2.2 c hc
      rw [v8 c hc, upd_s, upd_n _ _ (by decide), upd_n _ _ (by decide), upd_n _ _ (by decide), upd_n _ _ (by decide), v7 c hc]
      exact ⟨(p9 c hc).2.2, y1, y2, y3, y4, (p9 c hc).1.2⟩
    · rw [g15, fq 0 (by decide) (by decide) (by decide) (by decide) (by decide), w104]
    · rw [fq 0 (by decide) (by decide) (by decide) (by decide) (by decide), w104, w10j 3 (by decide)]; exact p3'
