-- ===== an image =====
theorem cpy0 {f g : Nat → Int32} {n : Nat} (s d : Int32) (hs : s.toNatClampNeg = 0) (hd : d.toNatClampNeg = 0) (m : Int32) (hm : m.toNatClampNeg = n) {i : Nat} (hi : i < n) : va_cpy f g s.toNatClampNeg d.toNatClampNeg m.toNatClampNeg i = f i := by
  rw [hs, hd, hm, pk_cpy_in (Nat.zero_le i) (by omega), Nat.zero_add, Nat.sub_zero]
theorem s_keepL : ∀ (m c fu : Nat) (u : xI), c + m = 10 → m < fu → ∃ u', f_X2_keep_L64 fu (nI c) u = some ((), u') ∧ (∀ q, q ≠ 33 → q ≠ 37 → u' q = u q) ∧ u' 33 = upd (u 33) 7 (u 5 2) ∧ ∀ i, i < 10 → u' 37 i = if c ≤ i then u (8 + i) 0 else u 37 i := by
  intro m
  induction m with
  | zero =>
    intro c fu u h1 h2
    obtain ⟨f, rfl⟩ : ∃ f, fu = f + 1 := ⟨fu - 1, by omega⟩
    refine ⟨xup u 33 7 (u 5 2), ?_, fun q a b => xup_ne _ _ _ a, xup_same _ _ _ _, fun i hi => ?_⟩
    · rw [f_X2_keep_L64, if_pos (show (10 : Int32) ≤ nI c from nI_le (a := 10) (by omega) (by omega))]
    · rw [xup_ne _ _ _ (by decide), if_neg (by omega)]
  | succ m ih =>
    intro c fu u h1 h2
    obtain ⟨f, rfl⟩ : ∃ f, fu = f + 1 := ⟨fu - 1, by omega⟩
    obtain ⟨u', r1, r2, r3, r4⟩ := ih (c + 1) f (xup u 37 c (u (8 + c) 0)) (by omega) (by omega)
    refine ⟨u', ?_, fun q a b => by rw [r2 q a b, xup_ne _ _ _ b], by rw [r3, xup_ne _ _ _ (by decide), xup_ne _ _ _ (by decide)], fun i hi => ?_⟩
    · rw [f_X2_keep_L64, if_neg (show ¬ (10 : Int32) ≤ nI c from nI_ge (b := 10) (by omega) (by omega)), xin_nI (by omega) (by decide), xchk_true, xlet_eq, xchk_true, xlet_eq, nI_1, nI_clamp (by omega)]
      exact r1
    · rw [r4 i hi, xup_ne _ _ _ (by omega), xup_same]
      by_cases e : i = c
      · rw [e, upd_s, if_neg (by omega), if_pos (Nat.le_refl _)]
      · rw [upd_n _ _ e]
        by_cases g : c ≤ i
        · rw [if_pos g, if_pos (by omega)]
        · rw [if_neg g, if_neg (by omega)]
theorem s_keep (a3 : Int32) (w : xI) : ∃ w1, f_X2_keep a3 w = some ((), w1) ∧ (∀ q, ¬ (33 ≤ q ∧ q ≤ 37) → w1 q = w q) ∧ (w1 33 0 = 1 ∧ w1 33 1 = a3 ∧ w1 33 4 = w 1 2 ∧ w1 33 7 = w 5 2) ∧ (∀ j, j < 3 → w1 34 j = w 2 j) ∧ (∀ j, j < 5 → w1 35 j = w 3 j) ∧ ∀ c, c < 10 → w1 36 c = w 7 c ∧ w1 37 c = w (8 + c) 0 := by
  generalize ha : xup (xup w 33 0 (1 : Int32)) 33 1 a3 = a
  have aq : ∀ q, q ≠ 33 → a q = w q := fun q hq => by rw [← ha, xup_ne _ _ _ hq, xup_ne _ _ _ hq]
  generalize hb : xcopy (xcopy a 2 34 (0 : Int32) (0 : Int32) (3 : Int32)) 3 35 (0 : Int32) (0 : Int32) (5 : Int32) = b
  have bq : ∀ q, q ≠ 34 → q ≠ 35 → b q = a q := fun q h1 h2 => by rw [← hb]; exact (if_neg h2).trans (if_neg h1)
  have b34 : ∀ j, j < 3 → b 34 j = w 2 j := fun j hj => by
    rw [← hb, ← aq 2 (by decide)]
    show va_cpy (a 2) (a 34) (0 : Int32).toNatClampNeg (0 : Int32).toNatClampNeg (3 : Int32).toNatClampNeg j = a 2 j
    exact cpy0 0 0 rfl rfl 3 rfl hj
  have b35 : ∀ j, j < 5 → b 35 j = w 3 j := fun j hj => by
    rw [← hb, ← aq 3 (by decide)]
    show va_cpy (a 3) (a 35) (0 : Int32).toNatClampNeg (0 : Int32).toNatClampNeg (5 : Int32).toNatClampNeg j = a 3 j
    exact cpy0 0 0 rfl rfl 5 rfl hj
  generalize hc : xcopy (xup b 33 4 (b 1 2)) 7 36 (0 : Int32) (0 : Int32) (10 : Int32) = c
  have cq : ∀ q, q ≠ 33 → q ≠ 36 → c q = b q := fun q h1 h2 => by rw [← hc]; exact (if_neg h2).trans (xup_ne _ _ _ h1)
  have c33 : c 33 = upd (b 33) 4 (b 1 2) := by rw [← hc]; exact (if_neg (by decide)).trans (xup_same _ _ _ _)
  have c36 : ∀ j, j < 10 → c 36 j = w 7 j := fun j hj => by
    rw [← hc, ← aq 7 (by decide), ← bq 7 (by decide) (by decide)]
    show va_cpy (xup b 33 4 (b 1 2) 7) (xup b 33 4 (b 1 2) 36) (0 : Int32).toNatClampNeg (0 : Int32).toNatClampNeg (10 : Int32).toNatClampNeg j = b 7 j
    rw [cpy0 0 0 rfl rfl 10 rfl hj, xup_ne _ _ _ (by decide)]
  obtain ⟨w1, r1, r2, r3, r4⟩ := s_keepL 10 0 2000 c (by omega) (by omega)
  rw [nI_0] at r1
  refine ⟨w1, ?_, fun q hq => ?_, ⟨?_, ?_, ?_, ?_⟩, fun j hj => ?_, fun j hj => ?_, fun i hi => ⟨?_, ?_⟩⟩
  · have e : f_X2_keep a3 w = f_X2_keep_L64 2000 (0 : Int32) (xcopy (xup (xcopy (xcopy (xup (xup w 33 0 (1 : Int32)) 33 1 a3) 2 34 (0 : Int32) (0 : Int32) (3 : Int32)) 3 35 (0 : Int32) (0 : Int32) (5 : Int32)) 33 4 ((xcopy (xcopy (xup (xup w 33 0 (1 : Int32)) 33 1 a3) 2 34 (0 : Int32) (0 : Int32) (3 : Int32)) 3 35 (0 : Int32) (0 : Int32) (5 : Int32)) 1 2)) 7 36 (0 : Int32) (0 : Int32) (10 : Int32)) := rfl
    rw [e, ha, hb, hc, r1]
  · rw [r2 q (by omega) (by omega), cq q (by omega) (by omega), bq q (by omega) (by omega), aq q (by omega)]
  · rw [r3, upd_n _ _ (by decide), c33, upd_n _ _ (by decide), bq 33 (by decide) (by decide), ← ha, xup_same, upd_n _ _ (by decide), xup_same, upd_s]
  · rw [r3, upd_n _ _ (by decide), c33, upd_n _ _ (by decide), bq 33 (by decide) (by decide), ← ha, xup_same, upd_s]
  · rw [r3, upd_n _ _ (by decide), c33, upd_s, bq 1 (by decide) (by decide), aq 1 (by decide)]
  · rw [r3, upd_s, cq 5 (by decide) (by decide), bq 5 (by decide) (by decide), aq 5 (by decide)]
  · rw [r2 34 (by decide) (by decide), cq 34 (by decide) (by decide), b34 j hj]
  · rw [r2 35 (by decide) (by decide), cq 35 (by decide) (by decide), b35 j hj]
  · rw [r2 36 (by decide) (by decide), c36 i hi]
  · rw [r4 i hi, if_pos (Nat.zero_le _), cq _ (by omega) (by omega), bq _ (by omega) (by omega), aq _ (by omega)]
theorem s_im31 : ∀ (m j fu : Nat) (u : xI), j + m = 3 → m < fu → ∃ z, f_X11_image_L31 fu (nI j) u = f_X11_image_L56 2000 0 z ∧ (∀ q, q ≠ 83 → z q = u q) ∧ ∀ i, i < 3 → z 83 i = if j ≤ i then u 72 i else u 83 i := by
  intro m
  induction m with
  | zero =>
    intro j fu u h1 h2
    obtain ⟨f, rfl⟩ : ∃ f, fu = f + 1 := ⟨fu - 1, by omega⟩
    refine ⟨u, ?_, fun _ _ => rfl, fun i hi => by rw [if_neg (by omega)]⟩
    rw [f_X11_image_L31, if_pos (show (3 : Int32) ≤ nI j from nI_le (a := 3) (by omega) (by omega))]
  | succ m ih =>
    intro j fu u h1 h2
    obtain ⟨f, rfl⟩ : ∃ f, fu = f + 1 := ⟨fu - 1, by omega⟩
    obtain ⟨z, r1, r2, r3⟩ := ih (j + 1) f (xup u 83 j (u 72 j)) (by omega) (by omega)
    refine ⟨z, ?_, fun q a => by rw [r2 q a, xup_ne _ _ _ a], fun i hi => ?_⟩
    · rw [f_X11_image_L31, if_neg (show ¬ (3 : Int32) ≤ nI j from nI_ge (b := 3) (by omega) (by omega)), xin_nI (by omega) (by decide), xchk_true, xchk_true, xlet_eq, nI_1, nI_clamp (by omega)]
      exact r1
    · rw [r3 i hi, xup_ne _ _ _ (by decide), xup_same]
      by_cases e : i = j
      · rw [e, upd_s, if_neg (by omega), if_pos (Nat.le_refl _)]
      · rw [upd_n _ _ e]
        by_cases g : j ≤ i
        · rw [if_pos g, if_pos (by omega)]
        · rw [if_neg g, if_neg (by omega)]
theorem s_im56 : ∀ (m j fu : Nat) (u : xI), j + m = 5 → m < fu → ∃ z, f_X11_image_L56 fu (nI j) u = f_X11_image_L81 2000 0 z ∧ (∀ q, q ≠ 84 → z q = u q) ∧ ∀ i, i < 5 → z 84 i = if j ≤ i then u 73 i else u 84 i := by
  intro m
  induction m with
  | zero =>
    intro j fu u h1 h2
    obtain ⟨f, rfl⟩ : ∃ f, fu = f + 1 := ⟨fu - 1, by omega⟩
    refine ⟨u, ?_, fun _ _ => rfl, fun i hi => by rw [if_neg (by omega)]⟩
    rw [f_X11_image_L56, if_pos (show (5 : Int32) ≤ nI j from nI_le (a := 5) (by omega) (by omega))]
  | succ m ih =>
    intro j fu u h1 h2
    obtain ⟨f, rfl⟩ : ∃ f, fu = f + 1 := ⟨fu - 1, by omega⟩
    obtain ⟨z, r1, r2, r3⟩ := ih (j + 1) f (xup u 84 j (u 73 j)) (by omega) (by omega)
    refine ⟨z, ?_, fun q a => by rw [r2 q a, xup_ne _ _ _ a], fun i hi => ?_⟩
    · rw [f_X11_image_L56, if_neg (show ¬ (5 : Int32) ≤ nI j from nI_ge (b := 5) (by omega) (by omega)), xin_nI (by omega) (by decide), xchk_true, xchk_true, xlet_eq, nI_1, nI_clamp (by omega)]
      exact r1
    · rw [r3 i hi, xup_ne _ _ _ (by decide), xup_same]
      by_cases e : i = j
      · rw [e, upd_s, if_neg (by omega), if_pos (Nat.le_refl _)]
      · rw [upd_n _ _ e]
        by_cases g : j ≤ i
        · rw [if_pos g, if_pos (by omega)]
        · rw [if_neg g, if_neg (by omega)]
theorem s_im81 : ∀ (m c fu : Nat) (u : xI), c + m = 10 → m < fu → ∃ z, f_X11_image_L81 fu (nI c) u = some (u 71 3, z) ∧ (∀ q, q ≠ 85 → q ≠ 86 → z q = u q) ∧ ∀ i, i < 10 → z 85 i = (if c ≤ i then u 79 i else u 85 i) ∧ z 86 i = (if c ≤ i then u 74 i else u 86 i) := by
  intro m
  induction m with
  | zero =>
    intro j fu u h1 h2
    obtain ⟨f, rfl⟩ : ∃ f, fu = f + 1 := ⟨fu - 1, by omega⟩
    refine ⟨u, ?_, fun _ _ _ => rfl, fun i hi => by rw [if_neg (by omega), if_neg (by omega)]; exact ⟨rfl, rfl⟩⟩
    rw [f_X11_image_L81, if_pos (show (10 : Int32) ≤ nI j from nI_le (a := 10) (by omega) (by omega))]
  | succ m ih =>
    intro j fu u h1 h2
    obtain ⟨f, rfl⟩ : ∃ f, fu = f + 1 := ⟨fu - 1, by omega⟩
    obtain ⟨z, r1, r2, r3⟩ := ih (j + 1) f (xup (xup u 85 j (u 79 j)) 86 j (u 74 j)) (by omega) (by omega)
    rw [xup_ne _ _ _ (by decide), xup_ne _ _ _ (by decide)] at r1
    refine ⟨z, ?_, fun q a b => by rw [r2 q a b, xup_ne _ _ _ b, xup_ne _ _ _ a], fun i hi => ?_⟩
    · rw [f_X11_image_L81, if_neg (show ¬ (10 : Int32) ≤ nI j from nI_ge (b := 10) (by omega) (by omega)), xin_nI (by omega) (by decide), xchk_true, xchk_true, xchk_true, xchk_true, xlet_eq, nI_1, nI_clamp (by omega)]
      exact r1
    · obtain ⟨q1, q2⟩ := r3 i hi
      rw [q1, q2, xup_ne _ _ _ (by decide : (79 : Nat) ≠ 86), xup_ne _ _ _ (by decide : (79 : Nat) ≠ 85), xup_ne _ _ _ (by decide : (85 : Nat) ≠ 86), xup_same, xup_ne _ _ _ (by decide : (74 : Nat) ≠ 86), xup_ne _ _ _ (by decide : (74 : Nat) ≠ 85), xup_same, xup_ne _ _ _ (by decide : (86 : Nat) ≠ 85)]
      by_cases e : i = j
      · rw [e, upd_s, upd_s, if_neg (by omega), if_pos (Nat.le_refl _), if_neg (by omega), if_pos (Nat.le_refl _)]; exact ⟨rfl, rfl⟩
      · rw [upd_n _ _ e, upd_n _ _ e]
        by_cases g : j ≤ i
        · rw [if_pos g, if_pos (by omega), if_pos (by omega), if_pos g]; exact ⟨rfl, rfl⟩
        · rw [if_neg g, if_neg (by omega), if_neg (by omega), if_neg g]; exact ⟨rfl, rfl⟩
theorem op_image : OpI (f_X10_image) (f_X11_image) := by
  intro w hR
  obtain ⟨w1, k1, k2, ⟨k3, k4, k5, k6⟩, k7, k8, k9⟩ := s_keep (w 0 4) w
  generalize hz : xup (xup (xup (xup w1 71 16 (1 : Int32)) 71 17 (w 71 1)) 71 18 (w 71 3)) 71 19 (w 71 15) = z
  have zq : ∀ q, q ≠ 71 → z q = w1 q := fun q hq => by rw [← hz, xup_ne _ _ _ hq, xup_ne _ _ _ hq, xup_ne _ _ _ hq, xup_ne _ _ _ hq]
  have zj : ∀ j, ¬ (16 ≤ j ∧ j ≤ 19) → z 71 j = w1 71 j := fun j hj => by rw [← hz, xup_same, upd_n _ _ (by omega), xup_same, upd_n _ _ (by omega), xup_same, upd_n _ _ (by omega), xup_same, upd_n _ _ (by omega)]
  obtain ⟨z1, a1, a2, a3⟩ := s_im31 3 0 2000 z (by omega) (by omega)
  obtain ⟨z2, b1, b2, b3⟩ := s_im56 5 0 2000 z1 (by omega) (by omega)
  obtain ⟨w2, c1, c2, c3⟩ := s_im81 10 0 2000 z2 (by omega) (by omega)
  rw [nI_0] at a1 b1 c1
  have f71 : w2 71 = z 71 := by rw [c2 71 (by decide) (by decide), b2 71 (by decide), a2 71 (by decide)]
  have fq : ∀ q, q ≠ 71 → ¬ (83 ≤ q ∧ q ≤ 86) → w2 q = w1 q := fun q h1 h2 => by rw [c2 q (by omega) (by omega), b2 q (by omega), a2 q (by omega), zq q h1]
  have e71 : w1 71 = w 71 := k2 71 (by omega)
  have m16 : w2 71 16 = 1 := by rw [f71, ← hz, xup_same, upd_n _ _ (by decide), xup_same, upd_n _ _ (by decide), xup_same, upd_n _ _ (by decide), xup_same, upd_s]
  have m17 : w2 71 17 = w 71 1 := by rw [f71, ← hz, xup_same, upd_n _ _ (by decide), xup_same, upd_n _ _ (by decide), xup_same, upd_s]
  have m18 : w2 71 18 = w 71 3 := by rw [f71, ← hz, xup_same, upd_n _ _ (by decide), xup_same, upd_s]
  have m19 : w2 71 19 = w 71 15 := by rw [f71, ← hz, xup_same, upd_s]
  have x33 : w2 33 = w1 33 := fq 33 (by decide) (by omega)
  obtain ⟨s1, s2, s3, s4, s5⟩ := hR.st
  obtain ⟨t1, t2, t3, t4, t5⟩ := hR.tx
  refine OpI.q (w 5 2) w1 w2 ?_ ?_ (hR.img (fun k h1 h2 h3 => by rw [fq k h3 h2, k2 k h1]) (fun j hj => by rw [f71, zj j hj, e71]) ⟨?_, ?_, fun _ => ⟨⟨?_, ?_⟩, ⟨?_, ?_⟩, ⟨?_, ?_⟩, fun j hj => ?_, ?_, ?_, ?_, fun j hj => ?_, fun c hc => ?_⟩⟩)
  · unfold f_X10_image
    rw [k1, xbind_some, k2 5 (by omega)]
  · unfold f_X11_image
    rw [e71, hz, a1, b1, c1, b2 71 (by decide), a2 71 (by decide), zj 3 (by omega), e71, hR.yd.1]
  · rw [m16, x33, k3]
  · rw [x33, k3]; exact Or.inr rfl
  · rw [m17, x33, k5, s1]
  · rw [x33, k5]; exact s2
  · rw [m18, x33, k6, hR.yd.1]
  · rw [x33, k6]; exact hR.yd.2.1
  · rw [m19, x33, k4, t3]
  · rw [x33, k4, fq 0 (by decide) (by omega), k2 0 (by omega)]; exact t4
  · rw [c2 83 (by decide) (by decide), b2 83 (by decide), a3 j hj, if_pos (Nat.zero_le _), zq 72 (by decide), k2 72 (by omega), fq 34 (by decide) (by omega), k7 j hj, hR.sc.1 j hj]
  · rw [fq 34 (by decide) (by omega), k7 0 (by decide)]; exact hR.sc.2.1
  · rw [fq 34 (by decide) (by omega), k7 1 (by decide)]; exact hR.sc.2.2.1
  · rw [fq 34 (by decide) (by omega), k7 2 (by decide)]; exact hR.sc.2.2.2
  · rw [c2 84 (by decide) (by decide), b3 j hj, if_pos (Nat.zero_le _), a2 73 (by decide), zq 73 (by decide), k2 73 (by omega), fq 35 (by decide) (by omega), k8 j hj]
    exact ⟨s3 j hj, s4 j hj⟩
  · obtain ⟨q1, q2⟩ := c3 c hc
    obtain ⟨p1, p2⟩ := k9 c hc
    obtain ⟨y0, y1, y2, y3, y4, y5⟩ := hR.yd.2.2.1 c hc
    obtain ⟨v0, v1, v2, v3, v4, v5⟩ := hR.yd.2.2.2 c hc
    rw [q1, q2, if_pos (Nat.zero_le _), if_pos (Nat.zero_le _), b2 79 (by decide), a2 79 (by decide), zq 79 (by decide), k2 79 (by omega), b2 74 (by decide), a2 74 (by decide), zq 74 (by decide), k2 74 (by omega), fq 36 (by decide) (by omega), fq 37 (by decide) (by omega), p1, p2]
    exact ⟨⟨y5, v5⟩, ⟨y0, v0⟩⟩
