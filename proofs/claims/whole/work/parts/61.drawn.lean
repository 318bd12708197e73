-- ===== days by lot =====
def lotN (a : Nat) : Nat → Nat
  | 0 => a
  | c + 1 => lotN a c * 48271 % 2147483647
theorem lotN_lt {a : Nat} (ha : a < 2 ^ 31) : ∀ c, lotN a c < 2 ^ 31 := by
  intro c
  cases c with
  | zero => exact ha
  | succ c => have : lotN a (c + 1) < 2147483647 := Nat.mod_lt _ (by decide); omega
/-- when carts come by lot -/
def cmD (a n : Nat) : Nat → Int32 := fun c => if c < n then nI (lotN a (c + 1) % 10) else 0
theorem cmD_bd (a n c : Nat) : 0 ≤ cmD a n c ∧ cmD a n c ≤ 9 := by
  unfold cmD
  by_cases h : c < n
  · rw [if_pos h]; have : lotN a (c + 1) % 10 < 10 := Nat.mod_lt _ (by decide); exact ⟨nI_pos' (by omega), nI_le (b := 9) (by omega) (by omega)⟩
  · rw [if_neg h]; decide
theorem ydB_lot {w : xI} (hR : Rel w) (a n : Nat) : YdB w (cmD a n) := by
  obtain ⟨x, y, z⟩ := hR.ydB
  exact ⟨x, fun c _ => cmD_bd a n c, z⟩
theorem lot_step {a c : Nat} (ha : a < 2 ^ 31) : lN (lotN a c) * 48271 - lN (lotN a c) * 48271 / 2147483647 * 2147483647 = lN (lotN a (c + 1)) := by
  have h := lotN_lt ha c
  have e : lN (lotN a c) * 48271 = lN (lotN a c * 48271) := lN_mul _ 48271
  rw [e]
  exact pk_lRem (a := lotN a c * 48271) (b := 2147483647) (by omega) (by decide) (by decide)
theorem lot_ten {a c : Nat} (ha : a < 2 ^ 31) : (lN (lotN a c) - lN (lotN a c) / 10 * 10).toInt32 = nI (lotN a c % 10) := by
  have h := lotN_lt ha c
  have e : lN (lotN a c) - lN (lotN a c) / 10 * 10 = lN (lotN a c % 10) := pk_lRem (a := lotN a c) (b := 10) (by omega) (by decide) (by decide)
  rw [e, lN_i]
theorem s_drawXL {a n : Nat} (ha : a < 2 ^ 31) (hn : n ≤ 10) : ∀ (m c fu : Nat) (u : xI), c + m = n → m < fu → u 5 2 = nI n → ∃ u', f_X1_drawComes_L8 fu (lN (lotN a c)) (nI c) u = some ((), u') ∧ (∀ q, q ≠ 29 → u' q = u q) ∧ ∀ i, i < n → u' 29 i = if c ≤ i then cmD a n i else u 29 i := by
  intro m
  induction m with
  | zero =>
    intro c fu u h1 h2 h5
    obtain ⟨f, rfl⟩ : ∃ f, fu = f + 1 := ⟨fu - 1, by omega⟩
    refine ⟨u, ?_, fun _ _ => rfl, fun i hi => by rw [if_neg (by omega)]⟩
    rw [f_X1_drawComes_L8, h5, if_pos (nI_le (by omega) (by omega))]
  | succ m ih =>
    intro c fu u h1 h2 h5
    obtain ⟨f, rfl⟩ : ∃ f, fu = f + 1 := ⟨fu - 1, by omega⟩
    obtain ⟨u', r1, r2, r3⟩ := ih (c + 1) f (xup u 29 c (nI (lotN a (c + 1) % 10))) (by omega) (by omega) (by rw [xup_ne _ _ _ (by decide)]; exact h5)
    refine ⟨u', ?_, fun q hq => by rw [r2 q hq, xup_ne _ _ _ hq], fun i hi => ?_⟩
    · rw [f_X1_drawComes_L8, h5, if_neg (nI_ge (by omega) (by omega)), lot_step ha, xlet_eq, xin_nI (by omega) (by decide), xchk_true, xlet_eq, nI_1, lot_ten ha, nI_clamp (by omega)]
      exact r1
    · rw [r3 i hi, xup_same]
      by_cases e : i = c
      · rw [e, upd_s, if_neg (by omega), if_pos (Nat.le_refl _)]
        unfold cmD
        rw [if_pos (by omega)]
      · rw [upd_n _ _ e]
        by_cases g : c ≤ i
        · rw [if_pos g, if_pos (by omega)]
        · rw [if_neg g, if_neg (by omega)]
/-- the component lives through a day by lot -/
theorem s_runD {γ : Type} {w : xI} (hR : Rel w) {t n s : Nat} (hn : n ≤ 10) (en : w 5 2 = nI n) (ht : t < 6) (e4 : w 0 4 = nI t) (hX : TxB w t w) (hs : s < 2 ^ 30) {u : xI} (hf : FrX w u) : ∃ u', (∀ (K : Unit → xI → Option γ), xbind (f_X10_runDrawn (nI s) u) K = K () u') ∧ DayX w (cmD (s + 1) n) t n (-1) 0 10 u' ∧ FrX w u' := by
  obtain ⟨z, z1, z2, z3⟩ := s_drawXL (a := s + 1) (by omega) hn n 0 2000 u (by omega) (by omega) (by rw [hf 5 (by omega)]; exact en)
  have fz : FrX w z := fun k hk => by rw [z2 k (by omega)]; exact hf k hk
  obtain ⟨w1, r1, r2, r3, r4⟩ := s_dayX (γ := Unit × xI) (sk := -1) (ab := 0) (C := 1023) (N := 10) hR (ydB_lot hR (s + 1) n) hn en (by decide) (by decide) (free0 hn) fz (fun c hc => by rw [z3 c hc, if_pos (Nat.zero_le _)]) hX
  refine ⟨w1, fun K => ?_, r2, r3⟩
  have e : f_X10_runDrawn (nI s) u = some ((), w1) := by
    unfold f_X10_runDrawn f_X1_drawComes
    rw [nI_l (by omega), xlet_eq, lN_1, show (0 : Int32) = nI 0 from rfl]
    show xbind (f_X1_drawComes_L8 2000 (lN (lotN (s + 1) 0)) (nI 0) u) _ = _
    rw [z1, xbind_some, s_law ht (by rw [fz 0 (by omega)]; exact e4), isTxt ht, xchk_true]
    exact r1 _
  rw [e, xbind_some]
theorem s_kpL : ∀ (m c fu : Nat) (L : Int64) (u : xI), c + m = 10 → m < fu → ∃ z, f_X11_draws_L8 fu L (nI c) u = f_X11_draws_L38 2000 L 0 z ∧ (∀ q, q ≠ 101 → z q = u q) ∧ ∀ i, i < 10 → z 101 i = if c ≤ i then u 79 i else u 101 i := by
  intro m
  induction m with
  | zero =>
    intro c fu L u h1 h2
    obtain ⟨f, rfl⟩ : ∃ f, fu = f + 1 := ⟨fu - 1, by omega⟩
    refine ⟨u, ?_, fun _ _ => rfl, fun i hi => by rw [if_neg (by omega)]⟩
    rw [f_X11_draws_L8, if_pos (show (10 : Int32) ≤ nI c from nI_le (a := 10) (by omega) (by omega))]
  | succ m ih =>
    intro c fu L u h1 h2
    obtain ⟨f, rfl⟩ : ∃ f, fu = f + 1 := ⟨fu - 1, by omega⟩
    obtain ⟨z, r1, r2, r3⟩ := ih (c + 1) f L (xup u 101 c (u 79 c)) (by omega) (by omega)
    refine ⟨z, ?_, fun q hq => by rw [r2 q hq, xup_ne _ _ _ hq], fun i hi => ?_⟩
    · rw [f_X11_draws_L8, if_neg (show ¬ (10 : Int32) ≤ nI c from nI_ge (b := 10) (by omega) (by omega)), xin_nI (by omega) (by decide), xchk_true, xchk_true, xlet_eq, nI_1, nI_clamp (by omega)]
      exact r1
    · rw [r3 i hi, xup_ne _ _ _ (by decide), xup_same]
      by_cases e : i = c
      · rw [e, upd_s, if_neg (by omega), if_pos (Nat.le_refl _)]
      · rw [upd_n _ _ e]
        by_cases g : c ≤ i
        · rw [if_pos g, if_pos (by omega)]
        · rw [if_neg g, if_neg (by omega)]
theorem s_bkL : ∀ (m c fu : Nat) (u : xI), c + m = 10 → m < fu → ∃ z, f_X11_draws_L85 fu (nI c) u = some ((), z) ∧ (∀ q, q ≠ 79 → z q = u q) ∧ ∀ i, z 79 i = if c ≤ i ∧ i < 10 then u 101 i else u 79 i := by
  intro m
  induction m with
  | zero =>
    intro c fu u h1 h2
    obtain ⟨f, rfl⟩ : ∃ f, fu = f + 1 := ⟨fu - 1, by omega⟩
    refine ⟨u, ?_, fun _ _ => rfl, fun i => by rw [if_neg (by omega)]⟩
    rw [f_X11_draws_L85, if_pos (show (10 : Int32) ≤ nI c from nI_le (a := 10) (by omega) (by omega))]
  | succ m ih =>
    intro c fu u h1 h2
    obtain ⟨f, rfl⟩ : ∃ f, fu = f + 1 := ⟨fu - 1, by omega⟩
    obtain ⟨z, r1, r2, r3⟩ := ih (c + 1) f (xup u 79 c (u 101 c)) (by omega) (by omega)
    refine ⟨z, ?_, fun q hq => by rw [r2 q hq, xup_ne _ _ _ hq], fun i => ?_⟩
    · rw [f_X11_draws_L85, if_neg (show ¬ (10 : Int32) ≤ nI c from nI_ge (b := 10) (by omega) (by omega)), xin_nI (by omega) (by decide), xchk_true, xchk_true, xlet_eq, nI_1, nI_clamp (by omega)]
      exact r1
    · rw [r3 i, xup_ne _ _ _ (by decide), xup_same]
      by_cases e : i = c
      · rw [e, upd_s, if_neg (by omega), if_pos ⟨Nat.le_refl _, by omega⟩]
      · rw [upd_n _ _ e]
        by_cases g : c ≤ i ∧ i < 10
        · rw [if_pos g, if_pos ⟨by omega, g.2⟩]
        · rw [if_neg g, if_neg (by omega)]
theorem s_lotM {a n : Nat} (ha : a < 2 ^ 31) (hn : n ≤ 10) : ∀ (m c fu : Nat) (u : xI), c + m = n → m < fu → u 71 3 = nI n → ∃ z, f_X11_draws_L38 fu (lN (lotN a c)) (nI c) u = xbind (f_X11_lives 10 z) (fun _ w => f_X11_draws_L85 2000 0 w) ∧ (∀ q, q ≠ 79 → z q = u q) ∧ ∀ i, z 79 i = if c ≤ i ∧ i < n then cmD a n i else u 79 i := by
  intro m
  induction m with
  | zero =>
    intro c fu u h1 h2 h3
    obtain ⟨f, rfl⟩ : ∃ f, fu = f + 1 := ⟨fu - 1, by omega⟩
    refine ⟨u, ?_, fun _ _ => rfl, fun i => by rw [if_neg (by omega)]⟩
    rw [f_X11_draws_L38, h3, if_pos (nI_le (by omega) (by omega))]
  | succ m ih =>
    intro c fu u h1 h2 h3
    obtain ⟨f, rfl⟩ : ∃ f, fu = f + 1 := ⟨fu - 1, by omega⟩
    obtain ⟨z, r1, r2, r3⟩ := ih (c + 1) f (xup u 79 c (nI (lotN a (c + 1) % 10))) (by omega) (by omega) (by rw [xup_ne _ _ _ (by decide)]; exact h3)
    refine ⟨z, ?_, fun q hq => by rw [r2 q hq, xup_ne _ _ _ hq], fun i => ?_⟩
    · rw [f_X11_draws_L38, h3, if_neg (nI_ge (by omega) (by omega)), lot_step ha, xlet_eq, xin_nI (by omega) (by decide), xchk_true, xlet_eq, nI_1, lot_ten ha, nI_clamp (by omega)]
      exact r1
    · rw [r3 i, xup_same]
      by_cases e : i = c
      · rw [e, upd_s, if_neg (by omega), if_pos ⟨Nat.le_refl _, by omega⟩]
        unfold cmD
        rw [if_pos (by omega)]
      · rw [upd_n _ _ e]
        by_cases g : c ≤ i ∧ i < n
        · rw [if_pos g, if_pos ⟨by omega, g.2⟩]
        · rw [if_neg g, if_neg (by omega)]
/-- only the model's day and what it kept has changed -/
def FrD (u u' : xI) : Prop := (∀ q, q ≠ 71 → q ≠ 93 → q ≠ 94 → q ≠ 95 → q ≠ 99 → q ≠ 100 → q ≠ 101 → u' q = u q) ∧ ∀ j, j < 40 ∨ 57 < j → u' 71 j = u 71 j
theorem FrD.tr {u v z : xI} (h1 : FrD u v) (h2 : FrD v z) : FrD u z := ⟨fun q a b c d e f g => (h2.1 q a b c d e f g).trans (h1.1 q a b c d e f g), fun j hj => (h2.2 j hj).trans (h1.2 j hj)⟩
theorem FrD.mz {w : xI} {cm : Nat → Int32} {t : Nat} {u u' : xI} (hf : FrD u u') (h : Mz w cm t u) : Mz w cm t u' := h.cg (fun q hq => hf.1 q (by omega) (by omega) (by omega) (by omega) (by omega) (by omega) (by omega)) (fun j hj => hf.2 j (by omega))
theorem s_drawsM {γ : Type} {w : xI} (hR : Rel w) {t n s : Nat} (hn : n ≤ 10) (en : w 5 2 = nI n) (hs : s < 2 ^ 30) {u : xI} (hM : Mz w (w 7) t u) (e58 : u 71 58 = -1) (e59 : u 71 59 = nI 0) : ∃ u', (∀ (K : Unit → xI → Option γ), xbind (f_X11_draws (nI s) u) K = K () u') ∧ u' 71 55 = nI (dayT w (cmD (s + 1) n) t n (-1) 0 10) ∧ u' 71 56 = dayE w (cmD (s + 1) n) t n (-1) 0 10 ∧ FrD u u' := by
  obtain ⟨a, a1, a2, a3⟩ := s_kpL 10 0 2000 (lN (s + 1)) u (by omega) (by omega)
  have hM1 : Mz w (w 7) t a := hM.cg (fun q hq => a2 q (by omega)) (fun j hj => by rw [a2 71 (by decide)])
  obtain ⟨b, b1, b2, b3⟩ := s_lotM (a := s + 1) (by omega) hn n 0 2000 a (by omega) (by omega) (hM1.1.1.trans en)
  have hM2 : Mz w (cmD (s + 1) n) t b := by
    obtain ⟨⟨x1, x2⟩, x3, x4, x5, x6, x7⟩ := hM1
    have ht := x4.1
    refine ⟨⟨by rw [b2 71 (by decide)]; exact x1, fun c hc => ?_⟩, by rw [b2 71 (by decide)]; exact x3, x4.cg (b2 _ (by omega)) (b2 _ (by omega)) (b2 _ (by omega)) (b2 _ (by omega)), by rw [b2 72 (by decide)]; exact x5, by rw [b2 71 (by decide)]; exact x6, by rw [b2 73 (by decide)]; exact x7⟩
    obtain ⟨y0, y1, y2, y3, y4, y5⟩ := x2 c hc
    rw [b2 74 (by decide), b2 75 (by decide), b2 76 (by decide), b2 77 (by decide), b2 78 (by decide)]
    refine ⟨y0, y1, y2, y3, y4, fun hg => ?_⟩
    rw [en] at hg
    rw [b3 c, if_pos ⟨Nat.zero_le _, (nI_ltI (by omega) (by omega)).mp hg⟩]
  have k71 : b 71 = u 71 := by rw [b2 71 (by decide), a2 71 (by decide)]
  obtain ⟨c, q1, ⟨q2, q3, q4, q5, q6⟩, q7, q8⟩ := s_livesM (γ := Unit × xI) (sk := -1) (ab := 0) (N := 10) hR (ydB_lot hR (s + 1) n) hn (by decide) en (by decide) hM2 (by rw [k71]; exact e58) (by rw [k71]; exact e59)
  obtain ⟨d, d1, d2, d3⟩ := s_bkL 10 0 2000 c (by omega) (by omega)
  rw [nI_0] at a1 d1
  refine ⟨d, fun K => ?_, by rw [d2 71 (by decide)]; exact q2, by rw [d2 71 (by decide)]; exact q3, fun q h1 h2 h3 h4 h5 h6 h7 => ?_, fun j hj => ?_⟩
  · have e : f_X11_draws (nI s) u = some ((), d) := by
      unfold f_X11_draws
      rw [nI_l (by omega), xlet_eq, lN_1, a1]
      have b1' : f_X11_draws_L38 2000 (lN (s + 1)) 0 a = xbind (f_X11_lives 10 b) (fun _ w => f_X11_draws_L85 2000 0 w) := b1
      rw [b1']
      refine (q1 _).trans ?_
      exact d1
    rw [e, xbind_some]
  · by_cases e : q = 79
    · subst e
      funext i
      rw [d3 i]
      by_cases g : 0 ≤ i ∧ i < 10
      · rw [if_pos g, q7.1 101 (by decide) (by decide) (by decide) (by decide) (by decide) (by decide), b2 101 (by decide), a3 i g.2, if_pos (Nat.zero_le _)]
      · rw [if_neg g, q7.1 79 (by decide) (by decide) (by decide) (by decide) (by decide) (by decide), b3 i, if_neg (by omega), a2 79 (by decide)]
    · rw [d2 q e, q7.1 q h1 h2 h3 h4 h5 h6, b2 q e, a2 q h7]
  · rw [d2 71 (by decide), q7.2 j hj, k71]
theorem Rel.endD {w w1 w2 : xI} (hR : Rel w) (hf : FrX w w1) (hw : FrD w1 w2) : Rel w2 := by
  refine hR.fr (fun k hk h71 => ?_) (fun j hj => ?_)
  · unfold scrN at hk
    rw [hw.1 k h71 (by omega) (by omega) (by omega) (by omega) (by omega) (by omega), hf k (by omega)]
  · rw [hw.2 j (by omega), hf 71 (by omega)]
theorem s_seed {γ : Type} (a : Int32) (w : xI) (K : Int32 → xI → Option γ) : xbind (f_X10_isSeed a w) K = if 0 ≤ a ∧ a ≤ 99999 then K 1 w else K 0 w := by
  unfold f_X10_isSeed
  rw [s_within]
  by_cases h : 0 ≤ a ∧ a ≤ 99999
  · rw [if_pos h, if_pos h]; rfl
  · rw [if_neg h, if_neg h]; rfl
theorem op_drawn (a1 : Int32) (a2 : Int32) : OpI (f_X10_drawn a1 a2) (f_X11_drawn a1 a2) := by
  intro w hR
  obtain ⟨n, hn, en, em⟩ := hR.n
  obtain ⟨t, ht, e4, e15, hX⟩ := hR.law
  by_cases h1 : 0 ≤ a1 ∧ a1 ≤ 99999
  · by_cases h2 : 0 ≤ a2 ∧ a2 ≤ 1
    · obtain ⟨s, hs, rfl⟩ := nI_bd (n := 99999) (by decide) h1.1 h1.2
      obtain ⟨w1, r1, r2, r3⟩ := s_runD (γ := Int32 × xI) (s := s) hR hn en ht e4 hX (by omega) (FrX.rfl' w)
      obtain ⟨w2, q1, q2, q3, q4⟩ := s_drawsM (γ := Int32 × xI) (s := s) hR hn en (by omega) (hR.mz r3 e15 hX) (hR.sk r3).1 (hR.sk r3).2
      refine OpI.q (if a2 = 0 then dayE w (cmD (s + 1) n) t n (-1) 0 10 else nI (dayT w (cmD (s + 1) n) t n (-1) 0 10)) w1 w2 ?_ ?_ (hR.endD r3 q4)
      · rw [f_X10_drawn, s_seed, if_pos h1, if_neg (by decide), s_within, if_pos h2, if_neg (by decide), r1, r2.2.1, r2.2.2.1]
        by_cases c : a2 = 0
        · rw [if_pos c, if_pos c]
        · rw [if_neg c, if_neg c]
      · rw [f_X11_drawn, s_in, if_pos h1, if_neg (by decide), s_in, if_pos h2, if_neg (by decide), q1, q2, q3]
        by_cases c : a2 = 0
        · rw [if_pos c, if_pos c]
        · rw [if_neg c, if_neg c]
    · exact OpI.q (-2) w w (by rw [f_X10_drawn, s_seed, if_pos h1, if_neg (by decide), s_within, if_neg h2, if_pos rfl]) (by rw [f_X11_drawn, s_in, if_pos h1, if_neg (by decide), s_in, if_neg h2, if_pos rfl]) hR
  · exact OpI.q (-2) w w (by rw [f_X10_drawn, s_seed, if_neg h1, if_pos rfl]) (by rw [f_X11_drawn, s_in, if_neg h1, if_pos rfl]) hR
-- ===== odds =====
theorem s_comD {n s : Nat} (hn : n ≤ 10) (hs : s ≤ 10) (h1 : 1 ≤ s) (w : xI) : ∀ (d fu : Nat), d < fu → d ≤ s → Nat.gcd n s ≤ d → f_X10_commonDivisor_L2 fu (nI n) (nI s) (nI d) w = some (nI (Nat.gcd n s), w) := by
  have hg : 0 < Nat.gcd n s := Nat.gcd_pos_of_pos_right n (by omega)
  intro d
  induction d with
  | zero => intro fu _ _ h; omega
  | succ d ih =>
    intro fu h2 h3 h4
    obtain ⟨f, rfl⟩ : ∃ f, fu = f + 1 := ⟨fu - 1, by omega⟩
    rw [f_X10_commonDivisor_L2]
    by_cases c : d = 0
    · subst c
      rw [if_pos (by decide), show Nat.gcd n s = 1 by omega]; rfl
    · have nz : decide (¬ nI (d + 1) = 0) = true := decide_eq_true (nI_ne0 (by omega) (by omega))
      have m1 : nI (d + 1) + (-1) = nI d := pk_m1 d
      rw [if_neg (show ¬ nI (d + 1) ≤ 1 from nI_ge (a := 1) (by omega) (by omega)), nz, xchk_true, xchk_true, pk_rem (by omega) (by omega) (by omega), pk_rem (by omega) (by omega) (by omega), m1]
      simp only [xlet_eq]
      have go : ¬ (n % (d + 1) = 0 ∧ s % (d + 1) = 0) → f_X10_commonDivisor_L2 f (nI n) (nI s) (nI d) w = some (nI (Nat.gcd n s), w) := by
        intro hno
        refine ih f (by omega) (by omega) ?_
        by_cases e : Nat.gcd n s = d + 1
        · exact absurd ⟨Nat.mod_eq_zero_of_dvd (e ▸ Nat.gcd_dvd_left n s), Nat.mod_eq_zero_of_dvd (e ▸ Nat.gcd_dvd_right n s)⟩ hno
        · omega
      have hmn : n % (d + 1) ≤ n := Nat.mod_le _ _
      have hms : s % (d + 1) ≤ s := Nat.mod_le _ _
      by_cases c1 : n % (d + 1) = 0
      · rw [if_pos (show nI (n % (d + 1)) = 0 by rw [c1]; rfl)]
        by_cases c2 : s % (d + 1) = 0
        · rw [if_pos (show nI (s % (d + 1)) = 0 by rw [c2]; rfl)]
          have := Nat.le_of_dvd hg (Nat.dvd_gcd (Nat.dvd_of_mod_eq_zero c1) (Nat.dvd_of_mod_eq_zero c2))
          rw [show Nat.gcd n s = d + 1 by omega]
        · rw [if_neg (nI_ne0 (by omega) (by omega))]
          exact go (fun z => c2 z.2)
      · rw [if_neg (nI_ne0 (by omega) (by omega))]
        exact go (fun z => c1 z.1)
theorem s_euc {x y : Nat} (hx : x < 2 ^ 31) (hy : y < 2 ^ 31) (v4 : Int32) (w : xI) : ∀ (fu a b : Nat), b < fu → a < 2 ^ 31 → b < 2 ^ 31 → 0 < a + b → f_X11_lowest_L16 fu (lN x) (lN y) v4 (lN a) (lN b) w = some (if v4 = 0 then lN (x / Nat.gcd a b) else lN (y / Nat.gcd a b), w) := by
  intro fu
  induction fu with
  | zero => intro a b h; omega
  | succ f ih =>
    intro a b h ha hb hab
    rw [f_X11_lowest_L16]
    by_cases c : b = 0
    · subst c
      rw [if_pos ((lg_cmp_eq _ _).mpr (show lN 0 = 0 from rfl)), Nat.gcd_zero_right]
      have nz : decide (¬ lN a = 0) = true := decide_eq_true (fun z => by have := (lN_eq (b := 0) ha (by decide)).mp z; omega)
      rw [nz, xchk_true, xchk_true, pk_lDiv (by omega) (by omega) (by omega), pk_lDiv (by omega) (by omega) (by omega)]
      by_cases d : v4 = 0
      · rw [if_pos d, if_pos d]
      · rw [if_neg d, if_neg d]
    · have nz0 : ¬ lN b = 0 := fun z => by have := (lN_eq (b := 0) hb (by decide)).mp z; omega
      have hm : a % b < b := Nat.mod_lt _ (by omega)
      have e : Nat.gcd a b = Nat.gcd b (a % b) := by rw [Nat.gcd_comm a b, Nat.gcd_rec b a, Nat.gcd_comm]
      rw [if_neg (fun z => nz0 ((lg_cmp_eq _ _).mp z)), decide_eq_true nz0, xchk_true, xlet_eq, pk_lRem (by omega) (by omega) (by omega), ih b (a % b) (by omega) hb (by omega) (by omega), e]
noncomputable def oddV (w : xI) (t n c s : Nat) : Nat → Nat → Nat → Nat
  | 0, _, g => g
  | m + 1, k, g => oddV w t n c s m (k + 1) (g + if (dayT w (cmD (s + k + 1) n) t n (-1) 0 10).testBit c = true then 1 else 0)
theorem oddV_le {w : xI} {t n c s : Nat} : ∀ (m k g : Nat), oddV w t n c s m k g ≤ g + m := by
  intro m
  induction m with
  | zero => intro k g; exact Nat.le_refl _
  | succ m ih =>
    intro k g
    have := ih (k + 1) (g + if (dayT w (cmD (s + k + 1) n) t n (-1) 0 10).testBit c = true then 1 else 0)
    show oddV w t n c s m (k + 1) (g + if (dayT w (cmD (s + k + 1) n) t n (-1) 0 10).testBit c = true then 1 else 0) ≤ _
    have h1 : (if (dayT w (cmD (s + k + 1) n) t n (-1) 0 10).testBit c = true then 1 else 0) ≤ 1 := by split <;> omega
    omega
theorem s_oddX {w : xI} (hR : Rel w) {t n c s S : Nat} (hn : n ≤ 10) (en : w 5 2 = nI n) (hc : c < 10) (ht : t < 6) (e4 : w 0 4 = nI t) (hX : TxB w t w) (hs : s ≤ 99999) (hS : S ≤ 10) (h1S : 1 ≤ S) (a4 : Int32) : ∀ (m k fu g : Nat) (u : xI), k + m = S → m < fu → g ≤ k → FrX w u → ∃ u', f_X10_odds_L48 fu (nI c) (nI s) (nI S) a4 (nI g) (nI k) u = some (if a4 = 0 then lN (oddV w t n c s m k g / Nat.gcd (oddV w t n c s m k g) S) else lN (S / Nat.gcd (oddV w t n c s m k g) S), u') ∧ FrX w u' := by
  have hp := pw10 hn
  intro m
  induction m with
  | zero =>
    intro k fu g u h1 h2 hg hf
    obtain ⟨f, rfl⟩ : ∃ f, fu = f + 1 := ⟨fu - 1, by omega⟩
    refine ⟨u, ?_, hf⟩
    have hgp : 0 < Nat.gcd g S := Nat.gcd_pos_of_pos_right g (by omega)
    have hgl : Nat.gcd g S ≤ S := Nat.gcd_le_right g (by omega)
    have nz : decide (¬ nI (Nat.gcd g S) = 0) = true := decide_eq_true (nI_ne0 (by omega) (by omega))
    have d1 : g / Nat.gcd g S ≤ g := Nat.div_le_self _ _
    have d2 : S / Nat.gcd g S ≤ S := Nat.div_le_self _ _
    rw [f_X10_odds_L48, if_pos (nI_le (by omega) (by omega))]
    unfold f_X10_commonDivisor
    rw [s_comD (n := g) (s := S) (by omega) hS h1S u S 2000 (by omega) (Nat.le_refl _) hgl, xbind_some, nz, xchk_true, xchk_true, pk_div (by omega) (by omega) (by omega), pk_div (by omega) (by omega) (by omega), nI_l (by omega), nI_l (by omega)]
    by_cases d : a4 = 0
    · rw [if_pos d, if_pos d]; rfl
    · rw [if_neg d, if_neg d]; rfl
  | succ m ih =>
    intro k fu g u h1 h2 hg hf
    obtain ⟨f, rfl⟩ : ∃ f, fu = f + 1 := ⟨fu - 1, by omega⟩
    obtain ⟨u1, r1, r2, r3⟩ := s_runD (γ := Int64 × xI) (s := s + k) hR hn en ht e4 hX (by omega) hf
    have hT := dayT_lt w (cmD (s + k + 1) n) t n (-1) 0 10
    have er : oddV w t n c s (m + 1) k g = oddV w t n c s m (k + 1) (g + if (dayT w (cmD (s + k + 1) n) t n (-1) 0 10).testBit c = true then 1 else 0) := rfl
    rw [f_X10_odds_L48, if_neg (nI_ge (by omega) (by omega)), nI_add, r1, r2.2.2.1, b_bit (by omega) (by omega), nI_1, er]
    simp only [xlet_eq]
    by_cases b : (dayT w (cmD (s + k + 1) n) t n (-1) 0 10).testBit c = true
    · rw [if_pos b, if_pos b, nI_1]; exact ih (k + 1) f (g + 1) u1 (by omega) (by omega) (by omega) r3
    · rw [if_neg b, if_neg b, Int32.add_zero]; exact ih (k + 1) f g u1 (by omega) (by omega) (by omega) r3
theorem s_oddM {w : xI} (hR : Rel w) {t n c s S : Nat} (hn : n ≤ 10) (en : w 5 2 = nI n) (hc : c < 10) (hs : s ≤ 99999) (hS : S ≤ 10) (h1S : 1 ≤ S) (a4 : Int32) (h4 : 0 ≤ a4 ∧ a4 ≤ 1) {u0 : xI} (hM0 : Mz w (w 7) t u0) (e58 : u0 71 58 = -1) (e59 : u0 71 59 = nI 0) : ∀ (m k fu g : Nat) (u : xI), k + m = S → m < fu → g ≤ k → FrD u0 u → ∃ u', f_X11_odds_L49 fu (nI c) (nI s) (nI S) a4 (lN g) (nI k) u = some (if a4 = 0 then lN (oddV w t n c s m k g / Nat.gcd (oddV w t n c s m k g) S) else lN (S / Nat.gcd (oddV w t n c s m k g) S), u') ∧ FrD u0 u' := by
  have hp := pw10 hn
  intro m
  induction m with
  | zero =>
    intro k fu g u h1 h2 hg hf
    obtain ⟨f, rfl⟩ : ∃ f, fu = f + 1 := ⟨fu - 1, by omega⟩
    refine ⟨u, ?_, hf⟩
    rw [f_X11_odds_L49, if_pos (nI_le (by omega) (by omega)), nI_l (by omega)]
    show xbind (f_X11_lowest (lN g) (lN S) a4 u) _ = some (if a4 = 0 then lN (g / Nat.gcd g S) else lN (S / Nat.gcd g S), u)
    unfold f_X11_lowest
    by_cases c0 : g = 0
    · subst c0
      rw [if_pos ((lg_cmp_eq _ _).mpr (show lN 0 = 0 from rfl)), xbind_some, Nat.gcd_zero_left, Nat.zero_div, Nat.div_self (by omega)]
      by_cases d : a4 = 0
      · rw [if_pos d, d]; rfl
      · rw [if_neg d]
        obtain ⟨x, hx, ex⟩ := nI_bd (n := 1) (by decide) h4.1 h4.2
        rcases (by omega : x = 0 ∨ x = 1) with q | q
        · exact absurd (by rw [ex, q]; rfl) d
        · rw [ex, q]; rfl
    · have nz0 : ¬ lN g = 0 := fun z => by have := (lN_eq (b := 0) (by omega) (by decide)).mp z; omega
      rw [if_neg (fun z => nz0 ((lg_cmp_eq _ _).mp z)), s_euc (by omega) (by omega) a4 u 2000 g S (by omega) (by omega) (by omega) (by omega), xbind_some]
  | succ m ih =>
    intro k fu g u h1 h2 hg hf
    obtain ⟨f, rfl⟩ : ∃ f, fu = f + 1 := ⟨fu - 1, by omega⟩
    obtain ⟨u1, q1, q2, q3, q4⟩ := s_drawsM (γ := Int64 × xI) (s := s + k) hR hn en (by omega) (hf.mz hM0) (by rw [hf.2 58 (by omega)]; exact e58) (by rw [hf.2 59 (by omega)]; exact e59)
    have hT := dayT_lt w (cmD (s + k + 1) n) t n (-1) 0 10
    have er : oddV w t n c s (m + 1) k g = oddV w t n c s m (k + 1) (g + if (dayT w (cmD (s + k + 1) n) t n (-1) 0 10).testBit c = true then 1 else 0) := rfl
    rw [f_X11_odds_L49, if_neg (nI_ge (by omega) (by omega)), nI_add, q1, q2, b_bit (by omega) (by omega), nI_1, er]
    simp only [xlet_eq]
    by_cases b : (dayT w (cmD (s + k + 1) n) t n (-1) 0 10).testBit c = true
    · rw [if_pos b, if_pos b, show (1 : Int32).toInt64 = lN 1 from rfl, lN_add]; exact ih (k + 1) f (g + 1) u1 (by omega) (by omega) (by omega) (hf.tr q4)
    · rw [if_neg b, if_neg b, show (0 : Int32).toInt64 = lN 0 from rfl, lN_add]; exact ih (k + 1) f g u1 (by omega) (by omega) (by omega) (hf.tr q4)
theorem op_odds (a1 : Int32) (a2 : Int32) (a3 : Int32) (a4 : Int32) : OpL (f_X10_odds a1 a2 a3 a4) (f_X11_odds a1 a2 a3 a4) := by
  intro w hR
  obtain ⟨n, hn, en, em⟩ := hR.n
  obtain ⟨t, ht, e4, e15, hX⟩ := hR.law
  by_cases h1 : 0 ≤ a1 ∧ a1 < w 5 2
  · have h1m0 : 0 ≤ a1 ∧ a1 < w 71 3 := by rw [hR.yd.1]; exact h1
    by_cases h2 : 0 ≤ a2 ∧ a2 ≤ 99999
    · by_cases h3 : 1 ≤ a3 ∧ a3 ≤ 10
      · by_cases h4 : 0 ≤ a4 ∧ a4 ≤ 1
        · obtain ⟨c, hc, rfl, e1, e2, hlt⟩ := cart_ix hR h1
          obtain ⟨s, hs, rfl⟩ := nI_bd (n := 99999) (by decide) h2.1 h2.2
          obtain ⟨S, hS, rfl⟩ := nI_bd (n := 10) (by decide) (Int32_01 h3.1) h3.2
          have h1S : 1 ≤ S := (nI_leI (a := 1) (by omega) (by omega)).mp h3.1
          obtain ⟨w1, x1, x2⟩ := s_oddX hR hn en hc ht e4 hX hs hS h1S a4 S 0 2000 0 w (by omega) (by omega) (Nat.le_refl _) (FrX.rfl' w)
          obtain ⟨w2, y1, y2⟩ := s_oddM hR hn en hc hs hS h1S a4 h4 (hR.mz x2 e15 hX) (hR.sk x2).1 (hR.sk x2).2 S 0 2000 0 w1 (by omega) (by omega) (Nat.le_refl _) ⟨fun _ _ _ _ _ _ _ _ => rfl, fun _ _ => rfl⟩
          rw [nI_0] at x1 y1
          have h1m : 0 ≤ nI c ∧ nI c < w1 71 3 := by rw [x2 71 (by omega)]; exact h1m0
          refine ⟨if a4 = 0 then lN (oddV w t n c s S 0 0 / Nat.gcd (oddV w t n c s S 0 0) S) else lN (S / Nat.gcd (oddV w t n c s S 0 0) S), w1, w2, ?_, ?_, hR.endD x2 y2⟩
          · rw [f_X10_odds, s_has, if_pos h1, if_neg (by decide), s_seed, if_pos h2, if_neg (by decide), s_within, if_pos h3, if_neg (by decide), s_within, if_pos h4, if_neg (by decide)]; exact x1
          · rw [f_X11_odds, s_isCart _ _ (by rw [x2 71 (by omega)]; exact em) hn, if_pos h1m, if_neg (by decide), s_in, if_pos h2, if_neg (by decide), s_in, if_pos h3, if_neg (by decide), s_in, if_pos h4, if_neg (by decide), xlet_eq]; exact y1
        · exact ⟨-4611686018427387904, w, w, by rw [f_X10_odds, s_has, if_pos h1, if_neg (by decide), s_seed, if_pos h2, if_neg (by decide), s_within, if_pos h3, if_neg (by decide), s_within, if_neg h4, if_pos rfl], by rw [f_X11_odds, s_isCart _ _ em hn, if_pos h1m0, if_neg (by decide), s_in, if_pos h2, if_neg (by decide), s_in, if_pos h3, if_neg (by decide), s_in, if_neg h4, if_pos rfl], hR⟩
      · exact ⟨-4611686018427387904, w, w, by rw [f_X10_odds, s_has, if_pos h1, if_neg (by decide), s_seed, if_pos h2, if_neg (by decide), s_within, if_neg h3, if_pos rfl], by rw [f_X11_odds, s_isCart _ _ em hn, if_pos h1m0, if_neg (by decide), s_in, if_pos h2, if_neg (by decide), s_in, if_neg h3, if_pos rfl], hR⟩
    · exact ⟨-4611686018427387904, w, w, by rw [f_X10_odds, s_has, if_pos h1, if_neg (by decide), s_seed, if_neg h2, if_pos rfl], by rw [f_X11_odds, s_isCart _ _ em hn, if_pos h1m0, if_neg (by decide), s_in, if_neg h2, if_pos rfl], hR⟩
  · have h1m0 : ¬ (0 ≤ a1 ∧ a1 < w 71 3) := by rw [hR.yd.1]; exact h1
    exact ⟨-4611686018427387904, w, w, by rw [f_X10_odds, s_has, if_neg h1, if_pos rfl], by rw [f_X11_odds, s_isCart _ _ em hn, if_neg h1m0, if_pos rfl], hR⟩
