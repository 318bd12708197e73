-- ===== when a cart should come =====
theorem dayE_bd {w : xI} {cm : Nat → Int32} (hY : YdB w cm) {t n : Nat} {sk : Int32} {ab : Nat} (hn : n ≤ 10) : ∀ k, k ≤ 10 → 0 ≤ (dayE w cm t n sk ab k).toInt ∧ (dayE w cm t n sk ab k).toInt ≤ 1980 * k := by
  intro k
  induction k with
  | zero => intro _; exact ⟨Int.le_refl _, Int.le_refl _⟩
  | succ k ih =>
    intro hk
    obtain ⟨i1, i2⟩ := ih (by omega)
    have e : dayE w cm t n sk ab (k + 1) = if dayS w cm t n sk ab k = 0 then dayE w cm t n sk ab k else dayE w cm t n sk ab k + dayB w cm t n sk ab k := rfl
    rw [e]
    by_cases c : dayS w cm t n sk ab k = 0
    · rw [if_pos c]; omega
    · rw [if_neg c]
      have hb : 0 ≤ (dayB w cm t n sk ab k).toInt ∧ (dayB w cm t n sk ab k).toInt ≤ 1980 := by
        unfold dayB
        rcases bestB_inv w cm t k n (dayT w cm t n sk ab k ||| ab) with g | g
        · rw [g]; exact ⟨Int.le_refl _, by decide⟩
        · obtain ⟨g1, g2, g3, g4, g5, g6⟩ := g
          have q := brS_bd hY (t := t) (h := k) (n := n) (S := (bestB w cm t k n (dayT w cm t n sk ab k ||| ab)).1) (by omega) hn
          have q2 := i_lt.mp g6
          rw [g5] at q2 ⊢
          have z : (0 : Int32).toInt = 0 := rfl
          omega
      rw [t_add rfl rfl (by omega) (by omega)]
      omega
noncomputable def brgV (w : xI) (t n c : Nat) : Nat → Nat → Int32 → Int32 → Int32 × Int32
  | 0, _, b, v => (b, v)
  | m + 1, h, b, v => if dayE w (upd (w 7) c (nI h)) t n (-1) 0 10 < v then brgV w t n c m (h + 1) b v else brgV w t n c m (h + 1) (nI h) (dayE w (upd (w 7) c (nI h)) t n (-1) 0 10)
theorem ydB_upd {w : xI} (hR : Rel w) (c : Nat) {h : Nat} (hh : h ≤ 9) : YdB w (upd (w 7) c (nI h)) := by
  obtain ⟨a, b, d⟩ := hR.ydB
  refine ⟨a, fun i hi => ?_, d⟩
  by_cases e : i = c
  · rw [e, upd_s]; exact ⟨nI_pos' (by omega), nI_le (b := 9) (by omega) (by omega)⟩
  · rw [upd_n _ _ e]; exact b i hi
theorem s_brgX {w : xI} (hR : Rel w) {t n c : Nat} (hn : n ≤ 10) (en : w 5 2 = nI n) (hc : c < 10) (ht : t < 6) (e4 : w 0 4 = nI t) (hX : TxB w t w) (v2 : Int32) : ∀ (m h fu : Nat) (b v : Int32) (u : xI), h + m = 10 → m < fu → FrX w u → (∀ i, i < 10 → i ≠ c → u 29 i = w 7 i) → ∃ u', f_X10_bring_L41 fu (nI c) v2 b v (nI h) u = some (if v2 = 0 then (brgV w t n c m h b v).1 else (brgV w t n c m h b v).2, u') ∧ FrX w u' := by
  intro m
  induction m with
  | zero =>
    intro h fu b v u h1 h2 hf e29
    obtain ⟨f, rfl⟩ : ∃ f, fu = f + 1 := ⟨fu - 1, by omega⟩
    refine ⟨u, ?_, hf⟩
    rw [f_X10_bring_L41, if_pos (show (10 : Int32) ≤ nI h from nI_le (a := 10) (by omega) (by omega))]
    by_cases g : v2 = 0
    · rw [if_pos g, if_pos g]; rfl
    · rw [if_neg g, if_neg g]; rfl
  | succ m ih =>
    intro h fu b v u h1 h2 hf e29
    obtain ⟨f, rfl⟩ : ∃ f, fu = f + 1 := ⟨fu - 1, by omega⟩
    have fz : FrX w (xup u 29 c (nI h)) := fun k hk => by rw [xup_ne _ _ _ (by omega)]; exact hf k hk
    have z29 : ∀ i, i < 10 → xup u 29 c (nI h) 29 i = upd (w 7) c (nI h) i := fun i hi => by rw [xup_same]; exact upd_cg (fun e => e29 i hi e) rfl
    obtain ⟨u1, r1, r2, r3, r4⟩ := s_dayX (γ := Int32 × xI) (sk := -1) (ab := 0) (C := 1023) (N := 10) hR (ydB_upd hR c (by omega)) hn en (by decide) (by decide) (free0 hn) fz (fun c hc => z29 c (by omega)) hX
    have er : brgV w t n c (m + 1) h b v = if dayE w (upd (w 7) c (nI h)) t n (-1) 0 10 < v then brgV w t n c m (h + 1) b v else brgV w t n c m (h + 1) (nI h) (dayE w (upd (w 7) c (nI h)) t n (-1) 0 10) := rfl
    have pre : f_X10_bring_L41 (f + 1) (nI c) v2 b v (nI h) u = if dayE w (upd (w 7) c (nI h)) t n (-1) 0 10 < v then f_X10_bring_L41 f (nI c) v2 b v (nI (h + 1)) u1 else f_X10_bring_L41 f (nI c) v2 (nI h) (dayE w (upd (w 7) c (nI h)) t n (-1) 0 10) (nI (h + 1)) u1 := by
      rw [f_X10_bring_L41, if_neg (show ¬ (10 : Int32) ≤ nI h from nI_ge (b := 10) (by omega) (by omega)), xin_nI hc (by decide), xchk_true, nI_clamp (by omega), s_law ht (by rw [fz 0 (by omega)]; exact e4), isTxt ht, xchk_true]
      refine (r1 _).trans ?_
      rw [r2.2.1, nI_1]; rfl
    rw [pre, er]
    have e29' : ∀ i, i < 10 → i ≠ c → u1 29 i = w 7 i := fun i hi e => by rw [r4, z29 i hi, upd_n _ _ e]
    by_cases g : dayE w (upd (w 7) c (nI h)) t n (-1) 0 10 < v
    · rw [if_pos g, if_pos g]; exact ih (h + 1) f b v u1 (by omega) (by omega) r3 e29'
    · rw [if_neg g, if_neg g]; exact ih (h + 1) f _ _ u1 (by omega) (by omega) r3 e29'
/-- the model's day, and when one cart comes, has changed -/
def FrC (c : Nat) (u u' : xI) : Prop := (∀ q, q ≠ 71 → q ≠ 79 → q ≠ 93 → q ≠ 94 → q ≠ 95 → q ≠ 99 → q ≠ 100 → u' q = u q) ∧ (∀ j, j < 40 ∨ 57 < j → u' 71 j = u 71 j) ∧ ∀ i, i ≠ c → u' 79 i = u 79 i
theorem FrC.tr {c : Nat} {u v z : xI} (h1 : FrC c u v) (h2 : FrC c v z) : FrC c u z := ⟨fun q a b d e f g i => (h2.1 q a b d e f g i).trans (h1.1 q a b d e f g i), fun j hj => (h2.2.1 j hj).trans (h1.2.1 j hj), fun i hi => (h2.2.2 i hi).trans (h1.2.2 i hi)⟩
theorem FrL.frC {c : Nat} {u v : xI} (h : FrL u v) : FrC c u v := ⟨fun q a _ b d e f g => h.1 q a b d e f g, h.2, fun i _ => by rw [h.1 79 (by decide) (by decide) (by decide) (by decide) (by decide) (by decide)]⟩
theorem FrC.up {c : Nat} {u : xI} {x : Int32} : FrC c u (xup u 79 c x) := ⟨fun q _ b _ _ _ _ _ => xup_ne _ _ _ b, fun j _ => by rw [xup_ne _ _ _ (by decide)], fun i hi => by rw [xup_same, upd_n _ _ hi]⟩
theorem FrC.mz {w : xI} {c : Nat} {t : Nat} {u u' : xI} {x : Int32} (hf : FrC c u u') (h : Mz w (w 7) t u) (hx : u' 79 c = x) : Mz w (upd (w 7) c x) t u' := by
  obtain ⟨⟨a1, a2⟩, b, d, e, f, g⟩ := h
  obtain ⟨f1, f2, f3⟩ := hf
  have ht := d.1
  have k : ∀ q, (40 ≤ q ∧ q ≤ 61) ∨ (72 ≤ q ∧ q ≤ 78) ∨ q = 81 ∨ q = 82 → u' q = u q := fun q hq => f1 q (by omega) (by omega) (by omega) (by omega) (by omega) (by omega) (by omega)
  refine ⟨⟨by rw [f2 3 (by omega)]; exact a1, fun i hi => ?_⟩, by rw [f2 15 (by omega)]; exact b, d.cg (k _ (by omega)) (k _ (by omega)) (k _ (by omega)) (k _ (by omega)), by rw [k 72 (by omega)]; exact e, by rw [f2 1 (by omega)]; exact f, by rw [k 73 (by omega)]; exact g⟩
  obtain ⟨y0, y1, y2, y3, y4, y5⟩ := a2 i hi
  rw [k 74 (by omega), k 75 (by omega), k 76 (by omega), k 77 (by omega), k 78 (by omega)]
  refine ⟨y0, y1, y2, y3, y4, fun hg => ?_⟩
  by_cases q : i = c
  · rw [q, upd_s]; exact hx
  · rw [upd_n _ _ q, f3 i q]; exact y5 hg
theorem s_brgM {w u0 : xI} (hR : Rel w) {t n c : Nat} (hn : n ≤ 10) (en : w 5 2 = nI n) (hc : c < 10) (v2 : Int32) (hM0 : Mz w (w 7) t u0) (e58 : u0 71 58 = -1) (e59 : u0 71 59 = nI 0) : ∀ (m h fu : Nat) (b v : Int32) (u : xI), h + m = 10 → m < fu → FrC c u0 u → ∃ u', f_X11_bring_L41 fu (nI c) v2 (u0 79 c) b v (nI h) u = some (if v2 = 0 then (brgV w t n c m h b v).1 else (brgV w t n c m h b v).2, u') ∧ FrC c u0 u' ∧ u' 79 = u0 79 := by
  intro m
  induction m with
  | zero =>
    intro h fu b v u h1 h2 hf
    obtain ⟨f, rfl⟩ : ∃ f, fu = f + 1 := ⟨fu - 1, by omega⟩
    refine ⟨xup u 79 c (u0 79 c), ?_, hf.tr FrC.up, ?_⟩
    · rw [f_X11_bring_L41, if_pos (show (10 : Int32) ≤ nI h from nI_le (a := 10) (by omega) (by omega)), xin_nI hc (by decide), xchk_true, nI_clamp (by omega)]
      by_cases g : v2 = 0
      · rw [if_pos g, if_pos g]; rfl
      · rw [if_neg g, if_neg g]; rfl
    · funext i
      rw [xup_same]
      by_cases e : i = c
      · rw [e, upd_s]
      · rw [upd_n _ _ e, hf.2.2 i e]
  | succ m ih =>
    intro h fu b v u h1 h2 hf
    obtain ⟨f, rfl⟩ : ∃ f, fu = f + 1 := ⟨fu - 1, by omega⟩
    have fz : FrC c u0 (xup u 79 c (nI h)) := hf.tr FrC.up
    have Mzz : Mz w (upd (w 7) c (nI h)) t (xup u 79 c (nI h)) := fz.mz hM0 (by rw [xup_same, upd_s])
    obtain ⟨u1, r1, r2, r3⟩ := s_earned (γ := Int32 × xI) (sk := -1) (ab := 0) hR (ydB_upd hR c (by omega)) hn (by decide) en Mzz (by rw [fz.2.1 58 (by omega)]; exact e58) (by rw [fz.2.1 59 (by omega)]; exact e59)
    have er : brgV w t n c (m + 1) h b v = if dayE w (upd (w 7) c (nI h)) t n (-1) 0 10 < v then brgV w t n c m (h + 1) b v else brgV w t n c m (h + 1) (nI h) (dayE w (upd (w 7) c (nI h)) t n (-1) 0 10) := rfl
    rw [f_X11_bring_L41, if_neg (show ¬ (10 : Int32) ≤ nI h from nI_ge (b := 10) (by omega) (by omega)), xin_nI hc (by decide), xchk_true, nI_clamp (by omega), r1, er, nI_1]
    simp only [xlet_eq]
    by_cases g : dayE w (upd (w 7) c (nI h)) t n (-1) 0 10 < v
    · rw [if_pos g, if_pos g, if_pos g]; exact ih (h + 1) f b v u1 (by omega) (by omega) (fz.tr r2.frC)
    · rw [if_neg g, if_neg g, if_neg g]; exact ih (h + 1) f _ _ u1 (by omega) (by omega) (fz.tr r2.frC)
theorem brg_first {w : xI} (hR : Rel w) {t n c : Nat} (hn : n ≤ 10) : brgV w t n c 10 0 0 0 = brgV w t n c 10 0 0 (-100000) := by
  have hb := (dayE_bd (ydB_upd hR c (h := 0) (by omega)) (t := t) (sk := -1) (ab := 0) hn 10 (by omega)).1
  have e1 : brgV w t n c 10 0 0 0 = if dayE w (upd (w 7) c (nI 0)) t n (-1) 0 10 < 0 then brgV w t n c 9 1 0 0 else brgV w t n c 9 1 (nI 0) (dayE w (upd (w 7) c (nI 0)) t n (-1) 0 10) := rfl
  have e2 : brgV w t n c 10 0 0 (-100000) = if dayE w (upd (w 7) c (nI 0)) t n (-1) 0 10 < -100000 then brgV w t n c 9 1 0 (-100000) else brgV w t n c 9 1 (nI 0) (dayE w (upd (w 7) c (nI 0)) t n (-1) 0 10) := rfl
  rw [e1, e2, if_neg (fun z => by have := i_lt.mp z; have : (0 : Int32).toInt = 0 := rfl; omega), if_neg (fun z => by have := i_lt.mp z; have : (-100000 : Int32).toInt = -100000 := rfl; omega)]
theorem op_bring (a1 : Int32) (a2 : Int32) : OpI (f_X10_bring a1 a2) (f_X11_bring a1 a2) := by
  intro w hR
  obtain ⟨n, hn, en, em⟩ := hR.n
  obtain ⟨t, ht, e4, e15, hX⟩ := hR.law
  by_cases h1 : 0 ≤ a1 ∧ a1 < w 5 2
  · have h1m0 : 0 ≤ a1 ∧ a1 < w 71 3 := by rw [hR.yd.1]; exact h1
    by_cases h2 : 0 ≤ a2 ∧ a2 ≤ 1
    · obtain ⟨c, hc, rfl, e1, e2, hlt⟩ := cart_ix hR h1
      obtain ⟨z, z1, z2, z3⟩ := s_take (γ := Int32 × xI) w
      have fz : FrX w z := fun k hk => z2 k (by omega)
      obtain ⟨w1, x1, x2⟩ := s_brgX hR hn en hc ht e4 hX a2 10 0 2000 0 0 z (by omega) (by omega) fz (fun i hi _ => z3 i hi)
      obtain ⟨w2, y1, y2, y3⟩ := s_brgM (u0 := w1) hR hn en hc a2 (hR.mz x2 e15 hX) (hR.sk x2).1 (hR.sk x2).2 10 0 2000 0 (-100000) w1 (by omega) (by omega) ⟨fun _ _ _ _ _ _ _ _ => rfl, fun _ _ => rfl, fun _ _ => rfl⟩
      rw [nI_0] at x1 y1
      have h1m : 0 ≤ nI c ∧ nI c < w1 71 3 := by rw [x2 71 (by omega)]; exact h1m0
      refine OpI.q (if a2 = 0 then (brgV w t n c 10 0 0 (-100000)).1 else (brgV w t n c 10 0 0 (-100000)).2) w1 w2 ?_ ?_ (hR.fr (fun k hk h71 => ?_) (fun j hj => ?_))
      · rw [f_X10_bring, s_has, if_pos h1, if_neg (by decide), s_within, if_pos h2, if_neg (by decide), z1, ← brg_first hR hn]; exact x1
      · rw [f_X11_bring, s_isCart _ _ (by rw [x2 71 (by omega)]; exact em) hn, if_pos h1m, if_neg (by decide), s_in, if_pos h2, if_neg (by decide), e1, xchk_true, xlet_eq, e2]; exact y1
      · unfold scrN at hk
        by_cases e : k = 79
        · rw [e, y3, x2 79 (by omega)]
        · rw [y2.1 k h71 e (by omega) (by omega) (by omega) (by omega) (by omega), x2 k (by omega)]
      · rw [y2.2.1 j (by omega), x2 71 (by omega)]
    · exact OpI.q (-7) w w (by rw [f_X10_bring, s_has, if_pos h1, if_neg (by decide), s_within, if_neg h2, if_pos rfl]) (by rw [f_X11_bring, s_isCart _ _ em hn, if_pos h1m0, if_neg (by decide), s_in, if_neg h2, if_pos rfl]) hR
  · have h1m : ¬ (0 ≤ a1 ∧ a1 < w 71 3) := by rw [hR.yd.1]; exact h1
    exact OpI.q (-5) w w (by rw [f_X10_bring, s_has, if_neg h1, if_pos rfl]) (by rw [f_X11_bring, s_isCart _ _ em hn, if_neg h1m, if_pos rfl]) hR
