theorem s_till {γ : Type} {w : xI} (hR : Rel w) {t n : Nat} (hn : n ≤ 10) (en : w 5 2 = nI n) (ht : t < 6) (e4 : w 0 4 = nI t) (hX : TxB w t w) : ∃ u', (∀ (K : Unit → xI → Option γ), xbind (f_X10_runTillDusk w) K = K () u') ∧ DayX w (w 7) t n (-1) 0 10 u' ∧ FrX w u' ∧ ∀ c, c < 10 → u' 29 c = w 7 c := by
  obtain ⟨z, z1, z2, z3⟩ := s_take (γ := Unit × xI) w
  have fz : FrX w z := fun k hk => z2 k (by omega)
  obtain ⟨w1, r1, r2, r3, r4⟩ := s_dayX (γ := Unit × xI) (sk := -1) (ab := 0) (C := 1023) (N := 10) hR hR.ydB hn en (by decide) (by decide) (free0 hn) fz (fun c hc => z3 c (by omega)) hX
  refine ⟨w1, fun K => ?_, r2, r3, fun c hc => by rw [r4]; exact z3 c hc⟩
  have e : f_X10_runTillDusk w = some ((), w1) := by
    unfold f_X10_runTillDusk
    rw [z1, s_law ht (by rw [z2 0 (by decide)]; exact e4), isTxt ht, xchk_true]
    exact r1 _
  rw [e, xbind_some]
theorem row_hour {w : xI} {cm : Nat → Int32} {t n : Nat} {sk : Int32} {ab : Nat} : ∀ k r, r < dayR w cm t n sk ab k → ∃ h, h < k ∧ dayS w cm t n sk ab h ≠ 0 ∧ dayR w cm t n sk ab h = r := by
  intro k
  induction k with
  | zero => intro r hr; exact absurd hr (Nat.not_lt_zero r)
  | succ k ih =>
    intro r hr
    have hr' : r < (if dayS w cm t n sk ab k = 0 then dayR w cm t n sk ab k else dayR w cm t n sk ab k + 1) := hr
    by_cases c : dayS w cm t n sk ab k = 0
    · rw [if_pos c] at hr'
      obtain ⟨h, a, b, d⟩ := ih r hr'
      exact ⟨h, by omega, b, d⟩
    · rw [if_neg c] at hr'
      by_cases e : r = dayR w cm t n sk ab k
      · exact ⟨k, by omega, c, e.symm⟩
      · obtain ⟨h, a, b, d⟩ := ih r (by omega)
        exact ⟨h, by omega, b, d⟩
theorem s_hourL {w : xI} {cm : Nat → Int32} {t n : Nat} {sk : Int32} {ab : Nat} (hn : n ≤ 10) {u : xI} (hD : DayX w cm t n sk ab 10 u) {c : Nat} (hc : c < 10) : ∀ (m r fu : Nat), r + m = dayR w cm t n sk ab 10 → m < fu → (∀ h, h < 10 → dayS w cm t n sk ab h ≠ 0 → dayR w cm t n sk ab h < r → (dayS w cm t n sk ab h).testBit c = false) → f_X1_hourOf_L2 fu (nI c) (nI r) u = some (dayG w cm t n sk ab c 10, u) := by
  have hp := pw10 hn
  have hR10 := dayR_le w cm t n sk ab 10
  obtain ⟨d5, d6, d7, d8, d9, dr⟩ := hD
  intro m
  induction m with
  | zero =>
    intro r fu h1 h2 hno
    obtain ⟨f, rfl⟩ : ∃ f, fu = f + 1 := ⟨fu - 1, by omega⟩
    rw [f_X1_hourOf_L2, d5, if_pos (nI_le (by omega) (by omega)), dayG_no 10 ?_]
    cases e : (dayT w cm t n sk ab 10).testBit c
    · rfl
    · obtain ⟨h, a, b⟩ := dayT_ex 10 e
      have hs : dayS w cm t n sk ab h ≠ 0 := fun z => by rw [z, Nat.zero_testBit] at b; exact absurd b (by decide)
      have := hno h a hs (by have := dayR_mono w cm t n sk ab 10 a hs; omega)
      rw [b] at this; exact absurd this (by decide)
  | succ m ih =>
    intro r fu h1 h2 hno
    obtain ⟨f, rfl⟩ : ∃ f, fu = f + 1 := ⟨fu - 1, by omega⟩
    obtain ⟨h, a, b, d⟩ := row_hour (w := w) (cm := cm) (t := t) (n := n) (sk := sk) (ab := ab) 10 r (by omega)
    obtain ⟨g1, g2⟩ := dr h a b
    rw [d] at g1 g2
    have hS := dayS_lt w cm t n sk ab h
    rw [f_X1_hourOf_L2, d5, if_neg (nI_ge (by omega) (by omega)), xin_nI (by omega) (by decide), nI_clamp (by omega), g1, g2, nI_1]
    simp only [xchk_true, xlet_eq]
    by_cases e : (dayS w cm t n sk ab h).testBit c = true
    · rw [if_pos ((b_on (by omega) (by omega)).mpr e), dayG_of e 10 a]
    · rw [if_neg (fun z => e ((b_on (by omega) (by omega)).mp z))]
      refine ih (r + 1) f (by omega) (by omega) (fun h' a' b' d' => ?_)
      by_cases q : dayR w cm t n sk ab h' = r
      · have eh : h' = h := by
          rcases Nat.lt_trichotomy h' h with l | l | l
          · have := dayR_mono w cm t n sk ab h l b'; omega
          · exact l
          · have := dayR_mono w cm t n sk ab h' l b; omega
        rw [eh]; simpa using e
      · exact hno h' a' b' (by omega)
theorem s_setL {w : xI} {cm : Nat → Int32} {t n : Nat} {sk : Int32} {ab : Nat} {u : xI} (hD : DayX w cm t n sk ab 10 u) {h0 : Nat} (hh : h0 < 10) : ∀ (m r fu : Nat), r + m = dayR w cm t n sk ab 10 → m < fu → (dayS w cm t n sk ab h0 ≠ 0 → r ≤ dayR w cm t n sk ab h0) → f_X1_setAt_L2 fu (nI h0) (nI r) u = some (nI (dayS w cm t n sk ab h0), u) := by
  have hR10 := dayR_le w cm t n sk ab 10
  obtain ⟨d5, d6, d7, d8, d9, dr⟩ := hD
  intro m
  induction m with
  | zero =>
    intro r fu h1 h2 hno
    obtain ⟨f, rfl⟩ : ∃ f, fu = f + 1 := ⟨fu - 1, by omega⟩
    rw [f_X1_setAt_L2, d5, if_pos (nI_le (by omega) (by omega))]
    by_cases c : dayS w cm t n sk ab h0 = 0
    · rw [c]; rfl
    · have := hno c
      have := dayR_mono w cm t n sk ab 10 hh c
      omega
  | succ m ih =>
    intro r fu h1 h2 hno
    obtain ⟨f, rfl⟩ : ∃ f, fu = f + 1 := ⟨fu - 1, by omega⟩
    obtain ⟨h, a, b, d⟩ := row_hour (w := w) (cm := cm) (t := t) (n := n) (sk := sk) (ab := ab) 10 r (by omega)
    obtain ⟨g1, g2⟩ := dr h a b
    rw [d] at g1 g2
    rw [f_X1_setAt_L2, d5, if_neg (nI_ge (by omega) (by omega)), xin_nI (by omega) (by decide), nI_clamp (by omega), g1, g2, nI_1]
    simp only [xchk_true, xlet_eq]
    by_cases e : h = h0
    · subst e; rw [if_pos rfl]
    · rw [if_neg (fun z => e ((nI_eq (by omega) (by omega)).mp z))]
      refine ih (r + 1) f (by omega) (by omega) (fun hs => ?_)
      have g := hno hs
      by_cases q : dayR w cm t n sk ab h0 = r
      · exfalso
        rcases Nat.lt_trichotomy h0 h with l | l | l
        · have := dayR_mono w cm t n sk ab h l hs; omega
        · exact e l.symm
        · have := dayR_mono w cm t n sk ab h0 l b; omega
      · omega
theorem op_goes (a1 : Int32) (a2 : Int32) : OpI (f_X10_goes a1 a2) (f_X11_goes a1 a2) := by
  intro w hR
  obtain ⟨n, hn, en, em⟩ := hR.n
  obtain ⟨t, ht, e4, e15, hX⟩ := hR.law
  have hY := hR.ydB
  by_cases h1 : 0 ≤ a2 ∧ a2 ≤ 1
  · obtain ⟨w1, r1, r2, r3, r4⟩ := s_till (γ := Int32 × xI) hR hn en ht e4 hX
    obtain ⟨w2, q1, ⟨q2, q3, q4, q5, q6⟩, q7, q8⟩ := s_livesM (γ := Int32 × xI) (ab := 0) (N := 10) hR hY hn (by decide) en (by decide) (hR.mz r3 e15 hX) (hR.sk r3).1 (hR.sk r3).2
    have hRe : Rel w2 := hR.endL r3 q7
    have em1 : w1 71 3 = nI n := by rw [r3 71 (by omega)]; exact em
    by_cases c0 : a2 = 0
    · by_cases h2 : 0 ≤ a1 ∧ a1 < w 5 2
      · obtain ⟨c, hc, rfl, e1, e2, hlt⟩ := cart_ix hR h2
        have h2m : 0 ≤ nI c ∧ nI c < w1 71 3 := by rw [em1, ← en]; exact h2
        rw [en] at hlt
        have hcn : c < n := (nI_ltI (by omega) (by omega)).mp hlt
        have gx := s_hourL hn r2 hc (dayR w (w 7) t n (-1) 0 10) 0 2000 (by omega) (by have := dayR_le w (w 7) t n (-1) 0 10; omega) (fun h _ _ z => absurd z (Nat.not_lt_zero _))
        rw [nI_0] at gx
        refine OpI.q (dayG w (w 7) t n (-1) 0 c 10) w1 w2 ?_ ?_ hRe
        · rw [f_X10_goes, s_within, if_pos h1, if_neg (by decide), if_pos c0, s_has, if_pos h2]
          unfold f_X10_goes_L31 f_X1_hourOf
          rw [if_neg (by decide), r1, if_pos c0, gx, xbind_some]
        · rw [f_X11_goes, s_in, if_pos h1, if_neg (by decide), if_pos c0, s_isCart _ _ em1 hn, if_pos h2m, if_neg (by decide)]
          unfold f_X11_goes_L37
          refine (q1 _).trans ?_
          rw [if_pos c0, e1, xchk_true, e2, q6 c hcn]
      · have h2m : ¬ (0 ≤ a1 ∧ a1 < w 71 3) := by rw [hR.yd.1]; exact h2
        exact OpI.q (-5) w w (by rw [f_X10_goes, s_within, if_pos h1, if_neg (by decide), if_pos c0, s_has, if_neg h2]; rfl) (by rw [f_X11_goes, s_in, if_pos h1, if_neg (by decide), if_pos c0, s_isCart _ _ em hn, if_neg h2m, if_pos rfl]) hR
    · by_cases h2 : 0 ≤ a1 ∧ a1 ≤ 9
      · obtain ⟨h, hh, rfl⟩ := nI_bd (n := 9) (by decide) h2.1 h2.2
        have gx := s_setL r2 (h0 := h) (by omega) (dayR w (w 7) t n (-1) 0 10) 0 2000 (by omega) (by have := dayR_le w (w 7) t n (-1) 0 10; omega) (fun _ => Nat.zero_le _)
        rw [nI_0] at gx
        refine OpI.q (nI (dayS w (w 7) t n (-1) 0 h)) w1 w2 ?_ ?_ hRe
        · rw [f_X10_goes, s_within, if_pos h1, if_neg (by decide), if_neg c0, s_hourX, if_pos h2]
          unfold f_X10_goes_L31 f_X1_setAt
          rw [if_neg (by decide), r1, if_neg c0, gx, xbind_some]
        · rw [f_X11_goes, s_in, if_pos h1, if_neg (by decide), if_neg c0, s_hourM, if_pos h2, if_neg (by decide)]
          unfold f_X11_goes_L37
          refine (q1 _).trans ?_
          rw [if_neg c0, xin_nI (by omega) (by decide), xchk_true, nI_clamp (by omega), q5 h (by omega), if_pos (by omega)]
      · exact OpI.q (-5) w w (by rw [f_X10_goes, s_within, if_pos h1, if_neg (by decide), if_neg c0, s_hourX, if_neg h2]; rfl) (by rw [f_X11_goes, s_in, if_pos h1, if_neg (by decide), if_neg c0, s_hourM, if_neg h2, if_pos rfl]) hR
  · exact OpI.q (-2) w w (by rw [f_X10_goes, s_within, if_neg h1, if_pos rfl]) (by rw [f_X11_goes, s_in, if_neg h1, if_pos rfl]) hR
-- ===== an hour to hold back, what a cart is worth =====
theorem Mz.cg {w : xI} {cm : Nat → Int32} {t : Nat} {u u' : xI} (h : Mz w cm t u) (hk : ∀ q, (40 ≤ q ∧ q ≤ 61) ∨ (72 ≤ q ∧ q ≤ 79) ∨ q = 81 ∨ q = 82 → u' q = u q) (hj : ∀ j, j < 40 → u' 71 j = u 71 j) : Mz w cm t u' := by
  obtain ⟨⟨a1, a2⟩, b, c, d, e, f⟩ := h
  have ht := c.1
  refine ⟨⟨by rw [hj 3 (by decide)]; exact a1, fun i hi => ?_⟩, by rw [hj 15 (by decide)]; exact b, c.cg (hk _ (by omega)) (hk _ (by omega)) (hk _ (by omega)) (hk _ (by omega)), by rw [hk 72 (by omega)]; exact d, by rw [hj 1 (by decide)]; exact e, by rw [hk 73 (by omega)]; exact f⟩
  rw [hk 74 (by omega), hk 75 (by omega), hk 76 (by omega), hk 77 (by omega), hk 78 (by omega), hk 79 (by omega)]
  exact a2 i hi
theorem FrL.mz {w : xI} {cm : Nat → Int32} {t : Nat} {u u' : xI} (hf : FrL u u') (h : Mz w cm t u) : Mz w cm t u' := h.cg (fun q hq => hf.1 q (by omega) (by omega) (by omega) (by omega) (by omega) (by omega)) (fun j hj => hf.2 j (by omega))
theorem s_earned {γ : Type} {w : xI} {cm : Nat → Int32} (hR : Rel w) (hY : YdB w cm) {t n : Nat} {sk : Int32} {ab : Nat} (hn : n ≤ 10) (hab : ab < 1024) (hwn : w 5 2 = nI n) {u : xI} (hM : Mz w cm t u) (e58 : u 71 58 = sk) (e59 : u 71 59 = nI ab) : ∃ u', (∀ (K : Int32 → xI → Option γ), xbind (f_X11_earnedBy u) K = K (dayE w cm t n sk ab 10) u') ∧ FrL u u' ∧ Mz w cm t u' := by
  obtain ⟨u', q1, q2, q3, q4⟩ := s_livesM (γ := Int32 × xI) (N := 10) hR hY hn hab hwn (by decide) hM e58 e59
  refine ⟨u', fun K => ?_, q3, q3.mz hM⟩
  have e : f_X11_earnedBy u = some (dayE w cm t n sk ab 10, u') := by
    unfold f_X11_earnedBy
    refine (q1 _).trans ?_
    rw [q2.2.1]
  rw [e, xbind_some]
/-- only the model's day and what is skipped has changed -/
def FrH (u u' : xI) : Prop := (∀ q, q ≠ 71 → q ≠ 93 → q ≠ 94 → q ≠ 95 → q ≠ 99 → q ≠ 100 → u' q = u q) ∧ ∀ j, j < 40 ∨ 59 < j → u' 71 j = u 71 j
theorem FrH.tr {u v z : xI} (h1 : FrH u v) (h2 : FrH v z) : FrH u z := ⟨fun q a b c d e f => (h2.1 q a b c d e f).trans (h1.1 q a b c d e f), fun j hj => (h2.2 j hj).trans (h1.2 j hj)⟩
theorem FrL.frH {u v : xI} (h : FrL u v) : FrH u v := ⟨h.1, fun j hj => h.2 j (by omega)⟩
theorem FrH.up {u : xI} {j : Nat} {x : Int32} (h1 : j = 58 ∨ j = 59) : FrH u (xup u 71 j x) := ⟨fun q a _ _ _ _ _ => xup_ne _ _ _ a, fun i hi => by rw [xup_same, upd_n _ _ (by omega)]⟩
theorem FrH.mz {w : xI} {cm : Nat → Int32} {t : Nat} {u u' : xI} (hf : FrH u u') (h : Mz w cm t u) : Mz w cm t u' := h.cg (fun q hq => hf.1 q (by omega) (by omega) (by omega) (by omega) (by omega) (by omega)) (fun j hj => hf.2 j (by omega))
theorem Rel.endH {w w1 w2 : xI} (hR : Rel w) (hf : FrX w w1) (hw : FrH w1 w2) (e58 : w2 71 58 = -1) (e59 : w2 71 59 = 0) : Rel w2 := by
  refine hR.fr (fun k hk h71 => ?_) (fun j hj => ?_)
  · unfold scrN at hk
    rw [hw.1 k h71 (by omega) (by omega) (by omega) (by omega) (by omega), hf k (by omega)]
  · rcases hj with hj | hj | hj
    · rw [hw.2 j (by omega), hf 71 (by omega)]
    · rw [hj, e58, hR.ct.2.1]
    · rw [hj, e59, hR.ct.2.2]
/-- the best hour to hold back -/
noncomputable def holdV (w : xI) (t n : Nat) : Nat → Nat → Int32 → Int32 → Int32 × Int32
  | 0, _, b, v => (b, v)
  | m + 1, h, b, v => if dayE w (w 7) t n (nI h) 0 10 ≤ v then holdV w t n m (h + 1) b v else holdV w t n m (h + 1) (nI h) (dayE w (w 7) t n (nI h) 0 10)
theorem s_holdX {w : xI} (hR : Rel w) {t n : Nat} (hn : n ≤ 10) (en : w 5 2 = nI n) (ht : t < 6) (e4 : w 0 4 = nI t) (hX : TxB w t w) (v1 : Int32) : ∀ (m h fu : Nat) (b v : Int32) (u : xI), h + m = 10 → m < fu → FrX w u → (∀ c, c < 10 → u 29 c = w 7 c) → ∃ u', f_X10_hold_L29 fu v1 b v (nI h) u = some (if v1 = 0 then (holdV w t n m h b v).1 else (holdV w t n m h b v).2, u') ∧ FrX w u' := by
  intro m
  induction m with
  | zero =>
    intro h fu b v u h1 h2 hf e29
    obtain ⟨f, rfl⟩ : ∃ f, fu = f + 1 := ⟨fu - 1, by omega⟩
    refine ⟨u, ?_, hf⟩
    rw [f_X10_hold_L29, if_pos (show (10 : Int32) ≤ nI h from nI_le (a := 10) (by omega) (by omega))]
    by_cases c : v1 = 0
    · rw [if_pos c, if_pos c]; rfl
    · rw [if_neg c, if_neg c]; rfl
  | succ m ih =>
    intro h fu b v u h1 h2 hf e29
    obtain ⟨f, rfl⟩ : ∃ f, fu = f + 1 := ⟨fu - 1, by omega⟩
    obtain ⟨u1, r1, r2, r3, r4⟩ := s_dayX (γ := Int32 × xI) (sk := nI h) (ab := 0) (C := 1023) (N := 10) hR hR.ydB hn en (by decide) (by decide) (free0 hn) hf (fun c hc => e29 c (by omega)) hX
    have er : holdV w t n (m + 1) h b v = if dayE w (w 7) t n (nI h) 0 10 ≤ v then holdV w t n m (h + 1) b v else holdV w t n m (h + 1) (nI h) (dayE w (w 7) t n (nI h) 0 10) := rfl
    have pre : f_X10_hold_L29 (f + 1) v1 b v (nI h) u = if dayE w (w 7) t n (nI h) 0 10 ≤ v then f_X10_hold_L29 f v1 b v (nI (h + 1)) u1 else f_X10_hold_L29 f v1 (nI h) (dayE w (w 7) t n (nI h) 0 10) (nI (h + 1)) u1 := by
      rw [f_X10_hold_L29, if_neg (show ¬ (10 : Int32) ≤ nI h from nI_ge (b := 10) (by omega) (by omega)), s_law ht (by rw [hf 0 (by omega)]; exact e4), isTxt ht, xchk_true]
      refine (r1 _).trans ?_
      rw [r2.2.1, nI_1]; rfl
    rw [pre, er]
    have e29' : ∀ c, c < 10 → u1 29 c = w 7 c := fun c hc => by rw [r4]; exact e29 c hc
    by_cases c : dayE w (w 7) t n (nI h) 0 10 ≤ v
    · rw [if_pos c, if_pos c]; exact ih (h + 1) f b v u1 (by omega) (by omega) r3 e29'
    · rw [if_neg c, if_neg c]; exact ih (h + 1) f _ _ u1 (by omega) (by omega) r3 e29'
theorem s_holdM {w : xI} (hR : Rel w) {t n : Nat} (hn : n ≤ 10) (en : w 5 2 = nI n) (v1 : Int32) : ∀ (m h fu : Nat) (b v : Int32) (u : xI), h + m = 10 → m < fu → Mz w (w 7) t u → u 71 59 = nI 0 → ∃ u', f_X11_hold_L22 fu v1 b v (nI h) u = some (if v1 = 0 then (holdV w t n m h b v).1 else (holdV w t n m h b v).2, u') ∧ FrH u u' ∧ u' 71 58 = -1 ∧ u' 71 59 = 0 := by
  intro m
  induction m with
  | zero =>
    intro h fu b v u h1 h2 hM e59
    obtain ⟨f, rfl⟩ : ∃ f, fu = f + 1 := ⟨fu - 1, by omega⟩
    refine ⟨xup u 71 58 (-1), ?_, FrH.up (Or.inl rfl), by rw [xup_same, upd_s], by rw [xup_same, upd_n _ _ (by decide), e59]; rfl⟩
    rw [f_X11_hold_L22, if_pos (show (10 : Int32) ≤ nI h from nI_le (a := 10) (by omega) (by omega))]
    by_cases c : v1 = 0
    · rw [if_pos c, if_pos c]; rfl
    · rw [if_neg c, if_neg c]; rfl
  | succ m ih =>
    intro h fu b v u h1 h2 hM e59
    obtain ⟨f, rfl⟩ : ∃ f, fu = f + 1 := ⟨fu - 1, by omega⟩
    have fz : FrH u (xup u 71 58 (nI h)) := FrH.up (Or.inl rfl)
    obtain ⟨u1, r1, r2, r3⟩ := s_earned (γ := Int32 × xI) (sk := nI h) (ab := 0) hR hR.ydB hn (by decide) en (fz.mz hM) (by rw [xup_same, upd_s]) (by rw [xup_same, upd_n _ _ (by decide)]; exact e59)
    have er : holdV w t n (m + 1) h b v = if dayE w (w 7) t n (nI h) 0 10 ≤ v then holdV w t n m (h + 1) b v else holdV w t n m (h + 1) (nI h) (dayE w (w 7) t n (nI h) 0 10) := rfl
    have e59' : u1 71 59 = nI 0 := by rw [r2.2 59 (by omega), xup_same, upd_n _ _ (by decide)]; exact e59
    rw [f_X11_hold_L22, if_neg (show ¬ (10 : Int32) ≤ nI h from nI_ge (b := 10) (by omega) (by omega)), r1, er, nI_1]
    simp only [xlet_eq]
    by_cases c : dayE w (w 7) t n (nI h) 0 10 ≤ v
    · rw [if_pos c, if_pos c, if_pos c]
      obtain ⟨u', p1, p2, p3⟩ := ih (h + 1) f b v u1 (by omega) (by omega) r3 e59'
      exact ⟨u', p1, fz.tr (r2.frH.tr p2), p3⟩
    · rw [if_neg c, if_neg c, if_neg c]
      obtain ⟨u', p1, p2, p3⟩ := ih (h + 1) f _ _ u1 (by omega) (by omega) r3 e59'
      exact ⟨u', p1, fz.tr (r2.frH.tr p2), p3⟩
theorem op_hold (a1 : Int32) : OpI (f_X10_hold a1) (f_X11_hold a1) := by
  intro w hR
  obtain ⟨n, hn, en, em⟩ := hR.n
  obtain ⟨t, ht, e4, e15, hX⟩ := hR.law
  by_cases h1 : 0 ≤ a1 ∧ a1 ≤ 1
  · obtain ⟨z1, r1, r2, r3, r4⟩ := s_till (γ := Int32 × xI) hR hn en ht e4 hX
    obtain ⟨w1, x1, x2⟩ := s_holdX hR hn en ht e4 hX a1 10 0 2000 (-1) (dayE w (w 7) t n (-1) 0 10) z1 (by omega) (by omega) r3 r4
    obtain ⟨y1, q1, q2, q3⟩ := s_earned (γ := Int32 × xI) (sk := -1) (ab := 0) hR hR.ydB hn (by decide) en (hR.mz x2 e15 hX) (hR.sk x2).1 (hR.sk x2).2
    obtain ⟨w2, p1, p2, p3, p4⟩ := s_holdM hR hn en a1 10 0 2000 (-1) (dayE w (w 7) t n (-1) 0 10) y1 (by omega) (by omega) q3 (by rw [q2.2 59 (by omega)]; exact (hR.sk x2).2)
    rw [nI_0] at x1 p1
    refine OpI.q (if a1 = 0 then (holdV w t n 10 0 (-1) (dayE w (w 7) t n (-1) 0 10)).1 else (holdV w t n 10 0 (-1) (dayE w (w 7) t n (-1) 0 10)).2) w1 w2 ?_ ?_ (hR.endH x2 (q2.frH.tr p2) p3 p4)
    · rw [f_X10_hold, s_within, if_pos h1, if_neg (by decide), r1, r2.2.1, xlet_eq]; exact x1
    · rw [f_X11_hold, s_in, if_pos h1, if_neg (by decide), q1]; exact p1
  · exact OpI.q (-2) w w (by rw [f_X10_hold, s_within, if_neg h1, if_pos rfl]) (by rw [f_X11_hold, s_in, if_neg h1, if_pos rfl]) hR
theorem op_gain (a1 : Int32) : OpI (f_X10_gain a1) (f_X11_gain a1) := by
  intro w hR
  obtain ⟨n, hn, en, em⟩ := hR.n
  obtain ⟨t, ht, e4, e15, hX⟩ := hR.law
  by_cases h1 : 0 ≤ a1 ∧ a1 < w 5 2
  · obtain ⟨c, hc, rfl, e1, e2, hlt⟩ := cart_ix hR h1
    have hcp : 2 ^ c < 1024 := Nat.pow_lt_pow_right (a := 2) (n := 10) (by decide) hc
    obtain ⟨z1, r1, r2, r3, r4⟩ := s_till (γ := Int32 × xI) hR hn en ht e4 hX
    have hC : ∀ i, i < n → (bdif 1023 (2 ^ c)).testBit i = !(2 ^ c).testBit i := by
      intro i hi
      rw [bdif_bit _ _ (by decide), show (1023 : Nat) = 2 ^ 10 - 1 from rfl, Nat.testBit_two_pow_sub_one, decide_eq_true (show i < 10 by omega), Bool.true_and]
    obtain ⟨w1, x1, x2, x3, x4⟩ := s_dayX (γ := Int32 × xI) (sk := -1) (ab := 2 ^ c) (C := bdif 1023 (2 ^ c)) (N := 10) hR hR.ydB hn en (by decide) (bdif_lt (n := 10) (by decide)) hC r3 (fun c hc => r4 c (by omega)) hX
    obtain ⟨y1, q1, q2, q3⟩ := s_earned (γ := Int32 × xI) (sk := -1) (ab := 0) hR hR.ydB hn (by decide) en (hR.mz x3 e15 hX) (hR.sk x3).1 (hR.sk x3).2
    have fz : FrH y1 (xup y1 71 59 (nI (2 ^ c))) := FrH.up (Or.inr rfl)
    obtain ⟨y2, p1, p2, p3⟩ := s_earned (γ := Int32 × xI) (sk := -1) (ab := 2 ^ c) hR hR.ydB hn hcp en (fz.mz q3) (by rw [xup_same, upd_n _ _ (by decide), q2.2 58 (by omega)]; exact (hR.sk x3).1) (by rw [xup_same, upd_s])
    have h1m : 0 ≤ nI c ∧ nI c < w1 71 3 := by rw [x3 71 (by omega), hR.yd.1]; exact h1
    refine OpI.q (dayE w (w 7) t n (-1) 0 10 - dayE w (w 7) t n (-1) (2 ^ c) 10) w1 (xup y2 71 59 0) ?_ ?_ (hR.endH x3 (q2.frH.tr (fz.tr (p2.frH.tr (FrH.up (Or.inr rfl))))) ?_ (by rw [xup_same, upd_s]))
    · rw [f_X10_gain, s_has, if_pos h1, if_neg (by decide), r1, r2.2.1, xlet_eq, s_law ht (by rw [r3 0 (by omega)]; exact e4), isTxt ht, xchk_true, b_shl (by omega), show (1023 : Int32) = nI 1023 from rfl, b_dif (by decide) (by omega)]
      refine (x1 _).trans ?_
      rw [x2.2.1]
    · rw [f_X11_gain, s_isCart _ _ (by rw [x3 71 (by omega)]; exact em) hn, if_pos h1m, if_neg (by decide), q1, b_shl (by omega), p1]
    · rw [xup_same, upd_n _ _ (by decide), p2.2 58 (by omega), xup_same, upd_n _ _ (by decide), q2.2 58 (by omega)]; exact (hR.sk x3).1
  · have h1m : ¬ (0 ≤ a1 ∧ a1 < w 71 3) := by rw [hR.yd.1]; exact h1
    exact OpI.q (-100000) w w (by rw [f_X10_gain, s_has, if_neg h1, if_pos rfl]) (by rw [f_X11_gain, s_isCart _ _ em hn, if_neg h1m, if_pos rfl]) hR
