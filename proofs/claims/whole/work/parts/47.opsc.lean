-- ===== scratch cells =====
def scrN (k : Nat) : Prop := (21 ≤ k ∧ k ≤ 31) ∨ k = 38 ∨ (39 ≤ k ∧ k ≤ 62 ∧ (k % 4 = 2 ∨ k % 4 = 3)) ∨ k = 90 ∨ (92 ≤ k ∧ k ≤ 101)
theorem core_scr {k j : Nat} (h : core k j = true) : ¬ scrN k ∧ (k = 71 → j < 20 ∨ j = 58 ∨ j = 59) := by
  unfold scrN
  simp [core, coreA] at h
  omega
theorem Rel.fr {w w' : xI} (hR : Rel w) (h : ∀ k, ¬ scrN k → k ≠ 71 → w' k = w k) (h71 : ∀ j, j < 20 ∨ j = 58 ∨ j = 59 → w' 71 j = w 71 j) : Rel w' := by
  refine hR.scr (fun k j hc => ?_)
  obtain ⟨c1, c2⟩ := core_scr hc
  by_cases e : k = 71
  · subst e; exact h71 j (c2 rfl)
  · rw [h k c1 e]
/-- only the component's scratch cells have changed -/
def FrX (u u' : xI) : Prop := ∀ k, ¬ ((21 ≤ k ∧ k ≤ 31) ∨ k = 38 ∨ (39 ≤ k ∧ k ≤ 62 ∧ k % 4 = 2)) → u' k = u k
theorem FrX.tr {u v z : xI} (h1 : FrX u v) (h2 : FrX v z) : FrX u z := fun k hk => (h2 k hk).trans (h1 k hk)
theorem FrX.uc {u : xI} {k : Nat} {T : Nat → Int32} (hk : (21 ≤ k ∧ k ≤ 31) ∨ k = 38 ∨ (39 ≤ k ∧ k ≤ 62 ∧ k % 4 = 2)) : FrX u (xuc u k T) := fun q hq => xuc_ne _ _ _ (fun e => hq (by rw [e]; exact hk))
theorem FrX.rfl' (u : xI) : FrX u u := fun _ _ => rfl
theorem FrX.rel {u u' : xI} (h : FrX u u') (hR : Rel u) : Rel u' := hR.fr (fun k hk _ => h k (fun z => hk (by unfold scrN; omega))) (fun j _ => by rw [h 71 (by omega)])
theorem Rel.law {w : xI} (hR : Rel w) : ∃ t : Nat, t < 6 ∧ w 0 4 = nI t ∧ w 71 15 = nI t ∧ TxB w t w := by
  obtain ⟨a, b, c, d, e⟩ := hR.tx
  obtain ⟨n, hn, en⟩ := nI_bd (n := 6) (by decide) (Int32_01 b.1) b.2
  obtain ⟨t, ht, et⟩ := nI_of (Int32.not_lt.mpr d.1)
  have h := d.2
  rw [en, et] at h
  have htn : t < n := (nI_ltI ht (by omega)).mp h
  refine ⟨t, by omega, et, c.trans et, by omega, e t (by rw [en, nI_clamp (by omega)]; exact htn), rfl, rfl, rfl, rfl⟩
theorem isTxt {t : Nat} (ht : t < 6) : isTxN (39 + 4 * t) = true := by
  unfold isTxN
  refine decide_eq_true ?_
  omega
theorem s_law {γ : Type} {w : xI} {t : Nat} (ht : t < 6) (h : w 0 4 = nI t) (K : Nat → xI → Option γ) : xbind (f_X10_law w) K = K (39 + 4 * t) w := by
  unfold f_X10_law
  rw [h, xin_nI ht (by decide), xchk_true, xlet_eq, xbind_some, nI_clamp (by omega)]
theorem all_n {n : Nat} (hn : n ≤ 10) : ((1 : Int32) <<< (nI n &&& 31)) - 1 = nI (2 ^ n - 1) := by
  have h0 : 0 < 2 ^ n := Nat.two_pow_pos n
  rw [b_shl (by omega)]
  exact pk_sub (a := 2 ^ n) (b := 1) (by omega)
theorem s_hasAll {γ : Type} {w : xI} {n : Nat} (hn : n ≤ 10) (h : w 5 2 = nI n) (a : Int32) (K : Int32 → xI → Option γ) : xbind (f_X9_hasAll a w) K = if 0 ≤ a ∧ a ≤ nI (2 ^ n - 1) then K 1 w else K 0 w := by
  unfold f_X9_hasAll f_X9_all
  rw [h, all_n hn, xbind_some]
  by_cases c : 0 ≤ a ∧ a ≤ nI (2 ^ n - 1)
  · rw [if_pos c, if_pos ((b_all a hn).mpr c), xbind_some]
  · rw [if_neg c, if_neg (fun z => c ((b_all a hn).mp z)), xbind_some]
theorem s_allM {γ : Type} {w : xI} {n : Nat} (hn : n ≤ 10) (h : w 71 3 = nI n) (K : Int32 → xI → Option γ) : xbind (f_X11_allCarts w) K = K (nI (2 ^ n - 1)) w := by
  unfold f_X11_allCarts
  rw [h, all_n hn, xbind_some]
theorem Rel.cxY {w : xI} : CxY w (w 7) 7 w := ⟨rfl, fun _ _ => rfl, fun _ _ _ => rfl⟩
/-- the model makes its table of stones, behind whatever the component did -/
theorem s_startM {γ : Type} {w w1 : xI} {t : Nat} (hR : Rel w) (hf : FrX w w1) (ht : t < 6) (hr : w 71 15 = nI t) (hX : TxB w t w) : ∃ u, (∀ (K : Unit → xI → Option γ), xbind (f_X11_findsMade w1) K = K () u) ∧ Mx w (w 7) t u ∧ ∀ k, k ≠ 95 → u k = w1 k := by
  have hR1 := hf.rel hR
  obtain ⟨T, m1, m2, m3⟩ := hR1.made
  have g : ∀ k, k ≠ 95 → ¬ ((21 ≤ k ∧ k ≤ 31) ∨ k = 38 ∨ (39 ≤ k ∧ k ≤ 62 ∧ k % 4 = 2)) → xuc w1 95 T k = w k := fun k h1 h2 => by rw [xuc_ne _ _ _ h1]; exact hf k h2
  refine ⟨xuc w1 95 T, fun K => by rw [m1, xbind_some], ⟨⟨?_, fun c hc => ?_⟩, ?_, ?_, fun j hj => ?_, fun d hd => ?_⟩, fun k hk => xuc_ne _ _ _ hk⟩
  · rw [g 71 (by decide) (by omega)]; exact hR.yd.1
  · rw [g 74 (by decide) (by omega), g 75 (by decide) (by omega), g 76 (by decide) (by omega), g 77 (by decide) (by omega), g 78 (by decide) (by omega), g 79 (by decide) (by omega)]
    exact hR.yd79 c hc
  · rw [g 71 (by decide) (by omega)]; exact hr
  · exact hX.cg (g _ (by omega) (by omega)) (g _ (by omega) (by omega)) (g _ (by omega) (by omega)) (g _ (by omega) (by omega))
  · rw [g 72 (by decide) (by omega)]; exact hR.sc.1 j hj
  · rw [xuc_same, m3 d hd, hf 4 (by omega)]
/-- Rel at the end, when the model has only weighed -/
theorem Rel.endW {w w1 u w2 : xI} (hR : Rel w) (hf : FrX w w1) (hu : ∀ k, k ≠ 95 → u k = w1 k) (hw : FrW u w2) : Rel w2 := by
  refine hR.fr (fun k hk h71 => ?_) (fun j hj => ?_)
  · unfold scrN at hk
    rw [hw.1 k h71 (by omega) (by omega), hu k (by omega), hf k (by omega)]
  · rw [hw.2 j (by omega), hu 71 (by decide), hf 71 (by omega)]
theorem op_asks (a1 : Int32) (a2 : Int32) (a3 : Int32) (a4 : Int32) : OpI (f_X10_asks a1 a2 a3 a4) (f_X11_asks a1 a2 a3 a4) := by
  intro w hR
  obtain ⟨t, ht, e4, e15, hX⟩ := hR.law
  by_cases h1 : 0 ≤ a1 ∧ a1 ≤ 2
  · by_cases h2 : 0 ≤ a2 ∧ a2 ≤ 999999
    · by_cases h3 : 0 ≤ a3 ∧ a3 ≤ 99
      · by_cases h4 : 0 ≤ a4 ∧ a4 ≤ 99
        · obtain ⟨p, hp, rfl⟩ := nI_bd (n := 2) (by decide) h1.1 h1.2
          generalize ex : xup (xup (xup (xup (xup (xup w 38 0 (a2 / (1000 : Int32))) 38 1 (a2 - a2 / (1000 : Int32) * (1000 : Int32))) 38 2 (a3 / (10 : Int32))) 38 3 (a3 - a3 / (10 : Int32) * (10 : Int32))) 38 4 (a4 / (10 : Int32))) 38 5 (a4 - a4 / (10 : Int32) * (10 : Int32)) = z
          have zq : ∀ q, q ≠ 38 → z q = w q := fun q hq => by rw [← ex, xup_ne _ _ _ hq, xup_ne _ _ _ hq, xup_ne _ _ _ hq, xup_ne _ _ _ hq, xup_ne _ _ _ hq, xup_ne _ _ _ hq]
          have zn : ∀ j, j < 6 → z 38 j = nm6 (a2 / (1000 : Int32)) (a2 - a2 / (1000 : Int32) * (1000 : Int32)) (a3 / (10 : Int32)) (a3 - a3 / (10 : Int32) * (10 : Int32)) (a4 / (10 : Int32)) (a4 - a4 / (10 : Int32) * (10 : Int32)) j := by
            intro j hj
            rw [← ex]
            match j, hj with
            | 0, _ => rfl
            | 1, _ => rfl
            | 2, _ => rfl
            | 3, _ => rfl
            | 4, _ => rfl
            | 5, _ => rfl
            | k + 6, g => omega
          have hXz : TxB w t z := hX.cg (zq _ (by omega)) (zq _ (by omega)) (zq _ (by omega)) (zq _ (by omega))
          obtain ⟨T, q1⟩ := s_says (γ := Int32 × xI) (p := p) (o2 := 38) hXz.ok ht (by omega) (Or.inl (by decide))
          have ea : askV z t p (z 38) = askV w t p (nm6 (a2 / (1000 : Int32)) (a2 - a2 / (1000 : Int32) * (1000 : Int32)) (a3 / (10 : Int32)) (a3 - a3 / (10 : Int32) * (10 : Int32)) (a4 / (10 : Int32)) (a4 - a4 / (10 : Int32) * (10 : Int32))) := by
            rw [askV_w (w := w) (fun j => by rw [hXz.2.2.1]) (fun j => by rw [hXz.2.2.2.1]), askV_cg hX.2.1 (by omega) zn]
          have fz : FrX w (xuc z (42 + 4 * t) T) := fun k hk => by rw [xuc_ne _ _ _ (by omega), zq k (by omega)]
          have hX1 : TxB w t (xuc z (42 + 4 * t) T) := hX.cg (fz _ (by omega)) (fz _ (by omega)) (fz _ (by omega)) (fz _ (by omega))
          obtain ⟨A, B, q2⟩ := s_asksOf (γ := Int32 × xI) (p := p) hX1.ok ht (by omega) (by rw [fz 71 (by omega)]; exact e15) (a2 / (1000 : Int32)) (a2 - a2 / (1000 : Int32) * (1000 : Int32)) (a3 / (10 : Int32)) (a3 - a3 / (10 : Int32) * (10 : Int32)) (a4 / (10 : Int32)) (a4 - a4 / (10 : Int32) * (10 : Int32))
          rw [askV_w (w := w) (fun j => by rw [hX1.2.2.1]) (fun j => by rw [hX1.2.2.2.1])] at q2
          refine OpI.q _ (xuc z (42 + 4 * t) T) (xuc (xuc (xuc z (42 + 4 * t) T) 94 A) 93 B) (?_ : _ = some (askV w t p (nm6 (a2 / (1000 : Int32)) (a2 - a2 / (1000 : Int32) * (1000 : Int32)) (a3 / (10 : Int32)) (a3 - a3 / (10 : Int32) * (10 : Int32)) (a4 / (10 : Int32)) (a4 - a4 / (10 : Int32) * (10 : Int32))), _)) ?_ (hR.fr (fun k hk h71 => ?_) (fun j hj => ?_))
          · rw [f_X10_asks, s_within, if_pos h1, if_neg (by decide), s_within, if_pos h2, if_neg (by decide), s_within, if_pos h3, if_neg (by decide), s_within, if_pos h4]
            unfold f_X10_asks_L45
            rw [ex, s_law ht (by rw [zq 0 (by decide)]; exact e4), isTxt ht, xchk_true, q1, ea]
            rfl
          · rw [f_X11_asks, s_in, if_pos h1, if_neg (by decide), s_in, if_pos h2, if_neg (by decide), s_in, if_pos h3, if_neg (by decide), s_in, if_pos h4, if_neg (by decide), q2]
          · unfold scrN at hk
            rw [xuc_ne _ _ _ (by omega), xuc_ne _ _ _ (by omega), fz k (by omega)]
          · rw [xuc_ne _ _ _ (by decide), xuc_ne _ _ _ (by decide), fz 71 (by omega)]
        · exact OpI.q (-2) w w (by rw [f_X10_asks, s_within, if_pos h1, if_neg (by decide), s_within, if_pos h2, if_neg (by decide), s_within, if_pos h3, if_neg (by decide), s_within, if_neg h4]; rfl) (by rw [f_X11_asks, s_in, if_pos h1, if_neg (by decide), s_in, if_pos h2, if_neg (by decide), s_in, if_pos h3, if_neg (by decide), s_in, if_neg h4, if_pos rfl]) hR
      · exact OpI.q (-2) w w (by rw [f_X10_asks, s_within, if_pos h1, if_neg (by decide), s_within, if_pos h2, if_neg (by decide), s_within, if_neg h3]; rfl) (by rw [f_X11_asks, s_in, if_pos h1, if_neg (by decide), s_in, if_pos h2, if_neg (by decide), s_in, if_neg h3, if_pos rfl]) hR
    · exact OpI.q (-2) w w (by rw [f_X10_asks, s_within, if_pos h1, if_neg (by decide), s_within, if_neg h2]; rfl) (by rw [f_X11_asks, s_in, if_pos h1, if_neg (by decide), s_in, if_neg h2, if_pos rfl]) hR
  · exact OpI.q (-2) w w (by rw [f_X10_asks, s_within, if_neg h1]; rfl) (by rw [f_X11_asks, s_in, if_neg h1, if_pos rfl]) hR
theorem op_scales (a1 : Int32) (a2 : Int32) (a3 : Int32) : OpI (f_X10_scales a1 a2 a3) (f_X11_scales a1 a2 a3) := by
  intro w hR
  obtain ⟨n, hn, en, em⟩ := hR.n
  obtain ⟨t, ht, e4, e15, hX⟩ := hR.law
  have hp := pw10 hn
  by_cases h1 : 0 ≤ a1 ∧ a1 ≤ nI (2 ^ n - 1)
  · by_cases h2 : 0 ≤ a2 ∧ a2 ≤ 9
    · by_cases h3 : 0 ≤ a3 ∧ a3 ≤ 5
      · obtain ⟨S, hS, rfl⟩ := nI_bd (n := 2 ^ n - 1) (by omega) h1.1 h1.2
        obtain ⟨h, hh, rfl⟩ := nI_bd (n := 9) (by decide) h2.1 h2.2
        have h0 : 0 < 2 ^ n := Nat.two_pow_pos n
        have hS' : S < 2 ^ n := by omega
        have hY := hR.ydB
        have hT := hR.tabB
        obtain ⟨u1, p1, P1, f1, f1'⟩ := s_prepare (γ := Int32 × xI) hY hn en (h := h) (by omega) (o2 := 7) (by decide) (Rel.cxY (w := w))
        obtain ⟨u2, q1, W2, P2, f2, f2'⟩ := s_weighX (γ := Int32 × xI) hY hT (by omega) hn hS' P1 (f1 2 (by decide) (by decide) (by decide) (by decide)) (f1 4 (by decide) (by decide) (by decide) (by decide))
        have fx2 : FrX w u2 := fun k hk => by rw [f2 k (by omega) (by omega), f1 k (by omega) (by omega) (by omega) (by omega)]
        have x04 : u2 0 4 = nI t := by rw [fx2 0 (by omega)]; exact e4
        have hX2 : TxB w t u2 := hX.cg (fx2 _ (by omega)) (fx2 _ (by omega)) (fx2 _ (by omega)) (fx2 _ (by omega))
        obtain ⟨T, m1⟩ := s_mayX (γ := Int32 × xI) (t := t) hn hS' P2 W2 hX2
        have fx3 : FrX u2 (xuc u2 (42 + 4 * t) T) := FrX.uc (by omega)
        have W3 : Wd w (w 7) h n S (xuc u2 (42 + 4 * t) T) := W2.cg (xuc_ne _ _ _ (by omega)) (xuc_ne _ _ _ (by omega))
        have hX3 : TxB w t (xuc u2 (42 + 4 * t) T) := hX2.cg (fx3 _ (by omega)) (fx3 _ (by omega)) (fx3 _ (by omega)) (fx3 _ (by omega))
        obtain ⟨T2, b1⟩ := s_brX (γ := Int32 × xI) W3 hX3
        rw [xuc_xuc] at b1
        -- the component's start
        have pre : f_X10_scales (nI S) (nI h) a3 w = (if a3 = 0 then xbind (f_X10_law u2) fun r12 w13 => xchk (isTxN r12) (xbind (f_X8_mayBe r12 w13) fun r16 w17 => if r16 = 0 then some ((0 : Int32), w17) else some ((1 : Int32), w17)) else if a3 = 1 then some (u2 21 9, u2) else if a3 = 2 then some (u2 21 10, u2) else if a3 = 3 then some (u2 21 11, u2) else if a3 = 4 then some (u2 21 12, u2) else xbind (f_X10_law u2) fun r22 w23 => xchk (isTxN r22) (xbind (f_X8_mayBe r22 w23) fun r26 w27 => if r26 = 0 then some ((0 : Int32), w27) else xbind (f_X10_law w27) fun r28 w29 => xchk (isTxN r28) (xbind (f_X8_brings r28 w29) fun r32 w33 => some (r32, w33)))) := by
          rw [f_X10_scales, s_hasAll hn en, if_pos h1, if_neg (by decide), s_hourX, if_pos h2, if_neg (by decide), s_within, if_pos h3, if_neg (by decide), p1, q1]
        -- the model, from any world that the component left
        have mod : ∀ w1, FrX w w1 → ∃ w2, Wm w (w 7) t h n S w2 ∧ Rel w2 ∧ f_X11_scales (nI S) (nI h) a3 w1 = (if a3 = 0 then (if w2 71 44 = 0 then some (0, w2) else some (1, w2)) else if a3 = 1 then some (w2 71 40, w2) else if a3 = 2 then some (w2 71 41, w2) else if a3 = 3 then some (w2 71 42, w2) else if a3 = 4 then some (w2 71 43, w2) else some (w2 71 45, w2)) := by
          intro w1 hf
          obtain ⟨u, s1, s2, s3⟩ := s_startM (γ := Int32 × xI) hR hf ht e15 hX
          obtain ⟨w2, g1, g2, g3, g4⟩ := s_weighM (γ := Int32 × xI) hY hT (h := h) (by omega) hn en hS' s2
          refine ⟨w2, g2, hR.endW hf s3 g4, ?_⟩
          have em1 : w1 71 3 = nI n := by rw [hf 71 (by omega)]; exact em
          rw [f_X11_scales, s_allM hn em1, s_in, if_pos h1, if_neg (by decide), s_hourM, if_pos h2, if_neg (by decide), s_in, if_pos h3, if_neg (by decide), s1, g1]
        by_cases c0 : a3 = 0
        · by_cases hm : mbS w (w 7) t h n S
          · obtain ⟨w2, g1, g2, g3⟩ := mod (xuc u2 (42 + 4 * t) T) (fx2.tr fx3)
            refine OpI.q 1 (xuc u2 (42 + 4 * t) T) w2 ?_ ?_ g2
            · rw [pre, if_pos c0, s_law ht x04, isTxt ht, xchk_true, (m1 _).1 hm, if_neg (by decide)]
            · rw [g3, if_pos c0, (g1.2.2.2.2.1 hm).1, if_neg (by decide)]
          · obtain ⟨w2, g1, g2, g3⟩ := mod (xuc u2 (42 + 4 * t) T) (fx2.tr fx3)
            refine OpI.q 0 (xuc u2 (42 + 4 * t) T) w2 ?_ ?_ g2
            · rw [pre, if_pos c0, s_law ht x04, isTxt ht, xchk_true, (m1 _).2 hm, if_pos rfl]
            · rw [g3, if_pos c0, (g1.2.2.2.2.2 hm).1, if_pos rfl]
        by_cases c1 : a3 = 1
        · obtain ⟨w2, g1, g2, g3⟩ := mod u2 fx2
          exact OpI.q _ u2 w2 (by rw [pre, if_neg c0, if_pos c1, W2.2.2.1]) (by rw [g3, if_neg c0, if_pos c1, g1.1]) g2
        by_cases c2 : a3 = 2
        · obtain ⟨w2, g1, g2, g3⟩ := mod u2 fx2
          exact OpI.q _ u2 w2 (by rw [pre, if_neg c0, if_neg c1, if_pos c2, W2.2.2.2.1]) (by rw [g3, if_neg c0, if_neg c1, if_pos c2, g1.2.1]) g2
        by_cases c3 : a3 = 3
        · obtain ⟨w2, g1, g2, g3⟩ := mod u2 fx2
          exact OpI.q _ u2 w2 (by rw [pre, if_neg c0, if_neg c1, if_neg c2, if_pos c3, W2.2.2.2.2.1]) (by rw [g3, if_neg c0, if_neg c1, if_neg c2, if_pos c3, g1.2.2.1]) g2
        by_cases c4 : a3 = 4
        · obtain ⟨w2, g1, g2, g3⟩ := mod u2 fx2
          exact OpI.q _ u2 w2 (by rw [pre, if_neg c0, if_neg c1, if_neg c2, if_neg c3, if_pos c4, W2.2.2.2.2.2.1]) (by rw [g3, if_neg c0, if_neg c1, if_neg c2, if_neg c3, if_pos c4, g1.2.2.2.1]) g2
        by_cases hm : mbS w (w 7) t h n S
        · obtain ⟨w2, g1, g2, g3⟩ := mod (xuc u2 (42 + 4 * t) T2) (fx2.tr (FrX.uc (by omega)))
          refine OpI.q (brS w (w 7) t h n S) (xuc u2 (42 + 4 * t) T2) w2 ?_ ?_ g2
          · rw [pre, if_neg c0, if_neg c1, if_neg c2, if_neg c3, if_neg c4, s_law ht x04, isTxt ht, xchk_true, (m1 _).1 hm, if_neg (by decide), s_law ht (by rw [xuc_ne _ _ _ (by omega)]; exact x04), isTxt ht, xchk_true, b1]
          · rw [g3, if_neg c0, if_neg c1, if_neg c2, if_neg c3, if_neg c4, (g1.2.2.2.2.1 hm).2]
        · obtain ⟨w2, g1, g2, g3⟩ := mod (xuc u2 (42 + 4 * t) T) (fx2.tr fx3)
          refine OpI.q 0 (xuc u2 (42 + 4 * t) T) w2 ?_ ?_ g2
          · rw [pre, if_neg c0, if_neg c1, if_neg c2, if_neg c3, if_neg c4, s_law ht x04, isTxt ht, xchk_true, (m1 _).2 hm, if_pos rfl]
          · rw [g3, if_neg c0, if_neg c1, if_neg c2, if_neg c3, if_neg c4, (g1.2.2.2.2.2 hm).2]
      · exact OpI.q (-7) w w (by rw [f_X10_scales, s_hasAll hn en, if_pos h1, if_neg (by decide), s_hourX, if_pos h2, if_neg (by decide), s_within, if_neg h3, if_pos rfl]) (by rw [f_X11_scales, s_allM hn em, s_in, if_pos h1, if_neg (by decide), s_hourM, if_pos h2, if_neg (by decide), s_in, if_neg h3, if_pos rfl]) hR
    · exact OpI.q (-7) w w (by rw [f_X10_scales, s_hasAll hn en, if_pos h1, if_neg (by decide), s_hourX, if_neg h2, if_pos rfl]) (by rw [f_X11_scales, s_allM hn em, s_in, if_pos h1, if_neg (by decide), s_hourM, if_neg h2, if_pos rfl]) hR
  · exact OpI.q (-5) w w (by rw [f_X10_scales, s_hasAll hn en, if_neg h1, if_pos rfl]) (by rw [f_X11_scales, s_allM hn em, s_in, if_neg h1, if_pos rfl]) hR
