/-- the loop's rest, as a frame -/
def FrP (u v : xI) : Prop := (∀ q, q ≠ 71 → v q = u q) ∧ ∀ j, j ≠ 40 → j ≠ 41 → v 71 j = u 71 j
theorem FrP.frW {u v : xI} (h : FrP u v) : FrW u v := ⟨fun q a _ _ => h.1 q a, fun j hj => h.2 j (by omega) (by omega)⟩
theorem s_wgEnd {w : xI} {cm : Nat → Int32} (hY : YdB w cm) (hT : TabB w) {t h n S : Nat} (hh : h ≤ 10) (hn : n ≤ 10) (hS : S < 2 ^ n) {v : xI} (hM : Mx w cm t v) (e0 : v 71 40 = nI (inS w cm h n S)) (e1 : v 71 41 = nI (outS w cm h n S)) (b : Bool) (hb : b = true ↔ acS cm h n S) :
    ∃ u', xbind (f_X11_apart ((v 71 40) * (v 72 0)) ((v 71 41) * (v 72 1)) v) (fun r24001 w24002 => f_X11_weighing_L201 2000 (nI h) (nI (pop S)) (nI (miS w n S)) (nI (wthS w cm h n S)) (if b = true then 1 else 0) r24001 (0 : Int32) (xup (xup w24002 71 42 (-1 : Int32)) 71 43 (-1 : Int32))) = some ((), u') ∧ Wm w cm t h n S u' ∧ FrW v u' := by
  obtain ⟨a0, ha0, ea0⟩ := nI_bd (n := 3) (by decide) (Int32_01 hT.2.1.1) hT.2.1.2
  obtain ⟨a1, ha1, ea1⟩ := nI_bd (n := 3) (by decide) (Int32_01 hT.2.2.1.1) hT.2.2.1.2
  obtain ⟨sl, hsl, esl⟩ := nI_bd (n := 9) (by decide) hT.2.2.2.1 hT.2.2.2.2
  obtain ⟨bi, bo, bw⟩ := inS_le hY (S := S) hh hn
  have m0 : inS w cm h n S * a0 ≤ 1890 * 3 := Nat.mul_le_mul bi ha0
  have m1 : outS w cm h n S * a1 ≤ 1890 * 3 := Nat.mul_le_mul bo ha1
  have ed : dS w cm h n S = difN (inS w cm h n S * a0) (outS w cm h n S * a1) := by unfold dS; rw [ea0, ea1, nI_clamp (by omega), nI_clamp (by omega)]
  have eo : ofS w cm h n S = offU (w 4) (dS w cm h n S) (sl + 1) 0 := by unfold ofS; rw [esl, nI_clamp (by omega)]
  rw [e0, e1, hM.2.2.2.1 0 (by decide), hM.2.2.2.1 1 (by decide), ea0, ea1, pk_mul, pk_mul, s_apartN (by omega) (by omega), ← ed]
  have fr : FrW v (xup (xup v 71 42 (-1)) 71 43 (-1)) := (FrW.up (by decide) (by decide)).tr (FrW.up (by decide) (by decide))
  obtain ⟨z, r1, r2, r3, r4⟩ := s_w201 (d := dS w cm h n S) hsl esl (nI h) (nI (pop S)) (nI (miS w n S)) (nI (wthS w cm h n S)) (if b = true then 1 else 0) (sl + 1) 0 2000 (xup (xup v 71 42 (-1)) 71 43 (-1)) (by omega) (by omega) (hM.cg fr) (by rw [xup_same, upd_n _ _ (by decide), xup_same, upd_s])
  rw [← eo] at r1 r2
  rw [nI_0] at r1
  have f2 : FrW (xup (xup v 71 42 (-1)) 71 43 (-1)) z := ⟨fun q q1 _ _ => r3 q q1, fun j hj => r4 j (by omega) (by omega)⟩
  have k : ∀ j, j ≠ 42 → j ≠ 43 → z 71 j = v 71 j := fun j j1 j2 => by rw [r4 j j1 j2, xup_same, upd_n _ _ j2, xup_same, upd_n _ _ j1]
  obtain ⟨u', p1, p2, p3⟩ := s_w286 hn hS (hM.cg (fr.tr f2)) (by rw [k 40 (by decide) (by decide), e0]) (by rw [k 41 (by decide) (by decide), e1]) r2 b hb
  exact ⟨u', r1.trans p1, p2, (fr.tr f2).tr p3⟩
theorem MxY.cgP {w : xI} {cm : Nat → Int32} {u v : xI} (h : MxY w cm u) (f : FrP u v) : MxY w cm v := by
  obtain ⟨a1, a2⟩ := h
  refine ⟨by rw [f.2 3 (by decide) (by decide)]; exact a1, fun c hc => ?_⟩
  rw [f.1 74 (by decide), f.1 75 (by decide), f.1 76 (by decide), f.1 77 (by decide), f.1 78 (by decide), f.1 79 (by decide)]
  exact a2 c hc
theorem FrP.up {u v : xI} (h : FrP u v) {j : Nat} {x : Int32} (hj : j = 40 ∨ j = 41) : FrP u (xup v 71 j x) := ⟨fun q hq => by rw [xup_ne _ _ _ hq]; exact h.1 q hq, fun i i1 i2 => by rw [xup_same, upd_n _ _ (by omega)]; exact h.2 i i1 i2⟩
theorem s_wgL {w : xI} {cm : Nat → Int32} (hY : YdB w cm) (hT : TabB w) {t h n S : Nat} (hh : h ≤ 10) (hn : n ≤ 10) (hwn : w 5 2 = nI n) (hS : S < 2 ^ n) {u : xI} (hM : Mx w cm t u) : ∀ (m k fu : Nat) (v : xI) (a b mn mi wt : Nat) (fl : Bool), k + m = n → m < fu → FrP u v → v 71 40 = nI a → v 71 41 = nI b →
    inS w cm h n S = a + bsum (wgN w cm h) (fun c => S.testBit c && inP w c) m k → outS w cm h n S = b + bsum (wgN w cm h) (fun c => S.testBit c && !inP w c) m k → pop S = mn + bsum one1 (fun c => S.testBit c) m k → miS w n S = mi + bsum one1 (fun c => S.testBit c && inP w c) m k → wthS w cm h n S = wt + bsum (wtN w cm h) (fun c => S.testBit c) m k →
    (acS cm h n S ↔ fl = true ∧ ∀ c, k ≤ c → c < n → S.testBit c = true → cm c ≤ nI h) →
    ∃ u', f_X11_weighing_L24 fu (nI S) (nI h) (nI mn) (nI mi) (nI wt) (if fl = true then 1 else 0) (nI k) v = some ((), u') ∧ Wm w cm t h n S u' ∧ FrW u u' := by
  have hp := pw10 hn
  intro m
  induction m with
  | zero =>
    intro k fu v a b mn mi wt fl h1 h2 hf e0 e1 i1 i2 i3 i4 i5 i6
    obtain ⟨f, rfl⟩ : ∃ f, fu = f + 1 := ⟨fu - 1, by omega⟩
    have hMv := hM.cg hf.frW
    rw [show a = inS w cm h n S from i1.symm] at e0
    rw [show b = outS w cm h n S from i2.symm] at e1
    obtain ⟨u', r1, r2, r3⟩ := s_wgEnd hY hT hh hn hS hMv e0 e1 fl ⟨fun z => i6.mpr ⟨z, fun c c1 c2 => by omega⟩, fun z => (i6.mp z).1⟩
    refine ⟨u', ?_, r2, hf.frW.tr r3⟩
    rw [f_X11_weighing_L24, hMv.1.1, hwn, if_pos (nI_le (by omega) (by omega)), show mn = pop S from i3.symm, show mi = miS w n S from i4.symm, show wt = wthS w cm h n S from i5.symm]
    exact r1
  | succ m ih =>
    intro k fu v a b mn mi wt fl h1 h2 hf e0 e1 i1 i2 i3 i4 i5 i6
    obtain ⟨f, rfl⟩ : ∃ f, fu = f + 1 := ⟨fu - 1, by omega⟩
    have hMv := hM.cg hf.frW
    have hk : k < 10 := by omega
    have hkn : nI k < w 5 2 := by rw [hwn]; exact nI_lt (by omega) (by omega)
    obtain ⟨y0, y1, y2, y3, y4, y5⟩ := hMv.1.2 k hk
    obtain ⟨b0, b2, b3, b4⟩ := hY.2.2 k hk
    have j1 : inS w cm h n S = a + ((if (S.testBit k && inP w k) = true then wgN w cm h k else 0) + bsum (wgN w cm h) (fun c => S.testBit c && inP w c) m (k + 1)) := i1
    have j2 : outS w cm h n S = b + ((if (S.testBit k && !inP w k) = true then wgN w cm h k else 0) + bsum (wgN w cm h) (fun c => S.testBit c && !inP w c) m (k + 1)) := i2
    have j3 : pop S = mn + ((if S.testBit k = true then 1 else 0) + bsum one1 (fun c => S.testBit c) m (k + 1)) := i3
    have j4 : miS w n S = mi + ((if (S.testBit k && inP w k) = true then 1 else 0) + bsum one1 (fun c => S.testBit c && inP w c) m (k + 1)) := i4
    have j5 : wthS w cm h n S = wt + ((if S.testBit k = true then wtN w cm h k else 0) + bsum (wtN w cm h) (fun c => S.testBit c) m (k + 1)) := i5
    rw [f_X11_weighing_L24, hMv.1.1, hwn, if_neg (nI_ge (by omega) (by omega)), xin_nI hk (by decide), xchk_true, nI_clamp (by omega), nI_1]
    by_cases c : S.testBit k = true
    · rw [if_pos ((b_on (by omega) (by omega)).mpr c)]
      rw [if_pos c] at j3 j5
      -- the weighing's end of a round
      have tail : ∀ (z : xI) (s0 s1 : Nat) (fin1 : Nat) (mi2 : Nat), FrP u z → z 71 40 = nI fin1 → inS w cm h n S = fin1 + bsum (wgN w cm h) (fun c => S.testBit c && inP w c) m (k + 1) → outS w cm h n S = (s1 + s0) + bsum (wgN w cm h) (fun c => S.testBit c && !inP w c) m (k + 1) → w (8 + k) 0 = nI mi2 → miS w n S = (mi + mi2) + bsum one1 (fun c => S.testBit c && inP w c) m (k + 1) →
          ∃ u', f_X11_weighing_L101 (fun v1 v2 v3 v4 v5 v6 v7 w => f_X11_weighing_L24 f v1 v2 v3 v4 v5 v6 v7 w) (nI S) (nI h) (nI mn) (nI mi) (nI wt) (if fl = true then 1 else 0) (nI k) (nI s0) (nI s1) z = some ((), u') ∧ Wm w cm t h n S u' ∧ FrW u u' := by
        intro z s0 s1 fin1 mi2 hz ez k1 k2 k3 k4
        have hMz := hM.cg hz.frW
        have hz2 : FrP u (xup z 71 41 (nI s1 + nI s0)) := hz.up (Or.inr rfl)
        have hMz2 := hM.cg hz2.frW
        have y5' : (xup z 71 41 (nI s1 + nI s0)) 79 k = cm k := (hMz2.1.2 k hk).2.2.2.2.2 hkn
        unfold f_X11_weighing_L101
        rw [xlet_eq, xin_nI hk (by decide), xchk_true, nI_clamp (by omega), (hMz.1.2 k hk).1, k3, xlet_eq, s_worthM hY hMz2.1 hk hkn hh, xlet_eq, xchk_true, y5', nI_add, nI_add, nI_add, nI_1, nI_1]
        simp only [xlet_eq]
        have go : ∀ fl2 : Bool, (fl2 = true ↔ fl = true ∧ cm k ≤ nI h) → ∃ u', f_X11_weighing_L24 f (nI S) (nI h) (nI (mn + 1)) (nI (mi + mi2)) (nI (wt + wtN w cm h k)) (if fl2 = true then 1 else 0) (nI (k + 1)) (xup z 71 41 (nI (s1 + s0))) = some ((), u') ∧ Wm w cm t h n S u' ∧ FrW u u' := by
          intro fl2 hfl
          refine ih (k + 1) f _ fin1 (s1 + s0) (mn + 1) (mi + mi2) (wt + wtN w cm h k) fl2 (by omega) (by omega) (hz.up (Or.inr rfl)) (by rw [xup_same, upd_n _ _ (by decide), ez]) (by rw [xup_same, upd_s]) k1 k2 (by omega) k4 (by omega) ?_
          rw [i6, hfl]
          constructor
          · intro g
            exact ⟨⟨g.1, g.2 k (Nat.le_refl _) (by omega) c⟩, fun c' c1 c2 => g.2 c' (by omega) c2⟩
          · intro g
            refine ⟨g.1.1, fun c' c1 c2 c3 => ?_⟩
            by_cases e : c' = k
            · subst e; exact g.1.2
            · exact g.2 c' (by omega) c2 c3
        cases hfl : fl with
        | false =>
          rw [if_pos (show (if false = true then (1 : Int32) else 0) = 0 from rfl)]
          exact go false ⟨fun z => absurd z (by decide), fun z => by rw [hfl] at z; exact absurd z.1 (by decide)⟩
        | true =>
          rw [if_neg (show ¬ (if true = true then (1 : Int32) else 0) = 0 by decide)]
          by_cases c5 : cm k ≤ nI h
          · rw [if_neg (Int32.not_lt.mpr c5)]
            exact go true ⟨fun _ => ⟨hfl, c5⟩, fun _ => rfl⟩
          · rw [if_pos (Int32.not_le.mp c5)]
            exact go false ⟨fun z => absurd z (by decide), fun z => absurd z.2 c5⟩
      by_cases c0 : w (8 + k) 0 = 1
      · have ip : inP w k = true := decide_eq_true c0
        rw [c, ip, if_pos (by decide)] at j1
        rw [c, ip, if_neg (by decide)] at j2
        rw [c, ip, if_pos (by decide)] at j4
        rw [y0, if_pos c0, s_weighsM hY hMv.1 hk hkn hh]
        unfold f_X11_weighing_L70
        rw [xin_nI hk (by decide), xchk_true, nI_clamp (by omega), y0, if_pos c0, e0, e1, nI_add]
        have g := tail (xup v 71 40 (nI (a + wgN w cm h k))) 0 b (a + wgN w cm h k) 1 (hf.up (Or.inl rfl)) (by rw [xup_same, upd_s]) (by omega) (by omega) c0 (by omega)
        rw [nI_0] at g
        exact g
      · have ip : inP w k = false := decide_eq_false c0
        have c00 : w (8 + k) 0 = nI 0 := by
          obtain ⟨x, hx, ex⟩ := nI_bd (n := 1) (by decide) b0.1 b0.2
          rcases (by omega : x = 0 ∨ x = 1) with q | q
          · rw [ex, q]
          · exact absurd (by rw [ex, q]; rfl) c0
        rw [c, ip, if_neg (by decide)] at j1
        rw [c, ip, if_pos (by decide)] at j2
        rw [c, ip, if_neg (by decide)] at j4
        have hv2 : FrP u (xup v 71 40 (nI a)) := hf.up (Or.inl rfl)
        rw [y0, if_neg c0]
        unfold f_X11_weighing_L70
        rw [xin_nI hk (by decide), xchk_true, nI_clamp (by omega), y0, if_neg c0, e0, e1, Int32.add_zero, s_weighsM hY (hM.1.cgP hv2) hk hkn hh]
        exact tail (xup v 71 40 (nI a)) (wgN w cm h k) b a 0 hv2 (by rw [xup_same, upd_s]) (by omega) (by omega) c00 (by omega)
    · rw [if_neg (fun z => c ((b_on (by omega) (by omega)).mp z)), xlet_eq]
      have cf : S.testBit k = false := by simpa using c
      rw [cf, Bool.false_and, if_neg (by decide)] at j1 j2 j4
      rw [cf, if_neg (by decide)] at j3 j5
      refine ih (k + 1) f v a b mn mi wt fl (by omega) (by omega) hf e0 e1 (by omega) (by omega) (by omega) (by omega) (by omega) ?_
      rw [i6]
      refine and_congr_right (fun _ => ⟨fun g c' c1 c2 => g c' (by omega) c2, fun g c' c1 c2 c3 => ?_⟩)
      by_cases e : c' = k
      · subst e; rw [cf] at c3; exact absurd c3 (by decide)
      · exact g c' (by omega) c2 c3
/-- the model weighs S -/
theorem s_weighM {γ : Type} {w : xI} {cm : Nat → Int32} (hY : YdB w cm) (hT : TabB w) {t h n S : Nat} (hh : h ≤ 10) (hn : n ≤ 10) (hwn : w 5 2 = nI n) (hS : S < 2 ^ n) {u : xI} (hM : Mx w cm t u) : ∃ u', (∀ (K : Unit → xI → Option γ), xbind (f_X11_weighing (nI S) (nI h) u) K = K () u') ∧ Wm w cm t h n S u' ∧ Mx w cm t u' ∧ FrW u u' := by
  have f0 : FrP (xup (xup u 71 40 0) 71 41 0) (xup (xup u 71 40 0) 71 41 0) := ⟨fun _ _ => rfl, fun _ _ _ => rfl⟩
  have fr : FrW u (xup (xup u 71 40 0) 71 41 0) := (FrW.up (by decide) (by decide)).tr (FrW.up (by decide) (by decide))
  obtain ⟨u', r1, r2, r3⟩ := s_wgL hY hT hh hn hwn hS (hM.cg fr) n 0 2000 _ 0 0 0 0 0 true (by omega) (by omega) f0 (by rw [xup_same, upd_n _ _ (by decide), xup_same, upd_s]; rfl) (by rw [xup_same, upd_s]; rfl) (Nat.zero_add _).symm (Nat.zero_add _).symm (by rw [Nat.zero_add]; exact pop_n hS hn) (Nat.zero_add _).symm (Nat.zero_add _).symm ⟨fun g => ⟨rfl, fun c _ c2 => g c c2⟩, fun g c c2 => g.2 c (Nat.zero_le _) c2⟩
  refine ⟨u', fun K => ?_, r2, hM.cg (fr.tr r3), fr.tr r3⟩
  rw [nI_0] at r1
  unfold f_X11_weighing
  rw [show (1 : Int32) = if true = true then 1 else 0 from rfl, r1, xbind_some]
