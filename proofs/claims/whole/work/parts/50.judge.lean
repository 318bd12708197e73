-- ===== told weighings =====
theorem FrX.cxY {w u : xI} (hf : FrX w u) : CxY w (w 7) 7 u := ⟨by rw [hf 5 (by omega)], fun c hc => hf _ (by omega), fun c hc _ => by rw [hf 7 (by omega)]⟩
theorem FrX.txB {w u : xI} {t : Nat} (hf : FrX w u) (hX : TxB w t w) : TxB w t u := by
  have ht := hX.1
  exact hX.cg (hf _ (by omega)) (hf _ (by omega)) (hf _ (by omega)) (hf _ (by omega))
def rowOk (w : xI) (t n : Nat) (h set : Int32) : Prop := (0 ≤ h ∧ h ≤ 9) ∧ (0 ≤ set ∧ set ≤ nI (2 ^ n - 1)) ∧ mbS w (w 7) t h.toNatClampNeg n set.toNatClampNeg
theorem s_isW {γ : Type} {w : xI} (hR : Rel w) {n t : Nat} (hn : n ≤ 10) (en : w 5 2 = nI n) (ht : t < 6) (e4 : w 0 4 = nI t) (hX : TxB w t w) {u : xI} (hf : FrX w u) (x1 x2 : Int32) : ∃ u', FrX w u' ∧ ∀ (K : Int32 → xI → Option γ), (rowOk w t n x1 x2 → xbind (f_X10_isWeighingThatMayBe x1 x2 u) K = K 1 u') ∧ (¬ rowOk w t n x1 x2 → xbind (f_X10_isWeighingThatMayBe x1 x2 u) K = K 0 u') := by
  have hp := pw10 hn
  have h0 : 0 < 2 ^ n := Nat.two_pow_pos n
  have en' : u 5 2 = nI n := by rw [hf 5 (by omega)]; exact en
  by_cases h1 : 0 ≤ x1 ∧ x1 ≤ 9
  · by_cases h2 : 0 ≤ x2 ∧ x2 ≤ nI (2 ^ n - 1)
    · obtain ⟨h, hh, rfl⟩ := nI_bd (n := 9) (by decide) h1.1 h1.2
      obtain ⟨S, hS, rfl⟩ := nI_bd (n := 2 ^ n - 1) (by omega) h2.1 h2.2
      have hS' : S < 2 ^ n := by omega
      obtain ⟨u1, p1, P1, f1, f1'⟩ := s_prepare (γ := Int32 × xI) hR.ydB hn en (h := h) (by omega) (o2 := 7) (by decide) hf.cxY
      obtain ⟨u2, q1, W2, P2, f2, f2'⟩ := s_weighX (γ := Int32 × xI) hR.ydB hR.tabB (by omega) hn hS' P1 (by rw [f1 2 (by decide) (by decide) (by decide) (by decide)]; exact hf 2 (by omega)) (by rw [f1 4 (by decide) (by decide) (by decide) (by decide)]; exact hf 4 (by omega))
      have fx2 : FrX w u2 := fun k hk => by rw [f2 k (by omega) (by omega), f1 k (by omega) (by omega) (by omega) (by omega)]; exact hf k hk
      obtain ⟨T, m1⟩ := s_mayX (γ := Int32 × xI) (t := t) hn hS' P2 W2 (fx2.txB hX)
      have pre : f_X10_isWeighingThatMayBe (nI h) (nI S) u = xbind (f_X8_mayBe (39 + 4 * t) u2) fun r13 w14 => xchk (decide (r13 = 0 ∨ r13 = 1)) (some (r13, w14)) := by
        unfold f_X10_isWeighingThatMayBe
        rw [s_hourX, if_pos h1, if_neg (by decide), s_hasAll hn en', if_pos h2, if_neg (by decide), p1, q1, s_law ht (by rw [fx2 0 (by omega)]; exact e4), isTxt ht, xchk_true]
      refine ⟨xuc u2 (42 + 4 * t) T, fx2.tr (FrX.uc (by omega)), fun K => ⟨fun g => ?_, fun g => ?_⟩⟩
      · have g2 := g.2.2
        rw [nI_clamp (by omega), nI_clamp (by omega)] at g2
        rw [pre, (m1 _).1 g2]; rfl
      · have g2 : ¬ mbS w (w 7) t h n S := fun z => g ⟨h1, h2, by rw [nI_clamp (by omega), nI_clamp (by omega)]; exact z⟩
        rw [pre, (m1 _).2 g2]; rfl
    · refine ⟨u, hf, fun K => ⟨fun g => absurd g.2.1 h2, fun _ => ?_⟩⟩
      unfold f_X10_isWeighingThatMayBe
      rw [s_hourX, if_pos h1, if_neg (by decide), s_hasAll hn en', if_neg h2, if_pos rfl, xbind_some]
  · refine ⟨u, hf, fun K => ⟨fun g => absurd g.1 h1, fun _ => ?_⟩⟩
    unfold f_X10_isWeighingThatMayBe
    rw [s_hourX, if_neg h1, if_pos rfl, xbind_some]
theorem mb_ne0 {w : xI} {cm : Nat → Int32} {t h n : Nat} (hn : n ≤ 10) : ¬ mbS w cm t h n 0 := by
  intro g
  have h1 := g.1.1
  have h2 := mimo (w := w) (n := n) (S := 0) hn (Nat.two_pow_pos n)
  have h3 : pop 0 = 0 := rfl
  omega
noncomputable def judV (w : xI) (t n : Nat) (cl : Nat → Int32) : Nat → Nat → Int32 → Int32 → Int32
  | 0, _, _, _ => -1
  | m + 1, k, a, td => @ite Int32 (a < cl (2 * k) ∧ cl (2 * k + 1) &&& td = 0 ∧ rowOk w t n (cl (2 * k)) (cl (2 * k + 1))) (Classical.propDecidable _) (judV w t n cl m (k + 1) (cl (2 * k)) (td ||| cl (2 * k + 1))) (nI k)
theorem judV_pos {w : xI} {t n : Nat} {cl : Nat → Int32} {m k : Nat} {a td : Int32} (c : a < cl (2 * k) ∧ cl (2 * k + 1) &&& td = 0 ∧ rowOk w t n (cl (2 * k)) (cl (2 * k + 1))) : judV w t n cl (m + 1) k a td = judV w t n cl m (k + 1) (cl (2 * k)) (td ||| cl (2 * k + 1)) := if_pos c
theorem judV_neg {w : xI} {t n : Nat} {cl : Nat → Int32} {m k : Nat} {a td : Int32} (c : ¬ (a < cl (2 * k) ∧ cl (2 * k + 1) &&& td = 0 ∧ rowOk w t n (cl (2 * k)) (cl (2 * k + 1)))) : judV w t n cl (m + 1) k a td = nI k := if_neg c
theorem half {z : Nat} (hz : z ≤ 40) : nI z / 2 = nI (z / 2) := pk_div (a := z) (d := 2) (by omega) (by decide) (by decide)
theorem s_judX {w : xI} (hR : Rel w) {n t s z : Nat} (hn : n ≤ 10) (en : w 5 2 = nI n) (ht : t < 6) (e4 : w 0 4 = nI t) (hX : TxB w t w) (hs : s < 4) (hz : z ≤ 40) (ez : w (63 + 2 * s) 1 = nI z) : ∀ (m k fu : Nat) (a td : Int32) (u : xI), k + m = z / 2 → m < fu → FrX w u → ∃ u', f_X10_judge_L28 fu (63 + 2 * s) a td (nI k) u = some (judV w t n (w (64 + 2 * s)) m k a td, u') ∧ FrX w u' := by
  intro m
  induction m with
  | zero =>
    intro k fu a td u h1 h2 hf
    obtain ⟨f, rfl⟩ : ∃ f, fu = f + 1 := ⟨fu - 1, by omega⟩
    refine ⟨u, ?_, hf⟩
    rw [f_X10_judge_L28, hf (63 + 2 * s) (by omega), ez, half hz, if_pos (nI_le (by omega) (by omega))]; rfl
  | succ m ih =>
    intro k fu a td u h1 h2 hf
    obtain ⟨f, rfl⟩ : ∃ f, fu = f + 1 := ⟨fu - 1, by omega⟩
    have e1 : (2 : Int32) * nI k = nI (2 * k) := pk_mul 2 k
    have e2 : 63 + 2 * s + 1 = 64 + 2 * s := by omega
    rw [f_X10_judge_L28, hf (63 + 2 * s) (by omega), ez, half hz, if_neg (nI_ge (by omega) (by omega)), e1, nI_1, xin_nI (by omega) (by decide), xin_nI (by omega) (by decide), nI_clamp (by omega), nI_clamp (by omega), e2, hf (64 + 2 * s) (by omega), nI_1]
    simp only [xlet_eq, xchk_true]
    by_cases c1 : a < w (64 + 2 * s) (2 * k)
    · rw [if_neg (Int32.not_le.mpr c1)]
      by_cases c2 : w (64 + 2 * s) (2 * k + 1) &&& td = 0
      · rw [if_pos c2]
        obtain ⟨u1, f1, g1⟩ := s_isW (γ := Int32 × xI) hR hn en ht e4 hX hf (w (64 + 2 * s) (2 * k)) (w (64 + 2 * s) (2 * k + 1))
        by_cases c3 : rowOk w t n (w (64 + 2 * s) (2 * k)) (w (64 + 2 * s) (2 * k + 1))
        · rw [(g1 _).1 c3, if_neg (by decide), judV_pos ⟨c1, c2, c3⟩]
          exact ih (k + 1) f _ _ u1 (by omega) (by omega) f1
        · rw [(g1 _).2 c3, if_pos rfl, judV_neg (fun y => c3 y.2.2)]
          exact ⟨u1, rfl, f1⟩
      · rw [if_neg c2, judV_neg (fun y => c2 y.2.1)]
        exact ⟨u, rfl, hf⟩
    · rw [if_pos (Int32.not_lt.mp c1), judV_neg (fun y => c1 y.1)]
      exact ⟨u, rfl, hf⟩
theorem s_isRow {γ : Type} {w : xI} (hR : Rel w) {n t s k : Nat} (hn : n ≤ 10) (en : w 5 2 = nI n) (hs : s < 4) (hk : 2 * k + 1 < 40) {u : xI} (hM : Mx w (w 7) t u) (h89 : ∀ i, i < 40 → u 89 (40 * s + i) = w (64 + 2 * s) i) (a td : Int32) : ∃ u', FrW u u' ∧ ∀ (K : Int32 → xI → Option γ), (a < w (64 + 2 * s) (2 * k) ∧ w (64 + 2 * s) (2 * k + 1) &&& td = 0 ∧ rowOk w t n (w (64 + 2 * s) (2 * k)) (w (64 + 2 * s) (2 * k + 1)) → xbind (f_X11_isRow (nI s) (nI k) a td u) K = K 1 u') ∧ (¬ (a < w (64 + 2 * s) (2 * k) ∧ w (64 + 2 * s) (2 * k + 1) &&& td = 0 ∧ rowOk w t n (w (64 + 2 * s) (2 * k)) (w (64 + 2 * s) (2 * k + 1))) → xbind (f_X11_isRow (nI s) (nI k) a td u) K = K 0 u') := by
  have hp := pw10 hn
  have h0 : 0 < 2 ^ n := Nat.two_pow_pos n
  have e1 : (2 : Int32) * nI k = nI (2 * k) := pk_mul 2 k
  have e2 : (40 : Int32) * nI s = nI (40 * s) := pk_mul 40 s
  have em : u 71 3 = nI n := hM.1.1.trans en
  unfold f_X11_isRow
  rw [e1, e2, nI_add, nI_1, xin_nI (by omega) (by decide), xin_nI (by omega) (by decide), nI_clamp (by omega), nI_clamp (by omega), h89 _ (by omega), show 40 * s + 2 * k + 1 = 40 * s + (2 * k + 1) by omega, h89 _ (by omega)]
  generalize w (64 + 2 * s) (2 * k) = x1
  generalize w (64 + 2 * s) (2 * k + 1) = x2
  simp only [xchk_true, xlet_eq]
  rw [s_hourM]
  by_cases h1 : 0 ≤ x1 ∧ x1 ≤ 9
  · rw [if_pos h1, if_neg (by decide), s_allM hn em, s_in]
    by_cases h2 : 1 ≤ x2 ∧ x2 ≤ nI (2 ^ n - 1)
    · rw [if_pos h2, if_neg (by decide)]
      have h2' : 0 ≤ x2 ∧ x2 ≤ nI (2 ^ n - 1) := ⟨Int32_01 h2.1, h2.2⟩
      by_cases c1 : a < x1
      · rw [if_neg (Int32.not_le.mpr c1)]
        by_cases c2 : x2 &&& td = 0
        · rw [if_pos c2]
          obtain ⟨h, hh, rfl⟩ := nI_bd (n := 9) (by decide) h1.1 h1.2
          obtain ⟨S, hS, rfl⟩ := nI_bd (n := 2 ^ n - 1) (by omega) h2'.1 h2'.2
          obtain ⟨u', g1, g2, g3, g4⟩ := s_weighM (γ := Int32 × xI) hR.ydB hR.tabB (h := h) (by omega) hn en (S := S) (by omega) hM
          refine ⟨u', g4, fun K => ⟨fun y => ?_, fun y => ?_⟩⟩
          · have y2 := y.2.2.2.2
            rw [nI_clamp (by omega), nI_clamp (by omega)] at y2
            rw [g1, (g2.2.2.2.2.1 y2).1]; rfl
          · have y2 : ¬ mbS w (w 7) t h n S := fun q => y ⟨c1, c2, h1, h2', by rw [nI_clamp (by omega), nI_clamp (by omega)]; exact q⟩
            rw [g1, (g2.2.2.2.2.2 y2).1]; rfl
        · rw [if_neg c2]
          exact ⟨u, FrW.rfl' u, fun K => ⟨fun y => absurd y.2.1 c2, fun _ => rfl⟩⟩
      · rw [if_pos (Int32.not_lt.mp c1)]
        exact ⟨u, FrW.rfl' u, fun K => ⟨fun y => absurd y.1 c1, fun _ => rfl⟩⟩
    · rw [if_neg h2, if_pos rfl]
      refine ⟨u, FrW.rfl' u, fun K => ⟨fun y => ?_, fun _ => rfl⟩⟩
      exfalso
      have y1 := y.2.2.2.1
      obtain ⟨S, hS, rfl⟩ := nI_bd (n := 2 ^ n - 1) (by omega) y1.1 y1.2
      have y2 := y.2.2.2.2
      rw [nI_clamp (n := S) (by omega)] at y2
      by_cases c : S = 0
      · rw [c] at y2; exact mb_ne0 hn y2
      · exact h2 ⟨nI_le (a := 1) (by omega) (by omega), y1.2⟩
  · rw [if_neg h1, if_pos rfl]
    exact ⟨u, FrW.rfl' u, fun K => ⟨fun y => absurd y.2.2.1 h1, fun _ => rfl⟩⟩
theorem s_judM {w : xI} (hR : Rel w) {n t s z : Nat} (hn : n ≤ 10) (en : w 5 2 = nI n) (hs : s < 4) (hz : z ≤ 40) : ∀ (m k fu : Nat) (a td : Int32) (u : xI), k + m = z / 2 → m < fu → Mx w (w 7) t u → u 88 s = nI z → (∀ i, i < 40 → u 89 (40 * s + i) = w (64 + 2 * s) i) → ∃ u', f_X11_judge_L24 fu (nI s) a td (nI k) u = some (judV w t n (w (64 + 2 * s)) m k a td, u') ∧ FrW u u' := by
  intro m
  induction m with
  | zero =>
    intro k fu a td u h1 h2 hM e88 e89
    obtain ⟨f, rfl⟩ : ∃ f, fu = f + 1 := ⟨fu - 1, by omega⟩
    refine ⟨u, ?_, FrW.rfl' u⟩
    rw [f_X11_judge_L24, xin_nI hs (by decide), xchk_true, nI_clamp (by omega), e88, half hz, if_pos (nI_le (by omega) (by omega))]; rfl
  | succ m ih =>
    intro k fu a td u h1 h2 hM e88 e89
    obtain ⟨f, rfl⟩ : ∃ f, fu = f + 1 := ⟨fu - 1, by omega⟩
    obtain ⟨u1, f1, g1⟩ := s_isRow (γ := Int32 × xI) hR hn en hs (k := k) (by omega) hM e89 a td
    have e1 : (2 : Int32) * nI k = nI (2 * k) := pk_mul 2 k
    have e2 : (40 : Int32) * nI s = nI (40 * s) := pk_mul 40 s
    rw [f_X11_judge_L24, xin_nI hs (by decide), xchk_true, nI_clamp (by omega), e88, half hz, if_neg (nI_ge (by omega) (by omega))]
    by_cases c : a < w (64 + 2 * s) (2 * k) ∧ w (64 + 2 * s) (2 * k + 1) &&& td = 0 ∧ rowOk w t n (w (64 + 2 * s) (2 * k)) (w (64 + 2 * s) (2 * k + 1))
    · have k89 : ∀ i, i < 40 → u1 89 (40 * s + i) = w (64 + 2 * s) i := fun i hi => by rw [f1.1 89 (by decide) (by decide) (by decide)]; exact e89 i hi
      rw [(g1 _).1 c, if_neg (by decide), e1, e2, nI_add, nI_1, xin_nI (by omega) (by decide), xin_nI (by omega) (by decide), nI_clamp (by omega), nI_clamp (by omega), k89 _ (by omega), show 40 * s + 2 * k + 1 = 40 * s + (2 * k + 1) by omega, k89 _ (by omega), nI_1, judV_pos c]
      simp only [xchk_true, xlet_eq]
      obtain ⟨u', r1, r2⟩ := ih (k + 1) f (w (64 + 2 * s) (2 * k)) (td ||| w (64 + 2 * s) (2 * k + 1)) u1 (by omega) (by omega) (hM.cg f1) (by rw [f1.1 88 (by decide) (by decide) (by decide)]; exact e88) k89
      exact ⟨u', r1, f1.tr r2⟩
    · rw [(g1 _).2 c, if_pos rfl, judV_neg c]
      exact ⟨u1, rfl, f1⟩
/-- why a sheet can't tell rows of two: the same for both -/
def refV (w : xI) (s : Nat) : Int32 := if w (63 + 2 * s) 0 = -1 then -11 else if w (63 + 2 * s) 1 - w (63 + 2 * s) 1 / 2 * 2 = 0 then 0 else -2
theorem s_refX {γ : Type} {w : xI} {s : Nat} (hs : s < 4) (K : Int32 → xI → Option γ) : xbind (f_X10_refusalOfRows (nI s) w) K = K (refV w s) w := by
  have hb : (0 : Int32) ≤ nI s ∧ nI s ≤ 3 := ⟨nI_pos' (by omega), nI_le (b := 3) (by omega) (by omega)⟩
  unfold f_X10_refusalOfRows refV
  rw [s_isSheet, if_pos hb, if_neg (by decide), xin_nI hs (by decide), xchk_true, xlet_eq, xchk_true, xlet_eq, nI_clamp (by omega)]
  by_cases c1 : w (63 + 2 * s) 0 = -1
  · rw [if_pos c1, if_pos c1, xbind_some]
  · rw [if_neg c1, if_neg c1]
    by_cases c2 : w (63 + 2 * s) 1 - w (63 + 2 * s) 1 / 2 * 2 = 0
    · rw [if_pos c2, if_pos c2, xbind_some]
    · rw [if_neg c2, if_neg c2, xbind_some]
theorem s_refM {γ : Type} {w u : xI} {s : Nat} (hs : s < 4) (e87 : u 87 s = w (63 + 2 * s) 0) (e88 : u 88 s = w (63 + 2 * s) 1) (K : Int32 → xI → Option γ) : xbind (f_X11_sheetWrong (nI s) u) K = K (refV w s) u := by
  have hb : (0 : Int32) ≤ nI s ∧ nI s ≤ 3 := ⟨nI_pos' (by omega), nI_le (b := 3) (by omega) (by omega)⟩
  unfold f_X11_sheetWrong refV
  rw [s_in, if_pos hb, if_neg (by decide), xin_nI hs (by decide), xchk_true, xchk_true, nI_clamp (by omega), e87, e88]
  by_cases c1 : w (63 + 2 * s) 0 = -1
  · rw [if_pos c1, if_pos c1, xbind_some]
  · rw [if_neg c1, if_neg c1]
    by_cases c2 : w (63 + 2 * s) 1 - w (63 + 2 * s) 1 / 2 * 2 = 0
    · rw [if_pos c2, if_pos c2, xbind_some]
    · rw [if_neg c2, if_neg c2, xbind_some]
theorem s_refXn {γ : Type} {w : xI} {a : Int32} (h : ¬ (0 ≤ a ∧ a ≤ 3)) (K : Int32 → xI → Option γ) : xbind (f_X10_refusalOfRows a w) K = K (-2) w := by
  unfold f_X10_refusalOfRows
  rw [s_isSheet, if_neg h, if_pos rfl, xbind_some]
theorem s_refMn {γ : Type} {w : xI} {a : Int32} (h : ¬ (0 ≤ a ∧ a ≤ 3)) (K : Int32 → xI → Option γ) : xbind (f_X11_sheetWrong a w) K = K (-2) w := by
  unfold f_X11_sheetWrong
  rw [s_in, if_neg h, if_pos rfl, xbind_some]
theorem op_judge (a1 : Int32) : OpI (f_X10_judge a1) (f_X11_judge a1) := by
  intro w hR
  obtain ⟨n, hn, en, em⟩ := hR.n
  obtain ⟨t, ht, e4, e15, hX⟩ := hR.law
  by_cases h1 : 0 ≤ a1 ∧ a1 ≤ 3
  · obtain ⟨s, hs, rfl⟩ := nI_bd (n := 3) (by decide) h1.1 h1.2
    have hs4 : s < 4 := by omega
    obtain ⟨e87, e88, b0, b1, e89⟩ := hR.sh s hs4
    obtain ⟨z, hz, ez⟩ := nI_bd (n := 40) (by decide) b1.1 b1.2
    by_cases hr : refV w s = 0
    · obtain ⟨w1, x1, x2⟩ := s_judX hR hn en ht e4 hX hs4 hz ez (z / 2) 0 2000 (-1) 0 w (by omega) (by omega) (FrX.rfl' w)
      obtain ⟨u, s1, s2, s3⟩ := s_startM (γ := Int32 × xI) hR x2 ht e15 hX
      have k8 : ∀ k, 80 ≤ k → k ≠ 95 → u k = w k := fun k h1 h2 => by rw [s3 k h2, x2 k (by omega)]
      obtain ⟨w2, y1, y2⟩ := s_judM hR hn en hs4 hz (z / 2) 0 2000 (-1) 0 u (by omega) (by omega) s2 (by rw [k8 88 (by decide) (by decide), e88]; exact ez) (fun i hi => by rw [k8 89 (by decide) (by decide)]; exact e89 i hi)
      rw [nI_0] at x1 y1
      refine OpI.q (judV w t n (w (64 + 2 * s)) (z / 2) 0 (-1) 0) w1 w2 ?_ ?_ (hR.endW x2 s3 y2)
      · rw [f_X10_judge, s_refX hs4, hr, if_pos rfl, xin_nI hs4 (by decide), xchk_true, xlet_eq, nI_clamp (by omega)]; exact x1
      · rw [f_X11_judge, s_refM (w := w) hs4 (by rw [x2 87 (by omega)]; exact e87) (by rw [x2 88 (by omega)]; exact e88), hr, if_pos rfl, s1]; exact y1
    · exact OpI.q (refV w s) w w (by rw [f_X10_judge, s_refX hs4, if_neg hr]) (by rw [f_X11_judge, s_refM (w := w) hs4 e87 e88, if_neg hr]) hR
  · exact OpI.q (-2) w w (by rw [f_X10_judge, s_refXn h1, if_neg (by decide)]) (by rw [f_X11_judge, s_refMn h1, if_neg (by decide)]) hR
