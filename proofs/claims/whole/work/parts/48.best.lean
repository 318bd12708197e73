-- ===== the best weighing of an hour =====
/-- is S better than what brings b -/
def okB (w : xI) (cm : Nat → Int32) (t h n thr : Nat) (S : Nat) (b : Int32) : Prop := S &&& thr = 0 ∧ mbS w cm t h n S ∧ b < brS w cm t h n S
noncomputable def bestL (w : xI) (cm : Nat → Int32) (t h n thr : Nat) : Nat → Nat → Nat × Int32 → Nat × Int32
  | 0, _, b => b
  | m + 1, S, b => bestL w cm t h n thr m (S + 1) (@ite (Nat × Int32) (okB w cm t h n thr S b.2) (Classical.propDecidable _) (S, brS w cm t h n S) b)
noncomputable def bestB (w : xI) (cm : Nat → Int32) (t h n thr : Nat) : Nat × Int32 := bestL w cm t h n thr (2 ^ n - 1) 1 (0, 0)
theorem bestL_pos {w : xI} {cm : Nat → Int32} {t h n thr m S : Nat} {b : Nat × Int32} (c : okB w cm t h n thr S b.2) : bestL w cm t h n thr (m + 1) S b = bestL w cm t h n thr m (S + 1) (S, brS w cm t h n S) := by
  show bestL w cm t h n thr m (S + 1) (@ite _ _ (Classical.propDecidable _) _ _) = _
  rw [if_pos c]
theorem bestL_neg {w : xI} {cm : Nat → Int32} {t h n thr m S : Nat} {b : Nat × Int32} (c : ¬ okB w cm t h n thr S b.2) : bestL w cm t h n thr (m + 1) S b = bestL w cm t h n thr m (S + 1) b := by
  show bestL w cm t h n thr m (S + 1) (@ite _ _ (Classical.propDecidable _) _ _) = _
  rw [if_neg c]
/-- a set lies in what is free and has come -/
theorem free_come {cm : Nat → Int32} {h n S F thr : Nat} (hn : n ≤ 10) (hS : S < 2 ^ n) (hF : F < 1024) (hFt : ∀ i, i < n → F.testBit i = !thr.testBit i) : nI S &&& ((nI F &&& nI (mkM (cmP cm h) n)) ^^^ (-1)) = 0 ↔ S &&& thr = 0 ∧ acS cm h n S := by
  have hp := pw10 hn
  have hC := mkM_lt (cmP cm h) n
  have hl : F &&& mkM (cmP cm h) n < 2 ^ n := Nat.and_lt_two_pow _ hC
  rw [b_and (by omega) (by omega), b_dif (by omega) (by omega)]
  have hb := bdif_bit S (F &&& mkM (cmP cm h) n) (by omega)
  have hlt := bdif_lt (T := F &&& mkM (cmP cm h) n) hS
  have e0 : nI (bdif S (F &&& mkM (cmP cm h) n)) = 0 ↔ bdif S (F &&& mkM (cmP cm h) n) = 0 := nI_eq (b := 0) (by omega) (by decide)
  rw [e0]
  constructor
  · intro e
    have g : ∀ i, i < n → S.testBit i = true → F.testBit i = true ∧ cm i ≤ nI h := by
      intro i hi hs
      have := hb i
      rw [e, Nat.zero_testBit, Nat.testBit_and, mkM_bit, hs, decide_eq_true hi] at this
      simp [cmP] at this
      exact this
    refine ⟨Nat.eq_of_testBit_eq (fun i => ?_), fun c hc hs => (g c hc hs).2⟩
    rw [Nat.testBit_and, Nat.zero_testBit]
    by_cases hs : S.testBit i = true
    · by_cases hi : i < n
      · have h1 := (g i hi hs).1
        rw [hFt i hi] at h1
        simp at h1
        simp [h1]
      · rw [bit_ge (n := n) (i := i) hS (by omega)] at hs; exact absurd hs (by decide)
    · have : S.testBit i = false := by simpa using hs
      simp [this]
  · intro g
    refine Nat.eq_of_testBit_eq (fun i => ?_)
    rw [hb i, Nat.zero_testBit, Nat.testBit_and, mkM_bit]
    by_cases hs : S.testBit i = true
    · by_cases hi : i < n
      · have h1 : (S &&& thr).testBit i = false := by rw [g.1]; exact Nat.zero_testBit i
        rw [Nat.testBit_and, hs, Bool.true_and] at h1
        have h2 := g.2 i hi hs
        simp [hFt i hi, h1, cmP, h2, hi]
      · rw [bit_ge (n := n) (i := i) hS (by omega)] at hs; exact absurd hs (by decide)
    · have : S.testBit i = false := by simpa using hs
      simp [this]
theorem s_bestXL {w : xI} {cm : Nat → Int32} (hY : YdB w cm) (hT : TabB w) {t h n F thr : Nat} (hh : h ≤ 10) (hn : n ≤ 10) (hF : F < 1024) (hFt : ∀ i, i < n → F.testBit i = !thr.testBit i) : ∀ (m S fu : Nat) (b : Nat × Int32) (u : xI), S + m = 2 ^ n → m < fu → Prep w cm h n u → u 2 = w 2 → u 4 = w 4 → TxB w t u → u 21 13 = nI b.1 → u 21 14 = b.2 →
    ∃ u', f_X8_findBest_L23 (39 + 4 * t) fu (nI F) (nI (2 ^ n)) (nI S) u = some ((), u') ∧ u' 21 13 = nI (bestL w cm t h n thr m S b).1 ∧ u' 21 14 = (bestL w cm t h n thr m S b).2 ∧ Prep w cm h n u' ∧ (∀ q, q ≠ 21 → q ≠ 24 → q ≠ 42 + 4 * t → u' q = u q) := by
  have hp := pw10 hn
  intro m
  induction m with
  | zero =>
    intro S fu b u h1 h2 hP e2 e4 hX e13 e14
    obtain ⟨f, rfl⟩ : ∃ f, fu = f + 1 := ⟨fu - 1, by omega⟩
    refine ⟨u, ?_, e13, e14, hP, fun _ _ _ _ => rfl⟩
    rw [f_X8_findBest_L23, if_pos (nI_le (by omega) (by omega))]
  | succ m ih =>
    intro S fu b u h1 h2 hP e2 e4 hX e13 e14
    obtain ⟨f, rfl⟩ : ∃ f, fu = f + 1 := ⟨fu - 1, by omega⟩
    have hS : S < 2 ^ n := by omega
    have ht := hX.1
    rw [f_X8_findBest_L23, if_neg (nI_ge (by omega) (by omega)), hP.2.2.1]
    -- going on with the same best, from a world that kept all that matters
    have skip : ¬ okB w cm t h n thr S b.2 → ∀ z : xI, Prep w cm h n z → (∀ q, q ≠ 21 → q ≠ 24 → q ≠ 42 + 4 * t → z q = u q) → z 21 13 = nI b.1 → z 21 14 = b.2 →
        ∃ u', f_X8_findBest_L23 (39 + 4 * t) f (nI F) (nI (2 ^ n)) (nI (S + 1)) z = some ((), u') ∧ u' 21 13 = nI (bestL w cm t h n thr (m + 1) S b).1 ∧ u' 21 14 = (bestL w cm t h n thr (m + 1) S b).2 ∧ Prep w cm h n u' ∧ (∀ q, q ≠ 21 → q ≠ 24 → q ≠ 42 + 4 * t → u' q = u q) := by
      intro hno z hz zf z13 z14
      rw [bestL_neg hno]
      obtain ⟨u', r1, r2, r3, r4, r5⟩ := ih (S + 1) f b z (by omega) (by omega) hz (by rw [zf 2 (by decide) (by decide) (by omega)]; exact e2) (by rw [zf 4 (by decide) (by decide) (by omega)]; exact e4) (hX.cg (zf _ (by omega) (by omega) (by omega)) (zf _ (by omega) (by omega) (by omega)) (zf _ (by omega) (by omega) (by omega)) (zf _ (by omega) (by omega) (by omega))) z13 z14
      exact ⟨u', r1, r2, r3, r4, fun q q1 q2 q3 => by rw [r5 q q1 q2 q3, zf q q1 q2 q3]⟩
    have me := fun q (_ : q ≠ 21) (_ : q ≠ 24) (_ : q ≠ 42 + 4 * t) => (rfl : u q = u q)
    simp only [xlet_eq, nI_1]
    by_cases c1 : S &&& thr = 0 ∧ acS cm h n S
    · rw [if_pos ((free_come hn hS hF hFt).mpr c1), s_pans hn hS hP]
      by_cases c2 : (1 ≤ miS w n S ∧ miS w n S ≤ 2) ∧ (1 ≤ moS w n S ∧ moS w n S ≤ 2)
      · rw [if_pos c2, if_neg (by decide), s_worthOfX hn (by omega) hP, e14]
        by_cases c3 : b.2 < nI (wthS w cm h n S)
        · rw [if_pos c3]
          obtain ⟨u2, q1, W2, P2, f2, f2'⟩ := s_weighX (γ := Unit × xI) hY hT hh hn hS hP e2 e4
          have hX2 : TxB w t u2 := hX.cg (f2 _ (by omega) (by omega)) (f2 _ (by omega) (by omega)) (f2 _ (by omega) (by omega)) (f2 _ (by omega) (by omega))
          obtain ⟨T, m1⟩ := s_mayX (γ := Unit × xI) (t := t) hn hS P2 W2 hX2
          rw [q1]
          have P3 : ∀ T, Prep w cm h n (xuc u2 (42 + 4 * t) T) := fun T => P2.cg (xuc_ne _ _ _ (by omega)) (xuc_ne _ _ _ (by omega)) (xuc_ne _ _ _ (by omega)) (by rw [xuc_ne _ _ _ (by omega)]) (by rw [xuc_ne _ _ _ (by omega)]) (by rw [xuc_ne _ _ _ (by omega)])
          have F3 : ∀ T q, q ≠ 21 → q ≠ 24 → q ≠ 42 + 4 * t → xuc u2 (42 + 4 * t) T q = u q := fun T q q1 q2 q3 => by rw [xuc_ne _ _ _ q3, f2 q q1 q2]
          have k13 : ∀ T, xuc u2 (42 + 4 * t) T 21 13 = nI b.1 := fun T => by rw [xuc_ne _ _ _ (by omega), f2' 13 (by omega)]; exact e13
          have k14 : ∀ T, xuc u2 (42 + 4 * t) T 21 14 = b.2 := fun T => by rw [xuc_ne _ _ _ (by omega), f2' 14 (by omega)]; exact e14
          by_cases hm : mbS w cm t h n S
          · rw [(m1 _).1 hm, if_neg (by decide)]
            have W3 : Wd w cm h n S (xuc u2 (42 + 4 * t) T) := W2.cg (xuc_ne _ _ _ (by omega)) (xuc_ne _ _ _ (by omega))
            have hX3 : TxB w t (xuc u2 (42 + 4 * t) T) := hX2.cg (xuc_ne _ _ _ (by omega)) (xuc_ne _ _ _ (by omega)) (xuc_ne _ _ _ (by omega)) (xuc_ne _ _ _ (by omega))
            obtain ⟨T2, b1⟩ := s_brX (γ := Unit × xI) W3 hX3
            rw [xuc_xuc] at b1
            rw [b1, k14]
            by_cases c4 : brS w cm t h n S ≤ b.2
            · rw [if_pos c4]
              exact skip (fun z => absurd z.2.2 (Int32.not_lt.mpr c4)) _ (P3 T2) (F3 T2) (k13 T2) (k14 T2)
            · rw [if_neg c4]
              have hok : okB w cm t h n thr S b.2 := ⟨c1.1, hm, Int32.not_le.mp c4⟩
              generalize hz : xup (xuc u2 (42 + 4 * t) T2) 21 13 (nI S) = z
              have zq : ∀ q, q ≠ 21 → z q = xuc u2 (42 + 4 * t) T2 q := fun q hq => by rw [← hz, xup_ne _ _ _ hq]
              have zj : ∀ j, j ≠ 13 → z 21 j = u2 21 j := fun j hj => by rw [← hz, xup_same, upd_n _ _ hj, xuc_ne _ _ _ (by omega)]
              have z24 : z 24 = u2 24 := by rw [zq 24 (by decide), xuc_ne _ _ _ (by omega)]
              obtain ⟨w7, w8, w9, w10, w11, w12, w24⟩ := W2
              have W4 : Wd w cm h n S z := ⟨by rw [zj 7 (by decide)]; exact w7, by rw [zj 8 (by decide)]; exact w8, by rw [zj 9 (by decide)]; exact w9, by rw [zj 10 (by decide)]; exact w10, by rw [zj 11 (by decide)]; exact w11, by rw [zj 12 (by decide)]; exact w12, fun j hj => by rw [z24]; exact w24 j hj⟩
              have hX4 : TxB w t z := hX2.cg (by rw [zq _ (by omega), xuc_ne _ _ _ (by omega)]) (by rw [zq _ (by omega), xuc_ne _ _ _ (by omega)]) (by rw [zq _ (by omega), xuc_ne _ _ _ (by omega)]) (by rw [zq _ (by omega), xuc_ne _ _ _ (by omega)])
              obtain ⟨T5, b5⟩ := s_brX (γ := Unit × xI) W4 hX4
              rw [b5]
              generalize hy : xup (xuc z (42 + 4 * t) T5) 21 14 (brS w cm t h n S) = y
              have yq : ∀ q, q ≠ 21 → q ≠ 42 + 4 * t → y q = u2 q := fun q q1 q2 => by rw [← hy, xup_ne _ _ _ q1, xuc_ne _ _ _ q2, zq q q1, xuc_ne _ _ _ q2]
              have yj : ∀ j, j ≠ 13 → j ≠ 14 → y 21 j = u2 21 j := fun j j1 j2 => by rw [← hy, xup_same, upd_n _ _ j2, xuc_ne _ _ _ (by omega), zj j j1]
              have y13 : y 21 13 = nI S := by rw [← hy, xup_same, upd_n _ _ (by decide), xuc_ne _ _ _ (by omega), ← hz, xup_same, upd_s]
              have y14 : y 21 14 = brS w cm t h n S := by rw [← hy, xup_same, upd_s]
              have Py : Prep w cm h n y := P2.cg (yq 5 (by decide) (by omega)) (yq 22 (by decide) (by omega)) (yq 23 (by decide) (by omega)) (yj 5 (by decide) (by decide)) (yj 6 (by decide) (by decide)) (by rw [yq 24 (by decide) (by omega)])
              have yf : ∀ q, q ≠ 21 → q ≠ 24 → q ≠ 42 + 4 * t → y q = u q := fun q q1 q2 q3 => by rw [yq q q1 q3, f2 q q1 q2]
              rw [bestL_pos hok]
              obtain ⟨u', r1, r2, r3, r4, r5⟩ := ih (S + 1) f (S, brS w cm t h n S) y (by omega) (by omega) Py (by rw [yf 2 (by decide) (by decide) (by omega)]; exact e2) (by rw [yf 4 (by decide) (by decide) (by omega)]; exact e4) (hX.cg (yf _ (by omega) (by omega) (by omega)) (yf _ (by omega) (by omega) (by omega)) (yf _ (by omega) (by omega) (by omega)) (yf _ (by omega) (by omega) (by omega))) y13 y14
              exact ⟨u', r1, r2, r3, r4, fun q q1 q2 q3 => by rw [r5 q q1 q2 q3, yf q q1 q2 q3]⟩
          · rw [(m1 _).2 hm, if_pos rfl]
            exact skip (fun z => hm z.2.1) _ (P3 T) (F3 T) (k13 T) (k14 T)
        · rw [if_neg c3]
          exact skip (fun z => c3 (Int32.lt_of_lt_of_le z.2.2 (brS_bd hY hh hn).1)) u hP me e13 e14
      · rw [if_neg c2, if_pos rfl]
        exact skip (fun z => c2 ⟨z.2.1.1, z.2.1.2.1⟩) u hP me e13 e14
    · rw [if_neg (fun z => c1 ((free_come hn hS hF hFt).mp z))]
      exact skip (fun z => c1 ⟨z.1, z.2.1.2.2.1⟩) u hP me e13 e14
theorem s_bestX {γ : Type} {w : xI} {cm : Nat → Int32} (hY : YdB w cm) (hT : TabB w) {t h n F thr : Nat} (hh : h ≤ 10) (hn : n ≤ 10) (hF : F < 1024) (hFt : ∀ i, i < n → F.testBit i = !thr.testBit i) {u : xI} (hP : Prep w cm h n u) (e2 : u 2 = w 2) (e4 : u 4 = w 4) (hX : TxB w t u) :
    ∃ u', (∀ (K : Unit → xI → Option γ), xbind (f_X8_findBest (nI F) (39 + 4 * t) u) K = K () u') ∧ u' 21 13 = nI (bestB w cm t h n thr).1 ∧ u' 21 14 = (bestB w cm t h n thr).2 ∧ Prep w cm h n u' ∧ (∀ q, q ≠ 21 → q ≠ 24 → q ≠ 42 + 4 * t → u' q = u q) := by
  have hp := pw10 hn
  have h0 : 0 < 2 ^ n := Nat.two_pow_pos n
  have zq : ∀ q, q ≠ 21 → xup (xup u 21 13 0) 21 14 0 q = u q := fun q hq => by rw [xup_ne _ _ _ hq, xup_ne _ _ _ hq]
  have zj : ∀ j, j ≠ 13 → j ≠ 14 → xup (xup u 21 13 0) 21 14 0 21 j = u 21 j := fun j j1 j2 => by rw [xup_same, upd_n _ _ j2, xup_same, upd_n _ _ j1]
  obtain ⟨u', r1, r2, r3, r4, r5⟩ := s_bestXL hY hT hh hn hF hFt (2 ^ n - 1) 1 2000 (0, 0) (xup (xup u 21 13 0) 21 14 0) (by omega) (by omega) (hP.cg (zq _ (by decide)) (zq _ (by decide)) (zq _ (by decide)) (zj _ (by decide) (by decide)) (zj _ (by decide) (by decide)) (by rw [zq _ (by decide)])) (by rw [zq _ (by decide)]; exact e2) (by rw [zq _ (by decide)]; exact e4) (hX.cg (zq _ (by omega)) (zq _ (by omega)) (zq _ (by omega)) (zq _ (by omega))) (by rw [xup_same, upd_n _ _ (by decide), xup_same, upd_s]; rfl) (by rw [xup_same, upd_s])
  refine ⟨u', fun K => ?_, r2, r3, r4, fun q q1 q2 q3 => by rw [r5 q q1 q2 q3, zq q q1]⟩
  unfold f_X8_findBest
  rw [hP.1, b_shl (by omega), xlet_eq, show (1 : Int32) = nI 1 from rfl, r1, xbind_some]
