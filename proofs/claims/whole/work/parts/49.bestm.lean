theorem s_onesL {S : Nat} (hS : S < 1024) (u : xI) : ∀ (m k fu a : Nat), k + m = 10 → m < fu → f_X11_ones_L4 fu (nI S) (nI a) (nI k) u = some (nI (a + bsum one1 (fun c => S.testBit c) m k), u) := by
  intro m
  induction m with
  | zero =>
    intro k fu a h1 h2
    obtain ⟨f, rfl⟩ : ∃ f, fu = f + 1 := ⟨fu - 1, by omega⟩
    rw [f_X11_ones_L4, if_pos (show (10 : Int32) ≤ nI k from nI_le (a := 10) (by omega) (by omega))]; rfl
  | succ m ih =>
    intro k fu a h1 h2
    obtain ⟨f, rfl⟩ : ∃ f, fu = f + 1 := ⟨fu - 1, by omega⟩
    have e : bsum one1 (fun c => S.testBit c) (m + 1) k = (if S.testBit k = true then 1 else 0) + bsum one1 (fun c => S.testBit c) m (k + 1) := rfl
    rw [f_X11_ones_L4, if_neg (show ¬ (10 : Int32) ≤ nI k from nI_ge (b := 10) (by omega) (by omega)), b_bit (by omega) (by omega), xlet_eq, xlet_eq, nI_1, e]
    by_cases c : S.testBit k = true
    · rw [if_pos c, if_pos c, nI_1, ih (k + 1) f (a + 1) (by omega) (by omega), Nat.add_assoc]
    · rw [if_neg c, if_neg c, Int32.add_zero, ih (k + 1) f a (by omega) (by omega), Nat.zero_add]
theorem s_ones {γ : Type} {S : Nat} (hS : S < 1024) (u : xI) (K : Int32 → xI → Option γ) : xbind (f_X11_ones (nI S) u) K = K (nI (pop S)) u := by
  have g := s_onesL hS u 10 0 2000 0 (by omega) (by omega)
  rw [nI_0, Nat.zero_add] at g
  unfold f_X11_ones
  rw [g, xbind_some]; rfl
theorem Mx.cg2 {w : xI} {cm : Nat → Int32} {t : Nat} {u u' : xI} (h : Mx w cm t u) (hk : ∀ q, (40 ≤ q ∧ q ≤ 61) ∨ (72 ≤ q ∧ q ≤ 79) ∨ q = 81 ∨ q = 82 ∨ q = 95 → u' q = u q) (h3 : u' 71 3 = u 71 3) (h15 : u' 71 15 = u 71 15) : Mx w cm t u' := by
  obtain ⟨⟨a1, a2⟩, b, c, d, e⟩ := h
  have ht := c.1
  refine ⟨⟨h3.trans a1, fun i hi => ?_⟩, h15.trans b, c.cg (hk _ (by omega)) (hk _ (by omega)) (hk _ (by omega)) (hk _ (by omega)), by rw [hk 72 (by omega)]; exact d, by rw [hk 95 (by omega)]; exact e⟩
  rw [hk 74 (by omega), hk 75 (by omega), hk 76 (by omega), hk 77 (by omega), hk 78 (by omega), hk 79 (by omega)]
  exact a2 i hi
/-- only the model's search has changed -/
def FrB (u u' : xI) : Prop := (∀ q, q ≠ 71 → q ≠ 93 → q ≠ 94 → u' q = u q) ∧ ∀ j, j < 40 ∨ (45 < j ∧ j ≠ 51 ∧ j ≠ 52) → u' 71 j = u 71 j
theorem FrB.tr {u v z : xI} (h1 : FrB u v) (h2 : FrB v z) : FrB u z := ⟨fun q a b c => (h2.1 q a b c).trans (h1.1 q a b c), fun j hj => (h2.2 j hj).trans (h1.2 j hj)⟩
theorem FrW.frB {u v : xI} (h : FrW u v) : FrB u v := ⟨h.1, fun j hj => h.2 j (by omega)⟩
theorem FrB.up {u : xI} {j : Nat} {x : Int32} (h : j = 51 ∨ j = 52) : FrB u (xup u 71 j x) := ⟨fun q a _ _ => xup_ne _ _ _ a, fun i hi => by rw [xup_same, upd_n _ _ (by omega)]⟩
theorem FrB.mx {w : xI} {cm : Nat → Int32} {t : Nat} {u u' : xI} (hf : FrB u u') (h : Mx w cm t u) : Mx w cm t u' := h.cg2 (fun q hq => hf.1 q (by omega) (by omega) (by omega)) (hf.2 3 (by omega)) (hf.2 15 (by omega))
theorem s_bestML {w : xI} {cm : Nat → Int32} (hY : YdB w cm) (hT : TabB w) {t h n thr : Nat} (hh : h ≤ 10) (hn : n ≤ 10) (hwn : w 5 2 = nI n) (hthr : thr < 1024) : ∀ (m S fu : Nat) (b : Nat × Int32) (u : xI), S + m = 2 ^ n → m < fu → Mx w cm t u → u 71 51 = nI b.1 → u 71 52 = b.2 →
    ∃ u', f_X11_findsBest_L12 fu (nI h) (nI thr) (nI S) u = some ((), u') ∧ u' 71 51 = nI (bestL w cm t h n thr m S b).1 ∧ u' 71 52 = (bestL w cm t h n thr m S b).2 ∧ FrB u u' := by
  have hp := pw10 hn
  have h0 : 0 < 2 ^ n := Nat.two_pow_pos n
  intro m
  induction m with
  | zero =>
    intro S fu b u h1 h2 hM e1 e2
    obtain ⟨f, rfl⟩ : ∃ f, fu = f + 1 := ⟨fu - 1, by omega⟩
    refine ⟨u, ?_, e1, e2, fun _ _ _ _ => rfl, fun _ _ => rfl⟩
    rw [f_X11_findsBest_L12, s_allM hn (hM.1.1.trans hwn), if_pos (nI_lt (by omega) (by omega))]
  | succ m ih =>
    intro S fu b u h1 h2 hM e1 e2
    obtain ⟨f, rfl⟩ : ∃ f, fu = f + 1 := ⟨fu - 1, by omega⟩
    have hS : S < 2 ^ n := by omega
    have hand : S &&& thr < 2 ^ 10 := Nat.and_lt_two_pow _ hthr
    have skip : ¬ okB w cm t h n thr S b.2 → ∀ z : xI, FrB u z → z 71 51 = nI b.1 → z 71 52 = b.2 → ∃ u', f_X11_findsBest_L12 f (nI h) (nI thr) (nI (S + 1)) z = some ((), u') ∧ u' 71 51 = nI (bestL w cm t h n thr (m + 1) S b).1 ∧ u' 71 52 = (bestL w cm t h n thr (m + 1) S b).2 ∧ FrB u u' := by
      intro hno z zf z1 z2
      rw [bestL_neg hno]
      obtain ⟨u', r1, r2, r3, r4⟩ := ih (S + 1) f b z (by omega) (by omega) (zf.mx hM) z1 z2
      exact ⟨u', r1, r2, r3, zf.tr r4⟩
    have me : FrB u u := ⟨fun _ _ _ _ => rfl, fun _ _ => rfl⟩
    rw [f_X11_findsBest_L12, s_allM hn (hM.1.1.trans hwn), if_neg (nI_nlt (by omega) (by omega)), b_and (by omega) (by omega), nI_1]
    simp only [xlet_eq]
    by_cases c1 : S &&& thr = 0
    · rw [if_pos (show nI (S &&& thr) = 0 by rw [c1]; rfl), s_ones (by omega), s_in]
      have q1 := pop_le S
      have i1 : ((2 : Int32) ≤ nI (pop S) ∧ nI (pop S) ≤ 4) ↔ (2 ≤ pop S ∧ pop S ≤ 4) := and_congr (nI_leI (a := 2) (by omega) (by omega)) (nI_leI (b := 4) (by omega) (by omega))
      have hmm := mimo (w := w) hn hS
      by_cases c2 : 2 ≤ pop S ∧ pop S ≤ 4
      · rw [if_pos (i1.mpr c2), if_neg (by decide)]
        obtain ⟨u2, g1, g2, g3, g4⟩ := s_weighM (γ := Unit × xI) hY hT hh hn hwn hS hM
        rw [g1]
        have k51 : u2 71 51 = nI b.1 := by rw [g4.2 51 (by omega)]; exact e1
        have k52 : u2 71 52 = b.2 := by rw [g4.2 52 (by omega)]; exact e2
        by_cases hm : mbS w cm t h n S
        · obtain ⟨x1, x2⟩ := g2.2.2.2.2.1 hm
          rw [x1, if_neg (by decide), x2, k52]
          by_cases c3 : brS w cm t h n S ≤ b.2
          · rw [if_pos c3]
            exact skip (fun z => absurd z.2.2 (Int32.not_lt.mpr c3)) u2 g4.frB k51 k52
          · rw [if_neg c3]
            have hok : okB w cm t h n thr S b.2 := ⟨c1, hm, Int32.not_le.mp c3⟩
            rw [bestL_pos hok]
            have fz : FrB u (xup (xup u2 71 51 (nI S)) 71 52 (brS w cm t h n S)) := g4.frB.tr ((FrB.up (Or.inl rfl)).tr (FrB.up (Or.inr rfl)))
            obtain ⟨u', r1, r2, r3, r4⟩ := ih (S + 1) f (S, brS w cm t h n S) _ (by omega) (by omega) (fz.mx hM) (by rw [xup_same, upd_n _ _ (by decide), xup_same, upd_s]) (by rw [xup_same, upd_s])
            exact ⟨u', r1, r2, r3, fz.tr r4⟩
        · obtain ⟨x1, x2⟩ := g2.2.2.2.2.2 hm
          rw [x1, if_pos rfl]
          exact skip (fun z => hm z.2.1) u2 g4.frB k51 k52
      · rw [if_neg (fun z => c2 (i1.mp z)), if_pos rfl]
        exact skip (fun z => c2 (by have a := z.2.1.1; have b := z.2.1.2.1; omega)) u me e1 e2
    · have nz : ¬ nI (S &&& thr) = 0 := fun z => c1 ((nI_eq (b := 0) (by omega) (by decide)).mp z)
      rw [if_neg nz]
      exact skip (fun z => c1 z.1) u me e1 e2
theorem s_bestM {γ : Type} {w : xI} {cm : Nat → Int32} (hY : YdB w cm) (hT : TabB w) {t h n thr : Nat} (hh : h ≤ 10) (hn : n ≤ 10) (hwn : w 5 2 = nI n) (hthr : thr < 1024) {u : xI} (hM : Mx w cm t u) :
    ∃ u', (∀ (K : Unit → xI → Option γ), xbind (f_X11_findsBest (nI h) (nI thr) u) K = K () u') ∧ u' 71 51 = nI (bestB w cm t h n thr).1 ∧ u' 71 52 = (bestB w cm t h n thr).2 ∧ FrB u u' := by
  have h0 : 0 < 2 ^ n := Nat.two_pow_pos n
  have hp := pw10 hn
  have fz : FrB u (xup (xup u 71 51 0) 71 52 0) := (FrB.up (Or.inl rfl)).tr (FrB.up (Or.inr rfl))
  obtain ⟨u', r1, r2, r3, r4⟩ := s_bestML hY hT hh hn hwn hthr (2 ^ n - 1) 1 2000 (0, 0) _ (by omega) (by omega) (fz.mx hM) (by rw [xup_same, upd_n _ _ (by decide), xup_same, upd_s]; rfl) (by rw [xup_same, upd_s])
  refine ⟨u', fun K => ?_, r2, r3, fz.tr r4⟩
  unfold f_X11_findsBest
  rw [show (1 : Int32) = nI 1 from rfl, r1, xbind_some]
theorem Rel.endB {w w1 u w2 : xI} (hR : Rel w) (hf : FrX w w1) (hu : ∀ k, k ≠ 95 → u k = w1 k) (hw : FrB u w2) : Rel w2 := by
  refine hR.fr (fun k hk h71 => ?_) (fun j hj => ?_)
  · unfold scrN at hk
    rw [hw.1 k h71 (by omega) (by omega), hu k (by omega), hf k (by omega)]
  · rw [hw.2 j (by omega), hu 71 (by decide), hf 71 (by omega)]
theorem free0 {n : Nat} (hn : n ≤ 10) : ∀ i, i < n → (1023 : Nat).testBit i = !(0 : Nat).testBit i := by
  intro i hi
  rw [Nat.zero_testBit, show (1023 : Nat) = 2 ^ 10 - 1 from rfl, Nat.testBit_two_pow_sub_one, decide_eq_true (show i < 10 by omega)]; rfl
theorem op_best (a1 : Int32) (a2 : Int32) : OpI (f_X10_best a1 a2) (f_X11_best a1 a2) := by
  intro w hR
  obtain ⟨n, hn, en, em⟩ := hR.n
  obtain ⟨t, ht, e4, e15, hX⟩ := hR.law
  by_cases h1 : 0 ≤ a1 ∧ a1 ≤ 9
  · by_cases h2 : 0 ≤ a2 ∧ a2 ≤ 1
    · obtain ⟨h, hh, rfl⟩ := nI_bd (n := 9) (by decide) h1.1 h1.2
      have hY := hR.ydB
      have hT := hR.tabB
      obtain ⟨u1, p1, P1, f1, f1'⟩ := s_prepare (γ := Int32 × xI) hY hn en (h := h) (by omega) (o2 := 7) (by decide) (Rel.cxY (w := w))
      have x1 : ∀ q, q ≠ 21 → q ≠ 22 → q ≠ 23 → q ≠ 24 → u1 q = w q := f1
      obtain ⟨u2, q1, q2, q3, q4, q5⟩ := s_bestX (γ := Int32 × xI) hY hT (t := t) (F := 1023) (thr := 0) (by omega) hn (by decide) (free0 hn) P1 (f1 2 (by decide) (by decide) (by decide) (by decide)) (f1 4 (by decide) (by decide) (by decide) (by decide)) (hX.cg (f1 _ (by omega) (by omega) (by omega) (by omega)) (f1 _ (by omega) (by omega) (by omega) (by omega)) (f1 _ (by omega) (by omega) (by omega) (by omega)) (f1 _ (by omega) (by omega) (by omega) (by omega)))
      have fx : FrX w u2 := fun k hk => by rw [q5 k (by omega) (by omega) (by omega), f1 k (by omega) (by omega) (by omega) (by omega)]
      obtain ⟨u, s1, s2, s3⟩ := s_startM (γ := Int32 × xI) hR fx ht e15 hX
      obtain ⟨w2, g1, g2, g3, g4⟩ := s_bestM (γ := Int32 × xI) hY hT (t := t) (h := h) (thr := 0) (by omega) hn en (by decide) s2
      refine OpI.q (if a2 = 0 then nI (bestB w (w 7) t h n 0).1 else (bestB w (w 7) t h n 0).2) u2 w2 ?_ ?_ (hR.endB fx s3 g4)
      · rw [f_X10_best, s_hourX, if_pos h1, if_neg (by decide), s_within, if_pos h2, if_neg (by decide), p1, s_law ht (by rw [f1 0 (by decide) (by decide) (by decide) (by decide)]; exact e4), isTxt ht, xchk_true]
        refine (q1 _).trans ?_
        by_cases c : a2 = 0
        · rw [if_pos c, if_pos c, q2]
        · rw [if_neg c, if_neg c, q3]
      · rw [f_X11_best, s_hourM, if_pos h1, if_neg (by decide), s_in, if_pos h2, if_neg (by decide), s1]
        refine (g1 _).trans ?_
        by_cases c : a2 = 0
        · rw [if_pos c, if_pos c, g2]
        · rw [if_neg c, if_neg c, g3]
    · exact OpI.q (-7) w w (by rw [f_X10_best, s_hourX, if_pos h1, if_neg (by decide), s_within, if_neg h2, if_pos rfl]) (by rw [f_X11_best, s_hourM, if_pos h1, if_neg (by decide), s_in, if_neg h2, if_pos rfl]) hR
  · exact OpI.q (-5) w w (by rw [f_X10_best, s_hourX, if_neg h1, if_pos rfl]) (by rw [f_X11_best, s_hourM, if_neg h1, if_pos rfl]) hR
