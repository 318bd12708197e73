-- ===== one against one: what each two would bring =====
noncomputable def okE (w : xI) (t h n a b : Nat) : Bool := @decide (inP w a = true ∧ inP w b = false ∧ mbS w (w 7) t h n (2 ^ a ||| 2 ^ b)) (Classical.propDecidable _)
theorem okE_iff {w : xI} {t h n a b : Nat} : okE w t h n a b = true ↔ (inP w a = true ∧ inP w b = false ∧ mbS w (w 7) t h n (2 ^ a ||| 2 ^ b)) := by
  unfold okE
  exact @decide_eq_true_iff _ (Classical.propDecidable _)
def pbE (w : xI) (t h n a b : Nat) : Int32 := brS w (w 7) t h n (2 ^ a ||| 2 ^ b)
theorem two_lt {n a b : Nat} (ha : a < n) (hb : b < n) : 2 ^ a ||| 2 ^ b < 2 ^ n := Nat.or_lt_two_pow (Nat.pow_lt_pow_right (by decide) ha) (Nat.pow_lt_pow_right (by decide) hb)
theorem b_two {a b : Nat} (ha : a < 10) (hb : b < 10) : ((1 : Int32) <<< (nI a &&& 31)) ||| ((1 : Int32) <<< (nI b &&& 31)) = nI (2 ^ a ||| 2 ^ b) := by
  have h1 : 2 ^ a < 2 ^ 10 := Nat.pow_lt_pow_right (by decide) ha
  have h2 : 2 ^ b < 2 ^ 10 := Nat.pow_lt_pow_right (by decide) hb
  rw [b_shl (by omega), b_shl (by omega), b_or (by omega) (by omega)]
theorem s_inw {γ : Type} {w : xI} {n a : Nat} (hn : n ≤ 10) (ha : a < n) {u : xI} (h6 : u 21 6 = nI (mkM (inP w) n)) (K : Int32 → xI → Option γ) : xbind (f_X8_isInward (nI a) u) K = if inP w a = true then K 1 u else K 0 u := by
  have hp := pw10 hn
  have hl := mkM_lt (inP w) n
  have hb := mkM_bit (inP w) n a
  rw [decide_eq_true ha, Bool.true_and] at hb
  unfold f_X8_isInward
  rw [h6]
  by_cases c : inP w a = true
  · rw [if_pos ((b_on (by omega) (by omega)).mpr (hb.trans c)), if_pos c, xbind_some]
  · rw [if_neg (fun z => c (hb.symm.trans ((b_on (by omega) (by omega)).mp z))), if_neg c, xbind_some]
/-- what the component's table says of two -/
noncomputable def pvX (w : xI) (t h n a b : Nat) : Int32 := if okE w t h n a b = true then pbE w t h n a b else -1000
noncomputable def pvM (w : xI) (t h n a b : Nat) : Int32 := if okE w t h n a b = true then pbE w t h n a b else -100000
theorem s_payOf {γ : Type} {w : xI} (hR : Rel w) {t h n a b : Nat} (hh : h ≤ 10) (hn : n ≤ 10) (ha : a < n) (hb : b < n) {u : xI} (hP : Prep w (w 7) h n u) (e2 : u 2 = w 2) (e4 : u 4 = w 4) (hX : TxB w t u) : ∃ u', (∀ (K : Int32 → xI → Option γ), xbind (f_X3_payOf (nI a) (nI b) (39 + 4 * t) u) K = K (pvX w t h n a b) u') ∧ Prep w (w 7) h n u' ∧ (∀ q, q ≠ 21 → q ≠ 24 → q ≠ 42 + 4 * t → u' q = u q) := by
  have ht := hX.1
  have hS := two_lt ha hb
  unfold pvX
  by_cases c1 : inP w a = true
  · by_cases c2 : inP w b = true
    · refine ⟨u, fun K => ?_, hP, fun _ _ _ _ => rfl⟩
      unfold f_X3_payOf
      rw [s_inw hn ha hP.2.2.2.1, if_pos c1, if_neg (by decide), s_inw hn hb hP.2.2.2.1, if_pos c2, if_neg (by decide), if_neg (fun z => by have := (okE_iff.mp z).2.1; rw [c2] at this; exact absurd this (by decide)), xbind_some]
    · have c2' : inP w b = false := by simpa using c2
      obtain ⟨u2, q1, W2, P2, f2, f2'⟩ := s_weighX (γ := Int32 × xI) hR.ydB hR.tabB hh hn hS hP e2 e4
      have hX2 : TxB w t u2 := hX.cg (f2 _ (by omega) (by omega)) (f2 _ (by omega) (by omega)) (f2 _ (by omega) (by omega)) (f2 _ (by omega) (by omega))
      obtain ⟨T, m1⟩ := s_mayX (γ := Int32 × xI) (t := t) hn hS P2 W2 hX2
      have P3 : ∀ T, Prep w (w 7) h n (xuc u2 (42 + 4 * t) T) := fun T => P2.cg (xuc_ne _ _ _ (by omega)) (xuc_ne _ _ _ (by omega)) (xuc_ne _ _ _ (by omega)) (by rw [xuc_ne _ _ _ (by omega)]) (by rw [xuc_ne _ _ _ (by omega)]) (by rw [xuc_ne _ _ _ (by omega)])
      have F3 : ∀ T q, q ≠ 21 → q ≠ 24 → q ≠ 42 + 4 * t → xuc u2 (42 + 4 * t) T q = u q := fun T q q1 q2 q3 => by rw [xuc_ne _ _ _ q3, f2 q q1 q2]
      have pre : f_X3_payOf (nI a) (nI b) (39 + 4 * t) u = xbind (f_X8_mayBe (39 + 4 * t) u2) fun r7 w8 => if r7 = 0 then some ((-1000 : Int32), w8) else xbind (f_X8_brings (39 + 4 * t) w8) fun r9 w10 => some (r9, w10) := by
        unfold f_X3_payOf
        rw [s_inw hn ha hP.2.2.2.1, if_pos c1, if_neg (by decide), s_inw hn hb hP.2.2.2.1, if_neg c2, if_pos rfl, b_two (by omega) (by omega)]
        exact q1 _
      by_cases hm : mbS w (w 7) t h n (2 ^ a ||| 2 ^ b)
      · have W3 : Wd w (w 7) h n (2 ^ a ||| 2 ^ b) (xuc u2 (42 + 4 * t) T) := W2.cg (xuc_ne _ _ _ (by omega)) (xuc_ne _ _ _ (by omega))
        have hX3 : TxB w t (xuc u2 (42 + 4 * t) T) := hX2.cg (xuc_ne _ _ _ (by omega)) (xuc_ne _ _ _ (by omega)) (xuc_ne _ _ _ (by omega)) (xuc_ne _ _ _ (by omega))
        obtain ⟨T2, b1⟩ := s_brX (γ := Int32 × xI) W3 hX3
        rw [xuc_xuc] at b1
        refine ⟨_, fun K => ?_, P3 T2, F3 T2⟩
        rw [pre, (m1 _).1 hm, if_neg (by decide), b1, if_pos (okE_iff.mpr ⟨c1, c2', hm⟩), xbind_some]; rfl
      · refine ⟨_, fun K => ?_, P3 T, F3 T⟩
        rw [pre, (m1 _).2 hm, if_pos rfl, if_neg (fun z => hm (okE_iff.mp z).2.2), xbind_some]
  · refine ⟨u, fun K => ?_, hP, fun _ _ _ _ => rfl⟩
    unfold f_X3_payOf
    rw [s_inw hn ha hP.2.2.2.1, if_neg c1, if_pos rfl, if_neg (fun z => c1 (okE_iff.mp z).1), xbind_some]
theorem s_ppB {w : xI} (hR : Rel w) {t h n a : Nat} (hh : h ≤ 10) (hn : n ≤ 10) (ha : a < n) (K : Int32 → xI → Option (Unit × xI)) : ∀ (m b fu : Nat) (u : xI), b + m = n → m < fu → Prep w (w 7) h n u → u 2 = w 2 → u 4 = w 4 → TxB w t u → ∃ u', f_X3_prepare_L31 (39 + 4 * t) K fu (nI a) (nI b) u = K (nI (a + 1)) u' ∧ Prep w (w 7) h n u' ∧ (∀ q, q ≠ 21 → q ≠ 24 → q ≠ 26 → q ≠ 42 + 4 * t → u' q = u q) ∧ ∀ i, u' 26 i = if 10 * a + b ≤ i ∧ i < 10 * a + n then pvX w t h n a (i - 10 * a) else u 26 i := by
  intro m
  induction m with
  | zero =>
    intro b fu u h1 h2 hP e2 e4 hX
    obtain ⟨f, rfl⟩ : ∃ f, fu = f + 1 := ⟨fu - 1, by omega⟩
    refine ⟨u, ?_, hP, fun _ _ _ _ _ => rfl, fun i => by rw [if_neg (by omega)]⟩
    rw [f_X3_prepare_L31, hP.1, if_pos (nI_le (by omega) (by omega)), xlet_eq, nI_1]
  | succ m ih =>
    intro b fu u h1 h2 hP e2 e4 hX
    obtain ⟨f, rfl⟩ : ∃ f, fu = f + 1 := ⟨fu - 1, by omega⟩
    have ht := hX.1
    have e10 : (10 : Int32) * nI a = nI (10 * a) := pk_mul 10 a
    obtain ⟨u1, p1, P1, f1⟩ := s_payOf (γ := Unit × xI) hR (t := t) hh hn ha (b := b) (by omega) hP e2 e4 hX
    generalize hz : xup u1 26 (10 * a + b) (pvX w t h n a b) = z
    have zq : ∀ q, q ≠ 26 → z q = u1 q := fun q hq => by rw [← hz, xup_ne _ _ _ hq]
    have zz : ∀ q, q ≠ 21 → q ≠ 24 → q ≠ 26 → q ≠ 42 + 4 * t → z q = u q := fun q a b c d => by rw [zq q c, f1 q a b d]
    obtain ⟨u', r1, r2, r3, r4⟩ := ih (b + 1) f z (by omega) (by omega) (P1.cg (zq _ (by decide)) (zq _ (by decide)) (zq _ (by decide)) (by rw [zq _ (by decide)]) (by rw [zq _ (by decide)]) (by rw [zq _ (by decide)])) (by rw [zz 2 (by decide) (by decide) (by decide) (by omega)]; exact e2) (by rw [zz 4 (by decide) (by decide) (by decide) (by omega)]; exact e4) (hX.cg (zz _ (by omega) (by omega) (by omega) (by omega)) (zz _ (by omega) (by omega) (by omega) (by omega)) (zz _ (by omega) (by omega) (by omega) (by omega)) (zz _ (by omega) (by omega) (by omega) (by omega)))
    refine ⟨u', ?_, r2, fun q a b c d => by rw [r3 q a b c d, zz q a b c d], fun i => ?_⟩
    · rw [f_X3_prepare_L31, hP.1, if_neg (nI_ge (by omega) (by omega)), p1, e10, nI_add, xin_nI (by omega) (by decide), xchk_true, xlet_eq, nI_1, nI_clamp (by omega), hz]
      exact r1
    · rw [r4 i, ← hz, xup_same]
      by_cases e : i = 10 * a + b
      · rw [e, upd_s, if_neg (by omega), if_pos (by omega), show 10 * a + b - 10 * a = b by omega]
      · rw [upd_n _ _ e, f1 26 (by decide) (by decide) (by omega)]
        by_cases g : 10 * a + b ≤ i ∧ i < 10 * a + n
        · rw [if_pos g, if_pos (by omega)]
        · rw [if_neg g, if_neg (by omega)]
theorem s_ppA {w : xI} (hR : Rel w) {t h n : Nat} (hh : h ≤ 10) (hn : n ≤ 10) : ∀ (m a fu : Nat) (u : xI), a + m = n → m < fu → Prep w (w 7) h n u → u 2 = w 2 → u 4 = w 4 → TxB w t u → (∀ x y, x < a → y < n → u 26 (10 * x + y) = pvX w t h n x y) → ∃ u', f_X3_prepare_L17 (39 + 4 * t) fu (nI a) u = some ((), u') ∧ Prep w (w 7) h n u' ∧ (∀ q, q ≠ 21 → q ≠ 24 → q ≠ 26 → q ≠ 42 + 4 * t → u' q = u q) ∧ ∀ x y, x < n → y < n → u' 26 (10 * x + y) = pvX w t h n x y := by
  intro m
  induction m with
  | zero =>
    intro a fu u h1 h2 hP e2 e4 hX hp
    obtain ⟨f, rfl⟩ : ∃ f, fu = f + 1 := ⟨fu - 1, by omega⟩
    refine ⟨u, ?_, hP, fun _ _ _ _ _ => rfl, fun x y hx hy => hp x y (by omega) hy⟩
    rw [f_X3_prepare_L17, hP.1, if_pos (nI_le (by omega) (by omega))]
  | succ m ih =>
    intro a fu u h1 h2 hP e2 e4 hX hp
    obtain ⟨f, rfl⟩ : ∃ f, fu = f + 1 := ⟨fu - 1, by omega⟩
    have ht := hX.1
    obtain ⟨z, p1, p2, p3, p4⟩ := s_ppB hR (t := t) hh hn (a := a) (by omega) (fun v w => f_X3_prepare_L17 (39 + 4 * t) f v w) n 0 2000 u (by omega) (by omega) hP e2 e4 hX
    rw [nI_0] at p1
    obtain ⟨u', r1, r2, r3, r4⟩ := ih (a + 1) f z (by omega) (by omega) p2 (by rw [p3 2 (by decide) (by decide) (by decide) (by omega)]; exact e2) (by rw [p3 4 (by decide) (by decide) (by decide) (by omega)]; exact e4) (hX.cg (p3 _ (by omega) (by omega) (by omega) (by omega)) (p3 _ (by omega) (by omega) (by omega) (by omega)) (p3 _ (by omega) (by omega) (by omega) (by omega)) (p3 _ (by omega) (by omega) (by omega) (by omega))) (fun x y hx hy => by
      rw [p4 _]
      by_cases e : x = a
      · subst e; rw [if_pos (by omega), show 10 * x + y - 10 * x = y by omega]
      · rw [if_neg (by omega)]; exact hp x y (by omega) hy)
    refine ⟨u', ?_, r2, fun q a b c d => by rw [r3 q a b c d, p3 q a b c d], r4⟩
    rw [f_X3_prepare_L17, hP.1, if_neg (nI_ge (by omega) (by omega)), p1]
    exact r1
/-- the model's table of twos -/
theorem s_twoM {w : xI} (hR : Rel w) {t h n : Nat} (hh : h ≤ 10) (hn : n ≤ 10) (en : w 5 2 = nI n) : ∀ (m k fu : Nat) (u : xI), k + m = 100 → m < fu → Mx w (w 7) t u → (∀ x y, 10 * x + y < k → x < n → y < n → u 96 (10 * x + y) = pvM w t h n x y) → ∃ u', f_X11_findsTwos_L6 fu (nI h) (nI k) u = some ((), u') ∧ Mx w (w 7) t u' ∧ (∀ q, q ≠ 71 → q ≠ 93 → q ≠ 94 → q ≠ 96 → u' q = u q) ∧ (∀ j, j < 40 ∨ 45 < j → u' 71 j = u 71 j) ∧ ∀ x y, x < n → y < n → u' 96 (10 * x + y) = pvM w t h n x y := by
  intro m
  induction m with
  | zero =>
    intro k fu u h1 h2 hM hp
    obtain ⟨f, rfl⟩ : ∃ f, fu = f + 1 := ⟨fu - 1, by omega⟩
    refine ⟨u, ?_, hM, fun _ _ _ _ _ => rfl, fun _ _ => rfl, fun x y hx hy => hp x y (by omega) hx hy⟩
    rw [f_X11_findsTwos_L6, if_pos (show (100 : Int32) ≤ nI k from nI_le (a := 100) (by omega) (by omega))]
  | succ m ih =>
    intro k fu u h1 h2 hM hp
    obtain ⟨f, rfl⟩ : ∃ f, fu = f + 1 := ⟨fu - 1, by omega⟩
    have em : u 71 3 = nI n := hM.1.1.trans en
    have ediv : nI k / 10 = nI (k / 10) := pk_div (a := k) (d := 10) (by omega) (by decide) (by decide)
    have erem : nI k - nI k / 10 * 10 = nI (k % 10) := pk_rem (a := k) (d := 10) (by omega) (by decide) (by decide)
    have hk : k = 10 * (k / 10) + k % 10 := by omega
    -- going on from z with v put at k
    have go : ∀ (z : xI) (v : Int32), Mx w (w 7) t z → (∀ q, q ≠ 71 → q ≠ 93 → q ≠ 94 → q ≠ 96 → z q = u q) → (∀ j, j < 40 ∨ 45 < j → z 71 j = u 71 j) → z 96 = u 96 → (k / 10 < n → k % 10 < n → v = pvM w t h n (k / 10) (k % 10)) →
        ∃ u', f_X11_findsTwos_L6 f (nI h) (nI (k + 1)) (xup z 96 k v) = some ((), u') ∧ Mx w (w 7) t u' ∧ (∀ q, q ≠ 71 → q ≠ 93 → q ≠ 94 → q ≠ 96 → u' q = u q) ∧ (∀ j, j < 40 ∨ 45 < j → u' 71 j = u 71 j) ∧ ∀ x y, x < n → y < n → u' 96 (10 * x + y) = pvM w t h n x y := by
      intro z v hz zq zj z96 hv
      obtain ⟨u', r1, r2, r3, r4, r5⟩ := ih (k + 1) f (xup z 96 k v) (by omega) (by omega) (hz.cg2 (fun q hq => xup_ne _ _ _ (by omega)) (by rw [xup_ne _ _ _ (by decide)]) (by rw [xup_ne _ _ _ (by decide)])) (fun x y hxy hx hy => by
        rw [xup_same]
        by_cases e : 10 * x + y = k
        · rw [e, upd_s]
          have ex : k / 10 = x := by omega
          have ey : k % 10 = y := by omega
          rw [hv (by omega) (by omega), ex, ey]
        · rw [upd_n _ _ e, z96]; exact hp x y (by omega) hx hy)
      exact ⟨u', r1, r2, fun q a b c d => by rw [r3 q a b c d, xup_ne _ _ _ d, zq q a b c d], fun j hj => by rw [r4 j hj, xup_ne _ _ _ (by decide), zj j hj], r5⟩
    -- no two at all
    have non : (k / 10 < n → k % 10 < n → ¬ okE w t h n (k / 10) (k % 10) = true) → ∃ u', (f_X11_findsTwos_L85 (fun v1 v2 w => f_X11_findsTwos_L6 f v1 v2 w) (nI h) (nI k) 0 u) = some ((), u') ∧ Mx w (w 7) t u' ∧ (∀ q, q ≠ 71 → q ≠ 93 → q ≠ 94 → q ≠ 96 → u' q = u q) ∧ (∀ j, j < 40 ∨ 45 < j → u' 71 j = u 71 j) ∧ ∀ x y, x < n → y < n → u' 96 (10 * x + y) = pvM w t h n x y := by
      intro hno
      unfold f_X11_findsTwos_L85
      rw [if_pos rfl, xin_nI (by omega) (by decide), xchk_true, xlet_eq, nI_1, nI_clamp (by omega)]
      exact go u _ hM (fun _ _ _ _ _ => rfl) (fun _ _ => rfl) rfl (fun a b => by unfold pvM; rw [if_neg (hno a b)])
    rw [f_X11_findsTwos_L6, if_neg (show ¬ (100 : Int32) ≤ nI k from nI_ge (b := 100) (by omega) (by omega)), erem, ediv, em]
    simp only [xlet_eq]
    unfold f_X11_findsTwos_L64
    by_cases c1 : n ≤ k / 10
    · rw [if_pos (nI_le c1 (by omega)), if_pos rfl]
      exact non (fun a _ => by omega)
    · rw [if_neg (nI_ge (by omega) (by omega))]
      by_cases c2 : n ≤ k % 10
      · rw [if_pos (nI_le c2 (by omega)), if_pos rfl]
        exact non (fun _ b => by omega)
      · have ya := (hM.1.2 (k / 10) (by omega)).1
        have yb := (hM.1.2 (k % 10) (by omega)).1
        rw [if_neg (nI_ge (by omega) (by omega)), xin_nI (by omega) (by decide), xin_nI (by omega) (by decide), xchk_true, xchk_true, nI_clamp (n := k / 10) (by omega), nI_clamp (n := k % 10) (by omega), ya, yb]
        by_cases c3 : w (8 + k / 10) 0 = 1
        · rw [if_pos c3]
          by_cases c4 : w (8 + k % 10) 0 = 0
          · have i1 : inP w (k / 10) = true := decide_eq_true c3
            have i2 : inP w (k % 10) = false := decide_eq_false (fun z => by rw [c4] at z; exact absurd z (by decide))
            rw [if_pos c4, if_neg (by decide), b_two (by omega) (by omega)]
            obtain ⟨u2, g1, g2, g3, g4⟩ := s_weighM (γ := Unit × xI) hR.ydB hR.tabB hh hn en (two_lt (n := n) (a := k / 10) (b := k % 10) (by omega) (by omega)) hM
            rw [g1]
            unfold f_X11_findsTwos_L85
            rw [if_neg (by decide), xin_nI (by omega) (by decide), xchk_true, xchk_true, xlet_eq, xlet_eq, nI_1, nI_clamp (by omega)]
            have k96 : u2 96 = u 96 := g4.1 96 (by decide) (by decide) (by decide)
            by_cases hm : mbS w (w 7) t h n (2 ^ (k / 10) ||| 2 ^ (k % 10))
            · obtain ⟨x1, x2⟩ := g2.2.2.2.2.1 hm
              rw [x1, if_neg (by decide), x2]
              exact go u2 _ g3 (fun q a b c _ => g4.1 q a b c) g4.2 k96 (fun _ _ => by unfold pvM; rw [if_pos (okE_iff.mpr ⟨i1, i2, hm⟩)]; rfl)
            · obtain ⟨x1, x2⟩ := g2.2.2.2.2.2 hm
              rw [x1, if_pos rfl]
              exact go u2 _ g3 (fun q a b c _ => g4.1 q a b c) g4.2 k96 (fun _ _ => by unfold pvM; rw [if_neg (fun z => hm (okE_iff.mp z).2.2)])
          · rw [if_neg c4, if_pos rfl]
            refine non (fun a b z => c4 ?_)
            have := (okE_iff.mp z).2.1
            have hb := (hR.ydB.2.2 (k % 10) (by omega)).1
            obtain ⟨x, hx, ex⟩ := nI_bd (n := 1) (by decide) hb.1 hb.2
            rcases (by omega : x = 0 ∨ x = 1) with q | q
            · rw [ex, q]; rfl
            · rw [show inP w (k % 10) = true from decide_eq_true (by rw [ex, q]; rfl)] at this; exact absurd this (by decide)
        · rw [if_neg c3, if_pos rfl]
          exact non (fun a b z => c3 (of_decide_eq_true (okE_iff.mp z).1))
