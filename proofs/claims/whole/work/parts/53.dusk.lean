-- ===== asked of a day =====
theorem s_take {γ : Type} (u : xI) : ∃ z, (∀ (K : Unit → xI → Option γ), xbind (f_X1_takeComes u) K = K () z) ∧ (∀ q, q ≠ 29 → z q = u q) ∧ ∀ c, c < 10 → z 29 c = u 7 c := by
  refine ⟨xcopy u 7 29 0 0 10, fun K => rfl, fun q hq => if_neg hq, fun c hc => ?_⟩
  show va_cpy (u 7) (u 29) 0 0 10 c = u 7 c
  rw [pk_cpy_in (Nat.zero_le c) (by omega)]
  rw [Nat.zero_add, Nat.sub_zero]
theorem Rel.mz {w w1 : xI} {t : Nat} (hR : Rel w) (hf : FrX w w1) (hr : w 71 15 = nI t) (hX : TxB w t w) : Mz w (w 7) t w1 := by
  have ht := hX.1
  obtain ⟨s1, s2, s3, s4, s5⟩ := hR.st
  refine ⟨⟨by rw [hf 71 (by omega)]; exact hR.yd.1, fun c hc => ?_⟩, by rw [hf 71 (by omega)]; exact hr, hf.txB hX, by rw [hf 72 (by omega)]; exact hR.sc.1, by rw [hf 71 (by omega)]; exact s1, by rw [hf 73 (by omega)]; exact s3⟩
  rw [hf 74 (by omega), hf 75 (by omega), hf 76 (by omega), hf 77 (by omega), hf 78 (by omega), hf 79 (by omega)]
  exact hR.yd79 c hc
theorem Rel.endL {w w1 w2 : xI} (hR : Rel w) (hf : FrX w w1) (hw : FrL w1 w2) : Rel w2 := by
  refine hR.fr (fun k hk h71 => ?_) (fun j hj => ?_)
  · unfold scrN at hk
    rw [hw.1 k h71 (by omega) (by omega) (by omega) (by omega) (by omega), hf k (by omega)]
  · rw [hw.2 j (by omega), hf 71 (by omega)]
theorem Rel.sk {w w1 : xI} (hR : Rel w) (hf : FrX w w1) : w1 71 58 = -1 ∧ w1 71 59 = nI 0 := by
  rw [hf 71 (by omega)]
  exact ⟨hR.ct.2.1, hR.ct.2.2.trans nI_0.symm⟩
/-- the component runs through a day from a world that may have run before -/
theorem s_dayX {γ : Type} {w : xI} {cm : Nat → Int32} (hR : Rel w) (hY : YdB w cm) {t n N C : Nat} {sk : Int32} {ab : Nat} (hn : n ≤ 10) (hwn : w 5 2 = nI n) (hN : N ≤ 10) (hC : C < 1024) (hCab : ∀ i, i < n → C.testBit i = !ab.testBit i) {u : xI} (hf : FrX w u) (e29 : ∀ c, c < n → u 29 c = cm c) (hX : TxB w t w) :
    ∃ u', (∀ (K : Unit → xI → Option γ), xbind (f_X1_run (nI N) sk (nI C) (39 + 4 * t) u) K = K () u') ∧ DayX w cm t n sk ab N u' ∧ FrX w u' ∧ u' 29 = u 29 := by
  have ht := hX.1
  obtain ⟨u', r1, r2, r3⟩ := s_runX (γ := γ) (sk := sk) hY hR.tabB hn hwn hN hC hCab (by rw [hf 5 (by omega)]) (fun c hc => hf _ (by omega)) e29 (hf 2 (by omega)) (hf 4 (by omega)) (hf.txB hX)
  refine ⟨u', r1, r2, fun k hk => ?_, r3 29 (by decide) (by decide) (by decide) (by decide) (by omega)⟩
  rw [r3 k (by omega) (by omega) (by omega) (by omega) (by omega)]
  exact hf k hk
theorem mxW_lo {f : Nat → Nat} {p : Nat → Bool} : ∀ m k a, a ≤ mxW f p m k a ∧ ∀ i, k ≤ i → i < k + m → p i = true → f i ≤ mxW f p m k a := by
  intro m
  induction m with
  | zero => intro k a; exact ⟨Nat.le_refl _, fun i h1 h2 => by omega⟩
  | succ m ih =>
    intro k a
    obtain ⟨h1, h2⟩ := ih (k + 1) (if p k = true then (if a < f k then f k else a) else a)
    have e : mxW f p (m + 1) k a = mxW f p m (k + 1) (if p k = true then (if a < f k then f k else a) else a) := rfl
    rw [← e] at h1 h2
    have ha : a ≤ (if p k = true then (if a < f k then f k else a) else a) := by split <;> (try split) <;> omega
    refine ⟨Nat.le_trans ha h1, fun i i1 i2 ip => ?_⟩
    by_cases c : i = k
    · subst c
      refine Nat.le_trans ?_ h1
      rw [if_pos ip]
      split <;> omega
    · exact h2 i (by omega) (by omega) ip
theorem mxW_at {f : Nat → Nat} {p : Nat → Bool} : ∀ m k a, mxW f p m k a = a ∨ ∃ i, k ≤ i ∧ i < k + m ∧ p i = true ∧ mxW f p m k a = f i := by
  intro m
  induction m with
  | zero => intro k a; exact Or.inl rfl
  | succ m ih =>
    intro k a
    have e : mxW f p (m + 1) k a = mxW f p m (k + 1) (if p k = true then (if a < f k then f k else a) else a) := rfl
    rw [e]
    rcases ih (k + 1) (if p k = true then (if a < f k then f k else a) else a) with h | ⟨i, i1, i2, i3, i4⟩
    · rw [h]
      by_cases c : p k = true
      · rw [if_pos c]
        by_cases d : a < f k
        · rw [if_pos d]; exact Or.inr ⟨k, Nat.le_refl _, by omega, c, rfl⟩
        · rw [if_neg d]; exact Or.inl rfl
      · rw [if_neg c]; exact Or.inl rfl
    · exact Or.inr ⟨i, by omega, by omega, i3, i4⟩
theorem mxW_cg {f g : Nat → Nat} {p q : Nat → Bool} : ∀ m k a, (∀ i, k ≤ i → i < k + m → (if p i = true then f i else 0) = (if q i = true then g i else 0)) → mxW f p m k a = mxW g q m k a := by
  intro m
  induction m with
  | zero => intro k a _; rfl
  | succ m ih =>
    intro k a h
    have e1 : mxW f p (m + 1) k a = mxW f p m (k + 1) (if p k = true then (if a < f k then f k else a) else a) := rfl
    have e2 : mxW g q (m + 1) k a = mxW g q m (k + 1) (if q k = true then (if a < g k then g k else a) else a) := rfl
    have h0 := h k (Nat.le_refl _) (by omega)
    have e3 : (if p k = true then (if a < f k then f k else a) else a) = (if q k = true then (if a < g k then g k else a) else a) := by
      by_cases c : p k = true
      · rw [if_pos c] at h0
        by_cases d : q k = true
        · rw [if_pos d] at h0; rw [if_pos c, if_pos d, h0]
        · rw [if_neg d] at h0; rw [if_pos c, if_neg d, h0, if_neg (by omega)]
      · rw [if_neg c] at h0
        by_cases d : q k = true
        · rw [if_pos d] at h0; rw [if_neg c, if_pos d, ← h0, if_neg (by omega)]
        · rw [if_neg c, if_neg d]
    rw [e1, e2, e3]
    exact ih (k + 1) _ (fun i a b => h i (by omega) (by omega))
theorem dayT_of {w : xI} {cm : Nat → Int32} {t n : Nat} {sk : Int32} {ab h c : Nat} (hb : (dayS w cm t n sk ab h).testBit c = true) : ∀ k, h < k → (dayT w cm t n sk ab k).testBit c = true := by
  intro k
  induction k with
  | zero => intro hk; omega
  | succ k ih =>
    intro hk
    rw [dayT_s, Nat.testBit_or]
    by_cases e : h = k
    · subst e; rw [hb]; simp
    · rw [ih (by omega)]; rfl
theorem dayT_ex {w : xI} {cm : Nat → Int32} {t n : Nat} {sk : Int32} {ab c : Nat} : ∀ k, (dayT w cm t n sk ab k).testBit c = true → ∃ h, h < k ∧ (dayS w cm t n sk ab h).testBit c = true := by
  intro k
  induction k with
  | zero => intro h; exact absurd (show Nat.testBit 0 c = true from h) (by rw [Nat.zero_testBit]; decide)
  | succ k ih =>
    intro h
    rw [dayT_s, Nat.testBit_or] at h
    by_cases e : (dayT w cm t n sk ab k).testBit c = true
    · obtain ⟨x, x1, x2⟩ := ih e; exact ⟨x, by omega, x2⟩
    · have e' : (dayT w cm t n sk ab k).testBit c = false := by simpa using e
      rw [e', Bool.false_or] at h
      exact ⟨k, by omega, h⟩
theorem dayG_of {w : xI} {cm : Nat → Int32} {t n : Nat} {sk : Int32} {ab h c : Nat} (hb : (dayS w cm t n sk ab h).testBit c = true) : ∀ k, h < k → dayG w cm t n sk ab c k = nI h := by
  intro k
  induction k with
  | zero => intro hk; omega
  | succ k ih =>
    intro hk
    show (if (dayS w cm t n sk ab k).testBit c = true then nI k else dayG w cm t n sk ab c k) = nI h
    by_cases e : h = k
    · subst e; rw [if_pos hb]
    · have h1 := dayT_of hb k (by omega)
      rw [if_neg (fun z => by have := (day_disj w cm t n sk ab k c z).1; rw [h1] at this; exact absurd this (by decide)), ih (by omega)]
theorem dayG_no {w : xI} {cm : Nat → Int32} {t n : Nat} {sk : Int32} {ab c : Nat} : ∀ k, (dayT w cm t n sk ab k).testBit c = false → dayG w cm t n sk ab c k = -1 := by
  intro k
  induction k with
  | zero => intro _; rfl
  | succ k ih =>
    intro h
    rw [dayT_s, Nat.testBit_or, Bool.or_eq_false_iff] at h
    show (if (dayS w cm t n sk ab k).testBit c = true then nI k else dayG w cm t n sk ab c k) = -1
    rw [h.2, if_neg (by decide), ih h.1]
/-- when cart c has gone through, seen from the model's table -/
def goN (g : Int32) (c : Int32) : Nat := if g = -1 then 0 else waitN g.toNatClampNeg c
theorem dayW_eq {w : xI} {cm : Nat → Int32} {t n : Nat} {sk : Int32} {ab N : Nat} (hN : N ≤ 10) : mxW (fun c => goN (dayG w cm t n sk ab c N) (cm c)) (fun _ => true) n 0 0 = dayW w cm t n sk ab N := by
  have up : ∀ k, k ≤ 10 → (∀ h c, h < k → c < n → (dayS w cm t n sk ab h).testBit c = true → waitN h (cm c) ≤ dayW w cm t n sk ab k) ∧ (dayW w cm t n sk ab k = 0 ∨ ∃ h c, h < k ∧ c < n ∧ (dayS w cm t n sk ab h).testBit c = true ∧ dayW w cm t n sk ab k = waitN h (cm c)) := by
    intro k
    induction k with
    | zero => intro _; exact ⟨fun h c hh => absurd hh (Nat.not_lt_zero h), Or.inl rfl⟩
    | succ k ih =>
      intro hk
      obtain ⟨i1, i2⟩ := ih (by omega)
      have e : dayW w cm t n sk ab (k + 1) = (if dayS w cm t n sk ab k = 0 then dayW w cm t n sk ab k else mxW (fun c => waitN k (cm c)) (fun c => (dayS w cm t n sk ab k).testBit c) n 0 (dayW w cm t n sk ab k)) := rfl
      by_cases c0 : dayS w cm t n sk ab k = 0
      · rw [if_pos c0] at e
        rw [e]
        refine ⟨fun h c hh hc hb => ?_, ?_⟩
        · by_cases eh : h = k
          · subst eh; rw [c0, Nat.zero_testBit] at hb; exact absurd hb (by decide)
          · exact i1 h c (by omega) hc hb
        · rcases i2 with i2 | ⟨h, c, a, b, d, g⟩
          · exact Or.inl i2
          · exact Or.inr ⟨h, c, by omega, b, d, g⟩
      · rw [if_neg c0] at e
        obtain ⟨l1, l2⟩ := mxW_lo (f := fun c => waitN k (cm c)) (p := fun c => (dayS w cm t n sk ab k).testBit c) n 0 (dayW w cm t n sk ab k)
        rw [← e] at l1 l2
        refine ⟨fun h c hh hc hb => ?_, ?_⟩
        · by_cases eh : h = k
          · subst eh; exact l2 c (Nat.zero_le _) (by omega) hb
          · exact Nat.le_trans (i1 h c (by omega) hc hb) l1
        · rcases mxW_at (f := fun c => waitN k (cm c)) (p := fun c => (dayS w cm t n sk ab k).testBit c) n 0 (dayW w cm t n sk ab k) with g | ⟨i, a, b, d, g⟩
          · rw [← e] at g
            rw [g]
            rcases i2 with i2 | ⟨h, c, a, b, d, g⟩
            · exact Or.inl i2
            · exact Or.inr ⟨h, c, by omega, b, d, g⟩
          · rw [← e] at g
            exact Or.inr ⟨k, i, by omega, by omega, d, g⟩
  obtain ⟨u1, u2⟩ := up N hN
  obtain ⟨l1, l2⟩ := mxW_lo (f := fun c => goN (dayG w cm t n sk ab c N) (cm c)) (p := fun _ => true) n 0 0
  refine Nat.le_antisymm ?_ ?_
  · rcases mxW_at (f := fun c => goN (dayG w cm t n sk ab c N) (cm c)) (p := fun _ => true) n 0 0 with g | ⟨i, a, b, d, g⟩
    · rw [g]; exact Nat.zero_le _
    · rw [g]
      cases hb : (dayT w cm t n sk ab N).testBit i
      · show goN (dayG w cm t n sk ab i N) (cm i) ≤ _
        rw [dayG_no N hb]; exact Nat.zero_le _
      · obtain ⟨h, h1, h2⟩ := dayT_ex N hb
        show goN (dayG w cm t n sk ab i N) (cm i) ≤ _
        rw [dayG_of h2 N h1]
        unfold goN
        rw [if_neg (nI_m1 (by omega)), nI_clamp (by omega)]
        exact u1 h i h1 (by omega) h2
  · rcases u2 with g | ⟨h, c, a, b, d, g⟩
    · rw [g]; exact Nat.zero_le _
    · have := l2 c (Nat.zero_le _) (by omega) rfl
      rw [g]
      refine Nat.le_trans ?_ this
      show _ ≤ goN (dayG w cm t n sk ab c N) (cm c)
      rw [dayG_of d N a]
      unfold goN
      rw [if_neg (nI_m1 (by omega)), nI_clamp (by omega)]
      exact Nat.le_refl _
theorem mx_if {a b : Nat} (ha : a < 2 ^ 31) (hb : b < 2 ^ 31) : (if nI a < nI b then nI b else nI a) = nI (if a < b then b else a) := by
  by_cases d : a < b
  · rw [if_pos d, if_pos (nI_lt d hb)]
  · rw [if_neg d, if_neg (nI_nlt (by omega) ha)]
theorem s_leftX {cm : Nat → Int32} {n N T : Nat} (hn : n ≤ 10) (hN : N ≤ 10) (hT : T < 2 ^ n) (hcm : ∀ c, c < 10 → 0 ≤ cm c ∧ cm c ≤ 9) {u : xI} (e5 : u 5 2 = nI n) (e7 : u 28 7 = nI T) (e29 : ∀ c, c < n → u 29 c = cm c) : ∀ (m c fu a : Nat), c + m = n → m < fu → a ≤ 10 → f_X1_longestLeft_L4 fu (nI N) (nI a) (nI c) u = some (nI (mxW (fun c => waitN N (cm c)) (fun c => !T.testBit c) m c a), u) := by
  have hp := pw10 hn
  intro m
  induction m with
  | zero =>
    intro c fu a h1 h2 ha
    obtain ⟨f, rfl⟩ : ∃ f, fu = f + 1 := ⟨fu - 1, by omega⟩
    rw [f_X1_longestLeft_L4, e5, if_pos (nI_le (by omega) (by omega))]; rfl
  | succ m ih =>
    intro c fu a h1 h2 ha
    obtain ⟨f, rfl⟩ : ∃ f, fu = f + 1 := ⟨fu - 1, by omega⟩
    have hc : c < 10 := by omega
    have hw := waitN_le hN (cm c)
    have er : mxW (fun c => waitN N (cm c)) (fun c => !T.testBit c) (m + 1) c a = mxW (fun c => waitN N (cm c)) (fun c => !T.testBit c) m (c + 1) (if (!T.testBit c) = true then (if a < waitN N (cm c) then waitN N (cm c) else a) else a) := rfl
    rw [f_X1_longestLeft_L4, e5, if_neg (nI_ge (by omega) (by omega)), e7, er, nI_1]
    simp only [xlet_eq]
    cases b : T.testBit c
    · rw [if_pos ((b_off (by omega) (by omega)).mpr b), xin_nI hc (by decide), xchk_true, nI_clamp (by omega), e29 c (by omega), s_waitX hN (hcm c hc).1 (hcm c hc).2, mx_if (by omega) (by omega), if_pos (show (!false) = true from rfl)]
      exact ih (c + 1) f _ (by omega) (by omega) (by split <;> omega)
    · rw [if_neg (fun z => by have := (b_off (by omega) (by omega)).mp z; rw [b] at this; exact absurd this (by decide)), if_neg (show ¬ (!true) = true by decide)]
      exact ih (c + 1) f a (by omega) (by omega) ha
theorem s_duskM {w : xI} {cm : Nat → Int32} (hY : YdB w cm) {n N t : Nat} (hn : n ≤ 10) (hN : N ≤ 10) (v2 : Int32) {u : xI} (hM : Mx w cm t u) (hwn : w 5 2 = nI n) (G : Nat → Int32) (hG : ∀ c, c < n → u 99 c = G c ∧ (G c = -1 ∨ ∃ h, h < 10 ∧ G c = nI h)) : ∀ (m c fu a b : Nat), c + m = n → m < fu → a ≤ 10 → b ≤ 10 → f_X11_dusk_L38 fu (nI N) v2 (nI a) (nI b) (nI c) u = some (if v2 = 0 then u 71 56 else if v2 = 1 then u 71 55 else if v2 = 2 then u 71 57 else if v2 = 3 then nI (mxW (fun c => goN (G c) (cm c)) (fun _ => true) m c a) else nI (mxW (fun c => if G c = -1 then waitN N (cm c) else 0) (fun _ => true) m c b), u) := by
  have hp := pw10 hn
  intro m
  induction m with
  | zero =>
    intro c fu a b h1 h2 ha hb
    obtain ⟨f, rfl⟩ : ∃ f, fu = f + 1 := ⟨fu - 1, by omega⟩
    rw [f_X11_dusk_L38, hM.1.1, hwn, if_pos (nI_le (by omega) (by omega))]
    by_cases c0 : v2 = 0
    · rw [if_pos c0, if_pos c0]
    rw [if_neg c0, if_neg c0]
    by_cases c1 : v2 = 1
    · rw [if_pos c1, if_pos c1]
    rw [if_neg c1, if_neg c1]
    by_cases c2 : v2 = 2
    · rw [if_pos c2, if_pos c2]
    rw [if_neg c2, if_neg c2]
    by_cases c3 : v2 = 3
    · rw [if_pos c3, if_pos c3]; rfl
    rw [if_neg c3, if_neg c3]; rfl
  | succ m ih =>
    intro c fu a b h1 h2 ha hb
    obtain ⟨f, rfl⟩ : ∃ f, fu = f + 1 := ⟨fu - 1, by omega⟩
    have hc : c < 10 := by omega
    obtain ⟨g1, g2⟩ := hG c (by omega)
    have er : mxW (fun c => goN (G c) (cm c)) (fun _ => true) (m + 1) c a = mxW (fun c => goN (G c) (cm c)) (fun _ => true) m (c + 1) (if a < goN (G c) (cm c) then goN (G c) (cm c) else a) := rfl
    have el : mxW (fun c => if G c = -1 then waitN N (cm c) else 0) (fun _ => true) (m + 1) c b = mxW (fun c => if G c = -1 then waitN N (cm c) else 0) (fun _ => true) m (c + 1) (if b < (if G c = -1 then waitN N (cm c) else 0) then (if G c = -1 then waitN N (cm c) else 0) else b) := rfl
    -- one step, for any two values
    have step : ∀ (x y : Nat), x ≤ 10 → y ≤ 10 → x = goN (G c) (cm c) → y = (if G c = -1 then waitN N (cm c) else 0) → f_X11_dusk_L112 (fun v1 v2 v3 v4 v5 w => f_X11_dusk_L38 f v1 v2 v3 v4 v5 w) (nI N) v2 (nI a) (nI b) (nI c) (nI x) (nI y) u = some (if v2 = 0 then u 71 56 else if v2 = 1 then u 71 55 else if v2 = 2 then u 71 57 else if v2 = 3 then nI (mxW (fun c => goN (G c) (cm c)) (fun _ => true) (m + 1) c a) else nI (mxW (fun c => if G c = -1 then waitN N (cm c) else 0) (fun _ => true) (m + 1) c b), u) := by
      intro x y hx hy ex ey
      rw [er, el, ← ex, ← ey]
      unfold f_X11_dusk_L112
      simp only [xlet_eq, nI_1]
      by_cases d1 : x ≤ a
      · rw [if_pos (nI_le d1 (by omega)), if_neg (by omega : ¬ a < x)]
        by_cases d2 : y ≤ b
        · rw [if_pos (nI_le d2 (by omega)), if_neg (by omega : ¬ b < y)]
          exact ih (c + 1) f a b (by omega) (by omega) ha hb
        · rw [if_neg (nI_ge (by omega) (by omega)), if_pos (by omega : b < y)]
          exact ih (c + 1) f a y (by omega) (by omega) ha hy
      · rw [if_neg (nI_ge (by omega) (by omega)), if_pos (by omega : a < x)]
        by_cases d2 : y ≤ b
        · rw [if_pos (nI_le d2 (by omega)), if_neg (by omega : ¬ b < y)]
          exact ih (c + 1) f x b (by omega) (by omega) hx hb
        · rw [if_neg (nI_ge (by omega) (by omega)), if_pos (by omega : b < y)]
          exact ih (c + 1) f x y (by omega) (by omega) hx hy
    have hcn : nI c < w 5 2 := by rw [hwn]; exact nI_lt (by omega) (by omega)
    obtain ⟨y0, y1, y2, y3, y4, y5⟩ := hM.1.2 c hc
    obtain ⟨j, hj, ej⟩ := nI_bd (n := 9) (by decide) (hY.2.1 c hc).1 (hY.2.1 c hc).2
    have hwl := waitN_le hN (cm c)
    rw [f_X11_dusk_L38, hM.1.1, hwn, if_neg (nI_ge (by omega) (by omega)), xin_nI hc (by decide), xchk_true, nI_clamp (by omega), g1]
    by_cases d : G c = -1
    · rw [if_pos d]
      unfold f_X11_dusk_L75
      rw [xin_nI hc (by decide), xchk_true, nI_clamp (by omega), g1, if_pos d, xchk_true, y5 hcn]
      have ew : waitN N (cm c) = N - j := by unfold waitN; rw [ej, nI_clamp (by omega)]
      by_cases d2 : N ≤ j
      · rw [if_pos (show nI N ≤ cm c by rw [ej]; exact nI_le d2 (by omega))]
        have g := step 0 0 (by omega) (by omega) (by unfold goN; rw [if_pos d]) (by rw [if_pos d, ew]; omega)
        rw [nI_0] at g; exact g
      · rw [if_neg (show ¬ nI N ≤ cm c by rw [ej]; exact nI_ge (by omega) (by omega)), xchk_true, ej, pk_sub (by omega)]
        have g := step 0 (N - j) (by omega) (by omega) (by unfold goN; rw [if_pos d]) (by rw [if_pos d, ew])
        rw [nI_0] at g; exact g
    · rw [if_neg d, xchk_true]
      obtain ⟨h, hh, eh⟩ := g2.resolve_left d
      rw [eh, s_waitM hY hM.1 hc hcn (by omega)]
      unfold f_X11_dusk_L75
      rw [xin_nI hc (by decide), xchk_true, nI_clamp (by omega), g1, if_neg d]
      have g := step (waitN h (cm c)) 0 (waitN_le (by omega) _) (by omega) (by unfold goN; rw [if_neg d, eh, nI_clamp (by omega)]) (by rw [if_neg d])
      rw [nI_0] at g; exact g
theorem dayG_or {w : xI} {cm : Nat → Int32} {t n : Nat} {sk : Int32} {ab N : Nat} (hN : N ≤ 10) (c : Nat) : dayG w cm t n sk ab c N = -1 ∨ ∃ h, h < 10 ∧ dayG w cm t n sk ab c N = nI h := by
  cases hb : (dayT w cm t n sk ab N).testBit c
  · exact Or.inl (dayG_no N hb)
  · obtain ⟨h, h1, h2⟩ := dayT_ex N hb
    exact Or.inr ⟨h, by omega, dayG_of h2 N h1⟩
theorem dayL_eq {w : xI} {cm : Nat → Int32} {t n : Nat} {sk : Int32} {ab N : Nat} (hN : N ≤ 10) : mxW (fun c => if dayG w cm t n sk ab c N = -1 then waitN N (cm c) else 0) (fun _ => true) n 0 0 = mxW (fun c => waitN N (cm c)) (fun c => !(dayT w cm t n sk ab N).testBit c) n 0 0 := by
  refine mxW_cg n 0 0 (fun i _ _ => ?_)
  cases hb : (dayT w cm t n sk ab N).testBit i
  · rw [dayG_no N hb]; rfl
  · obtain ⟨h, h1, h2⟩ := dayT_ex N hb
    rw [dayG_of h2 N h1, if_pos rfl, if_neg (nI_m1 (by omega)), if_neg (by decide)]
theorem op_dusk (a1 : Int32) (a2 : Int32) : OpI (f_X10_dusk a1 a2) (f_X11_dusk a1 a2) := by
  intro w hR
  obtain ⟨n, hn, en, em⟩ := hR.n
  obtain ⟨t, ht, e4, e15, hX⟩ := hR.law
  by_cases h1 : 0 ≤ a1 ∧ a1 ≤ 10
  · by_cases h2 : 0 ≤ a2 ∧ a2 ≤ 4
    · obtain ⟨N, hN, rfl⟩ := nI_bd (n := 10) (by decide) h1.1 h1.2
      have hY := hR.ydB
      obtain ⟨z, z1, z2, z3⟩ := s_take (γ := Int32 × xI) w
      have fz : FrX w z := fun k hk => z2 k (by omega)
      obtain ⟨w1, r1, r2, r3, r4⟩ := s_dayX (γ := Int32 × xI) (sk := -1) (ab := 0) (C := 1023) hR hY hn en hN (by decide) (free0 hn) fz (fun c hc => z3 c (by omega)) hX
      obtain ⟨w2, q1, ⟨q2, q3, q4, q5, q6⟩, q7, q8⟩ := s_livesM (γ := Int32 × xI) (ab := 0) hR hY hn (by decide) en hN (hR.mz r3 e15 hX) (hR.sk r3).1 (hR.sk r3).2
      obtain ⟨d5, d6, d7, d8, d9, -⟩ := r2
      have gm := s_duskM hY hn hN a2 q8 en (fun c => dayG w (w 7) t n (-1) 0 c N) (fun c hc => ⟨q6 c hc, dayG_or hN c⟩) n 0 2000 0 0 (by omega) (by omega) (by omega) (by omega)
      rw [nI_0, q2, q3, q4, dayW_eq hN, dayL_eq hN] at gm
      refine OpI.q _ w1 w2 ?_ ((?_ : _ = some (if a2 = 0 then dayE w (w 7) t n (-1) 0 N else if a2 = 1 then nI (dayT w (w 7) t n (-1) 0 N) else if a2 = 2 then dayM w (w 7) t n (-1) 0 N else if a2 = 3 then nI (dayW w (w 7) t n (-1) 0 N) else nI (mxW (fun c => waitN N (w 7 c)) (fun c => !(dayT w (w 7) t n (-1) 0 N).testBit c) n 0 0), w2))) (hR.endL r3 q7)
      · rw [f_X10_dusk, s_within, if_pos h1, if_neg (by decide), s_within, if_pos h2, if_neg (by decide), z1, s_law ht (by rw [z2 0 (by decide)]; exact e4), isTxt ht, xchk_true]
        refine (r1 _).trans ?_
        by_cases c0 : a2 = 0
        · rw [if_pos c0, if_pos c0, d6]
        rw [if_neg c0, if_neg c0]
        by_cases c1 : a2 = 1
        · rw [if_pos c1, if_pos c1, d7]
        rw [if_neg c1, if_neg c1]
        by_cases c2 : a2 = 2
        · rw [if_pos c2, if_pos c2, d8]
        rw [if_neg c2, if_neg c2]
        by_cases c3 : a2 = 3
        · rw [if_pos c3, if_pos c3, d9]
        rw [if_neg c3, if_neg c3]
        unfold f_X1_longestLeft
        have gx := s_leftX hn hN (dayT_lt w (w 7) t n (-1) 0 N) hY.2.1 (u := w1) (by rw [r3 5 (by omega)]; exact en) d7 (fun c hc => by rw [r4]; exact z3 c (by omega)) n 0 2000 0 (by omega) (by omega) (by omega)
        rw [nI_0] at gx
        rw [gx, xbind_some]
      · rw [f_X11_dusk, s_in, if_pos h1, if_neg (by decide), s_in, if_pos h2, if_neg (by decide), q1]
        exact gm
    · exact OpI.q (-7) w w (by rw [f_X10_dusk, s_within, if_pos h1, if_neg (by decide), s_within, if_neg h2, if_pos rfl]) (by rw [f_X11_dusk, s_in, if_pos h1, if_neg (by decide), s_in, if_neg h2, if_pos rfl]) hR
  · exact OpI.q (-5) w w (by rw [f_X10_dusk, s_within, if_neg h1, if_pos rfl]) (by rw [f_X11_dusk, s_in, if_neg h1, if_pos rfl]) hR
