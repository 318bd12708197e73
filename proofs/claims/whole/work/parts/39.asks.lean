theorem s_two (x a b : Int32) (w : xI) (h0 : ¬ -6 ≤ x) (h1 : -15 ≤ x) (h2 : ¬ (x = -9 ∨ x = -15)) {γ : Type} (K : Int32 → xI → Option γ) : xbind (f_X11_two (mTok x) a b w) K = K (opV x a b) w := by
  have a0 : ¬ (-6 : Int) ≤ x.toInt := fun z => h0 (i_le.mpr z)
  have a1 : (-15 : Int) ≤ x.toInt := i_le.mp h1
  have a2 : ¬ x.toInt = -9 := fun z => h2 (Or.inl (i_eq z))
  have a3 : ¬ x.toInt = -15 := fun z => h2 (Or.inr (i_eq z))
  have key : x.toInt = -7 ∨ x.toInt = -8 ∨ x.toInt = -10 ∨ x.toInt = -11 ∨ x.toInt = -12 ∨ x.toInt = -13 ∨ x.toInt = -14 := by omega
  have q : ∀ y : Int32, f_X11_two y a b w = f_X11_two y a b w := fun _ => rfl
  rcases key with k | k | k | k | k | k | k
  · have e : x = -7 := i_eq k
    subst e
    show xbind (if (11 : Int32) = 11 then (if a = 0 then (if b = 0 then some ((0 : Int32), w) else some ((1 : Int32), w)) else some ((1 : Int32), w)) else _) K = K (if a = 0 then (if b = 0 then 0 else 1) else 1) w
    rw [if_pos rfl]
    by_cases c : a = 0
    · simp only [if_pos c]
      by_cases c : b = 0
      · simp only [if_pos c]; rfl
      · simp only [if_neg c]; rfl
    · simp only [if_neg c]; rfl
  · have e : x = -8 := i_eq k
    subst e
    show xbind (if a = 0 then some ((0 : Int32), w) else (if b = 0 then some ((0 : Int32), w) else some ((1 : Int32), w))) K = K (if a = 0 then 0 else if b = 0 then 0 else 1) w
    by_cases c : a = 0
    · simp only [if_pos c]; rfl
    · simp only [if_neg c]
      by_cases c : b = 0
      · simp only [if_pos c]; rfl
      · simp only [if_neg c]; rfl
  · have e : x = -10 := i_eq k
    subst e
    show xbind (if b ≤ a then some ((0 : Int32), w) else some ((1 : Int32), w)) K = K (if b ≤ a then 0 else 1) w
    by_cases c : b ≤ a
    · simp only [if_pos c]; rfl
    · simp only [if_neg c]; rfl
  · have e : x = -11 := i_eq k
    subst e
    show xbind (if a = b then some ((1 : Int32), w) else some ((0 : Int32), w)) K = K (if a = b then 1 else 0) w
    by_cases c : a = b
    · simp only [if_pos c]; rfl
    · simp only [if_neg c]; rfl
  · have e : x = -12 := i_eq k
    subst e
    rfl
  · have e : x = -13 := i_eq k
    subst e
    rfl
  · have e : x = -14 := i_eq k
    subst e
    rfl
theorem mTok_ge {x : Int32} (h : 0 ≤ x) (h2 : x ≤ 9999) : 100000 ≤ mTok x ∧ mTok x - 100000 = x := by
  obtain ⟨j, hj, rfl⟩ := nI_bd (n := 9999) (by decide) h h2
  have e : mTok (nI j) = nI (100000 + j) := by
    unfold mTok
    rw [if_pos h]
    exact nI_add 100000 j
  rw [e]
  exact ⟨nI_le (a := 100000) (by omega) (by omega), (pk_sub (a := 100000 + j) (b := 100000) (by omega)).trans (by rw [Nat.add_sub_cancel_left])⟩
theorem mTok_nm {x : Int32} (h1 : -6 ≤ x) (h2 : ¬ 0 ≤ x) : mTok x = -1 - x := by
  unfold mTok
  rw [if_neg h2, if_pos h1]
theorem mTok_op {x : Int32} (h0 : ¬ -6 ≤ x) (h1 : -15 ≤ x) : 11 ≤ mTok x ∧ ¬ 100000 ≤ mTok x ∧ (mTok x = 13 ↔ x = -9) ∧ (mTok x = 19 ↔ x = -15) := by
  have a0 : ¬ (-6 : Int) ≤ x.toInt := fun z => h0 (i_le.mpr z)
  have a1 : (-15 : Int) ≤ x.toInt := i_le.mp h1
  have key : x.toInt = -7 ∨ x.toInt = -8 ∨ x.toInt = -9 ∨ x.toInt = -10 ∨ x.toInt = -11 ∨ x.toInt = -12 ∨ x.toInt = -13 ∨ x.toInt = -14 ∨ x.toInt = -15 := by omega
  rcases key with k | k | k | k | k | k | k | k | k
  · rw [show x = -7 from i_eq k]; decide
  · rw [show x = -8 from i_eq k]; decide
  · rw [show x = -9 from i_eq k]; decide
  · rw [show x = -10 from i_eq k]; decide
  · rw [show x = -11 from i_eq k]; decide
  · rw [show x = -12 from i_eq k]; decide
  · rw [show x = -13 from i_eq k]; decide
  · rw [show x = -14 from i_eq k]; decide
  · rw [show x = -15 from i_eq k]; decide
theorem s_worthL {t e p : Nat} (ht : t < 6) (hp : p < 3) (he : e ≤ 160) (c : Nat → Int32) : ∀ (n a h fu : Nat) (u : xI), a + n = e → h ≤ a → n < fu → u 71 15 = nI t → u 82 (4 * t + p + 1) = nI e → (∀ j, j < e → u 81 (200 * t + j) = mTok (c j) ∧ -15 ≤ c j ∧ c j ≤ 9999) → hgt c a n h = some 1 →
    f_X11_worth_L16 fu (nI p) (nI h) (nI a) u = some (evS c (u 94) n a h (u 93) 0, xuc u 93 (evS c (u 94) n a h (u 93))) := by
  intro n
  induction n with
  | zero =>
    intro a h fu u h1 h2 h3 hr h4 h5 hg
    obtain ⟨f, rfl⟩ : ∃ f, fu = f + 1 := ⟨fu - 1, by omega⟩
    have e1 : (4 : Int32) * nI t + nI p + 1 = nI (4 * t + p + 1) := by rw [show (4 : Int32) = nI 4 from rfl, pk_mul, nI_add, nI_1]
    rw [f_X11_worth_L16, hr, e1, xin_nI (by omega) (by decide), xchk_true, nI_clamp (by omega), h4, if_pos (nI_le (by omega) (by omega))]
    show some (u 93 0, u) = some (u 93 0, xuc u 93 (u 93))
    rw [xuc_self]
  | succ n ih =>
    intro a h fu u h1 h2 h3 hr h4 h5 hg
    obtain ⟨f, rfl⟩ : ∃ f, fu = f + 1 := ⟨fu - 1, by omega⟩
    have e1 : (4 : Int32) * nI t + nI p + 1 = nI (4 * t + p + 1) := by rw [show (4 : Int32) = nI 4 from rfl, pk_mul, nI_add, nI_1]
    have e2 : (200 : Int32) * nI t + nI a = nI (200 * t + a) := by rw [show (200 : Int32) = nI 200 from rfl, pk_mul, nI_add]
    obtain ⟨k1, k2, k3⟩ := hgt_step hg
    obtain ⟨q1, q2, q3⟩ := h5 a (by omega)
    have hev : ∀ s, evS c (u 94) (n + 1) a h s = evS c (u 94) n (a + 1) (tkH (c a) h) (tkS (c a) (u 94) h s) := fun s => rfl
    have go : ∀ s, s = tkS (c a) (u 94) h (u 93) → f_X11_worth_L16 f (nI p) (nI (tkH (c a) h)) (nI (a + 1)) (xuc u 93 s) = some (evS c (u 94) (n + 1) a h (u 93) 0, xuc u 93 (evS c (u 94) (n + 1) a h (u 93))) := by
      intro s hs
      have := ih (a + 1) (tkH (c a) h) f (xuc u 93 s) (by omega) (by have := tkH_le (c a) h; omega) (by omega) (by rw [xuc_ne _ _ _ (by decide)]; exact hr) (by rw [xuc_ne _ _ _ (by decide)]; exact h4) (fun j hj => by rw [xuc_ne _ _ _ (by decide)]; exact h5 j hj) k1
      rw [xuc_ne _ _ _ (by decide : (94 : Nat) ≠ 93), xuc_same, xuc_xuc, hs] at this
      rw [hev, hs]; exact this
    have pm1 : 1 ≤ h → nI h - 1 = nI (h - 1) := fun z => pk_sub (a := h) (b := 1) z
    rw [f_X11_worth_L16, hr, e1, xin_nI (by omega) (by decide), xchk_true, nI_clamp (by omega), h4, if_neg (nI_ge (by omega) (by omega)), e2, xin_nI (by omega) (by decide), xchk_true, nI_clamp (by omega), q1, xlet_eq]
    unfold f_X11_worth_L66
    unfold tkH tkS at go
    by_cases c1 : -6 ≤ c a
    · rw [if_pos c1, if_pos c1] at go
      by_cases c2 : 0 ≤ c a
      · obtain ⟨m1, m2⟩ := mTok_ge c2 q3
        rw [if_pos m1, if_pos (Int32.le_trans (by decide) m1), xin_nI (by omega) (by decide), xchk_true, xlet_eq, xlet_eq, nI_1, nI_1, nI_clamp (by omega), m2, xup_xuc]
        exact go _ (by rw [if_pos c2])
      · obtain ⟨j, hj, e⟩ := nm_ix c1 c2
        rw [mTok_nm c1 c2, e, if_neg (show ¬ (100000 : Int32) ≤ nI j from nI_ge (b := 100000) (by omega) (by omega)), if_neg (show ¬ (11 : Int32) ≤ nI j from nI_ge (b := 11) (by omega) (by omega)), if_neg (show ¬ (11 : Int32) ≤ nI j from nI_ge (b := 11) (by omega) (by omega)), xin_nI (by omega) (by decide), xchk_true, xin_nI (by omega) (by decide), xchk_true, xlet_eq, xlet_eq, nI_1, nI_1, nI_clamp (by omega), nI_clamp (by omega), xup_xuc]
        exact go _ (by rw [if_neg c2, e, nI_clamp (by omega)])
    · obtain ⟨m1, m2, m3, m4⟩ := mTok_op c1 q2
      rw [if_neg c1, if_neg c1] at go
      rw [if_neg m2, if_pos m1]
      by_cases c2 : c a = -9
      · have hk := k2 c1 (Or.inl c2)
        rw [if_pos (Or.inl c2), if_pos c2] at go
        rw [if_pos (m3.mpr c2), pm1 hk, xin_nI (by omega) (by decide), xchk_true, nI_clamp (by omega), xchk_true, xchk_true, xlet_eq, xlet_eq, nI_1]
        by_cases c4 : u 93 (h - 1) = 0
        · rw [if_pos c4, xup_xuc]; exact go _ (by rw [if_pos c4])
        · rw [if_neg c4, xup_xuc]; exact go _ (by rw [if_neg c4])
      · rw [if_neg (fun z => c2 (m3.mp z))]
        by_cases c3 : c a = -15
        · have hk := k2 c1 (Or.inr c3)
          rw [if_pos (Or.inr c3), if_neg c2, if_pos c3] at go
          rw [if_pos (m4.mpr c3), pm1 hk, xin_nI (by omega) (by decide), xchk_true, nI_clamp (by omega), xchk_true, xlet_eq, nI_1, xup_xuc]
          exact go _ rfl
        · have c4 : ¬ (c a = -9 ∨ c a = -15) := fun z => z.elim c2 c3
          have hk := k3 c1 c4
          rw [if_neg c4, if_neg c2, if_neg c3] at go
          have m5 : nI h + (-1) = nI (h - 1) := by
            obtain ⟨q, rfl⟩ : ∃ q, h = q + 1 := ⟨h - 1, by omega⟩
            exact pk_m1 q
          have m6 : nI (h - 1) - 1 = nI (h - 2) := pk_sub (a := h - 1) (b := 1) (by omega)
          rw [if_neg (fun z => c3 (m4.mp z)), xlet_eq, m5, m6, xin_nI (by omega) (by decide), xchk_true, xin_nI (by omega) (by decide), xchk_true, s_two _ _ _ _ c1 q2 c4, xchk_true, xlet_eq, nI_1, nI_clamp (by omega), nI_clamp (by omega), xup_xuc]
          exact go _ rfl
/-- where part p of a text begins -/
def staT (w : xI) (t p : Nat) : Nat := if p = 0 then 0 else (w (41 + 4 * t) (p - 1)).toNatClampNeg
def endT (w : xI) (t p : Nat) : Nat := (w (41 + 4 * t) p).toNatClampNeg
/-- what part p of text t says of names nm -/
def askV (w : xI) (t p : Nat) (nm : Nat → Int32) : Int32 := finV p (evS (w (40 + 4 * t)) nm (endT w t p - staT w t p) (staT w t p) 0 (fun _ => 0) 0)
theorem TextOk.part {w : xI} {t p : Nat} (h : TextOk w t) (hp : p < 3) : ∃ a n, staT w t p = a ∧ endT w t p - a = n ∧ a + n ≤ 160 ∧ (p ≠ 0 → w (41 + 4 * t) (p - 1) = nI a) ∧ (p = 0 → a = 0) ∧ w (41 + 4 * t) p = nI (a + n) ∧ w 82 (4 * t + p) = nI a ∧ w 82 (4 * t + p + 1) = nI (a + n) ∧ (∀ j, j < a + n → w 81 (200 * t + j) = mTok (w (40 + 4 * t) j) ∧ -15 ≤ w (40 + 4 * t) j ∧ w (40 + 4 * t) j ≤ 9999) ∧ hgt (w (40 + 4 * t)) a n 0 = some 1 := by
  obtain ⟨e1, e2, e3, h12, h23, h3, ⟨x1, x2, x3⟩, ⟨y0, y1, y2, y3⟩, hc, g1, g2, g3⟩ := h
  match p, hp with
  | 0, _ =>
    have q : endT w t 0 = e1 := by unfold endT; rw [x1, nI_clamp (by omega)]
    exact ⟨0, e1, rfl, by omega, by omega, fun z => absurd rfl z, fun _ => rfl, by rw [Nat.zero_add]; exact x1, y0.trans nI_0.symm, by rw [Nat.zero_add]; exact y1, fun j hj => hc j (by omega), g1⟩
  | 1, _ => exact ⟨e1, e2 - e1, by show (w (41 + 4 * t) 0).toNatClampNeg = e1; rw [x1, nI_clamp (by omega)], by unfold endT; rw [x2, nI_clamp (by omega)], by omega, fun _ => x1, fun z => absurd z (by decide), by rw [show e1 + (e2 - e1) = e2 by omega]; exact x2, y1, by rw [show e1 + (e2 - e1) = e2 by omega]; exact y2, fun j hj => hc j (by omega), g2⟩
  | 2, _ => exact ⟨e2, e3 - e2, by show (w (41 + 4 * t) 1).toNatClampNeg = e2; rw [x2, nI_clamp (by omega)], by unfold endT; rw [x3, nI_clamp (by omega)], by omega, fun _ => x2, fun z => absurd z (by decide), by rw [show e2 + (e3 - e2) = e3 by omega]; exact x3, y2, by rw [show e2 + (e3 - e2) = e3 by omega]; exact y3, fun j hj => hc j (by omega), g3⟩
  | k + 3, z => omega
theorem askV_cg {w : xI} {t p : Nat} (h : TextOk w t) (hp : p < 3) {nm nm' : Nat → Int32} (hn : ∀ j, j < 6 → nm j = nm' j) : askV w t p nm = askV w t p nm' := by
  obtain ⟨a, n, z1, z2, z3, z4, z5, z6, z7, z8, z9, z10⟩ := h.part hp
  unfold askV
  rw [z1, z2, evS_cg hn n a 0 _ (fun _ => 0) z10 (fun _ _ _ => rfl) (fun i hi => absurd hi (Nat.not_lt_zero i)) 0 (by decide)]
theorem askV_w {w u : xI} {t p : Nat} (h1 : ∀ j, u (40 + 4 * t) j = w (40 + 4 * t) j) (h2 : ∀ j, u (41 + 4 * t) j = w (41 + 4 * t) j) (nm : Nat → Int32) : askV u t p nm = askV w t p nm := by
  have e1 : u (40 + 4 * t) = w (40 + 4 * t) := funext h1
  have e2 : u (41 + 4 * t) = w (41 + 4 * t) := funext h2
  unfold askV staT endT
  rw [e1, e2]
/-- the component's text asked -/
theorem s_says {γ : Type} {u : xI} {t p o2 : Nat} (h : TextOk u t) (ht : t < 6) (hp : p < 3) (ho : o2 < 39 ∨ 62 < o2) : ∃ S, ∀ (K : Int32 → xI → Option γ), xbind (f_X7_says (39 + 4 * t) (nI p) o2 u) K = K (askV u t p (u o2)) (xuc u (42 + 4 * t) S) := by
  obtain ⟨a, n, z1, z2, z3, z4, z5, z6, z7, z8, z9, z10⟩ := h.part hp
  have e2 : 39 + 4 * t + 2 = 41 + 4 * t := by omega
  have go := s_saysL ho hp (e := a + n) z3 (u (40 + 4 * t)) n a 0 2000 u rfl (by omega) (by omega) z6 (fun _ _ => rfl) z10 ht
  refine ⟨evS (u (40 + 4 * t)) (u o2) n a 0 (u (42 + 4 * t)), fun K => ?_⟩
  have ea : askV u t p (u o2) = finV p (evS (u (40 + 4 * t)) (u o2) n a 0 (u (42 + 4 * t)) 0) := by
    unfold askV
    rw [z1, z2, evS_cg (fun _ _ => rfl) n a 0 _ (u (42 + 4 * t)) z10 (fun _ _ _ => rfl) (fun i hi => absurd hi (Nat.not_lt_zero i)) 0 (by decide)]
  unfold f_X7_says
  by_cases c : p = 0
  · have := z5 c
    subst c
    subst this
    rw [nI_0] at go
    rw [nI_0, if_pos rfl, go, ea, xbind_some]
  · have e1 : nI p - 1 = nI (p - 1) := pk_sub (a := p) (b := 1) (by omega)
    rw [if_neg (nI_ne0 (by omega) (by omega)), e1, xin_nI (by omega) (by decide), xchk_true, xlet_eq, e2, nI_clamp (by omega), z4 c]
    rw [nI_0] at go
    rw [go, ea, xbind_some]
def nm6 (x0 x1 x2 x3 x4 x5 : Int32) : Nat → Int32 := fun j => match j with | 0 => x0 | 1 => x1 | 2 => x2 | 3 => x3 | 4 => x4 | _ => x5
theorem s_asksOf {γ : Type} {u : xI} {t p : Nat} (h : TextOk u t) (ht : t < 6) (hp : p < 3) (hr : u 71 15 = nI t) (x0 x1 x2 x3 x4 x5 : Int32) : ∃ S T, ∀ (K : Int32 → xI → Option γ), xbind (f_X11_asksOf (nI p) x0 x1 x2 x3 x4 x5 u) K = K (askV u t p (nm6 x0 x1 x2 x3 x4 x5)) (xuc (xuc u 94 S) 93 T) := by
  obtain ⟨a, n, z1, z2, z3, z4, z5, z6, z7, z8, z9, z10⟩ := h.part hp
  have e4 : (4 : Int32) * nI t + nI p = nI (4 * t + p) := by rw [show (4 : Int32) = nI 4 from rfl, pk_mul, nI_add]
  have ex : xup (xup (xup (xup (xup (xup u 94 0 x0) 94 1 x1) 94 2 x2) 94 3 x3) 94 4 x4) 94 5 x5 = xuc u 94 (upd (upd (upd (upd (upd (upd (u 94) 0 x0) 1 x1) 2 x2) 3 x3) 4 x4) 5 x5) := by
    rw [xup_xuc u, xup_xuc (xuc u 94 _), xuc_same, xuc_xuc, xup_xuc (xuc u 94 _), xuc_same, xuc_xuc, xup_xuc (xuc u 94 _), xuc_same, xuc_xuc, xup_xuc (xuc u 94 _), xuc_same, xuc_xuc, xup_xuc (xuc u 94 _), xuc_same, xuc_xuc]
  generalize hN : upd (upd (upd (upd (upd (upd (u 94) 0 x0) 1 x1) 2 x2) 3 x3) 4 x4) 5 x5 = N at ex
  have hn : ∀ j, j < 6 → N j = nm6 x0 x1 x2 x3 x4 x5 j := by
    intro j hj
    subst hN
    match j, hj with
    | 0, _ => rfl
    | 1, _ => rfl
    | 2, _ => rfl
    | 3, _ => rfl
    | 4, _ => rfl
    | 5, _ => rfl
    | k + 6, z => omega
  have go := s_worthL ht hp (e := a + n) z3 (u (40 + 4 * t)) n a 0 2000 (xuc u 94 N) rfl (by omega) (by omega) (by rw [xuc_ne _ _ _ (by decide)]; exact hr) (by rw [xuc_ne _ _ _ (by decide)]; exact z8) (fun j hj => by rw [xuc_ne _ _ _ (by decide)]; exact z9 j hj) z10
  rw [xuc_same, nI_0] at go
  refine ⟨N, evS (u (40 + 4 * t)) N n a 0 (xuc u 94 N 93), fun K => ?_⟩
  have ea : askV u t p (nm6 x0 x1 x2 x3 x4 x5) = finV p (evS (u (40 + 4 * t)) N n a 0 (xuc u 94 N 93) 0) := by
    unfold askV
    rw [z1, z2, evS_cg (fun j hj => (hn j hj).symm) n a 0 _ (xuc u 94 N 93) z10 (fun _ _ _ => rfl) (fun i hi => absurd hi (Nat.not_lt_zero i)) 0 (by decide)]
  rw [ea]
  unfold f_X11_asksOf f_X11_worth
  rw [ex, xuc_ne _ _ _ (by decide : (71 : Nat) ≠ 94), hr, e4, xin_nI (by omega) (by decide), xchk_true, nI_clamp (by omega), xuc_ne _ _ _ (by decide : (82 : Nat) ≠ 94), z7, xlet_eq, go, xbind_some]
  generalize evS (u (40 + 4 * t)) N n a 0 (xuc u 94 N 93) = E
  unfold finV
  by_cases c : p = 0
  · subst c
    rw [nI_0, if_pos rfl, if_pos rfl]
    by_cases c0 : E 0 = 0
    · rw [if_pos c0, if_pos c0, xbind_some]
    · rw [if_neg c0, if_neg c0, xbind_some]
  · rw [if_neg (nI_ne0 (by omega) (by omega)), if_neg c]
    unfold f_X11_within
    by_cases c1 : E 0 < 0
    · rw [if_neg (Int32.not_le.mpr c1), if_pos c1]; rfl
    · rw [if_pos (Int32.not_lt.mp c1), if_neg c1]
      by_cases c2 : 99 < E 0
      · rw [if_neg (Int32.not_le.mpr c2), if_pos c2]; rfl
      · rw [if_pos (Int32.not_lt.mp c2), if_neg c2]; rfl
