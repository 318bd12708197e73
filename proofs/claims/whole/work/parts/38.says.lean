-- ===== what a text says =====
theorem i_eq {x y : Int32} (h : x.toInt = y.toInt) : x = y := Int32.toInt_inj.mp h
theorem i_le {x y : Int32} : x ≤ y ↔ x.toInt ≤ y.toInt := Int32.le_iff_toInt_le
theorem i_lt {x y : Int32} : x < y ↔ x.toInt < y.toInt := Int32.lt_iff_toInt_lt
def opV (x a b : Int32) : Int32 := if x = -13 then a - b else if x = -12 then a + b else if x = -11 then (if a = b then 1 else 0) else if x = -10 then (if b ≤ a then 0 else 1) else if x = -8 then (if a = 0 then 0 else if b = 0 then 0 else 1) else if x = -7 then (if a = 0 then (if b = 0 then 0 else 1) else 1) else a * b
theorem s_joined {γ : Type} (x a b : Int32) (w : xI) (K : Int32 → xI → Option γ) : xbind (f_X7_joined x a b w) K = K (opV x a b) w := by
  unfold f_X7_joined opV
  by_cases h1 : x = -13
  · simp only [if_pos h1]; rfl
  by_cases h2 : x = -12
  · simp only [if_neg h1, if_pos h2]; rfl
  by_cases h3 : x = -11
  · simp only [if_neg h1, if_neg h2, if_pos h3]
    by_cases c : a = b
    · simp only [if_pos c]; rfl
    · simp only [if_neg c]; rfl
  by_cases h4 : x = -10
  · simp only [if_neg h1, if_neg h2, if_neg h3, if_pos h4]
    by_cases c : b ≤ a
    · simp only [if_pos c]; rfl
    · simp only [if_neg c]; rfl
  by_cases h5 : x = -9
  · subst h5
    rw [if_neg (by decide), if_neg (by decide), if_neg (by decide), if_neg (by decide), if_pos rfl, if_neg (by decide), if_neg (by decide), if_neg (by decide), if_neg (by decide), if_neg (by decide), if_neg (by decide)]; rfl
  by_cases h6 : x = -8
  · simp only [if_neg h1, if_neg h2, if_neg h3, if_neg h4, if_neg h5, if_pos h6]
    by_cases c : a = 0
    · simp only [if_pos c]; rfl
    · simp only [if_neg c]
      by_cases c : b = 0
      · simp only [if_pos c]; rfl
      · simp only [if_neg c]; rfl
  by_cases h7 : x = -7
  · simp only [if_neg h1, if_neg h2, if_neg h3, if_neg h4, if_neg h5, if_neg h6, if_pos h7]
    by_cases c : a = 0
    · simp only [if_pos c]
      by_cases c : b = 0
      · simp only [if_pos c]; rfl
      · simp only [if_neg c]; rfl
    · simp only [if_neg c]; rfl
  · simp only [if_neg h1, if_neg h2, if_neg h3, if_neg h4, if_neg h5, if_neg h6, if_neg h7]; rfl
/-- one token on the stack: the stack and its height -/
def tkS (x : Int32) (nm : Nat → Int32) (h : Nat) (s : Nat → Int32) : Nat → Int32 :=
  if -6 ≤ x then upd s h (if 0 ≤ x then x else nm (-1 - x).toNatClampNeg)
  else if x = -9 then upd s (h - 1) (if s (h - 1) = 0 then 1 else 0)
  else if x = -15 then upd s (h - 1) (-(s (h - 1)))
  else upd s (h - 2) (opV x (s (h - 2)) (s (h - 1)))
def tkH (x : Int32) (h : Nat) : Nat := if -6 ≤ x then h + 1 else if x = -9 ∨ x = -15 then h else h - 1
def evS (c nm : Nat → Int32) : Nat → Nat → Nat → (Nat → Int32) → (Nat → Int32)
  | 0, _, _, s => s
  | n + 1, a, h, s => evS c nm n (a + 1) (tkH (c a) h) (tkS (c a) nm h s)
theorem hgt_step {c : Nat → Int32} {a n h r : Nat} (hg : hgt c a (n + 1) h = some r) : hgt c (a + 1) n (tkH (c a) h) = some r ∧ (¬ -6 ≤ c a → c a = -9 ∨ c a = -15 → 1 ≤ h) ∧ (¬ -6 ≤ c a → ¬ (c a = -9 ∨ c a = -15) → 2 ≤ h) := by
  unfold hgt at hg
  unfold tkH
  by_cases h1 : -6 ≤ c a
  · rw [if_pos h1] at hg ⊢; exact ⟨hg, fun z => absurd h1 z, fun z => absurd h1 z⟩
  · rw [if_neg h1] at hg ⊢
    by_cases h2 : c a = -9 ∨ c a = -15
    · rw [if_pos h2] at hg ⊢
      by_cases h3 : 1 ≤ h
      · rw [if_pos h3] at hg; exact ⟨hg, fun _ _ => h3, fun _ z => absurd h2 z⟩
      · rw [if_neg h3] at hg; exact absurd hg (by simp)
    · rw [if_neg h2] at hg ⊢
      by_cases h3 : 2 ≤ h
      · rw [if_pos h3] at hg; exact ⟨hg, fun _ z => absurd z h2, fun _ _ => h3⟩
      · rw [if_neg h3] at hg; exact absurd hg (by simp)
theorem tkH_le (x : Int32) (h : Nat) : tkH x h ≤ h + 1 := by
  unfold tkH
  by_cases h1 : -6 ≤ x
  · rw [if_pos h1]; exact Nat.le_refl _
  · rw [if_neg h1]
    by_cases h2 : x = -9 ∨ x = -15
    · rw [if_pos h2]; omega
    · rw [if_neg h2]; omega
theorem upd_s (f : Nat → Int32) (j : Nat) (x : Int32) : upd f j x j = x := if_pos rfl
theorem upd_n (f : Nat → Int32) {j i : Nat} (x : Int32) (h : i ≠ j) : upd f j x i = f i := if_neg h
theorem upd_cg {f g : Nat → Int32} {j i : Nat} {x y : Int32} (h : i ≠ j → f i = g i) (hx : x = y) : upd f j x i = upd g j y i := by
  by_cases e : i = j
  · rw [e, upd_s, upd_s, hx]
  · rw [upd_n _ _ e, upd_n _ _ e, h e]
/-- a name's place -/
theorem nm_ix {x : Int32} (h1 : -6 ≤ x) (h2 : ¬ 0 ≤ x) : ∃ j : Nat, j < 6 ∧ -1 - x = nI j := by
  have a1 := i_le.mp h1
  have a2 : ¬ (0 : Int) ≤ x.toInt := fun z => h2 (i_le.mpr z)
  have a3 : (-6 : Int32).toInt = -6 := rfl
  refine ⟨(-1 - x.toInt).toNat, by omega, i_eq ?_⟩
  rw [t_sub (p := -1) (q := x.toInt) rfl rfl (by omega) (by omega), nI_toInt (by omega)]
  omega
theorem tkS_cg {x : Int32} {nm nm' : Nat → Int32} {h : Nat} {s s' : Nat → Int32} (hn : ∀ j, j < 6 → nm j = nm' j) (hs : ∀ i, i < h → s i = s' i) (g1 : ¬ -6 ≤ x → x = -9 ∨ x = -15 → 1 ≤ h) (g2 : ¬ -6 ≤ x → ¬ (x = -9 ∨ x = -15) → 2 ≤ h) : ∀ i, i < tkH x h → tkS x nm h s i = tkS x nm' h s' i := by
  intro i hi
  unfold tkS
  unfold tkH at hi
  by_cases h1 : -6 ≤ x
  · rw [if_pos h1] at hi
    rw [if_pos h1, if_pos h1]
    refine upd_cg (fun e => hs i (by omega)) ?_
    by_cases h0 : 0 ≤ x
    · rw [if_pos h0, if_pos h0]
    · rw [if_neg h0, if_neg h0]
      obtain ⟨j, hj, e⟩ := nm_ix h1 h0
      rw [e, nI_clamp (by omega), hn j hj]
  · rw [if_neg h1] at hi
    rw [if_neg h1, if_neg h1]
    by_cases h2 : x = -9
    · have := g1 h1 (Or.inl h2)
      rw [if_pos (Or.inl h2)] at hi
      rw [if_pos h2, if_pos h2]
      exact upd_cg (fun e => hs i (by omega)) (by rw [hs (h - 1) (by omega)])
    · rw [if_neg h2, if_neg h2]
      by_cases h3 : x = -15
      · have := g1 h1 (Or.inr h3)
        rw [if_pos (Or.inr h3)] at hi
        rw [if_pos h3, if_pos h3]
        exact upd_cg (fun e => hs i (by omega)) (by rw [hs (h - 1) (by omega)])
      · have h4 : ¬ (x = -9 ∨ x = -15) := fun z => z.elim h2 h3
        have := g2 h1 h4
        rw [if_neg h4] at hi
        rw [if_neg h3, if_neg h3]
        exact upd_cg (fun e => hs i (by omega)) (by rw [hs (h - 1) (by omega), hs (h - 2) (by omega)])
theorem evS_cg {c c' nm nm' : Nat → Int32} (hn : ∀ j, j < 6 → nm j = nm' j) {r : Nat} : ∀ (n a h : Nat) (s s' : Nat → Int32), hgt c a n h = some r → (∀ j, a ≤ j → j < a + n → c j = c' j) → (∀ i, i < h → s i = s' i) → ∀ i, i < r → evS c nm n a h s i = evS c' nm' n a h s' i := by
  intro n
  induction n with
  | zero =>
    intro a h s s' hg hc hs i hi
    have : h = r := by unfold hgt at hg; exact Option.some.inj hg
    exact hs i (by omega)
  | succ n ih =>
    intro a h s s' hg hc hs
    obtain ⟨k1, k2, k3⟩ := hgt_step hg
    show ∀ i, i < r → evS c nm n (a + 1) (tkH (c a) h) (tkS (c a) nm h s) i = evS c' nm' n (a + 1) (tkH (c' a) h) (tkS (c' a) nm' h s') i
    rw [← hc a (by omega) (by omega)]
    exact ih (a + 1) _ _ _ k1 (fun j h1 h2 => hc j (by omega) (by omega)) (tkS_cg hn hs k2 k3)
def finV (p : Nat) (v : Int32) : Int32 := if p = 0 then (if v = 0 then 0 else 1) else if v < 0 then 0 else if 99 < v then 99 else v
theorem s_fin {p t o2 : Nat} (hp : p < 3) (v : Int32) (u : xI) : f_X7_says_L210 (39 + 4 * t) o2 (nI p) v u = some (finV p v, u) := by
  unfold f_X7_says_L210 finV
  by_cases h : p = 0
  · subst h
    rw [if_pos rfl, nI_0, if_pos rfl]
    by_cases c : v = 0
    · rw [if_pos c, if_pos c]
    · rw [if_neg c, if_neg c]
  · rw [if_neg (nI_ne0 (by omega) (by omega)), if_neg h]
    have e0 : (0 : Int32).toInt = 0 := rfl
    have e9 : (99 : Int32).toInt = 99 := rfl
    by_cases c1 : v < 0
    · rw [if_pos c1, if_pos (show v < 99 from i_lt.mpr (by have := i_lt.mp c1; omega)), if_neg (show ¬ 0 < v from fun z => by have := i_lt.mp c1; have := i_lt.mp z; omega)]
    · rw [if_neg c1]
      by_cases c2 : 99 < v
      · rw [if_pos c2, if_neg (show ¬ v < 99 from fun z => by have := i_lt.mp c2; have := i_lt.mp z; omega), if_pos (by decide)]
      · rw [if_neg c2]
        by_cases c3 : v < 99
        · rw [if_pos c3]
          by_cases c4 : 0 < v
          · rw [if_pos c4]
          · rw [if_neg c4]
            have : v = 0 := i_eq (by have : ¬ v.toInt < 0 := fun z => c1 (i_lt.mpr z); have : ¬ 0 < v.toInt := fun z => c4 (i_lt.mpr z); omega)
            rw [this]
        · rw [if_neg c3, if_pos (by decide)]
          have : v = 99 := i_eq (by have : ¬ v.toInt < 99 := fun z => c3 (i_lt.mpr z); have : ¬ 99 < v.toInt := fun z => c2 (i_lt.mpr z); omega)
          rw [this]
theorem tk_not9 {x : Int32} (h : -6 ≤ x) : ¬ x < -6 := Int32.not_lt.mpr h
theorem s_saysL {t o2 e p : Nat} (ho : o2 < 39 ∨ 62 < o2) (hp : p < 3) (he : e ≤ 160) (c : Nat → Int32) : ∀ (n a h fu : Nat) (u : xI), a + n = e → h ≤ a → n < fu → u (41 + 4 * t) p = nI e → (∀ j, j < 160 → u (40 + 4 * t) j = c j) → hgt c a n h = some 1 → t < 6 →
    f_X7_says_L20 (39 + 4 * t) o2 fu (nI p) (nI h) (nI a) u = some (finV p (evS c (u o2) n a h (u (42 + 4 * t)) 0), xuc u (42 + 4 * t) (evS c (u o2) n a h (u (42 + 4 * t)))) := by
  intro n
  induction n with
  | zero =>
    intro a h fu u h1 h2 h3 h4 h5 hg ht
    obtain ⟨f, rfl⟩ : ∃ f, fu = f + 1 := ⟨fu - 1, by omega⟩
    have e1 : h = 1 := by unfold hgt at hg; exact Option.some.inj hg
    subst e1
    have e2 : 39 + 4 * t + 2 = 41 + 4 * t := by omega
    have e3 : 39 + 4 * t + 3 = 42 + 4 * t := by omega
    rw [f_X7_says_L20, xin_nI hp (by decide), xchk_true, nI_clamp (by omega), e2, h4, if_pos (nI_le (by omega) (by omega)), if_neg (show ¬ nI 1 ≤ 0 by decide)]
    show xchk (xin (nI 1 - nI 1) 160) _ = _
    rw [pk_sub (Nat.le_refl _), xin_nI (by decide) (by decide), xchk_true, s_fin hp, e3]
    show some (finV p (u (42 + 4 * t) 0), u) = some (finV p (u (42 + 4 * t) 0), xuc u (42 + 4 * t) (u (42 + 4 * t)))
    rw [xuc_self]
  | succ n ih =>
    intro a h fu u h1 h2 h3 h4 h5 hg ht
    obtain ⟨f, rfl⟩ : ∃ f, fu = f + 1 := ⟨fu - 1, by omega⟩
    have e1 : 39 + 4 * t + 1 = 40 + 4 * t := by omega
    have e2 : 39 + 4 * t + 2 = 41 + 4 * t := by omega
    have e3 : 39 + 4 * t + 3 = 42 + 4 * t := by omega
    obtain ⟨k1, k2, k3⟩ := hgt_step hg
    have hev : ∀ s, evS c (u o2) (n + 1) a h s = evS c (u o2) n (a + 1) (tkH (c a) h) (tkS (c a) (u o2) h s) := fun s => rfl
    have go : ∀ s, s = tkS (c a) (u o2) h (u (42 + 4 * t)) → f_X7_says_L20 (39 + 4 * t) o2 f (nI p) (nI (tkH (c a) h)) (nI (a + 1)) (xuc u (42 + 4 * t) s) = some (finV p (evS c (u o2) (n + 1) a h (u (42 + 4 * t)) 0), xuc u (42 + 4 * t) (evS c (u o2) (n + 1) a h (u (42 + 4 * t)))) := by
      intro s hs
      have := ih (a + 1) (tkH (c a) h) f (xuc u (42 + 4 * t) s) (by omega) (by have := tkH_le (c a) h; omega) (by omega) (by rw [xuc_ne _ _ _ (by omega)]; exact h4) (fun j hj => by rw [xuc_ne _ _ _ (by omega)]; exact h5 j hj) k1 ht
      rw [xuc_ne _ _ _ (by omega : o2 ≠ 42 + 4 * t), xuc_same, xuc_xuc, hs] at this
      rw [hev, hs]; exact this
    have hh : h ≤ 160 := by omega
    have pm1 : 1 ≤ h → nI h - 1 = nI (h - 1) := fun z => pk_sub (a := h) (b := 1) z
    rw [f_X7_says_L20, xin_nI hp (by decide), xchk_true, nI_clamp (by omega), e2, h4, if_neg (nI_ge (by omega) (by omega)), xin_nI (by omega) (by decide), xchk_true, nI_clamp (by omega), e1, h5 a (by omega), xlet_eq, e3]
    unfold tkH tkS at go
    by_cases c1 : -6 ≤ c a
    · rw [if_neg (tk_not9 c1), if_neg (show ¬ (160 : Int32) ≤ nI h from nI_ge (b := 160) (by omega) (by omega))]
      rw [if_pos c1, if_pos c1] at go
      by_cases c2 : 0 ≤ c a
      · rw [if_neg (Int32.not_lt.mpr c2), xin_nI (by omega) (by decide), xchk_true, xlet_eq, xlet_eq, nI_1, nI_1, nI_clamp (by omega), xup_xuc]
        exact go _ (by rw [if_pos c2])
      · obtain ⟨j, hj, e⟩ := nm_ix c1 c2
        rw [if_pos (Int32.not_le.mp c2), e, xin_nI (by omega) (by decide), xchk_true, xin_nI (by omega) (by decide), xchk_true, xlet_eq, xlet_eq, nI_1, nI_1, nI_clamp (by omega), nI_clamp (by omega), xup_xuc]
        exact go _ (by rw [if_neg c2, e, nI_clamp (by omega)])
    · rw [if_pos (Int32.not_le.mp c1)]
      rw [if_neg c1, if_neg c1] at go
      unfold f_X7_says_L82 f_X7_says_L121 f_X7_says_L153
      by_cases c2 : c a = -9
      · have hk := k2 c1 (Or.inl c2)
        rw [if_pos (Or.inl c2), if_pos c2] at go
        rw [if_pos c2, if_neg (show ¬ nI h < 1 from nI_nlt (b := 1) hk (by omega)), pm1 hk, xin_nI (by omega) (by decide), xchk_true, nI_clamp (by omega), xchk_true, xchk_true, xlet_eq, xlet_eq, nI_1, e3]
        by_cases c4 : u (42 + 4 * t) (h - 1) = 0
        · rw [if_pos c4, xup_xuc]; exact go _ (by rw [if_pos c4])
        · rw [if_neg c4, xup_xuc]; exact go _ (by rw [if_neg c4])
      · rw [if_neg c2]
        by_cases c3 : c a = -15
        · have hk := k2 c1 (Or.inr c3)
          rw [if_pos (Or.inr c3), if_neg c2, if_pos c3] at go
          rw [if_pos c3, if_neg (show ¬ nI h < 1 from nI_nlt (b := 1) hk (by omega)), pm1 hk, xin_nI (by omega) (by decide), xchk_true, nI_clamp (by omega), xchk_true, xlet_eq, nI_1, e3, xup_xuc]
          exact go _ rfl
        · have c4 : ¬ (c a = -9 ∨ c a = -15) := fun z => z.elim c2 c3
          have hk := k3 c1 c4
          rw [if_neg c4, if_neg c2, if_neg c3] at go
          have m1 : nI h + (-1) = nI (h - 1) := by
            obtain ⟨q, rfl⟩ : ∃ q, h = q + 1 := ⟨h - 1, by omega⟩
            exact pk_m1 q
          have m2 : nI (h - 1) - 1 = nI (h - 2) := pk_sub (a := h - 1) (b := 1) (by omega)
          rw [if_neg c3, if_neg (show ¬ nI h < 2 from nI_nlt (b := 2) hk (by omega)), xlet_eq, m1, m2, xin_nI (by omega) (by decide), xchk_true, xin_nI (by omega) (by decide), xchk_true, s_joined, xchk_true, xlet_eq, nI_1, nI_clamp (by omega), nI_clamp (by omega), e3, xup_xuc]
          exact go _ rfl
