-- ===== the model's words =====
def tM (x : Int32) : Int32 := if 0 ≤ x then 1 else if -6 ≤ x then 2 else if x = -7 then 4 else if x = -8 then 5 else if x = -9 then 6 else if x = -10 then 60 else if x = -11 then 61 else if x = -12 then 43 else if x = -13 then 45 else if x = -14 then 42 else if x = -16 then 40 else if x = -17 then 41 else if x = -18 then 59 else if x = -19 then 3 else if x = -20 then 3 else if x = -21 then 3 else if x = -22 then 0 else -1
def vM (x : Int32) : Int32 := if 0 ≤ x then x else if -6 ≤ x then -1 - x else -19 - x
/-- the model's cells say token x -/
def MT (x : Int32) (u : xI) : Prop := u 71 30 = tM x ∧ ((-6 ≤ x ∨ (-21 ≤ x ∧ x ≤ -19)) → u 71 31 = vM x)
def mIx (m : Nat) : Nat := [6, 7, 8, 0, 1, 2, 3, 4, 5, 9, 10, 11].getD m 12
theorem mw_tab : ∀ m, m < 12 → ∀ i, i < 8 → xWords.getD (8 * m + i) 0 = (if i < wLen.getD (mIx m) 0 then (wByt.getD (mIx m) []).getD i 0 else 32) ∧ (i < wLen.getD (mIx m) 0 → isLe ((wByt.getD (mIx m) []).getD i 0) = true) := by decide
theorem mw_len : ∀ m, m < 12 → wLen.getD (mIx m) 0 ≤ 6 ∧ mIx m < 12 := by decide
theorem mw_bck : ∀ c, c < 12 → ∃ m, m < 12 ∧ mIx m = c := by decide
theorem wd_tab : ∀ c, c < 12 → ∀ d, d < 12 → c ≠ d → wLen.getD c 0 ≠ wLen.getD d 0 ∨ ∃ i, i < wLen.getD c 0 ∧ (wByt.getD c []).getD i 0 ≠ (wByt.getD d []).getD i 0 := by decide
theorem wd_one {T : Nat → Int32} {q r c d : Nat} (hc : c < 12) (hd : d < 12) (h1 : isWd T q r c) (h2 : isWd T q r d) : c = d := by
  by_cases e : c = d
  · exact e
  · rcases wd_tab c hc d hd e with h | ⟨i, i1, i2⟩
    · exact absurd (h1.1.symm.trans h2.1) h
    · have hl : wLen.getD c 0 = wLen.getD d 0 := h1.1.symm.trans h2.1
      exact absurd ((h1.2 i i1).symm.trans (h2.2 i (by omega))) i2
theorem wdT_no {T : Nat → Int32} {q r : Nat} : ∀ m k, (∀ c, k ≤ c → c < k + m → ¬ isWd T q r c) → wdT T q r m k = -23 := by
  intro m
  induction m with
  | zero => intro k _; rfl
  | succ m ih =>
    intro k h
    rw [wdT_neg (h k (Nat.le_refl _) (by omega))]
    exact ih (k + 1) (fun c a b => h c (by omega) (by omega))
theorem wdT_at {T : Nat → Int32} {q r c : Nat} (hc : isWd T q r c) : ∀ m k, k ≤ c → c < k + m → k + m ≤ 12 → wdT T q r m k = wCod.getD c 0 := by
  intro m
  induction m with
  | zero => intro k a b; omega
  | succ m ih =>
    intro k a b d
    by_cases e : k = c
    · subst e; rw [wdT_pos hc]
    · rw [wdT_neg (fun z => e (wd_one (by omega) (by omega) z hc))]
      exact ih (k + 1) (by omega) (by omega) (by omega)
def padT (T : Nat → Int32) (q r i : Nat) : Int32 := if q + i < r then T (q + i) else 32
theorem isLe32 {x : Int32} (h : isLe x = true) : x ≠ 32 := fun z => by rw [z] at h; exact absurd h (by decide)
theorem like_iff {T : Nat → Int32} {q r m : Nat} (hm : m < 12) (hq : q ≤ r) (hl : ∀ i, q ≤ i → i < r → isLe (T i) = true) : (r - q ≤ 8 ∧ ∀ i, i < 8 → xWords.getD (8 * m + i) 0 = padT T q r i) ↔ isWd T q r (mIx m) := by
  obtain ⟨l6, -⟩ := mw_len m hm
  constructor
  · rintro ⟨h8, h⟩
    have key : ∀ i, i < 8 → (q + i < r ↔ i < wLen.getD (mIx m) 0) := by
      intro i hi
      have e := h i hi
      obtain ⟨t1, t2⟩ := mw_tab m hm i hi
      rw [t1] at e
      unfold padT at e
      by_cases c1 : q + i < r
      · rw [if_pos c1] at e
        by_cases c2 : i < wLen.getD (mIx m) 0
        · exact ⟨fun _ => c2, fun _ => c1⟩
        · rw [if_neg c2] at e
          exact absurd e.symm (isLe32 (hl (q + i) (by omega) c1))
      · rw [if_neg c1] at e
        by_cases c2 : i < wLen.getD (mIx m) 0
        · rw [if_pos c2] at e
          exact absurd e (isLe32 (t2 c2))
        · exact ⟨fun z => absurd z c1, fun z => absurd z c2⟩
    have hlen : r - q = wLen.getD (mIx m) 0 := by
      rcases Nat.lt_trichotomy (r - q) (wLen.getD (mIx m) 0) with g | g | g
      · have := (key (r - q) (by omega)).mpr g; omega
      · exact g
      · have := (key (wLen.getD (mIx m) 0) (by omega)).mp (by omega); omega
    refine ⟨hlen, fun i hi => ?_⟩
    have e := h i (by omega)
    obtain ⟨t1, t2⟩ := mw_tab m hm i (by omega)
    rw [t1, if_pos hi] at e
    unfold padT at e
    rw [if_pos (by omega)] at e
    exact e.symm
  · rintro ⟨hlen, h⟩
    refine ⟨by omega, fun i hi => ?_⟩
    obtain ⟨t1, t2⟩ := mw_tab m hm i hi
    rw [t1]
    unfold padT
    by_cases c : i < wLen.getD (mIx m) 0
    · rw [if_pos c, if_pos (by omega), h i c]
    · rw [if_neg c, if_neg (by omega)]
theorem s_w26 (K : Int32 → Int32 → Int32 → xI → Option (Int32 × xI)) {T : Nat → Int32} {q r m z : Nat} (hz : z ≤ 160) (hm : m < 12) (hq : q ≤ r) (hr : r ≤ z) {u : xI} (h80 : ∀ j, j < z → u 80 j = T j) (h91 : ∀ j, j < 96 → u 91 j = xWords.getD j 0) : ∀ (k c fu : Nat), c + k = 8 → k + 1 < fu → ((∀ i, c ≤ i → i < 8 → xWords.getD (8 * m + i) 0 = padT T q r i) ∧ f_X11_wordFrom_L26 K fu (nI q) (nI r) (nI m) 1 (nI c) u = some (nI m, u)) ∨ (¬ (∀ i, c ≤ i → i < 8 → xWords.getD (8 * m + i) 0 = padT T q r i) ∧ f_X11_wordFrom_L26 K fu (nI q) (nI r) (nI m) 1 (nI c) u = K (nI q) (nI r) (nI (m + 1)) u) := by
  intro k
  induction k with
  | zero =>
    intro c fu h1 h2
    obtain ⟨f, rfl⟩ : ∃ f, fu = f + 1 := ⟨fu - 1, by omega⟩
    refine Or.inl ⟨fun i a b => by omega, ?_⟩
    rw [f_X11_wordFrom_L26, if_pos (show (8 : Int32) ≤ nI c from nI_le (a := 8) (by omega) (by omega)), if_neg (by decide)]
  | succ k ih =>
    intro c fu h1 h2
    obtain ⟨f, rfl⟩ : ∃ f, fu = f + 1 := ⟨fu - 1, by omega⟩
    have e8 : (8 : Int32) * nI m = nI (8 * m) := pk_mul 8 m
    have zero' : f_X11_wordFrom_L26 K f (nI q) (nI r) (nI m) 0 (nI (c + 1)) u = K (nI q) (nI r) (nI (m + 1)) u := by
      obtain ⟨g, rfl⟩ : ∃ g, f = g + 1 := ⟨f - 1, by omega⟩
      rw [f_X11_wordFrom_L26]
      by_cases d : (8 : Int32) ≤ nI (c + 1)
      · rw [if_pos d, if_pos rfl, xlet_eq, nI_1]
      · rw [if_neg d, if_pos rfl, if_pos rfl, xlet_eq, nI_1]
    have pre : f_X11_wordFrom_L26 K (f + 1) (nI q) (nI r) (nI m) 1 (nI c) u = if xWords.getD (8 * m + c) 0 = padT T q r c then f_X11_wordFrom_L26 K f (nI q) (nI r) (nI m) 1 (nI (c + 1)) u else f_X11_wordFrom_L26 K f (nI q) (nI r) (nI m) 0 (nI (c + 1)) u := by
      unfold padT
      rw [f_X11_wordFrom_L26, if_neg (show ¬ (8 : Int32) ≤ nI c from nI_ge (b := 8) (by omega) (by omega)), if_neg (by decide), e8, nI_add, xin_nI (by omega) (by decide), xchk_true, nI_clamp (by omega), h91 _ (by omega), nI_add, nI_1]
      simp only [xlet_eq]
      by_cases d : q + c < r
      · rw [if_neg (nI_ge (by omega) (by omega)), xin_nI (by omega) (by decide), xchk_true, nI_clamp (by omega), h80 _ (by omega), if_pos d]
      · rw [if_pos (nI_le (by omega) (by omega)), if_neg d]
    rw [pre]
    by_cases d : xWords.getD (8 * m + c) 0 = padT T q r c
    · rw [if_pos d]
      rcases ih (c + 1) f (by omega) (by omega) with ⟨a, b⟩ | ⟨a, b⟩
      · refine Or.inl ⟨fun i i1 i2 => ?_, b⟩
        by_cases e : i = c
        · rw [e]; exact d
        · exact a i (by omega) i2
      · exact Or.inr ⟨fun y => a (fun i i1 i2 => y i (by omega) i2), b⟩
    · rw [if_neg d, zero']
      exact Or.inr ⟨fun y => d (y c (Nat.le_refl _) (by omega)), rfl⟩
theorem s_wordFrom {T : Nat → Int32} {q r z : Nat} (hz : z ≤ 160) (hq : q ≤ r) (hr : r ≤ z) (hl : ∀ i, q ≤ i → i < r → isLe (T i) = true) {u : xI} (h80 : ∀ j, j < z → u 80 j = T j) (h91 : ∀ j, j < 96 → u 91 j = xWords.getD j 0) : ∀ (k m fu : Nat), m + k = 12 → k < fu → (∃ m', m ≤ m' ∧ m' < 12 ∧ isWd T q r (mIx m') ∧ f_X11_wordFrom_L2 fu (nI q) (nI r) (nI m) u = some (nI m', u)) ∨ ((∀ m', m ≤ m' → m' < 12 → ¬ isWd T q r (mIx m')) ∧ f_X11_wordFrom_L2 fu (nI q) (nI r) (nI m) u = some (12, u)) := by
  intro k
  induction k with
  | zero =>
    intro m fu h1 h2
    obtain ⟨f, rfl⟩ : ∃ f, fu = f + 1 := ⟨fu - 1, by omega⟩
    refine Or.inr ⟨fun m' a b => by omega, ?_⟩
    rw [f_X11_wordFrom_L2, if_pos (show (12 : Int32) ≤ nI m from nI_le (a := 12) (by omega) (by omega))]
  | succ k ih =>
    intro m fu h1 h2
    obtain ⟨f, rfl⟩ : ∃ f, fu = f + 1 := ⟨fu - 1, by omega⟩
    have li := like_iff (T := T) (m := m) (by omega) hq hl
    have next' : ¬ isWd T q r (mIx m) → (∃ m', m ≤ m' ∧ m' < 12 ∧ isWd T q r (mIx m') ∧ f_X11_wordFrom_L2 f (nI q) (nI r) (nI (m + 1)) u = some (nI m', u)) ∨ ((∀ m', m ≤ m' → m' < 12 → ¬ isWd T q r (mIx m')) ∧ f_X11_wordFrom_L2 f (nI q) (nI r) (nI (m + 1)) u = some (12, u)) := by
      intro hno
      rcases ih (m + 1) f (by omega) (by omega) with ⟨m', a, b, c, d⟩ | ⟨a, b⟩
      · exact Or.inl ⟨m', by omega, b, c, d⟩
      · refine Or.inr ⟨fun m' i1 i2 => ?_, b⟩
        by_cases e : m' = m
        · rw [e]; exact hno
        · exact a m' (by omega) i2
    rw [f_X11_wordFrom_L2, if_neg (show ¬ (12 : Int32) ≤ nI m from nI_ge (b := 12) (by omega) (by omega)), pk_sub hq]
    by_cases c : r - q ≤ 8
    · rw [if_neg (show ¬ (8 : Int32) < nI (r - q) from nI_nlt (a := 8) c (by omega))]
      rcases s_w26 (fun v1 v2 v3 w => f_X11_wordFrom_L2 f v1 v2 v3 w) hz (m := m) (by omega) hq hr h80 h91 8 0 2000 (by omega) (by omega) with ⟨a, b⟩ | ⟨a, b⟩
      · rw [nI_0] at b
        rw [b]
        exact Or.inl ⟨m, Nat.le_refl _, by omega, li.mp ⟨c, fun i hi => a i (Nat.zero_le _) hi⟩, rfl⟩
      · rw [nI_0] at b
        rw [b]
        exact next' (fun y => a (fun i _ hi => (li.mpr y).2 i hi))
    · rw [if_pos (show (8 : Int32) < nI (r - q) from nI_lt (a := 8) (by omega) (by omega))]
      have e0 : f_X11_wordFrom_L26 (fun v1 v2 v3 w => f_X11_wordFrom_L2 f v1 v2 v3 w) 2000 (nI q) (nI r) (nI m) 0 0 u = f_X11_wordFrom_L2 f (nI q) (nI r) (nI (m + 1)) u := by
        rw [f_X11_wordFrom_L26, if_neg (by decide), if_pos rfl, if_pos rfl, xlet_eq, nI_1]
      rw [e0]
      exact next' (fun y => c (li.mpr y).1)
theorem numV_s (T : Nat → Int32) : ∀ k q a, numV T (k + 1) q a = 10 * numV T k q a + T (q + k) - 48 := by
  intro k
  induction k with
  | zero => intro q a; rfl
  | succ k ih =>
    intro q a
    have e := ih (q + 1) (10 * a + T q - 48)
    rw [show q + 1 + k = q + (k + 1) by omega] at e
    exact e
theorem numV_bd {T : Nat → Int32} {q : Nat} : ∀ k, k ≤ 4 → (∀ i, i < k → isDi (T (q + i)) = true) → ∃ x : Nat, x < 10 ^ k ∧ numV T k q 0 = nI x := by
  intro k
  induction k with
  | zero => intro _ _; exact ⟨0, by decide, rfl⟩
  | succ k ih =>
    intro hk hd
    obtain ⟨x, hx, ex⟩ := ih (by omega) (fun i hi => hd i (by omega))
    have hdk := of_decide_eq_true (hd k (by omega))
    obtain ⟨y, hy, ey⟩ := nI_bd (n := 57) (by decide) (Int32.le_trans (by decide) hdk.1) hdk.2
    have hy48 : 48 ≤ y := by rw [ey] at hdk; exact (nI_leI (a := 48) (by omega) (by omega)).mp hdk.1
    have p10 : 10 ^ k ≤ 10 ^ 3 := Nat.pow_le_pow_right (by decide) (by omega)
    have es : 10 ^ (k + 1) = 10 ^ k * 10 := Nat.pow_succ 10 k
    refine ⟨10 * x + y - 48, by omega, ?_⟩
    have e10 : (10 : Int32) * nI x = nI (10 * x) := pk_mul 10 x
    rw [numV_s, ex, ey, e10, nI_add]
    exact pk_sub (a := 10 * x + y) (b := 48) (by omega)
