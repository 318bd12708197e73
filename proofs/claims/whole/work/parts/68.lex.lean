-- ===== the words of a tape =====
/-- how far f goes on from p, at most m places -/
def skp (f : Int32 → Bool) (T : Nat → Int32) : Nat → Nat → Nat
  | 0, p => p
  | m + 1, p => if f (T p) = true then skp f T m (p + 1) else p
theorem skp_bd (f : Int32 → Bool) (T : Nat → Int32) : ∀ m p, p ≤ skp f T m p ∧ skp f T m p ≤ p + m := by
  intro m
  induction m with
  | zero => intro p; exact ⟨Nat.le_refl _, Nat.le_refl _⟩
  | succ m ih =>
    intro p
    show p ≤ (if f (T p) = true then skp f T m (p + 1) else p) ∧ (if f (T p) = true then skp f T m (p + 1) else p) ≤ p + (m + 1)
    have := ih (p + 1)
    by_cases c : f (T p) = true
    · rw [if_pos c]; omega
    · rw [if_neg c]; omega
theorem skp_in {f : Int32 → Bool} {T : Nat → Int32} : ∀ m p i, p ≤ i → i < skp f T m p → f (T i) = true := by
  intro m
  induction m with
  | zero => intro p i h1 h2; have h2' : i < p := h2; omega
  | succ m ih =>
    intro p i h1 h2
    have h2' : i < (if f (T p) = true then skp f T m (p + 1) else p) := h2
    by_cases c : f (T p) = true
    · rw [if_pos c] at h2'
      by_cases e : i = p
      · rw [e]; exact c
      · exact ih (p + 1) i (by omega) h2'
    · rw [if_neg c] at h2'; omega
def isBl (x : Int32) : Bool := decide (x = 32 ∨ x = 10)
def isLe (x : Int32) : Bool := decide (97 ≤ x ∧ x ≤ 122)
def isDi (x : Int32) : Bool := decide (48 ≤ x ∧ x ≤ 57)
def wLen : List Nat := [2, 3, 3, 4, 4, 6, 3, 4, 4, 2, 3, 3]
def wByt : List (List Int32) := [[105, 110], [111, 117, 116], [111, 102, 102], [104, 111, 117, 114], [109, 97, 110, 121], [115, 116, 111, 110, 101, 115], [109, 97, 121], [102, 105, 110, 101], [116, 111, 108, 108], [111, 114], [97, 110, 100], [110, 111, 116]]
def wCod : List Int32 := [-1, -2, -3, -4, -5, -6, -19, -20, -21, -7, -8, -9]
/-- does word k stand at q .. r - 1 -/
def isWd (T : Nat → Int32) (q r k : Nat) : Prop := r - q = wLen.getD k 0 ∧ ∀ i, i < wLen.getD k 0 → T (q + i) = (wByt.getD k []).getD i 0
/-- the words' token: the first that stands there, of words k .. 11 -/
noncomputable def wdT (T : Nat → Int32) (q r : Nat) : Nat → Nat → Int32
  | 0, _ => -23
  | m + 1, k => @ite Int32 (isWd T q r k) (Classical.propDecidable _) (wCod.getD k 0) (wdT T q r m (k + 1))
theorem wdT_pos {T : Nat → Int32} {q r m k : Nat} (h : isWd T q r k) : wdT T q r (m + 1) k = wCod.getD k 0 := if_pos h
theorem wdT_neg {T : Nat → Int32} {q r m k : Nat} (h : ¬ isWd T q r k) : wdT T q r (m + 1) k = wdT T q r m (k + 1) := if_neg h
/-- a number of k digits from q on -/
def numV (T : Nat → Int32) : Nat → Nat → Int32 → Int32
  | 0, _, a => a
  | k + 1, q, a => numV T k (q + 1) (10 * a + T q - 48)
def sgT (x : Int32) : Int32 := if x = 40 then -16 else if x = 41 then -17 else if x = 42 then -14 else if x = 43 then -12 else if x = 45 then -13 else if x = 59 then -18 else if x = 60 then -10 else if x = 61 then -11 else -23
/-- the place of the next token, from p on, in z bytes -/
def lxQ (T : Nat → Int32) (z p : Nat) : Nat := skp isBl T (z - p) p
/-- what is behind it -/
def lxR (T : Nat → Int32) (z p : Nat) : Nat := if z ≤ lxQ T z p then lxQ T z p else if isLe (T (lxQ T z p)) = true then skp isLe T (z - lxQ T z p) (lxQ T z p) else if isDi (T (lxQ T z p)) = true then skp isDi T (z - lxQ T z p) (lxQ T z p) else lxQ T z p + 1
/-- the token itself -/
noncomputable def lxT (T : Nat → Int32) (z p : Nat) : Int32 := if z ≤ lxQ T z p then -22 else if isLe (T (lxQ T z p)) = true then wdT T (lxQ T z p) (lxR T z p) 12 0 else if isDi (T (lxQ T z p)) = true then (if lxR T z p - lxQ T z p ≤ 4 then numV T (lxR T z p - lxQ T z p) (lxQ T z p) 0 else -23) else sgT (T (lxQ T z p))
theorem lx_bd {T : Nat → Int32} {z p : Nat} (hp : p ≤ z) : p ≤ lxQ T z p ∧ lxQ T z p ≤ lxR T z p ∧ lxR T z p ≤ z ∧ (lxQ T z p < z → lxQ T z p < lxR T z p) := by
  have h1 := skp_bd isBl T (z - p) p
  have hq : lxQ T z p = skp isBl T (z - p) p := rfl
  rw [← hq] at h1
  unfold lxR
  generalize lxQ T z p = q at *
  by_cases c0 : z ≤ q
  · rw [if_pos c0]; omega
  · rw [if_neg c0]
    by_cases c1 : isLe (T q) = true
    · rw [if_pos c1]
      have h2 := skp_bd isLe T (z - q) q
      refine ⟨by omega, h2.1, by omega, fun _ => ?_⟩
      obtain ⟨m, hm⟩ : ∃ m, z - q = m + 1 := ⟨z - q - 1, by omega⟩
      rw [hm]
      show q < (if isLe (T q) = true then skp isLe T m (q + 1) else q)
      rw [if_pos c1]
      have := skp_bd isLe T m (q + 1)
      omega
    · rw [if_neg c1]
      by_cases c2 : isDi (T q) = true
      · rw [if_pos c2]
        have h2 := skp_bd isDi T (z - q) q
        refine ⟨by omega, h2.1, by omega, fun _ => ?_⟩
        obtain ⟨m, hm⟩ : ∃ m, z - q = m + 1 := ⟨z - q - 1, by omega⟩
        rw [hm]
        show q < (if isDi (T q) = true then skp isDi T m (q + 1) else q)
        rw [if_pos c2]
        have := skp_bd isDi T m (q + 1)
        omega
      · rw [if_neg c2]; omega
-- the component's reader: cell 19 (1 size, 2 next, 3 place, 4 token)
theorem s_blX {γ : Type} (a : Int32) (w : xI) (K : Int32 → xI → Option γ) : xbind (f_X4_isBlank a w) K = if isBl a = true then K 1 w else K 0 w := by
  unfold f_X4_isBlank isBl
  by_cases c1 : a = 32
  · rw [if_pos c1, if_pos (decide_eq_true (Or.inl c1)), xbind_some]
  · rw [if_neg c1]
    by_cases c2 : a = 10
    · rw [if_pos c2, if_pos (decide_eq_true (Or.inr c2)), xbind_some]
    · rw [if_neg c2, if_neg (by simp [c1, c2]), xbind_some]
theorem s_leX {γ : Type} (a : Int32) (w : xI) (K : Int32 → xI → Option γ) : xbind (f_X4_isLetter a w) K = if isLe a = true then K 1 w else K 0 w := by
  unfold f_X4_isLetter isLe
  by_cases c1 : a < 97
  · rw [if_pos c1, if_neg (fun z => absurd c1 (Int32.not_lt.mpr (of_decide_eq_true z).1)), xbind_some]
  · rw [if_neg c1]
    by_cases c2 : 122 < a
    · rw [if_pos c2, if_neg (fun z => absurd c2 (Int32.not_lt.mpr (of_decide_eq_true z).2)), xbind_some]
    · rw [if_neg c2, if_pos (decide_eq_true ⟨Int32.not_lt.mp c1, Int32.not_lt.mp c2⟩), xbind_some]
theorem s_diX {γ : Type} (a : Int32) (w : xI) (K : Int32 → xI → Option γ) : xbind (f_X4_isDigit a w) K = if isDi a = true then K 1 w else K 0 w := by
  unfold f_X4_isDigit isDi
  by_cases c1 : a < 48
  · rw [if_pos c1, if_neg (fun z => absurd c1 (Int32.not_lt.mpr (of_decide_eq_true z).1)), xbind_some]
  · rw [if_neg c1]
    by_cases c2 : 57 < a
    · rw [if_pos c2, if_neg (fun z => absurd c2 (Int32.not_lt.mpr (of_decide_eq_true z).2)), xbind_some]
    · rw [if_neg c2, if_pos (decide_eq_true ⟨Int32.not_lt.mp c1, Int32.not_lt.mp c2⟩), xbind_some]
theorem s_sgX {γ : Type} (a : Int32) (w : xI) (K : Int32 → xI → Option γ) : xbind (f_X4_signOf a w) K = K (sgT a) w := by
  have e : f_X4_signOf a w = some (sgT a, w) := by
    unfold f_X4_signOf sgT
    by_cases c0 : a = 40
    · rw [if_pos c0, if_pos c0]
    rw [if_neg c0, if_neg c0]
    by_cases c1 : a = 41
    · rw [if_pos c1, if_pos c1]
    rw [if_neg c1, if_neg c1]
    by_cases c2 : a = 42
    · rw [if_pos c2, if_pos c2]
    rw [if_neg c2, if_neg c2]
    by_cases c3 : a = 43
    · rw [if_pos c3, if_pos c3]
    rw [if_neg c3, if_neg c3]
    by_cases d4 : a = 44
    · subst d4; rfl
    rw [if_neg d4]
    by_cases c4 : a = 45
    · rw [if_pos c4, if_pos c4]
    rw [if_neg c4, if_neg c4]
    have g : ∀ (x y : Option (Int32 × xI)), (∀ k : Int32, a = k → True) → True := fun _ _ _ => trivial
    by_cases e1 : a = 46
    · subst e1; rfl
    rw [if_neg e1]
    by_cases e2 : a = 47
    · subst e2; rfl
    rw [if_neg e2]
    by_cases e3 : a = 48
    · subst e3; rfl
    rw [if_neg e3]
    by_cases e4 : a = 49
    · subst e4; rfl
    rw [if_neg e4]
    by_cases e5 : a = 50
    · subst e5; rfl
    rw [if_neg e5]
    by_cases e6 : a = 51
    · subst e6; rfl
    rw [if_neg e6]
    by_cases e7 : a = 52
    · subst e7; rfl
    rw [if_neg e7]
    by_cases e8 : a = 53
    · subst e8; rfl
    rw [if_neg e8]
    by_cases e9 : a = 54
    · subst e9; rfl
    rw [if_neg e9]
    by_cases e10 : a = 55
    · subst e10; rfl
    rw [if_neg e10]
    by_cases e11 : a = 56
    · subst e11; rfl
    rw [if_neg e11]
    by_cases e12 : a = 57
    · subst e12; rfl
    rw [if_neg e12]
    by_cases e13 : a = 58
    · subst e13; rfl
    rw [if_neg e13]
    by_cases c5 : a = 59
    · rw [if_pos c5, if_pos c5]
    rw [if_neg c5, if_neg c5]
    by_cases c6 : a = 60
    · rw [if_pos c6, if_pos c6]
    rw [if_neg c6, if_neg c6]
    by_cases c7 : a = 61
    · rw [if_pos c7, if_pos c7]
    · rw [if_neg c7, if_neg c7]
  rw [e, xbind_some]
/-- the reader's head moved -/
def rdU (u : xI) (r : Nat) : xI := xup u 19 2 (nI r)
theorem rdU_20 (u : xI) (r : Nat) : rdU u r 20 = u 20 := xup_ne _ _ _ (by decide)
theorem rdU_j (u : xI) (r : Nat) {j : Nat} (h : j ≠ 2) : rdU u r 19 j = u 19 j := by unfold rdU; rw [xup_same, upd_n _ _ h]
theorem rdU_2 (u : xI) (r : Nat) : rdU u r 19 2 = nI r := by unfold rdU; rw [xup_same, upd_s]
theorem rdU_rdU (u : xI) (r r' : Nat) : rdU (rdU u r) r' = rdU u r' := by
  unfold rdU
  rw [xup_xuc, xup_xuc, xup_xuc, xuc_same, xuc_xuc]
  congr 1
  funext j
  unfold upd
  by_cases h : j = 2
  · rw [if_pos h, if_pos h]
  · rw [if_neg h, if_neg h, if_neg h]
theorem rdU_self {u : xI} {p : Nat} (h : u 19 2 = nI p) : rdU u p = u := by
  unfold rdU
  rw [xup_xuc, upd_id _ _ h, xuc_self]
theorem s_skB {z : Nat} (hz : z ≤ 160) : ∀ (m p fu : Nat) (u : xI), p + m = z → m < fu → u 19 1 = nI z → u 19 2 = nI p → f_X4_advance_L0 fu u = f_X4_advance_L39 (rdU u (skp isBl (u 20) m p)) := by
  intro m
  induction m with
  | zero =>
    intro p fu u h1 h2 e1 e2
    obtain ⟨f, rfl⟩ : ∃ f, fu = f + 1 := ⟨fu - 1, by omega⟩
    rw [f_X4_advance_L0, e1, e2, if_pos (nI_le (by omega) (by omega))]
    show _ = f_X4_advance_L39 (rdU u p)
    rw [rdU_self e2]
  | succ m ih =>
    intro p fu u h1 h2 e1 e2
    obtain ⟨f, rfl⟩ : ∃ f, fu = f + 1 := ⟨fu - 1, by omega⟩
    rw [f_X4_advance_L0, e1, e2, if_neg (nI_ge (by omega) (by omega)), xin_nI (by omega) (by decide), xchk_true, nI_clamp (by omega), s_blX]
    show _ = f_X4_advance_L39 (rdU u (if isBl (u 20 p) = true then skp isBl (u 20) m (p + 1) else p))
    by_cases c : isBl (u 20 p) = true
    · rw [if_pos c, if_neg (by decide), if_pos c, e2, nI_1]
      have := ih (p + 1) f (rdU u (p + 1)) (by omega) (by omega) (by rw [rdU_j _ _ (by decide)]; exact e1) (rdU_2 _ _)
      rw [rdU_20, rdU_rdU] at this
      exact this
    · rw [if_neg c, if_pos rfl, if_neg c, rdU_self e2]
theorem s_skW {z : Nat} (hz : z ≤ 160) : ∀ (m p fu : Nat) (u : xI), p + m = z → m < fu → u 19 1 = nI z → u 19 2 = nI p → f_X4_nextWord_L0 fu u = f_X4_nextWord_L39 (rdU u (skp isLe (u 20) m p)) := by
  intro m
  induction m with
  | zero =>
    intro p fu u h1 h2 e1 e2
    obtain ⟨f, rfl⟩ : ∃ f, fu = f + 1 := ⟨fu - 1, by omega⟩
    rw [f_X4_nextWord_L0, e1, e2, if_pos (nI_le (by omega) (by omega))]
    show _ = f_X4_nextWord_L39 (rdU u p)
    rw [rdU_self e2]
  | succ m ih =>
    intro p fu u h1 h2 e1 e2
    obtain ⟨f, rfl⟩ : ∃ f, fu = f + 1 := ⟨fu - 1, by omega⟩
    rw [f_X4_nextWord_L0, e1, e2, if_neg (nI_ge (by omega) (by omega)), xin_nI (by omega) (by decide), xchk_true, nI_clamp (by omega), s_leX]
    show _ = f_X4_nextWord_L39 (rdU u (if isLe (u 20 p) = true then skp isLe (u 20) m (p + 1) else p))
    by_cases c : isLe (u 20 p) = true
    · rw [if_pos c, if_neg (by decide), if_pos c, e2, nI_1]
      have := ih (p + 1) f (rdU u (p + 1)) (by omega) (by omega) (by rw [rdU_j _ _ (by decide)]; exact e1) (rdU_2 _ _)
      rw [rdU_20, rdU_rdU] at this
      exact this
    · rw [if_neg c, if_pos rfl, if_neg c, rdU_self e2]
theorem s_skN {z q : Nat} (hz : z ≤ 160) : ∀ (m p fu : Nat) (a : Int32) (u : xI), p + m = z → m < fu → q ≤ p → u 19 1 = nI z → u 19 2 = nI p → u 19 3 = nI q → f_X4_nextNumber_L2 fu a u = some (if skp isDi (u 20) m p - q ≤ 4 then numV (u 20) (skp isDi (u 20) m p - p) p a else -23, rdU u (skp isDi (u 20) m p)) := by
  intro m
  induction m with
  | zero =>
    intro p fu a u h1 h2 hq e1 e2 e3
    obtain ⟨f, rfl⟩ : ∃ f, fu = f + 1 := ⟨fu - 1, by omega⟩
    show _ = some (if p - q ≤ 4 then numV (u 20) (p - p) p a else -23, rdU u p)
    rw [f_X4_nextNumber_L2, e1, e2, e3, if_pos (nI_le (by omega) (by omega)), pk_sub hq, rdU_self e2, Nat.sub_self]
    by_cases c : p - q ≤ 4
    · rw [if_pos c, if_pos (show nI (p - q) ≤ 4 from nI_le (b := 4) c (by omega))]; rfl
    · rw [if_neg c, if_neg (show ¬ nI (p - q) ≤ 4 from nI_ge (a := 4) (by omega) (by omega))]
  | succ m ih =>
    intro p fu a u h1 h2 hq e1 e2 e3
    obtain ⟨f, rfl⟩ : ∃ f, fu = f + 1 := ⟨fu - 1, by omega⟩
    rw [f_X4_nextNumber_L2, e1, e2, e3, if_neg (nI_ge (by omega) (by omega)), xin_nI (by omega) (by decide), xchk_true, nI_clamp (by omega), s_diX, e2, e3, pk_sub hq, xin_nI (by omega) (by decide), xchk_true, xlet_eq, nI_clamp (by omega), nI_1]
    have es : skp isDi (u 20) (m + 1) p = if isDi (u 20 p) = true then skp isDi (u 20) m (p + 1) else p := rfl
    rw [es]
    by_cases c : isDi (u 20 p) = true
    · rw [if_pos c, if_neg (by decide), if_pos c]
      have hb := skp_bd isDi (u 20) m (p + 1)
      have := ih (p + 1) f (10 * a + u 20 p - 48) (rdU u (p + 1)) (by omega) (by omega) (by omega) (by rw [rdU_j _ _ (by decide)]; exact e1) (rdU_2 _ _) (by rw [rdU_j _ _ (by decide)]; exact e3)
      rw [rdU_20, rdU_rdU] at this
      refine this.trans ?_
      rw [show skp isDi (u 20) m (p + 1) - p = (skp isDi (u 20) m (p + 1) - (p + 1)) + 1 by omega]
      rfl
    · rw [if_neg c, if_pos rfl, if_neg c, rdU_self e2, Nat.sub_self]
      by_cases c : p - q ≤ 4
      · rw [if_pos c, if_pos (show nI (p - q) ≤ 4 from nI_le (b := 4) c (by omega))]; rfl
      · rw [if_neg c, if_neg (show ¬ nI (p - q) ≤ 4 from nI_ge (a := 4) (by omega) (by omega))]
theorem xw_tab : ∀ k, k < 12 → xLen.getD (k + 1) 0 = wLen.getD k 0 ∧ xByt.getD (k + 1) [] = wByt.getD k [] ∧ wLen.getD k 0 ≤ 6 := by decide
theorem s_spL {q r k : Nat} (hk : k < 12) (hr : r ≤ 160) {u : xI} (e3 : u 19 3 = nI q) (hl : r - q = wLen.getD k 0) (hqr : q ≤ r) : ∀ (m i fu : Nat), i + m = wLen.getD k 0 → m < fu → (∀ j, j < i → u 20 (q + j) = (wByt.getD k []).getD j 0) → (isWd (u 20) q r k ∧ f_X4_spells_L20 (k + 1) fu (nI i) u = some (1, u)) ∨ (¬ isWd (u 20) q r k ∧ f_X4_spells_L20 (k + 1) fu (nI i) u = some (0, u)) := by
  obtain ⟨t1, t2, t3⟩ := xw_tab k hk
  intro m
  induction m with
  | zero =>
    intro i fu h1 h2 hp
    obtain ⟨f, rfl⟩ : ∃ f, fu = f + 1 := ⟨fu - 1, by omega⟩
    refine Or.inl ⟨⟨hl, fun j hj => hp j (by omega)⟩, ?_⟩
    rw [f_X4_spells_L20, t1]
    show (if nI (wLen.getD k 0) ≤ nI i then _ else _) = _
    rw [if_pos (nI_le (by omega) (by omega))]
  | succ m ih =>
    intro i fu h1 h2 hp
    obtain ⟨f, rfl⟩ : ∃ f, fu = f + 1 := ⟨fu - 1, by omega⟩
    have pre : f_X4_spells_L20 (k + 1) (f + 1) (nI i) u = if u 20 (q + i) = (wByt.getD k []).getD i 0 then f_X4_spells_L20 (k + 1) f (nI (i + 1)) u else some (0, u) := by
      rw [f_X4_spells_L20, t1, t2]
      show (if nI (wLen.getD k 0) ≤ nI i then _ else _) = _
      rw [if_neg (nI_ge (by omega) (by omega)), e3, nI_add, xin_nI (by omega) (by decide), xchk_true, xin_nI (by omega) (by omega), xchk_true, nI_clamp (by omega), nI_clamp (by omega), xlet_eq, nI_1]
    rw [pre]
    by_cases c : u 20 (q + i) = (wByt.getD k []).getD i 0
    · rw [if_pos c]
      exact ih (i + 1) f (by omega) (by omega) (fun j hj => by
        by_cases e : j = i
        · rw [e]; exact c
        · exact hp j (by omega))
    · rw [if_neg c]
      exact Or.inr ⟨fun z => c (z.2 i (by omega)), rfl⟩
theorem s_spells {γ : Type} {q r k : Nat} (hk : k < 12) (hr : r ≤ 160) {u : xI} (e2 : u 19 2 = nI r) (e3 : u 19 3 = nI q) (hqr : q ≤ r) : (isWd (u 20) q r k ∧ ∀ (K : Int32 → xI → Option γ), xbind (f_X4_spells (k + 1) u) K = K 1 u) ∨ (¬ isWd (u 20) q r k ∧ ∀ (K : Int32 → xI → Option γ), xbind (f_X4_spells (k + 1) u) K = K 0 u) := by
  obtain ⟨t1, t2, t3⟩ := xw_tab k hk
  have pre : f_X4_spells (k + 1) u = if nI (r - q) = nI (wLen.getD k 0) then f_X4_spells_L20 (k + 1) 2000 0 u else some (0, u) := by
    unfold f_X4_spells
    rw [t1, e2, e3, pk_sub hqr]; rfl
  by_cases c : r - q = wLen.getD k 0
  · rw [c, if_pos rfl] at pre
    rcases s_spL hk hr e3 c hqr (wLen.getD k 0) 0 2000 (by omega) (by omega) (fun j hj => absurd hj (Nat.not_lt_zero j)) with ⟨a, b⟩ | ⟨a, b⟩
    · rw [nI_0] at b
      exact Or.inl ⟨a, fun K => by rw [pre, b, xbind_some]⟩
    · rw [nI_0] at b
      exact Or.inr ⟨a, fun K => by rw [pre, b, xbind_some]⟩
  · rw [if_neg (fun z => c ((nI_eq (by omega) (by omega)).mp z))] at pre
    exact Or.inr ⟨fun z => c z.1, fun K => by rw [pre, xbind_some]⟩
