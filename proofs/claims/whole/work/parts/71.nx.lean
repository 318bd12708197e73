def mvU (u : xI) (r : Nat) : xI := xup u 71 28 (nI r)
theorem mvU_q {u : xI} {r k : Nat} (h : k ≠ 71) : mvU u r k = u k := xup_ne _ _ _ h
theorem mvU_j (u : xI) (r : Nat) {j : Nat} (h : j ≠ 28) : mvU u r 71 j = u 71 j := by unfold mvU; rw [xup_same, upd_n _ _ h]
theorem mvU_28 (u : xI) (r : Nat) : mvU u r 71 28 = nI r := by unfold mvU; rw [xup_same, upd_s]
theorem mvU_mvU (u : xI) (r r' : Nat) : mvU (mvU u r) r' = mvU u r' := by
  unfold mvU
  rw [xup_xuc, xup_xuc, xup_xuc, xuc_same, xuc_xuc]
  congr 1
  funext j
  unfold upd
  by_cases h : j = 28
  · rw [if_pos h, if_pos h]
  · rw [if_neg h, if_neg h, if_neg h]
theorem mvU_self {u : xI} {p : Nat} (h : u 71 28 = nI p) : mvU u p = u := by
  unfold mvU
  rw [xup_xuc, upd_id _ _ h, xuc_self]
theorem s_nxB {z : Nat} (hz : z ≤ 160) {T : Nat → Int32} : ∀ (m p fu : Nat) (u : xI), p + m = z → m < fu → u 71 11 = nI z → u 71 28 = nI p → (∀ j, j < z → u 80 j = T j) → f_X11_next_L0 fu u = f_X11_next_L52 (mvU u (skp isBl T m p)) := by
  intro m
  induction m with
  | zero =>
    intro p fu u h1 h2 e1 e2 h80
    obtain ⟨f, rfl⟩ : ∃ f, fu = f + 1 := ⟨fu - 1, by omega⟩
    rw [f_X11_next_L0, e1, e2, if_pos (nI_le (by omega) (by omega))]
    show _ = f_X11_next_L52 (mvU u p)
    rw [mvU_self e2]
  | succ m ih =>
    intro p fu u h1 h2 e1 e2 h80
    obtain ⟨f, rfl⟩ : ∃ f, fu = f + 1 := ⟨fu - 1, by omega⟩
    rw [f_X11_next_L0, e1, e2, if_neg (nI_ge (by omega) (by omega)), xin_nI (by omega) (by decide), xchk_true, xchk_true, nI_clamp (by omega), h80 p (by omega), nI_1]
    show _ = f_X11_next_L52 (mvU u (if isBl (T p) = true then skp isBl T m (p + 1) else p))
    have go : f_X11_next_L0 f (xup u 71 28 (nI (p + 1))) = f_X11_next_L52 (mvU u (skp isBl T m (p + 1))) := by
      have := ih (p + 1) f (mvU u (p + 1)) (by omega) (by omega) (by rw [mvU_j _ _ (by decide)]; exact e1) (mvU_28 _ _) (fun j hj => by rw [mvU_q (by decide)]; exact h80 j hj)
      rw [mvU_mvU] at this
      exact this
    unfold isBl
    by_cases c1 : T p = 32
    · rw [if_pos c1, if_pos (decide_eq_true (Or.inl c1))]; exact go
    · rw [if_neg c1]
      by_cases c2 : T p = 10
      · rw [if_pos c2, if_pos (decide_eq_true (Or.inr c2))]; exact go
      · rw [if_neg c2, if_neg (by simp [c1, c2]), mvU_self e2]
theorem s_nxW {z : Nat} (hz : z ≤ 160) {T : Nat → Int32} : ∀ (m p fu : Nat) (u : xI), p + m = z → m < fu → u 71 11 = nI z → u 71 28 = nI p → (∀ j, j < z → u 80 j = T j) → f_X11_next_L103 fu u = f_X11_next_L146 (mvU u (skp isLe T m p)) := by
  intro m
  induction m with
  | zero =>
    intro p fu u h1 h2 e1 e2 h80
    obtain ⟨f, rfl⟩ : ∃ f, fu = f + 1 := ⟨fu - 1, by omega⟩
    rw [f_X11_next_L103, e1, e2, if_pos (nI_le (by omega) (by omega))]
    show _ = f_X11_next_L146 (mvU u p)
    rw [mvU_self e2]
  | succ m ih =>
    intro p fu u h1 h2 e1 e2 h80
    obtain ⟨f, rfl⟩ : ∃ f, fu = f + 1 := ⟨fu - 1, by omega⟩
    rw [f_X11_next_L103, e1, e2, if_neg (nI_ge (by omega) (by omega)), xin_nI (by omega) (by decide), xchk_true, nI_clamp (by omega), h80 p (by omega), s_in]
    show _ = f_X11_next_L146 (mvU u (if isLe (T p) = true then skp isLe T m (p + 1) else p))
    unfold isLe
    by_cases c : 97 ≤ T p ∧ T p ≤ 122
    · rw [if_pos c, if_neg (by decide), if_pos (decide_eq_true c), e2, nI_1]
      have := ih (p + 1) f (mvU u (p + 1)) (by omega) (by omega) (by rw [mvU_j _ _ (by decide)]; exact e1) (mvU_28 _ _) (fun j hj => by rw [mvU_q (by decide)]; exact h80 j hj)
      rw [mvU_mvU] at this
      exact this
    · rw [if_neg c, if_pos rfl, if_neg (by simpa using c), mvU_self e2]
/-- only the model's reading head, place, token and value have changed -/
def FrT (u u' : xI) : Prop := (∀ q, q ≠ 71 → u' q = u q) ∧ ∀ j, j ≠ 28 → j ≠ 29 → j ≠ 30 → j ≠ 31 → u' 71 j = u 71 j
theorem s_nxN {z q : Nat} (hz : z ≤ 160) {T : Nat → Int32} : ∀ (m p fu : Nat) (u : xI), p + m = z → m < fu → q ≤ p → u 71 11 = nI z → u 71 28 = nI p → (∀ j, j < z → u 80 j = T j) → (p - q ≤ 4 → u 71 31 = numV T (p - q) q 0) → ∃ u', f_X11_next_L230 fu (nI (p - q)) u = some ((), u') ∧ u' 71 28 = nI (skp isDi T m p) ∧ u' 71 29 = u 71 29 ∧ u' 71 30 = (if skp isDi T m p - q ≤ 4 then 1 else -1) ∧ (skp isDi T m p - q ≤ 4 → u' 71 31 = numV T (skp isDi T m p - q) q 0) ∧ FrT u u' := by
  intro m
  induction m with
  | zero =>
    intro p fu u h1 h2 hq e1 e2 h80 h31
    obtain ⟨f, rfl⟩ : ∃ f, fu = f + 1 := ⟨fu - 1, by omega⟩
    have e0 : skp isDi T 0 p = p := rfl
    rw [e0, f_X11_next_L230, e1, e2, if_pos (nI_le (by omega) (by omega))]
    by_cases c : p - q ≤ 4
    · rw [if_pos (show nI (p - q) ≤ 4 from nI_le (b := 4) c (by omega)), if_pos c]
      exact ⟨_, rfl, by rw [xup_same, upd_n _ _ (by decide)]; exact e2, by rw [xup_same, upd_n _ _ (by decide)], by rw [xup_same, upd_s], fun _ => by rw [xup_same, upd_n _ _ (by decide)]; exact h31 c, fun q hq => xup_ne _ _ _ hq, fun j _ _ j3 _ => by rw [xup_same, upd_n _ _ j3]⟩
    · rw [if_neg (show ¬ nI (p - q) ≤ 4 from nI_ge (a := 4) (by omega) (by omega)), if_neg c]
      exact ⟨_, rfl, by rw [xup_same, upd_n _ _ (by decide)]; exact e2, by rw [xup_same, upd_n _ _ (by decide)], by rw [xup_same, upd_s], fun y => absurd y c, fun q hq => xup_ne _ _ _ hq, fun j _ _ j3 _ => by rw [xup_same, upd_n _ _ j3]⟩
  | succ m ih =>
    intro p fu u h1 h2 hq e1 e2 h80 h31
    obtain ⟨f, rfl⟩ : ∃ f, fu = f + 1 := ⟨fu - 1, by omega⟩
    have es : skp isDi T (m + 1) p = if isDi (T p) = true then skp isDi T m (p + 1) else p := rfl
    have ed : isDi (T p) = decide (48 ≤ T p ∧ T p ≤ 57) := rfl
    rw [f_X11_next_L230, e1, e2, if_neg (nI_ge (by omega) (by omega)), xin_nI (by omega) (by decide), xchk_true, nI_clamp (by omega), h80 p (by omega), s_in]
    by_cases c : 48 ≤ T p ∧ T p ≤ 57
    · have es1 : skp isDi T (m + 1) p = skp isDi T m (p + 1) := by rw [es, ed, if_pos (decide_eq_true c)]
      rw [es1, if_pos c, if_neg (by decide), e2, nI_1, nI_1, xin_nI (by omega) (by decide), xchk_true, nI_clamp (by omega), h80 p (by omega)]
      simp only [xlet_eq]
      have hpq : p - q + 1 = p + 1 - q := by omega
      rw [hpq]
      -- going on with a value x
      have go : ∀ x : Int32, (p + 1 - q ≤ 4 → x = numV T (p + 1 - q) q 0) → ∃ u', f_X11_next_L230 f (nI (p + 1 - q)) (xup (xup u 71 31 x) 71 28 (nI (p + 1))) = some ((), u') ∧ u' 71 28 = nI (skp isDi T m (p + 1)) ∧ u' 71 29 = u 71 29 ∧ u' 71 30 = (if skp isDi T m (p + 1) - q ≤ 4 then 1 else -1) ∧ (skp isDi T m (p + 1) - q ≤ 4 → u' 71 31 = numV T (skp isDi T m (p + 1) - q) q 0) ∧ FrT u u' := by
        intro x hx
        obtain ⟨u', r1, r2, r3, r4, r5, r6, r7⟩ := ih (p + 1) f (xup (xup u 71 31 x) 71 28 (nI (p + 1))) (by omega) (by omega) (by omega) (by rw [xup_same, upd_n _ _ (by decide), xup_same, upd_n _ _ (by decide)]; exact e1) (by rw [xup_same, upd_s]) (fun j hj => by rw [xup_ne _ _ _ (by decide), xup_ne _ _ _ (by decide)]; exact h80 j hj) (fun y => by rw [xup_same, upd_n _ _ (by decide), xup_same, upd_s]; exact hx y)
        exact ⟨u', r1, r2, by rw [r3, xup_same, upd_n _ _ (by decide), xup_same, upd_n _ _ (by decide)], r4, r5, fun q hq => by rw [r6 q hq, xup_ne _ _ _ hq, xup_ne _ _ _ hq], fun j j1 j2 j3 j4 => by rw [r7 j j1 j2 j3 j4, xup_same, upd_n _ _ j1, xup_same, upd_n _ _ j4]⟩
      by_cases d : 4 ≤ p - q
      · rw [if_pos (show (4 : Int32) ≤ nI (p - q) from nI_le (a := 4) d (by omega))]
        exact go 0 (fun y => by omega)
      · rw [if_neg (show ¬ (4 : Int32) ≤ nI (p - q) from nI_ge (b := 4) (by omega) (by omega)), h31 (by omega)]
        refine go _ (fun y => ?_)
        rw [show p + 1 - q = (p - q) + 1 by omega, numV_s, show q + (p - q) = p by omega]
    · have es1 : skp isDi T (m + 1) p = p := by rw [es, ed, decide_eq_false c]; rfl
      rw [es1, if_neg c, if_pos rfl]
      by_cases c4 : p - q ≤ 4
      · rw [if_pos (show nI (p - q) ≤ 4 from nI_le (b := 4) c4 (by omega)), if_pos c4]
        exact ⟨_, rfl, by rw [xup_same, upd_n _ _ (by decide)]; exact e2, by rw [xup_same, upd_n _ _ (by decide)], by rw [xup_same, upd_s], fun _ => by rw [xup_same, upd_n _ _ (by decide)]; exact h31 c4, fun q hq => xup_ne _ _ _ hq, fun j _ _ j3 _ => by rw [xup_same, upd_n _ _ j3]⟩
      · rw [if_neg (show ¬ nI (p - q) ≤ 4 from nI_ge (a := 4) (by omega) (by omega)), if_neg c4]
        exact ⟨_, rfl, by rw [xup_same, upd_n _ _ (by decide)]; exact e2, by rw [xup_same, upd_n _ _ (by decide)], by rw [xup_same, upd_s], fun y => absurd y c4, fun q hq => xup_ne _ _ _ hq, fun j _ _ j3 _ => by rw [xup_same, upd_n _ _ j3]⟩
/-- what the model makes of word m (12: none) -/
def wTk (m : Nat) : Int32 := if m < 3 then 3 else if m < 9 then 2 else if m = 12 then -1 else nI (4 + m - 9)
def wVl (m : Nat) : Int32 := if m < 3 then nI m else nI (m - 3)
theorem s_146 {u : xI} {m : Nat} (hm : m ≤ 12) (hw : f_X11_wordFrom (u 71 29) (u 71 28) u = some (nI m, u)) : f_X11_next_L146 u = some ((), xup (xup u 71 30 (wTk m)) 71 31 (wVl m)) := by
  unfold f_X11_next_L146 wTk wVl
  rw [hw, xbind_some]
  by_cases c3 : m < 3
  · rw [if_neg (show ¬ (3 : Int32) ≤ nI m from nI_ge (b := 3) c3 (by omega)), if_neg (show ¬ (3 : Int32) ≤ nI m from nI_ge (b := 3) c3 (by omega)), if_pos c3, if_pos c3]
  · have h3 : (3 : Int32) ≤ nI m := nI_le (a := 3) (by omega) (by omega)
    have e3 : nI m - 3 = nI (m - 3) := pk_sub (a := m) (b := 3) (by omega)
    rw [if_pos h3, if_neg c3, if_neg c3, e3]
    by_cases c9 : m < 9
    · rw [if_neg (show ¬ (9 : Int32) ≤ nI m from nI_ge (b := 9) c9 (by omega)), if_pos c9, if_pos h3]
    · rw [if_pos (show (9 : Int32) ≤ nI m from nI_le (a := 9) (by omega) (by omega)), if_neg c9]
      by_cases c12 : m = 12
      · rw [if_pos (show nI m = 12 by rw [c12]; rfl), if_pos c12, if_pos h3]
      · have e4 : (4 : Int32) + nI m - 9 = nI (4 + m - 9) := by
          rw [show (4 : Int32) + nI m = nI (4 + m) from nI_add 4 m]
          exact pk_sub (a := 4 + m) (b := 9) (by omega)
        rw [if_neg (show ¬ nI m = 12 from fun y => c12 ((nI_eq (a := m) (b := 12) (by omega) (by decide)).mp y)), if_neg c12, if_pos h3, e4]
theorem w_mt : ∀ m, m < 12 → wTk m = tM (wCod.getD (mIx m) 0) ∧ ((-6 ≤ wCod.getD (mIx m) 0 ∨ (-21 ≤ wCod.getD (mIx m) 0 ∧ wCod.getD (mIx m) 0 ≤ -19)) → wVl m = vM (wCod.getD (mIx m) 0)) := by decide
theorem sg_mt (x : Int32) : (¬ (-6 ≤ sgT x ∨ (-21 ≤ sgT x ∧ sgT x ≤ -19))) ∧ tM (sgT x) = if x = 40 ∨ x = 41 ∨ x = 59 ∨ x = 43 ∨ x = 45 ∨ x = 42 ∨ x = 60 ∨ x = 61 then x else -1 := by
  unfold sgT
  by_cases c0 : x = 40
  · subst c0; decide
  by_cases c1 : x = 41
  · subst c1; decide
  by_cases c2 : x = 42
  · subst c2; decide
  by_cases c3 : x = 43
  · subst c3; decide
  by_cases c4 : x = 45
  · subst c4; decide
  by_cases c5 : x = 59
  · subst c5; decide
  by_cases c6 : x = 60
  · subst c6; decide
  by_cases c7 : x = 61
  · subst c7; decide
  rw [if_neg c0, if_neg c1, if_neg c2, if_neg c3, if_neg c4, if_neg c5, if_neg c6, if_neg c7]
  rw [if_neg (fun y => by rcases y with y | y | y | y | y | y | y | y <;> contradiction)]
  decide
theorem s_sgM (x : Int32) (u : xI) : (if x = (40 : Int32) then (f_X11_next_L379 x (1 : Int32) u) else (if x = (41 : Int32) then (f_X11_next_L379 x (1 : Int32) u) else (if x = (59 : Int32) then (f_X11_next_L379 x (1 : Int32) u) else (if x = (43 : Int32) then (f_X11_next_L379 x (1 : Int32) u) else (if x = (45 : Int32) then (f_X11_next_L379 x (1 : Int32) u) else (if x = (42 : Int32) then (f_X11_next_L379 x (1 : Int32) u) else (if x = (60 : Int32) then (f_X11_next_L379 x (1 : Int32) u) else (if x = (61 : Int32) then (f_X11_next_L379 x (1 : Int32) u) else (f_X11_next_L379 x (0 : Int32) u))))))))) = some ((), xup (xup u 71 30 (tM (sgT x))) 71 28 ((u 71 28) + 1)) := by
  have y1 : f_X11_next_L379 x 1 u = some ((), xup (xup u 71 30 x) 71 28 ((u 71 28) + 1)) := by unfold f_X11_next_L379; rw [if_neg (by decide)]
  have y0 : f_X11_next_L379 x 0 u = some ((), xup (xup u 71 30 (-1)) 71 28 ((u 71 28) + 1)) := by unfold f_X11_next_L379; rw [if_pos rfl]
  rw [(sg_mt x).2, y1, y0]
  by_cases c0 : x = 40
  · rw [if_pos c0, if_pos (Or.inl c0)]
  rw [if_neg c0]
  by_cases c1 : x = 41
  · rw [if_pos c1, if_pos (by simp [c1])]
  rw [if_neg c1]
  by_cases c5 : x = 59
  · rw [if_pos c5, if_pos (by simp [c5])]
  rw [if_neg c5]
  by_cases c3 : x = 43
  · rw [if_pos c3, if_pos (by simp [c3])]
  rw [if_neg c3]
  by_cases c4 : x = 45
  · rw [if_pos c4, if_pos (by simp [c4])]
  rw [if_neg c4]
  by_cases c2 : x = 42
  · rw [if_pos c2, if_pos (by simp [c2])]
  rw [if_neg c2]
  by_cases c6 : x = 60
  · rw [if_pos c6, if_pos (by simp [c6])]
  rw [if_neg c6]
  by_cases c7 : x = 61
  · rw [if_pos c7, if_pos (by simp [c7])]
  rw [if_neg c7, if_neg (by simp [c0, c1, c2, c3, c4, c5, c6, c7])]
theorem s_next {γ : Type} {z p : Nat} (hz : z ≤ 160) (hp : p ≤ z) {T : Nat → Int32} {u : xI} (e1 : u 71 11 = nI z) (e2 : u 71 28 = nI p) (h80 : ∀ j, j < z → u 80 j = T j) (h91 : ∀ j, j < 96 → u 91 j = xWords.getD j 0) : ∃ u', (∀ (K : Unit → xI → Option γ), xbind (f_X11_next u) K = K () u') ∧ u' 71 28 = nI (lxR T z p) ∧ u' 71 29 = nI (lxQ T z p) ∧ MT (lxT T z p) u' ∧ FrT u u' := by
  have bq := lx_bd (T := T) hp
  have hsk := s_nxB hz (z - p) p 2000 u (by omega) (by omega) e1 e2 h80
  have hq : skp isBl T (z - p) p = lxQ T z p := rfl
  rw [hq] at hsk
  have er : lxR T z p = if z ≤ lxQ T z p then lxQ T z p else if isLe (T (lxQ T z p)) = true then skp isLe T (z - lxQ T z p) (lxQ T z p) else if isDi (T (lxQ T z p)) = true then skp isDi T (z - lxQ T z p) (lxQ T z p) else lxQ T z p + 1 := rfl
  have et : lxT T z p = if z ≤ lxQ T z p then -22 else if isLe (T (lxQ T z p)) = true then wdT T (lxQ T z p) (lxR T z p) 12 0 else if isDi (T (lxQ T z p)) = true then (if lxR T z p - lxQ T z p ≤ 4 then numV T (lxR T z p - lxQ T z p) (lxQ T z p) 0 else -23) else sgT (T (lxQ T z p)) := rfl
  generalize lxQ T z p = q at *
  generalize lxR T z p = r at *
  generalize lxT T z p = t at *
  generalize hv : xup (xup (xup (mvU u q) 71 29 (nI q)) 71 30 (0 : Int32)) 71 31 (0 : Int32) = v
  have vq : ∀ k, k ≠ 71 → v k = u k := fun k hk => by rw [← hv, xup_ne _ _ _ hk, xup_ne _ _ _ hk, xup_ne _ _ _ hk, mvU_q hk]
  have v28 : v 71 28 = nI q := by rw [← hv, xup_same, upd_n _ _ (by decide), xup_same, upd_n _ _ (by decide), xup_same, upd_n _ _ (by decide), mvU_28]
  have v29 : v 71 29 = nI q := by rw [← hv, xup_same, upd_n _ _ (by decide), xup_same, upd_n _ _ (by decide), xup_same, upd_s]
  have v30 : v 71 30 = 0 := by rw [← hv, xup_same, upd_n _ _ (by decide), xup_same, upd_s]
  have v31 : v 71 31 = 0 := by rw [← hv, xup_same, upd_s]
  have vj : ∀ j, j ≠ 28 → j ≠ 29 → j ≠ 30 → j ≠ 31 → v 71 j = u 71 j := fun j a b c d => by rw [← hv, xup_same, upd_n _ _ d, xup_same, upd_n _ _ c, xup_same, upd_n _ _ b, mvU_j _ _ a]
  have go : ∃ u', f_X11_next u = some ((), u') ∧ u' 71 28 = nI r ∧ u' 71 29 = nI q ∧ MT t u' ∧ FrT u u' := by
    unfold f_X11_next
    rw [hsk]
    unfold f_X11_next_L52
    rw [mvU_28, mvU_j _ _ (by decide), e1, hv]
    by_cases c0 : z ≤ q
    · rw [if_pos c0] at er et
      rw [if_pos (show nI q = nI z by rw [show q = z by omega])]
      refine ⟨v, rfl, by rw [v28, er], v29, ?_, vq, vj⟩
      rw [et]
      exact ⟨v30, fun y => absurd y (by decide)⟩
    · rw [if_neg c0] at er et
      rw [if_neg (fun y => c0 (by have := (nI_eq (by omega) (by omega)).mp y; omega)), xin_nI (by omega) (by decide), xchk_true, xlet_eq, nI_clamp (by omega), mvU_q (by decide), h80 q (by omega), s_in]
      by_cases c1 : 97 ≤ T q ∧ T q ≤ 122
      · have c1' : isLe (T q) = true := decide_eq_true c1
        rw [if_pos c1'] at er et
        rw [if_pos c1, if_neg (by decide), s_nxW hz (T := T) (z - q) q 2000 v (by omega) (by omega) (by rw [vj 11 (by decide) (by decide) (by decide) (by decide)]; exact e1) v28 (fun j hj => by rw [vq 80 (by decide)]; exact h80 j hj), ← er]
        have hl : ∀ i, q ≤ i → i < r → isLe (T i) = true := fun i a b => skp_in (z - q) q i a (by rw [← er]; exact b)
        have h80v : ∀ j, j < z → mvU v r 80 j = T j := fun j hj => by rw [mvU_q (by decide), vq 80 (by decide)]; exact h80 j hj
        have h91v : ∀ j, j < 96 → mvU v r 91 j = xWords.getD j 0 := fun j hj => by rw [mvU_q (by decide), vq 91 (by decide)]; exact h91 j hj
        -- a word m
        have fin : ∀ m, m ≤ 12 → f_X11_wordFrom_L2 2000 (nI q) (nI r) 0 (mvU v r) = some (nI m, mvU v r) → wTk m = tM t → ((-6 ≤ t ∨ (-21 ≤ t ∧ t ≤ -19)) → wVl m = vM t) → ∃ u', f_X11_next_L146 (mvU v r) = some ((), u') ∧ u' 71 28 = nI r ∧ u' 71 29 = nI q ∧ MT t u' ∧ FrT u u' := by
          intro m hm hw h1 h2
          refine ⟨_, s_146 hm (by rw [mvU_28, mvU_j _ _ (by decide), v29]; exact hw), ?_, ?_, ⟨?_, fun y => ?_⟩, fun k hk => ?_, fun j a b c d => ?_⟩
          · rw [xup_same, upd_n _ _ (by decide), xup_same, upd_n _ _ (by decide), mvU_28]
          · rw [xup_same, upd_n _ _ (by decide), xup_same, upd_n _ _ (by decide), mvU_j _ _ (by decide), v29]
          · rw [xup_same, upd_n _ _ (by decide), xup_same, upd_s, h1]
          · rw [xup_same, upd_s, h2 y]
          · rw [xup_ne _ _ _ hk, xup_ne _ _ _ hk, mvU_q hk, vq k hk]
          · rw [xup_same, upd_n _ _ d, xup_same, upd_n _ _ c, mvU_j _ _ a, vj j a b c d]
        rcases s_wordFrom hz (by omega) (by omega) hl h80v h91v 12 0 2000 (by omega) (by omega) with ⟨m, m1, m2, m3, m4⟩ | ⟨m1, m2⟩
        · rw [nI_0] at m4
          have et2 : t = wCod.getD (mIx m) 0 := by rw [et]; exact wdT_at m3 12 0 (Nat.zero_le _) (by have := (mw_len m m2).2; omega) (by omega)
          have wm := w_mt m m2
          rw [← et2] at wm
          exact fin m (by omega) m4 wm.1 wm.2
        · rw [nI_0] at m2
          have et2 : t = -23 := by
            rw [et]
            refine wdT_no 12 0 (fun c _ hc => ?_)
            obtain ⟨m, hm1, hm2⟩ := mw_bck c (by omega)
            rw [← hm2]; exact m1 m (Nat.zero_le _) hm1
          exact fin 12 (Nat.le_refl _) m2 (by rw [et2]; decide) (fun y => by rw [et2] at y; exact absurd y (by decide))
      · have c1' : ¬ isLe (T q) = true := fun y => c1 (of_decide_eq_true y)
        rw [if_neg c1'] at er et
        rw [if_neg c1, if_pos rfl, s_in]
        by_cases c2 : 48 ≤ T q ∧ T q ≤ 57
        · have c2' : isDi (T q) = true := decide_eq_true c2
          rw [if_pos c2'] at er et
          rw [if_pos c2, if_neg (by decide)]
          obtain ⟨u', r1, r2, r3, r4, r5, r6, r7⟩ := s_nxN (q := q) hz (T := T) (z - q) q 2000 v (by omega) (by omega) (Nat.le_refl _) (by rw [vj 11 (by decide) (by decide) (by decide) (by decide)]; exact e1) v28 (fun j hj => by rw [vq 80 (by decide)]; exact h80 j hj) (fun _ => by rw [v31, Nat.sub_self]; rfl)
          rw [Nat.sub_self, nI_0] at r1
          rw [← er] at r2 r4 r5
          refine ⟨u', r1, r2, by rw [r3, v29], ?_, fun k hk => by rw [r6 k hk, vq k hk], fun j a b c d => by rw [r7 j a b c d, vj j a b c d]⟩
          by_cases c4 : r - q ≤ 4
          · rw [if_pos c4] at et r4
            obtain ⟨x, hx, ex⟩ := numV_bd (T := T) (q := q) (r - q) c4 (fun i hi => skp_in (z - q) q (q + i) (by omega) (by rw [← er]; omega))
            have p10 : 10 ^ (r - q) ≤ 10 ^ 4 := Nat.pow_le_pow_right (by decide) c4
            have h0 : 0 ≤ t := by rw [et, ex]; exact nI_pos' (by omega)
            refine ⟨?_, fun _ => ?_⟩
            · rw [r4]; unfold tM; rw [if_pos h0]
            · rw [r5 c4]; unfold vM; rw [if_pos h0, et]
          · rw [if_neg c4] at et r4
            refine ⟨by rw [r4, et]; decide, fun y => by rw [et] at y; exact absurd y (by decide)⟩
        · have c2' : ¬ isDi (T q) = true := fun y => c2 (of_decide_eq_true y)
          rw [if_neg c2'] at er et
          rw [if_neg c2, if_pos rfl, s_sgM, v28, nI_1]
          refine ⟨_, rfl, by rw [xup_same, upd_s, er], by rw [xup_same, upd_n _ _ (by decide), xup_same, upd_n _ _ (by decide), v29], ⟨by rw [xup_same, upd_n _ _ (by decide), xup_same, upd_s, et], fun y => ?_⟩, fun k hk => by rw [xup_ne _ _ _ hk, xup_ne _ _ _ hk, vq k hk], fun j a b c d => by rw [xup_same, upd_n _ _ a, xup_same, upd_n _ _ c, vj j a b c d]⟩
          rw [et] at y
          exact absurd y (sg_mt _).1
  obtain ⟨u', r1, r2⟩ := go
  exact ⟨u', fun K => by rw [r1, xbind_some], r2⟩
