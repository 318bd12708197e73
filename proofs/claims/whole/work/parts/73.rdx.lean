-- ===== the component reads downwards =====
theorem gd_lt : ∀ (a b : List Int32) (i : Nat), i < a.length → (a ++ b).getD i 0 = a.getD i 0 := by
  intro a
  induction a with
  | nil => intro b i h; exact absurd h (Nat.not_lt_zero i)
  | cons x l ih =>
    intro b i h
    cases i with
    | zero => rfl
    | succ i => exact ih b i (by simpa using h)
theorem gd_ge : ∀ (a b : List Int32) (i : Nat), (a ++ b).getD (a.length + i) 0 = b.getD i 0 := by
  intro a
  induction a with
  | nil => intro b i; rw [List.nil_append, List.length_nil, Nat.zero_add]
  | cons x l ih =>
    intro b i
    rw [List.length_cons, show l.length + 1 + i = (l.length + i) + 1 by omega]
    exact ih b i
def Rs (T : Nat → Int32) (z t p op s : Nat) (u : xI) : Prop := u 20 = T ∧ u 19 1 = nI z ∧ u 19 2 = nI (lxR T z p) ∧ u 19 3 = nI (lxQ T z p) ∧ u 19 4 = lxT T z p ∧ u 19 5 = nI op ∧ u 19 6 = -1 ∧ u 19 7 = Int32.ofNat (39 + 4 * t) ∧ u (39 + 4 * t) 3 = nI s
/-- what reading a text may change -/
def FrA (t : Nat) (u u' : xI) : Prop := (∀ q, q ≠ 19 → q ≠ 39 + 4 * t → q ≠ 40 + 4 * t → u' q = u q) ∧ (∀ j, j < 2 ∨ 6 < j → u' 19 j = u 19 j) ∧ ∀ j, j ≠ 3 → u' (39 + 4 * t) j = u (39 + 4 * t) j
theorem FrA.rf (t : Nat) (u : xI) : FrA t u u := ⟨fun _ _ _ _ => rfl, fun _ _ => rfl, fun _ _ => rfl⟩
theorem FrA.tr {t : Nat} {u v w : xI} (h1 : FrA t u v) (h2 : FrA t v w) : FrA t u w := ⟨fun q a b c => (h2.1 q a b c).trans (h1.1 q a b c), fun j hj => (h2.2.1 j hj).trans (h1.2.1 j hj), fun j hj => (h2.2.2 j hj).trans (h1.2.2 j hj)⟩
theorem FrA.up {t : Nat} (ht : t < 6) {u : xI} {j : Nat} {x : Int32} (h : 2 ≤ j ∧ j ≤ 6) : FrA t u (xup u 19 j x) := ⟨fun q a _ _ => xup_ne _ _ _ a, fun i hi => by rw [xup_same, upd_n _ _ (by omega)], fun i _ => by rw [xup_ne _ _ _ (by omega)]⟩
/-- code c stands from place s on -/
def Cd (t : Nat) (u : xI) (s : Nat) (c : List Int32) (u' : xI) : Prop := (∀ j, j < s → u' (40 + 4 * t) j = u (40 + 4 * t) j) ∧ ∀ i, i < c.length → u' (40 + 4 * t) (s + i) = c.getD i 0
theorem Cd.nil (t : Nat) (u : xI) (s : Nat) : Cd t u s [] u := ⟨fun _ _ => rfl, fun i hi => absurd hi (Nat.not_lt_zero i)⟩
theorem Cd.same {t : Nat} {u u' u'' : xI} {s : Nat} {c : List Int32} (h : Cd t u s c u') (e : u'' (40 + 4 * t) = u' (40 + 4 * t)) : Cd t u s c u'' := by
  unfold Cd
  rw [e]; exact h
theorem Cd.from' {t : Nat} {u u0 u' : xI} {s : Nat} {c : List Int32} (h : Cd t u s c u') (e : u (40 + 4 * t) = u0 (40 + 4 * t)) : Cd t u0 s c u' := by
  unfold Cd
  rw [← e]; exact h
theorem Cd.app {t : Nat} {u u1 u2 : xI} {s : Nat} {c c2 : List Int32} (h1 : Cd t u s c u1) (h2 : Cd t u1 (s + c.length) c2 u2) : Cd t u s (c ++ c2) u2 := by
  refine ⟨fun j hj => by rw [h2.1 j (by omega), h1.1 j hj], fun i hi => ?_⟩
  rw [List.length_append] at hi
  by_cases g : i < c.length
  · rw [gd_lt _ _ _ g, h2.1 (s + i) (by omega), h1.2 i g]
  · have := h2.2 (i - c.length) (by omega)
    rw [show s + c.length + (i - c.length) = s + i by omega] at this
    rw [this]
    have e := gd_ge c c2 (i - c.length)
    rw [show c.length + (i - c.length) = i by omega] at e
    exact e.symm
def RdP (T : Nat → Int32) (z t op s : Nat) (u : xI) (res : Nat × Option (List Int32)) (u' : xI) : Prop := FrA t u u' ∧ (∀ c, res.2 = some c → Rs T z t res.1 op (s + c.length) u' ∧ Cd t u s c u') ∧ (res.2 = none → u' 19 4 = -23 ∧ u' 19 6 = nI res.1 ∧ ∃ s', s' ≤ 160 ∧ u' (39 + 4 * t) 3 = nI s')
theorem txI {t : Nat} (ht : t < 6) : isTx (Int32.ofNat (39 + 4 * t)) = true ∧ (Int32.ofNat (39 + 4 * t)).toNatClampNeg = 39 + 4 * t := by
  refine ⟨?_, nI_clamp (n := 39 + 4 * t) (by omega)⟩
  match t, ht with
  | 0, _ => rfl
  | 1, _ => rfl
  | 2, _ => rfl
  | 3, _ => rfl
  | 4, _ => rfl
  | 5, _ => rfl
  | k + 6, h => omega
theorem Rs.adv {T : Nat → Int32} {z t p op s : Nat} {u : xI} (ht : t < 6) (hz : z ≤ 160) (hr : lxR T z p ≤ z) (h20 : u 20 = T) (h1 : u 19 1 = nI z) (h2 : u 19 2 = nI (lxR T z p)) (h5 : u 19 5 = nI op) (h6 : u 19 6 = -1) (h7 : u 19 7 = Int32.ofNat (39 + 4 * t)) (h3 : u (39 + 4 * t) 3 = nI s) {γ : Type} : ∃ u', (∀ K : Unit → xI → Option γ, xbind (f_X4_advance u) K = K () u') ∧ Rs T z t (lxR T z p) op s u' ∧ FrA t u u' ∧ u' (40 + 4 * t) = u (40 + 4 * t) := by
  refine ⟨adU u (lxQ T z (lxR T z p)) (lxR T z (lxR T z p)) (lxT T z (lxR T z p)), fun K => ?_, ⟨?_, ?_, adU_2 _ _ _ _, adU_3 _ _ _ _, adU_4 _ _ _ _, ?_, ?_, ?_, ?_⟩, ⟨fun q a _ _ => adU_q a, fun j hj => adU_j (by omega) (by omega) (by omega), fun j _ => by rw [adU_q (by omega)]⟩, adU_q (by omega)⟩
  · have := s_adv (γ := γ) hz hr h1 h2 K
    rw [h20] at this; exact this
  · rw [adU_q (by decide)]; exact h20
  · rw [adU_j (by decide) (by decide) (by decide)]; exact h1
  · rw [adU_j (by decide) (by decide) (by decide)]; exact h5
  · rw [adU_j (by decide) (by decide) (by decide)]; exact h6
  · rw [adU_j (by decide) (by decide) (by decide)]; exact h7
  · rw [adU_q (by omega)]; exact h3
theorem Rs.next {T : Nat → Int32} {z t p op s : Nat} {u : xI} (ht : t < 6) (hz : z ≤ 160) (hr : lxR T z p ≤ z) (h : Rs T z t p op s u) {γ : Type} : ∃ u', (∀ K : Unit → xI → Option γ, xbind (f_X4_advance u) K = K () u') ∧ Rs T z t (lxR T z p) op s u' ∧ FrA t u u' ∧ u' (40 + 4 * t) = u (40 + 4 * t) := by
  obtain ⟨a1, a2, a3, a4, a5, a6, a7, a8, a9⟩ := h
  exact Rs.adv ht hz hr a1 a2 a3 a6 a7 a8 a9
theorem m23_nI (q : Nat) (hq : q < 2 ^ 31) : ¬ nI q = -1 := nI_m1 hq
/-- the first fault -/
theorem s_fail1 {γ : Type} {T : Nat → Int32} {z t p op s : Nat} (ht : t < 6) {u : xI} (h : Rs T z t p op s u) (hs : s ≤ 160) : ∃ u', (∀ K : Unit → xI → Option γ, xbind (f_X4_fail u) K = K () u') ∧ RdP T z t op s u (lxQ T z p, none) u' := by
  obtain ⟨a1, a2, a3, a4, a5, a6, a7, a8, a9⟩ := h
  refine ⟨xup (xup u 19 6 (u 19 3)) 19 4 (-23), fun K => ?_, (FrA.up ht (by decide)).tr (FrA.up ht (by decide)), fun c e => absurd e (by simp), fun _ => ⟨?_, ?_, s, hs, ?_⟩⟩
  · unfold f_X4_fail
    rw [a7, if_pos rfl, xbind_some]
  · rw [xup_same, upd_s]
  · rw [xup_same, upd_n _ _ (by decide), xup_same, upd_s, a4]
  · rw [xup_ne _ _ _ (by omega), xup_ne _ _ _ (by omega), a9]
theorem s_add {γ : Type} {t s : Nat} (ht : t < 6) (hs : s < 160) (x : Int32) {u : xI} (h3 : u (39 + 4 * t) 3 = nI s) : ∃ u', (∀ K : Unit → xI → Option γ, xbind (f_X7_add (39 + 4 * t) x u) K = K () u') ∧ FrA t u u' ∧ Cd t u s [x] u' ∧ u' (39 + 4 * t) 3 = nI (s + 1) ∧ u' 19 = u 19 ∧ u' 20 = u 20 := by
  have e1 : 39 + 4 * t + 1 = 40 + 4 * t := by omega
  refine ⟨xup (xup u (40 + 4 * t) s x) (39 + 4 * t) 3 (nI (s + 1)), fun K => ?_, ⟨fun q a b c => by rw [xup_ne _ _ _ b, xup_ne _ _ _ c], fun j _ => by rw [xup_ne _ _ _ (by omega), xup_ne _ _ _ (by omega)], fun j hj => by rw [xup_same, upd_n _ _ hj, xup_ne _ _ _ (by omega)]⟩, ⟨fun j hj => ?_, fun i hi => ?_⟩, by rw [xup_same, upd_s], by rw [xup_ne _ _ _ (by omega), xup_ne _ _ _ (by omega)], by rw [xup_ne _ _ _ (by omega), xup_ne _ _ _ (by omega)]⟩
  · unfold f_X7_add
    rw [h3, if_neg (show ¬ (160 : Int32) ≤ nI s from nI_ge (b := 160) hs (by omega)), xin_nI hs (by decide), xchk_true, xbind_some, nI_clamp (by omega), e1, xup_ne _ _ _ (by omega), h3, nI_1]
  · rw [xup_ne _ _ _ (by omega), xup_same, upd_n _ _ (by omega)]
  · have : i = 0 := by simpa using hi
    subst this
    rw [xup_ne _ _ _ (by omega), xup_same]
    exact upd_s _ _ _
/-- a token more, when all is broken anyhow -/
theorem s_addB {γ : Type} {t s : Nat} (ht : t < 6) (hs : s ≤ 160) (x : Int32) {u : xI} (h3 : u (39 + 4 * t) 3 = nI s) : ∃ u', (∀ K : Unit → xI → Option γ, xbind (f_X7_add (39 + 4 * t) x u) K = K () u') ∧ FrA t u u' ∧ (∃ s', s' ≤ 160 ∧ u' (39 + 4 * t) 3 = nI s') ∧ u' 19 = u 19 := by
  by_cases c : s < 160
  · obtain ⟨u', r1, r2, r3, r4, r5, r6⟩ := s_add (γ := γ) ht c x h3
    exact ⟨u', r1, r2, ⟨s + 1, by omega, r4⟩, r5⟩
  · refine ⟨u, fun K => ?_, FrA.rf t u, ⟨s, hs, h3⟩, rfl⟩
    unfold f_X7_add
    rw [h3, if_pos (show (160 : Int32) ≤ nI s from nI_le (a := 160) (by omega) (by omega)), xbind_some]
theorem s_joins {γ : Type} {L : Nat} (hL : L ≤ 4) (t : Int32) (w : xI) (K : Int32 → xI → Option γ) : xbind (f_X4_joins (nI L) t w) K = if jnT L t = true then K 1 w else K 0 w := by
  have go : f_X4_joins (nI L) t w = some (if jnT L t = true then 1 else 0, w) := by
    unfold f_X4_joins jnT
    match L, hL with
    | 0, _ =>
      show (if t = -7 then _ else _) = some (if decide (t = -7) = true then _ else _, w)
      by_cases c : t = -7
      · rw [if_pos c, if_pos (decide_eq_true c)]
      · rw [if_neg c, if_neg (by simpa using c)]
    | 1, _ =>
      show (if t = -8 then _ else _) = some (if decide (t = -8) = true then _ else _, w)
      by_cases c : t = -8
      · rw [if_pos c, if_pos (decide_eq_true c)]
      · rw [if_neg c, if_neg (by simpa using c)]
    | 2, _ =>
      show (if t = -10 then _ else (if t = -11 then _ else _)) = some (if decide (t = -10 ∨ t = -11) = true then _ else _, w)
      by_cases c : t = -10
      · rw [if_pos c, if_pos (decide_eq_true (Or.inl c))]
      · rw [if_neg c]
        by_cases d : t = -11
        · rw [if_pos d, if_pos (decide_eq_true (Or.inr d))]
        · rw [if_neg d, if_neg (by simp [c, d])]
    | 3, _ =>
      show (if t = -12 then _ else (if t = -13 then _ else _)) = some (if decide (t = -12 ∨ t = -13) = true then _ else _, w)
      by_cases c : t = -12
      · rw [if_pos c, if_pos (decide_eq_true (Or.inl c))]
      · rw [if_neg c]
        by_cases d : t = -13
        · rw [if_pos d, if_pos (decide_eq_true (Or.inr d))]
        · rw [if_neg d, if_neg (by simp [c, d])]
    | 4, _ =>
      show (if t = -14 then _ else _) = some (if decide (t = -14) = true then _ else _, w)
      by_cases c : t = -14
      · rw [if_pos c, if_pos (decide_eq_true c)]
      · rw [if_neg c, if_neg (by simpa using c)]
    | k + 5, h => omega
  rw [go, xbind_some]
  by_cases c : jnT L t = true
  · rw [if_pos c, if_pos c]
  · rw [if_neg c, if_neg c]
theorem RdP.fr {T : Nat → Int32} {z t op s : Nat} {u u' : xI} {res : Nat × Option (List Int32)} (h : RdP T z t op s u res u') : FrA t u u' := h.1
theorem jn_23 {L : Nat} : jnT L (-23) = false := by
  unfold jnT
  by_cases c0 : L = 0
  · rw [if_pos c0]; rfl
  rw [if_neg c0]
  by_cases c0 : L = 1
  · rw [if_pos c0]; rfl
  rw [if_neg c0]
  by_cases c0 : L = 2
  · rw [if_pos c0]; rfl
  rw [if_neg c0]
  by_cases c0 : L = 3
  · rw [if_pos c0]; rfl
  rw [if_neg c0]
  by_cases c0 : L = 4
  · rw [if_pos c0]; rfl
  · rw [if_neg c0]
/-- opens: one more -/
theorem s_opens {γ : Type} {T : Nat → Int32} {z t p op s : Nat} (ht : t < 6) (hz : z ≤ 160) (hr : lxR T z p ≤ z) {u : xI} (h : Rs T z t p op s u) (ho : op < 5) : ∃ u', (∀ K : Int32 → xI → Option γ, xbind (f_X4_opens u) K = K 1 u') ∧ Rs T z t (lxR T z p) (op + 1) s u' ∧ FrA t u u' ∧ u' (40 + 4 * t) = u (40 + 4 * t) := by
  obtain ⟨a1, a2, a3, a4, a5, a6, a7, a8, a9⟩ := h
  have j5 : ∀ j, j ≠ 5 → xup u 19 5 (nI (op + 1)) 19 j = u 19 j := fun j hj => by rw [xup_same, upd_n _ _ hj]
  obtain ⟨u', r1, r2, r3, r4⟩ := Rs.adv (γ := Int32 × xI) (T := T) (z := z) (t := t) (p := p) (op := op + 1) (s := s) (u := xup u 19 5 (nI (op + 1))) ht hz hr (by rw [xup_ne _ _ _ (by decide)]; exact a1) (by rw [j5 1 (by decide)]; exact a2) (by rw [j5 2 (by decide)]; exact a3) (by rw [xup_same, upd_s]) (by rw [j5 6 (by decide)]; exact a7) (by rw [j5 7 (by decide)]; exact a8) (by rw [xup_ne _ _ _ (by omega)]; exact a9)
  refine ⟨u', fun K => ?_, r2, (FrA.up ht (by decide)).tr r3, by rw [r4, xup_ne _ _ _ (by omega)]⟩
  have e : f_X4_opens u = some (1, u') := by
    unfold f_X4_opens
    rw [a6, if_pos (show nI op < 5 from nI_lt (b := 5) ho (by omega)), nI_1]
    exact r1 _
  rw [e, xbind_some]
theorem s_opensN {γ : Type} {T : Nat → Int32} {z t p op s : Nat} (ht : t < 6) {u : xI} (h : Rs T z t p op s u) (ho : ¬ op < 5) (hop : op ≤ 5) (hs : s ≤ 160) : ∃ u', (∀ K : Int32 → xI → Option γ, xbind (f_X4_opens u) K = K 0 u') ∧ RdP T z t op s u (lxQ T z p, none) u' := by
  obtain ⟨u', r1, r2⟩ := s_fail1 (γ := Int32 × xI) ht h hs
  refine ⟨u', fun K => ?_, r2⟩
  have e : f_X4_opens u = some (0, u') := by
    unfold f_X4_opens
    rw [h.2.2.2.2.2.1, if_neg (show ¬ nI op < 5 from nI_nlt (b := 5) (by omega) (by omega))]
    exact r1 _
  rw [e, xbind_some]
