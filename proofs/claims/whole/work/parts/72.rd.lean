-- ===== reading downwards, as a function of the tape =====
def rkT (x : Int32) : Nat := if x = -16 then 0 else if x = -7 then 1 else if x = -8 then 2 else if x = -9 then 3 else if x = -10 ∨ x = -11 then 4 else if x = -12 ∨ x = -13 then 5 else if x = -14 then 6 else 7
def jnT (L : Nat) (t : Int32) : Bool := if L = 0 then decide (t = -7) else if L = 1 then decide (t = -8) else if L = 2 then decide (t = -10 ∨ t = -11) else if L = 3 then decide (t = -12 ∨ t = -13) else if L = 4 then decide (t = -14) else false
def rb (x : Nat × Option (List Int32)) (k : Nat → List Int32 → Nat × Option (List Int32)) : Nat × Option (List Int32) := match x.2 with
  | none => (x.1, none)
  | some c => k x.1 c
noncomputable def lpT (T : Nat → Int32) (z : Nat) (rec : Nat → Nat × Option (List Int32)) (L : Nat) : Nat → Nat → List Int32 → Nat × Option (List Int32)
  | 0, p, c => (p, some c)
  | k + 1, p, c => if jnT L (lxT T z p) = true then rb (rec (lxR T z p)) (fun p2 c2 => lpT T z rec L k p2 (c ++ c2 ++ [lxT T z p])) else (p, some c)
noncomputable def rd (T : Nat → Int32) (z : Nat) : Nat → Nat → Nat → Nat → Nat × Option (List Int32)
  | 0, _, _, _ => (0, none)
  | fu + 1, L, op, p =>
    if L = 5 then
      (if -6 ≤ lxT T z p then (lxR T z p, some [lxT T z p])
       else if lxT T z p = -13 then (if op < 5 then rb (rd T z fu 5 (op + 1) (lxR T z p)) (fun p' c => (p', some (c ++ [-15]))) else (lxQ T z p, none))
       else if lxT T z p = -16 then (if op < 5 then rb (rd T z fu 0 (op + 1) (lxR T z p)) (fun p' c => if lxT T z p' = -17 then (lxR T z p', some c) else (lxQ T z p', none)) else (lxQ T z p, none))
       else (lxQ T z p, none))
    else if L = 2 ∧ lxT T z p = -9 then (if op < 5 then rb (rd T z fu 2 (op + 1) (lxR T z p)) (fun p' c => (p', some (c ++ [-9]))) else (lxQ T z p, none))
    else rb (rd T z fu (L + 1) op p) (fun p1 c1 => lpT T z (fun x => rd T z fu (L + 1) op x) L (if L = 2 then 1 else 160) p1 c1)
/-- how high the stack stands, for a row of tokens -/
def hgL : List Int32 → Nat → Option Nat
  | [], h => some h
  | x :: l, h => if -6 ≤ x then hgL l (h + 1) else if x = -9 ∨ x = -15 then (if 1 ≤ h then hgL l h else none) else if 2 ≤ h then hgL l (h - 1) else none
theorem hgL_app : ∀ (a b : List Int32) (h g : Nat), hgL a h = some g → hgL (a ++ b) h = hgL b g := by
  intro a
  induction a with
  | nil => intro b h g e; have : h = g := Option.some.inj e; rw [this]; rfl
  | cons x l ih =>
    intro b h g e
    have e' : (if -6 ≤ x then hgL l (h + 1) else if x = -9 ∨ x = -15 then (if 1 ≤ h then hgL l h else none) else if 2 ≤ h then hgL l (h - 1) else none) = some g := e
    show (if -6 ≤ x then hgL (l ++ b) (h + 1) else if x = -9 ∨ x = -15 then (if 1 ≤ h then hgL (l ++ b) h else none) else if 2 ≤ h then hgL (l ++ b) (h - 1) else none) = hgL b g
    by_cases c1 : -6 ≤ x
    · rw [if_pos c1] at e' ⊢; exact ih b _ _ e'
    · rw [if_neg c1] at e' ⊢
      by_cases c2 : x = -9 ∨ x = -15
      · rw [if_pos c2] at e' ⊢
        by_cases c3 : 1 ≤ h
        · rw [if_pos c3] at e' ⊢; exact ih b _ _ e'
        · rw [if_neg c3] at e'; exact absurd e' (by simp)
      · rw [if_neg c2] at e' ⊢
        by_cases c3 : 2 ≤ h
        · rw [if_pos c3] at e' ⊢; exact ih b _ _ e'
        · rw [if_neg c3] at e'; exact absurd e' (by simp)
theorem hgt_L {f : Nat → Int32} : ∀ (l : List Int32) (a h : Nat), (∀ i, i < l.length → f (a + i) = l.getD i 0) → hgt f a l.length h = hgL l h := by
  intro l
  induction l with
  | nil => intro a h _; rfl
  | cons x l ih =>
    intro a h hl
    have e0 : f a = x := hl 0 (by simp)
    have hl' : ∀ i, i < l.length → f (a + 1 + i) = l.getD i 0 := fun i hi => by
      have := hl (i + 1) (by simp; omega)
      rw [show a + 1 + i = a + (i + 1) by omega, this]; rfl
    show (if -6 ≤ f a then hgt f (a + 1) l.length (h + 1) else if f a = -9 ∨ f a = -15 then (if 1 ≤ h then hgt f (a + 1) l.length h else none) else if 2 ≤ h then hgt f (a + 1) l.length (h - 1) else none) = (if -6 ≤ x then hgL l (h + 1) else if x = -9 ∨ x = -15 then (if 1 ≤ h then hgL l h else none) else if 2 ≤ h then hgL l (h - 1) else none)
    rw [e0, ih (a + 1) (h + 1) hl', ih (a + 1) h hl', ih (a + 1) (h - 1) hl']
/-- a row of tokens that leaves one value -/
def GoodC (c : List Int32) : Prop := (∀ x, x ∈ c → -15 ≤ x ∧ x ≤ 9999) ∧ ∀ h, hgL c h = some (h + 1)
theorem GoodC.un {c : List Int32} (h : GoodC c) {x : Int32} (hx : x = -9 ∨ x = -15) : GoodC (c ++ [x]) := by
  refine ⟨fun y hy => ?_, fun k => ?_⟩
  · rcases List.mem_append.mp hy with g | g
    · exact h.1 y g
    · have : y = x := by simpa using g
      rw [this]; rcases hx with e | e <;> (rw [e]; decide)
  · rw [hgL_app c [x] k (k + 1) (h.2 k)]
    show (if -6 ≤ x then hgL [] (k + 1 + 1) else if x = -9 ∨ x = -15 then (if 1 ≤ k + 1 then hgL [] (k + 1) else none) else _) = _
    rw [if_neg (by rcases hx with e | e <;> (rw [e]; decide)), if_pos hx, if_pos (by omega)]; rfl
theorem GoodC.bin {c c2 : List Int32} (h : GoodC c) (h2 : GoodC c2) {x : Int32} (hx : ¬ -6 ≤ x ∧ -15 ≤ x ∧ x ≤ 9999 ∧ ¬ (x = -9 ∨ x = -15)) : GoodC (c ++ c2 ++ [x]) := by
  refine ⟨fun y hy => ?_, fun k => ?_⟩
  · rcases List.mem_append.mp hy with g | g
    · rcases List.mem_append.mp g with g | g
      · exact h.1 y g
      · exact h2.1 y g
    · have : y = x := by simpa using g
      rw [this]; exact ⟨hx.2.1, hx.2.2.1⟩
  · rw [hgL_app (c ++ c2) [x] k (k + 1 + 1) (by rw [hgL_app c c2 k (k + 1) (h.2 k)]; exact h2.2 (k + 1))]
    show (if -6 ≤ x then hgL [] (k + 1 + 1 + 1) else if x = -9 ∨ x = -15 then (if 1 ≤ k + 1 + 1 then hgL [] (k + 1 + 1) else none) else if 2 ≤ k + 1 + 1 then hgL [] (k + 1 + 1 - 1) else none) = _
    rw [if_neg hx.1, if_neg hx.2.2.2, if_pos (by omega)]; rfl
theorem wd_cod : ∀ k, k < 12 → wCod.getD k 0 ≤ 9999 := by decide
theorem wdT_le {T : Nat → Int32} {q r : Nat} : ∀ m k, k + m ≤ 12 → wdT T q r m k ≤ 9999 := by
  intro m
  induction m with
  | zero => intro k _; show (-23 : Int32) ≤ 9999; decide
  | succ m ih =>
    intro k h
    by_cases c : isWd T q r k
    · rw [wdT_pos c]; exact wd_cod k (by omega)
    · rw [wdT_neg c]; exact ih (k + 1) (by omega)
theorem sgT_le (x : Int32) : sgT x ≤ 9999 := by
  unfold sgT
  by_cases c0 : x = 40
  · rw [if_pos c0]; decide
  rw [if_neg c0]
  by_cases c0 : x = 41
  · rw [if_pos c0]; decide
  rw [if_neg c0]
  by_cases c0 : x = 42
  · rw [if_pos c0]; decide
  rw [if_neg c0]
  by_cases c0 : x = 43
  · rw [if_pos c0]; decide
  rw [if_neg c0]
  by_cases c0 : x = 45
  · rw [if_pos c0]; decide
  rw [if_neg c0]
  by_cases c0 : x = 59
  · rw [if_pos c0]; decide
  rw [if_neg c0]
  by_cases c0 : x = 60
  · rw [if_pos c0]; decide
  rw [if_neg c0]
  by_cases c0 : x = 61
  · rw [if_pos c0]; decide
  · rw [if_neg c0]; decide
theorem lxT_le (T : Nat → Int32) (z p : Nat) : lxT T z p ≤ 9999 := by
  have er : lxR T z p = if z ≤ lxQ T z p then lxQ T z p else if isLe (T (lxQ T z p)) = true then skp isLe T (z - lxQ T z p) (lxQ T z p) else if isDi (T (lxQ T z p)) = true then skp isDi T (z - lxQ T z p) (lxQ T z p) else lxQ T z p + 1 := rfl
  unfold lxT
  by_cases c0 : z ≤ lxQ T z p
  · rw [if_pos c0]; decide
  · rw [if_neg c0] at er ⊢
    by_cases c1 : isLe (T (lxQ T z p)) = true
    · rw [if_pos c1]; exact wdT_le 12 0 (by omega)
    · rw [if_neg c1] at er ⊢
      by_cases c2 : isDi (T (lxQ T z p)) = true
      · rw [if_pos c2] at er ⊢
        by_cases c3 : lxR T z p - lxQ T z p ≤ 4
        · rw [if_pos c3]
          have bs := skp_bd isDi T (z - lxQ T z p) (lxQ T z p)
          obtain ⟨x, hx, ex⟩ := numV_bd (T := T) (q := lxQ T z p) (lxR T z p - lxQ T z p) c3 (fun i hi => skp_in (z - lxQ T z p) (lxQ T z p) (lxQ T z p + i) (by omega) (by rw [← er]; omega))
          have p10 : 10 ^ (lxR T z p - lxQ T z p) ≤ 10 ^ 4 := Nat.pow_le_pow_right (by decide) c3
          rw [ex]; exact nI_le (b := 9999) (by omega) (by omega)
        · rw [if_neg c3]; decide
      · rw [if_neg c2]; exact sgT_le _
theorem lx_lt {T : Nat → Int32} {z p : Nat} (hp : p ≤ z) (h : lxT T z p ≠ -22) : p < lxR T z p ∧ lxR T z p ≤ z ∧ lxQ T z p < lxR T z p := by
  have b := lx_bd (T := T) hp
  have hq : lxQ T z p < z := by
    by_cases c : z ≤ lxQ T z p
    · exact absurd (show lxT T z p = -22 from if_pos c) h
    · omega
  have := b.2.2.2 hq
  omega
theorem jn_tok {L : Nat} {t : Int32} (h : jnT L t = true) : (¬ -6 ≤ t ∧ -15 ≤ t ∧ t ≤ 9999 ∧ ¬ (t = -9 ∨ t = -15)) ∧ t ≠ -22 := by
  unfold jnT at h
  by_cases c0 : L = 0
  · rw [if_pos c0] at h; rw [of_decide_eq_true h]; decide
  rw [if_neg c0] at h
  by_cases c0 : L = 1
  · rw [if_pos c0] at h; rw [of_decide_eq_true h]; decide
  rw [if_neg c0] at h
  by_cases c0 : L = 2
  · rw [if_pos c0] at h; rcases of_decide_eq_true h with e | e <;> (rw [e]; decide)
  rw [if_neg c0] at h
  by_cases c0 : L = 3
  · rw [if_pos c0] at h; rcases of_decide_eq_true h with e | e <;> (rw [e]; decide)
  rw [if_neg c0] at h
  by_cases c0 : L = 4
  · rw [if_pos c0] at h; rw [of_decide_eq_true h]; decide
  · rw [if_neg c0] at h; exact absurd h (by decide)
theorem rb_some {x : Nat × Option (List Int32)} {k : Nat → List Int32 → Nat × Option (List Int32)} {p' : Nat} {c' : List Int32} (h : rb x k = (p', some c')) : ∃ p c, x = (p, some c) ∧ k p c = (p', some c') := by
  obtain ⟨x1, x2⟩ := x
  cases x2 with
  | none => exact absurd (congrArg Prod.snd h) (by simp [rb])
  | some c => exact ⟨x1, c, rfl, h⟩
theorem lpT_bd {T : Nat → Int32} {z : Nat} {rec : Nat → Nat × Option (List Int32)} {L : Nat} (hrec : ∀ p p' c, p ≤ z → rec p = (p', some c) → p < p' ∧ p' ≤ z ∧ c.length ≤ p' - p ∧ GoodC c) : ∀ (k p : Nat) (c : List Int32) (p' : Nat) (c' : List Int32), p ≤ z → GoodC c → lpT T z rec L k p c = (p', some c') → p ≤ p' ∧ p' ≤ z ∧ c'.length ≤ c.length + (p' - p) ∧ GoodC c' := by
  intro k
  induction k with
  | zero =>
    intro p c p' c' hp hc h
    have h' : (p, some c) = (p', some c') := h
    have e1 : p = p' := congrArg Prod.fst h'
    have e2 : c = c' := Option.some.inj (congrArg Prod.snd h')
    subst e1; subst e2
    exact ⟨Nat.le_refl _, hp, by omega, hc⟩
  | succ k ih =>
    intro p c p' c' hp hc h
    have h' : (if jnT L (lxT T z p) = true then rb (rec (lxR T z p)) (fun p2 c2 => lpT T z rec L k p2 (c ++ c2 ++ [lxT T z p])) else (p, some c)) = (p', some c') := h
    by_cases j : jnT L (lxT T z p) = true
    · rw [if_pos j] at h'
      obtain ⟨p2, c2, h1, h2⟩ := rb_some h'
      obtain ⟨j1, j2⟩ := jn_tok j
      have lt := lx_lt hp j2
      obtain ⟨g1, g2, g3, g4⟩ := hrec _ _ _ lt.2.1 h1
      obtain ⟨r1, r2, r3, r4⟩ := ih p2 _ p' c' g2 (hc.bin g4 j1) h2
      rw [List.length_append, List.length_append, List.length_singleton] at r3
      exact ⟨by omega, r2, by omega, r4⟩
    · rw [if_neg j] at h'
      have e1 : p = p' := congrArg Prod.fst h'
      have e2 : c = c' := Option.some.inj (congrArg Prod.snd h')
      subst e1; subst e2
      exact ⟨Nat.le_refl _, hp, by omega, hc⟩
theorem rd_bd {T : Nat → Int32} {z : Nat} : ∀ (fu L op p p' : Nat) (c : List Int32), p ≤ z → rd T z fu L op p = (p', some c) → p < p' ∧ p' ≤ z ∧ c.length ≤ p' - p ∧ GoodC c := by
  intro fu
  induction fu with
  | zero => intro L op p p' c _ h; exact absurd (congrArg Prod.snd h) (by simp [rd])
  | succ fu ih =>
    intro L op p p' c hp h
    rw [rd] at h
    by_cases c5 : L = 5
    · rw [if_pos c5] at h
      by_cases t1 : -6 ≤ lxT T z p
      · rw [if_pos t1] at h
        have e1 : lxR T z p = p' := congrArg Prod.fst h
        have e2 : [lxT T z p] = c := Option.some.inj (congrArg Prod.snd h)
        have lt := lx_lt hp (fun y => by rw [y] at t1; exact absurd t1 (by decide))
        subst e1; subst e2
        refine ⟨lt.1, lt.2.1, by rw [List.length_singleton]; omega, fun x hx => ?_, fun k => ?_⟩
        · have : x = lxT T z p := by simpa using hx
          rw [this]; exact ⟨Int32.le_trans (by decide) t1, lxT_le T z p⟩
        · show (if -6 ≤ lxT T z p then hgL [] (k + 1) else _) = _
          rw [if_pos t1]; rfl
      · rw [if_neg t1] at h
        by_cases t2 : lxT T z p = -13
        · rw [if_pos t2] at h
          have lt := lx_lt hp (by rw [t2]; decide)
          by_cases o : op < 5
          · rw [if_pos o] at h
            obtain ⟨p1, c1, h1, h2⟩ := rb_some h
            obtain ⟨g1, g2, g3, g4⟩ := ih _ _ _ _ _ lt.2.1 h1
            have e1 : p1 = p' := congrArg Prod.fst h2
            have e2 : c1 ++ [-15] = c := Option.some.inj (congrArg Prod.snd h2)
            subst e1; subst e2
            refine ⟨by omega, g2, ?_, g4.un (Or.inr rfl)⟩
            rw [List.length_append, List.length_singleton]; omega
          · rw [if_neg o] at h; exact absurd (congrArg Prod.snd h) (by simp)
        · rw [if_neg t2] at h
          by_cases t3 : lxT T z p = -16
          · rw [if_pos t3] at h
            have lt := lx_lt hp (by rw [t3]; decide)
            by_cases o : op < 5
            · rw [if_pos o] at h
              obtain ⟨p1, c1, h1, h2⟩ := rb_some h
              obtain ⟨g1, g2, g3, g4⟩ := ih _ _ _ _ _ lt.2.1 h1
              by_cases t4 : lxT T z p1 = -17
              · rw [if_pos t4] at h2
                have lt2 := lx_lt g2 (by rw [t4]; decide)
                have e1 : lxR T z p1 = p' := congrArg Prod.fst h2
                have e2 : c1 = c := Option.some.inj (congrArg Prod.snd h2)
                subst e1; subst e2
                exact ⟨by omega, lt2.2.1, by omega, g4⟩
              · rw [if_neg t4] at h2; exact absurd (congrArg Prod.snd h2) (by simp)
            · rw [if_neg o] at h; exact absurd (congrArg Prod.snd h) (by simp)
          · rw [if_neg t3] at h; exact absurd (congrArg Prod.snd h) (by simp)
    · rw [if_neg c5] at h
      by_cases c2 : L = 2 ∧ lxT T z p = -9
      · rw [if_pos c2] at h
        have lt := lx_lt hp (by rw [c2.2]; decide)
        by_cases o : op < 5
        · rw [if_pos o] at h
          obtain ⟨p1, c1, h1, h2⟩ := rb_some h
          obtain ⟨g1, g2, g3, g4⟩ := ih _ _ _ _ _ lt.2.1 h1
          have e1 : p1 = p' := congrArg Prod.fst h2
          have e2 : c1 ++ [-9] = c := Option.some.inj (congrArg Prod.snd h2)
          subst e1; subst e2
          refine ⟨by omega, g2, ?_, g4.un (Or.inl rfl)⟩
          rw [List.length_append, List.length_singleton]; omega
        · rw [if_neg o] at h; exact absurd (congrArg Prod.snd h) (by simp)
      · rw [if_neg c2] at h
        obtain ⟨p1, c1, h1, h2⟩ := rb_some h
        obtain ⟨g1, g2, g3, g4⟩ := ih _ _ _ _ _ hp h1
        obtain ⟨r1, r2, r3, r4⟩ := lpT_bd (fun x x' cc hx hh => ih _ _ _ _ _ hx hh) _ _ _ _ _ g2 g4 h2
        exact ⟨by omega, r2, by omega, r4⟩
