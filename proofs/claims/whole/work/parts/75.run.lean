-- ===== reading with a stack, and that it reads the same =====
def unw (r : Nat) : List Int32 → List Int32 → List Int32 × List Int32
  | [], o => ([], o)
  | x :: K, o => if rkT x < r then (x :: K, o) else unw r K (o ++ [x])
def ocn : List Int32 → Nat
  | [] => 0
  | x :: K => (if x = -9 ∨ x = -15 ∨ x = -16 then 1 else 0) + ocn K
def unL (L : Nat) : Nat := if L = 0 then 1 else if L = 1 then 2 else if L = 2 then 5 else if L = 3 then 5 else 6
def roL (L : Nat) : Nat := if L = 0 then 1 else if L = 1 then 2 else if L = 2 then 3 else if L = 3 then 5 else if L = 4 then 6 else 7
def alL (L : Nat) : Nat := if L = 0 then 1 else if L = 1 then 2 else if L = 2 then 4 else if L = 3 then 5 else if L = 4 then 6 else 7
def TopLt (r : Nat) (K : List Int32) : Prop := ∀ x K', K = x :: K' → rkT x < r
theorem TopLt.mono {a b : Nat} {K : List Int32} (h : TopLt a K) (e : a ≤ b) : TopLt b K := fun x K' q => Nat.lt_of_lt_of_le (h x K' q) e
theorem TopLt.cons {a : Nat} {x : Int32} {K : List Int32} (h : rkT x < a) : TopLt a (x :: K) := fun y K' q => by
  have : x = y := (List.cons.inj q).1
  rw [← this]; exact h
theorem unw_app {r : Nat} : ∀ (a K o : List Int32), (∀ x, x ∈ a → r ≤ rkT x) → unw r (a ++ K) o = unw r K (o ++ a) := by
  intro a
  induction a with
  | nil => intro K o _; rw [List.nil_append, List.append_nil]
  | cons x a ih =>
    intro K o h
    show (if rkT x < r then (x :: (a ++ K), o) else unw r (a ++ K) (o ++ [x])) = unw r K (o ++ x :: a)
    rw [if_neg (by have := h x (List.mem_cons_self ..); omega), ih K (o ++ [x]) (fun y hy => h y (List.mem_cons_of_mem _ hy)), List.append_assoc]
    rfl
theorem unw_top {r : Nat} {K : List Int32} (h : TopLt r K) (o : List Int32) : unw r K o = (K, o) := by
  cases K with
  | nil => rfl
  | cons x K =>
    show (if rkT x < r then (x :: K, o) else unw r K (o ++ [x])) = _
    rw [if_pos (h x K rfl)]
def Run1 (T : Nat → Int32) (z : Nat) (R : Option Bool → List Int32 → List Int32 → Nat → Nat × Option (List Int32) → Prop) (w : Option Bool) (K o : List Int32) (p : Nat) (r : Nat × Option (List Int32)) : Prop :=
  (w = none ∧ lxT T z p = -18 ∧ (unw 1 K o).1 = [] ∧ r = (lxR T z p, some (unw 1 K o).2)) ∨
  (w = none ∧ lxT T z p = -18 ∧ (unw 1 K o).1 ≠ [] ∧ r = (lxQ T z p, none)) ∨
  (w = none ∧ lxT T z p = -17 ∧ ∃ x K', (unw 1 K o).1 = x :: K' ∧ R none (unw 7 K' (unw 1 K o).2).1 (unw 7 K' (unw 1 K o).2).2 (lxR T z p) r) ∨
  (w = none ∧ lxT T z p = -17 ∧ (unw 1 K o).1 = [] ∧ r = (lxQ T z p, none)) ∨
  (w = none ∧ ∃ L, L ≤ 4 ∧ jnT L (lxT T z p) = true ∧ (L = 2 → ∀ x K', (unw (unL L) K o).1 = x :: K' → rkT x ≠ 4) ∧ R (some (decide (L ≤ 1))) (lxT T z p :: (unw (unL L) K o).1) (unw (unL L) K o).2 (lxR T z p) r) ∨
  (w = none ∧ jnT 2 (lxT T z p) = true ∧ (∃ x K', (unw 5 K o).1 = x :: K' ∧ rkT x = 4) ∧ r = (lxQ T z p, none)) ∨
  (w = none ∧ lxT T z p ≠ -18 ∧ lxT T z p ≠ -17 ∧ (∀ L, L ≤ 4 → jnT L (lxT T z p) = false) ∧ r = (lxQ T z p, none)) ∨
  ((∃ m, w = some m) ∧ -6 ≤ lxT T z p ∧ R none (unw 7 K (o ++ [lxT T z p])).1 (unw 7 K (o ++ [lxT T z p])).2 (lxR T z p) r) ∨
  (w = some true ∧ lxT T z p = -9 ∧ ocn K < 5 ∧ R (some true) (-9 :: K) o (lxR T z p) r) ∨
  ((∃ m, w = some m) ∧ lxT T z p = -13 ∧ ocn K < 5 ∧ R (some false) (-15 :: K) o (lxR T z p) r) ∨
  ((∃ m, w = some m) ∧ lxT T z p = -16 ∧ ocn K < 5 ∧ R (some true) (-16 :: K) o (lxR T z p) r) ∨
  ((∃ m, w = some m ∧ ((lxT T z p = -9 ∧ m = true) ∨ lxT T z p = -13 ∨ lxT T z p = -16)) ∧ 5 ≤ ocn K ∧ r = (lxQ T z p, none)) ∨
  ((∃ m, w = some m ∧ (lxT T z p = -9 → m = false)) ∧ ¬ -6 ≤ lxT T z p ∧ lxT T z p ≠ -13 ∧ lxT T z p ≠ -16 ∧ r = (lxQ T z p, none))
def RunN (T : Nat → Int32) (z : Nat) : Nat → Option Bool → List Int32 → List Int32 → Nat → Nat × Option (List Int32) → Prop
  | 0 => fun _ _ _ _ _ => False
  | n + 1 => Run1 T z (RunN T z n)
def Run (T : Nat → Int32) (z : Nat) (w : Option Bool) (K o : List Int32) (p : Nat) (r : Nat × Option (List Int32)) : Prop := ∃ n, RunN T z n w K o p r
theorem Run.semi {T : Nat → Int32} {z : Nat} {K o : List Int32} {p : Nat} (h1 : lxT T z p = -18) (h2 : (unw 1 K o).1 = []) : Run T z none K o p (lxR T z p, some (unw 1 K o).2) := ⟨1, Or.inl ⟨rfl, h1, h2, rfl⟩⟩
theorem Run.semiN {T : Nat → Int32} {z : Nat} {K o : List Int32} {p : Nat} (h1 : lxT T z p = -18) (h2 : (unw 1 K o).1 ≠ []) : Run T z none K o p (lxQ T z p, none) := ⟨1, Or.inr (Or.inl ⟨rfl, h1, h2, rfl⟩)⟩
theorem Run.close {T : Nat → Int32} {z : Nat} {K o : List Int32} {p : Nat} {x : Int32} {K' : List Int32} {r : Nat × Option (List Int32)} (h1 : lxT T z p = -17) (h2 : (unw 1 K o).1 = x :: K') (hh : Run T z none (unw 7 K' (unw 1 K o).2).1 (unw 7 K' (unw 1 K o).2).2 (lxR T z p) r) : Run T z none K o p r := by
  obtain ⟨n, h⟩ := hh
  exact ⟨n + 1, Or.inr (Or.inr (Or.inl ⟨rfl, h1, x, K', h2, h⟩))⟩
theorem Run.closeN {T : Nat → Int32} {z : Nat} {K o : List Int32} {p : Nat} (h1 : lxT T z p = -17) (h2 : (unw 1 K o).1 = []) : Run T z none K o p (lxQ T z p, none) := ⟨1, Or.inr (Or.inr (Or.inr (Or.inl ⟨rfl, h1, h2, rfl⟩)))⟩
theorem Run.join {T : Nat → Int32} {z : Nat} {K o : List Int32} {p L : Nat} {r : Nat × Option (List Int32)} (h1 : L ≤ 4) (h2 : jnT L (lxT T z p) = true) (h3 : L = 2 → ∀ x K', (unw (unL L) K o).1 = x :: K' → rkT x ≠ 4) (hh : Run T z (some (decide (L ≤ 1))) (lxT T z p :: (unw (unL L) K o).1) (unw (unL L) K o).2 (lxR T z p) r) : Run T z none K o p r := by
  obtain ⟨n, h⟩ := hh
  exact ⟨n + 1, Or.inr (Or.inr (Or.inr (Or.inr (Or.inl ⟨rfl, L, h1, h2, h3, h⟩))))⟩
theorem Run.joinN {T : Nat → Int32} {z : Nat} {K o : List Int32} {p : Nat} {x : Int32} {K' : List Int32} (h1 : jnT 2 (lxT T z p) = true) (h2 : (unw 5 K o).1 = x :: K') (h3 : rkT x = 4) : Run T z none K o p (lxQ T z p, none) := ⟨1, Or.inr (Or.inr (Or.inr (Or.inr (Or.inr (Or.inl ⟨rfl, h1, ⟨x, K', h2, h3⟩, rfl⟩)))))⟩
theorem Run.noSign {T : Nat → Int32} {z : Nat} {K o : List Int32} {p : Nat} (h1 : lxT T z p ≠ -18) (h2 : lxT T z p ≠ -17) (h3 : ∀ L, L ≤ 4 → jnT L (lxT T z p) = false) : Run T z none K o p (lxQ T z p, none) := ⟨1, Or.inr (Or.inr (Or.inr (Or.inr (Or.inr (Or.inr (Or.inl ⟨rfl, h1, h2, h3, rfl⟩))))))⟩
theorem Run.val {T : Nat → Int32} {z : Nat} {m : Bool} {K o : List Int32} {p : Nat} {r : Nat × Option (List Int32)} (h1 : -6 ≤ lxT T z p) (hh : Run T z none (unw 7 K (o ++ [lxT T z p])).1 (unw 7 K (o ++ [lxT T z p])).2 (lxR T z p) r) : Run T z (some m) K o p r := by
  obtain ⟨n, h⟩ := hh
  exact ⟨n + 1, Or.inr (Or.inr (Or.inr (Or.inr (Or.inr (Or.inr (Or.inr (Or.inl ⟨⟨m, rfl⟩, h1, h⟩)))))))⟩
theorem Run.neither {T : Nat → Int32} {z : Nat} {K o : List Int32} {p : Nat} {r : Nat × Option (List Int32)} (h1 : lxT T z p = -9) (h2 : ocn K < 5) (hh : Run T z (some true) (-9 :: K) o (lxR T z p) r) : Run T z (some true) K o p r := by
  obtain ⟨n, h⟩ := hh
  exact ⟨n + 1, Or.inr (Or.inr (Or.inr (Or.inr (Or.inr (Or.inr (Or.inr (Or.inr (Or.inl ⟨rfl, h1, h2, h⟩))))))))⟩
theorem Run.minus {T : Nat → Int32} {z : Nat} {m : Bool} {K o : List Int32} {p : Nat} {r : Nat × Option (List Int32)} (h1 : lxT T z p = -13) (h2 : ocn K < 5) (hh : Run T z (some false) (-15 :: K) o (lxR T z p) r) : Run T z (some m) K o p r := by
  obtain ⟨n, h⟩ := hh
  exact ⟨n + 1, Or.inr (Or.inr (Or.inr (Or.inr (Or.inr (Or.inr (Or.inr (Or.inr (Or.inr (Or.inl ⟨⟨m, rfl⟩, h1, h2, h⟩)))))))))⟩
theorem Run.opening {T : Nat → Int32} {z : Nat} {m : Bool} {K o : List Int32} {p : Nat} {r : Nat × Option (List Int32)} (h1 : lxT T z p = -16) (h2 : ocn K < 5) (hh : Run T z (some true) (-16 :: K) o (lxR T z p) r) : Run T z (some m) K o p r := by
  obtain ⟨n, h⟩ := hh
  exact ⟨n + 1, Or.inr (Or.inr (Or.inr (Or.inr (Or.inr (Or.inr (Or.inr (Or.inr (Or.inr (Or.inr (Or.inl ⟨⟨m, rfl⟩, h1, h2, h⟩))))))))))⟩
theorem Run.opN {T : Nat → Int32} {z : Nat} {m : Bool} {K o : List Int32} {p : Nat} (h1 : (lxT T z p = -9 ∧ m = true) ∨ lxT T z p = -13 ∨ lxT T z p = -16) (h2 : 5 ≤ ocn K) : Run T z (some m) K o p (lxQ T z p, none) := ⟨1, Or.inr (Or.inr (Or.inr (Or.inr (Or.inr (Or.inr (Or.inr (Or.inr (Or.inr (Or.inr (Or.inr (Or.inl ⟨⟨m, rfl, h1⟩, h2, rfl⟩)))))))))))⟩
theorem Run.valN {T : Nat → Int32} {z : Nat} {m : Bool} {K o : List Int32} {p : Nat} (h1 : ¬ -6 ≤ lxT T z p) (h2 : lxT T z p ≠ -13) (h3 : lxT T z p ≠ -16) (h4 : lxT T z p = -9 → m = false) : Run T z (some m) K o p (lxQ T z p, none) := ⟨1, Or.inr (Or.inr (Or.inr (Or.inr (Or.inr (Or.inr (Or.inr (Or.inr (Or.inr (Or.inr (Or.inr (Or.inr (⟨⟨m, rfl, h4⟩, h1, h2, h3, rfl⟩))))))))))))⟩
def Spl (pend : List Int32) : Prop := ∃ a x b, pend = a ++ x :: b ∧ (∀ y, y ∈ a → 5 ≤ rkT y) ∧ rkT x = 4
theorem Spl.app {a : List Int32} (h : Spl a) (b : List Int32) : Spl (a ++ b) := by
  obtain ⟨a1, x, b1, e, h1, h2⟩ := h
  exact ⟨a1, x, b1 ++ b, by rw [e, List.append_assoc]; rfl, h1, h2⟩
def Post (L : Nat) (t : Int32) (pend : List Int32) : Prop := (∀ L', L ≤ L' → L' ≤ 4 → L' ≠ 2 → jnT L' t = false) ∧ (L ≤ 2 → jnT 2 t = true → Spl pend)
theorem Post.app {L : Nat} {t : Int32} {a : List Int32} (h : Post L t a) (b : List Int32) : Post L t (a ++ b) := ⟨h.1, fun q w => (h.2 q w).app b⟩
def RE (T : Nat → Int32) (z L : Nat) (K o : List Int32) (m : Bool) (p : Nat) (res : Nat × Option (List Int32)) : Prop := (∀ f, res = (f, none) → Run T z (some m) K o p (f, none)) ∧ ∀ p' c, res = (p', some c) → if L = 5 then (∀ r, Run T z none (unw 7 K (o ++ c)).1 (unw 7 K (o ++ c)).2 p' r → Run T z (some m) K o p r) else (∃ pend o', o' ++ pend = o ++ c ∧ (∀ x, x ∈ pend → roL L ≤ rkT x) ∧ Post L (lxT T z p') pend ∧ ∀ r, Run T z none (pend ++ K) o' p' r → Run T z (some m) K o p r)
theorem RE.use {T : Nat → Int32} {z L : Nat} {K o : List Int32} {m : Bool} {p p' : Nat} {c : List Int32} (hL : L ≤ 5) (hT : TopLt (alL L) K) (h : RE T z L K o m p (p', some c)) : ∃ pend o', o' ++ pend = o ++ c ∧ (∀ x, x ∈ pend → roL L ≤ rkT x) ∧ Post L (lxT T z p') pend ∧ ∀ r, Run T z none (pend ++ K) o' p' r → Run T z (some m) K o p r := by
  have g := h.2 p' c rfl
  by_cases e : L = 5
  · subst e
    rw [if_pos rfl, unw_top (r := 7) hT] at g
    exact ⟨[], o ++ c, by rw [List.append_nil], fun x hx => absurd hx (by simp), ⟨fun L' a b => by omega, fun a => by omega⟩, fun r q => g r q⟩
  · rw [if_neg e] at g; exact g
theorem jn_rk {L : Nat} {t : Int32} (hL : L ≤ 4) (h : jnT L t = true) : rkT t = alL L ∧ t ≠ -16 := by
  unfold jnT at h
  unfold alL
  by_cases c0 : L = 0
  · rw [if_pos c0] at h; rw [if_pos c0, of_decide_eq_true h]; decide
  rw [if_neg c0] at h; rw [if_neg c0]
  by_cases c0 : L = 1
  · rw [if_pos c0] at h; rw [if_pos c0, of_decide_eq_true h]; decide
  rw [if_neg c0] at h; rw [if_neg c0]
  by_cases c0 : L = 2
  · rw [if_pos c0] at h; rw [if_pos c0]; rcases of_decide_eq_true h with e | e <;> (rw [e]; decide)
  rw [if_neg c0] at h; rw [if_neg c0]
  by_cases c0 : L = 3
  · rw [if_pos c0] at h; rw [if_pos c0]; rcases of_decide_eq_true h with e | e <;> (rw [e]; decide)
  rw [if_neg c0] at h; rw [if_neg c0]
  by_cases c0 : L = 4
  · rw [if_pos c0] at h; rw [if_pos c0, of_decide_eq_true h]; decide
  · omega
theorem lv_tab : ∀ L, L ≤ 4 → alL L ≤ unL L ∧ alL L < alL (L + 1) ∧ roL L ≤ roL (L + 1) ∧ roL L ≤ alL L ∧ unL L ≤ roL (L + 1) ∧ (L ≠ 2 → unL L = alL L) := by decide
theorem jn_22 {L : Nat} : jnT L (-22) = false := by
  unfold jnT
  by_cases c0 : L = 0
  · rw [if_pos c0]; rfl
  rw [if_neg c0]
  by_cases c0 : L = 1
  · rw [if_pos c0]; rfl
  rw [if_neg c0]
  by_cases c0 : L = 2
  · rw [if_pos c0]; rfl
  rw [if_neg c0]
  by_cases c0 : L = 3
  · rw [if_pos c0]; rfl
  rw [if_neg c0]
  by_cases c0 : L = 4
  · rw [if_pos c0]; rfl
  · rw [if_neg c0]
theorem eq_lp {T : Nat → Int32} {z op L : Nat} {rec : Nat → Nat × Option (List Int32)} (hL : L ≤ 4) {K : List Int32} (hK : ocn K = op) (hT : TopLt (alL L) K) (hrec : ∀ p m K2 o, p ≤ z → ocn K2 = op → TopLt (alL (L + 1)) K2 → (L + 1 ≤ 2 → m = true) → (3 ≤ L + 1 → m = true → lxT T z p ≠ -9) → RE T z (L + 1) K2 o m p (rec p)) (hbd : ∀ p p' c, p ≤ z → rec p = (p', some c) → p < p' ∧ p' ≤ z) (o0 : List Int32) : ∀ (k p : Nat) (c pend o : List Int32), p ≤ z → o ++ pend = o0 ++ c → (k = 0 ∨ ∀ x, x ∈ pend → unL L ≤ rkT x) → (∀ x, x ∈ pend → roL L ≤ rkT x) → (L = 2 → k ≤ 1) → (L ≠ 2 → z - p ≤ k) → Post (L + 1) (lxT T z p) pend → (L = 2 → k = 0 → Spl pend) → (∀ f, lpT T z rec L k p c = (f, none) → Run T z none (pend ++ K) o p (f, none)) ∧ ∀ p' c', lpT T z rec L k p c = (p', some c') → ∃ pend' o', o' ++ pend' = o0 ++ c' ∧ (∀ x, x ∈ pend' → roL L ≤ rkT x) ∧ Post L (lxT T z p') pend' ∧ ∀ r, Run T z none (pend' ++ K) o' p' r → Run T z none (pend ++ K) o p r := by
  obtain ⟨v1, v2, v3, v4, v5, v6⟩ := lv_tab L hL
  intro k
  induction k with
  | zero =>
    intro p c pend o hp he h1 h2 h3 h4 h5 h6
    refine ⟨fun f q => absurd (congrArg Prod.snd q) (by simp [lpT]), fun p' c' q => ?_⟩
    have q' : (p, some c) = (p', some c') := q
    have e1 : p = p' := congrArg Prod.fst q'
    have e2 : c = c' := Option.some.inj (congrArg Prod.snd q')
    subst e1; subst e2
    refine ⟨pend, o, he, h2, ⟨fun L' a b d => ?_, fun a b => ?_⟩, fun r w => w⟩
    · by_cases e : L' = L
      · have hz : z ≤ p := by have := h4 (e ▸ d); omega
        have b := lx_bd (T := T) hp
        have : lxT T z p = -22 := if_pos (by omega)
        rw [this]; exact jn_22
      · exact h5.1 L' (by omega) b d
    · by_cases e : L = 2
      · exact h6 e rfl
      · exact h5.2 (by omega) b
  | succ k ih =>
    intro p c pend o hp he h1 h2 h3 h4 h5 h6
    have ee : lpT T z rec L (k + 1) p c = if jnT L (lxT T z p) = true then rb (rec (lxR T z p)) (fun p2 c2 => lpT T z rec L k p2 (c ++ c2 ++ [lxT T z p])) else (p, some c) := rfl
    rw [ee]
    by_cases j : jnT L (lxT T z p) = true
    · rw [if_pos j]
      obtain ⟨j1, j2⟩ := jn_rk hL j
      obtain ⟨⟨-, -, -, j3⟩, j4⟩ := jn_tok j
      have lt := lx_lt hp j4
      have eu : unw (unL L) (pend ++ K) o = (K, o ++ pend) := by
        rw [unw_app pend K o (h1.resolve_left (by omega)), unw_top (hT.mono v1)]
      have hR := hrec (lxR T z p) (decide (L ≤ 1)) (lxT T z p :: K) (o ++ pend) lt.2.1 (by
        show (if _ then 1 else 0) + ocn K = op
        rw [if_neg (by intro y; rcases y with y | y | y; exact j3 (Or.inl y); exact j3 (Or.inr y); exact j2 y), hK, Nat.zero_add]) (TopLt.cons (by omega)) (fun y => decide_eq_true (by omega)) (fun y w => by have := of_decide_eq_true w; omega)
      have lead : ∀ r, Run T z (some (decide (L ≤ 1))) (lxT T z p :: K) (o ++ pend) (lxR T z p) r → Run T z none (pend ++ K) o p r := fun r w => by
        refine Run.join hL j (fun e x K' q => ?_) (by rw [eu]; exact w)
        rw [eu] at q
        have := hT x K' q
        rw [e] at this
        exact Nat.ne_of_lt this
      rcases hx : rec (lxR T z p) with ⟨p2, oc⟩
      rw [hx] at hR
      cases oc with
      | none =>
        refine ⟨fun f q => lead _ (hR.1 f q), fun p' c' q => absurd (congrArg Prod.snd q) (by simp [rb])⟩
      | some c2 =>
        obtain ⟨pend2, o2, g1, g2, g3, g4⟩ := RE.use (by omega) (TopLt.cons (by omega)) hR
        obtain ⟨d1, d2⟩ := hbd _ _ _ lt.2.1 hx
        have ea : ∀ X : List Int32, pend2 ++ lxT T z p :: X = (pend2 ++ [lxT T z p]) ++ X := fun X => by rw [List.append_assoc]; rfl
        have ranks : ∀ b, b ≤ roL (L + 1) → b ≤ alL L → ∀ x, x ∈ pend2 ++ [lxT T z p] → b ≤ rkT x := fun b b1 b2 x hx => by
          rcases List.mem_append.mp hx with y | y
          · exact Nat.le_trans b1 (g2 x y)
          · have : x = lxT T z p := by simpa using y
            rw [this, j1]; exact b2
        obtain ⟨i1, i2⟩ := ih p2 (c ++ c2 ++ [lxT T z p]) (pend2 ++ [lxT T z p]) o2 d2 (by rw [← List.append_assoc, g1, he]; simp) (by
          by_cases e : L = 2
          · exact Or.inl (by have := h3 e; omega)
          · exact Or.inr (ranks _ v5 (by rw [v6 e]; exact Nat.le_refl _))) (ranks _ v3 v4) (fun e => by have := h3 e; omega) (fun e => by have := h4 e; omega) (g3.app _) (fun e _ => ⟨pend2, lxT T z p, [], rfl, fun y hy => by have := g2 y hy; rw [e] at this; exact this, by rw [j1, e]; rfl⟩)
        refine ⟨fun f q => lead _ (g4 _ (by rw [ea]; exact i1 f q)), fun p' c' q => ?_⟩
        obtain ⟨pn, on, n1, n2, n3, n4⟩ := i2 p' c' q
        exact ⟨pn, on, n1, n2, n3, fun r w => lead _ (g4 _ (by rw [ea]; exact n4 r w))⟩
    · rw [if_neg j]
      refine ⟨fun f q => absurd (congrArg Prod.snd q) (by simp), fun p' c' q => ?_⟩
      have e1 : p = p' := congrArg Prod.fst q
      have e2 : c = c' := Option.some.inj (congrArg Prod.snd q)
      subst e1; subst e2
      refine ⟨pend, o, he, h2, ⟨fun L' a b d => ?_, fun a b => ?_⟩, fun r w => w⟩
      · by_cases e : L' = L
        · rw [e]; simpa using j
        · exact h5.1 L' (by omega) b d
      · by_cases e : L = 2
        · rw [e] at j; exact absurd b j
        · exact h5.2 (by omega) b
/-- what comes behind a whole is neither its end nor a sign: a fault here -/
theorem end_no {T : Nat → Int32} {z p : Nat} {pend K o : List Int32} (hP : Post 0 (lxT T z p) pend) (h8 : lxT T z p = -18 → (unw 1 (pend ++ K) o).1 ≠ []) (h7 : lxT T z p = -17 → (unw 1 (pend ++ K) o).1 = []) : Run T z none (pend ++ K) o p (lxQ T z p, none) := by
  by_cases c1 : lxT T z p = -18
  · exact Run.semiN c1 (h8 c1)
  by_cases c2 : lxT T z p = -17
  · exact Run.closeN c2 (h7 c2)
  by_cases c3 : jnT 2 (lxT T z p) = true
  · obtain ⟨a, x, b, e, h1, h2⟩ := hP.2 (by decide) c3
    have eu : unw 5 (pend ++ K) o = (x :: (b ++ K), o ++ a) := by
      rw [e, List.append_assoc, unw_app _ _ _ h1]
      exact unw_top (TopLt.cons (by omega)) _
    exact Run.joinN (x := x) (K' := b ++ K) c3 (by rw [eu]) h2
  · refine Run.noSign c1 c2 (fun L hL => ?_)
    by_cases e : L = 2
    · rw [e]; simpa using c3
    · exact hP.1 L (Nat.zero_le _) hL e
theorem eq_rd {T : Nat → Int32} {z : Nat} (hz : z ≤ 160) : ∀ (fu L op p : Nat) (m : Bool) (K o : List Int32), L ≤ 5 → op ≤ 5 → (6 - L) + 6 * (5 - op) ≤ fu → p ≤ z → ocn K = op → (L ≤ 4 → TopLt (alL L) K) → (L ≤ 2 → m = true) → (3 ≤ L → m = true → lxT T z p ≠ -9) → RE T z L K o m p (rd T z fu L op p) := by
  intro fu
  induction fu with
  | zero => intro L op p m K o h1 h2 h3; omega
  | succ fu ih =>
    intro L op p m K o hL ho hf hp hK hT hm h9
    have bd : ∀ L' op' p0 p' c, p0 ≤ z → rd T z fu L' op' p0 = (p', some c) → p0 < p' ∧ p' ≤ z := fun L' op' p0 p' c a b => by
      have := rd_bd fu L' op' p0 p' c a b
      exact ⟨this.1, this.2.1⟩
    rw [rd]
    by_cases c5 : L = 5
    · rw [if_pos c5]
      unfold RE
      simp only [if_pos c5]
      by_cases t1 : -6 ≤ lxT T z p
      · rw [if_pos t1]
        refine ⟨fun f q => absurd (congrArg Prod.snd q) (by simp), fun p' c q r w => ?_⟩
        have e1 : lxR T z p = p' := congrArg Prod.fst q
        have e2 : [lxT T z p] = c := Option.some.inj (congrArg Prod.snd q)
        subst e1; subst e2
        exact Run.val t1 w
      · rw [if_neg t1]
        by_cases t2 : lxT T z p = -13
        · rw [if_pos t2]
          have lt := lx_lt hp (by rw [t2]; decide)
          by_cases c : op < 5
          · rw [if_pos c]
            have hR := ih 5 (op + 1) (lxR T z p) false (-15 :: K) o (by omega) (by omega) (by omega) lt.2.1 (by show 1 + ocn K = op + 1; omega) (fun y => by omega) (fun y => by omega) (fun _ y => by simp at y)
            rcases hx : rd T z fu 5 (op + 1) (lxR T z p) with ⟨p2, oc⟩
            rw [hx] at hR
            cases oc with
            | none => exact ⟨fun f q => Run.minus t2 (by omega) (hR.1 f q), fun p' c' q => absurd (congrArg Prod.snd q) (by simp [rb])⟩
            | some c2 =>
              refine ⟨fun f q => absurd (congrArg Prod.snd q) (by simp [rb]), fun p' c' q r w => ?_⟩
              have e1 : p2 = p' := congrArg Prod.fst q
              have e2 : c2 ++ [-15] = c' := Option.some.inj (congrArg Prod.snd q)
              subst e1; subst e2
              have g := hR.2 p2 c2 rfl
              rw [if_pos rfl] at g
              refine Run.minus t2 (by omega) (g r ?_)
              have eu : unw 7 (-15 :: K) (o ++ c2) = unw 7 K (o ++ (c2 ++ [-15])) := by
                show (if rkT (-15) < 7 then _ else unw 7 K (o ++ c2 ++ [-15])) = _
                rw [if_neg (by decide), List.append_assoc]
              rw [eu]; exact w
          · rw [if_neg c]
            refine ⟨fun f q => ?_, fun p' c' q => absurd (congrArg Prod.snd q) (by simp)⟩
            have e1 : lxQ T z p = f := congrArg Prod.fst q
            rw [← e1]
            exact Run.opN (Or.inr (Or.inl t2)) (by omega)
        · rw [if_neg t2]
          by_cases t3 : lxT T z p = -16
          · rw [if_pos t3]
            have lt := lx_lt hp (by rw [t3]; decide)
            by_cases c : op < 5
            · rw [if_pos c]
              have hR := ih 0 (op + 1) (lxR T z p) true (-16 :: K) o (by omega) (by omega) (by omega) lt.2.1 (by show 1 + ocn K = op + 1; omega) (fun _ => TopLt.cons (by decide)) (fun _ => rfl) (fun y => by omega)
              rcases hx : rd T z fu 0 (op + 1) (lxR T z p) with ⟨p2, oc⟩
              rw [hx] at hR
              cases oc with
              | none => exact ⟨fun f q => Run.opening t3 (by omega) (hR.1 f q), fun p' c' q => absurd (congrArg Prod.snd q) (by simp [rb])⟩
              | some c2 =>
                have g := hR.2 p2 c2 rfl
                rw [if_neg (by decide)] at g
                obtain ⟨pend, o', g1, g2, g3, g4⟩ := g
                have eu : unw 1 (pend ++ -16 :: K) o' = (-16 :: K, o ++ c2) := by
                  rw [unw_app (r := 1) _ _ _ g2, unw_top (TopLt.cons (by decide)), g1]
                show (∀ f, (if lxT T z p2 = -17 then (lxR T z p2, some c2) else (lxQ T z p2, none)) = (f, none) → _) ∧ ∀ p' c', (if lxT T z p2 = -17 then (lxR T z p2, some c2) else (lxQ T z p2, none)) = (p', some c') → _
                by_cases t4 : lxT T z p2 = -17
                · rw [if_pos t4]
                  refine ⟨fun f q => absurd (congrArg Prod.snd q) (by simp), fun p' c' q r w => ?_⟩
                  have e1 : lxR T z p2 = p' := congrArg Prod.fst q
                  have e2 : c2 = c' := Option.some.inj (congrArg Prod.snd q)
                  subst e1; subst e2
                  refine Run.opening t3 (by omega) (g4 r (Run.close (x := -16) (K' := K) t4 (by rw [eu]) ?_))
                  rw [eu]; exact w
                · rw [if_neg t4]
                  refine ⟨fun f q => ?_, fun p' c' q => absurd (congrArg Prod.snd q) (by simp)⟩
                  have e1 : lxQ T z p2 = f := congrArg Prod.fst q
                  rw [← e1]
                  exact Run.opening t3 (by omega) (g4 _ (end_no g3 (fun _ => by rw [eu]; simp) (fun y => absurd y t4)))
            · rw [if_neg c]
              refine ⟨fun f q => ?_, fun p' c' q => absurd (congrArg Prod.snd q) (by simp)⟩
              have e1 : lxQ T z p = f := congrArg Prod.fst q
              rw [← e1]
              exact Run.opN (Or.inr (Or.inr t3)) (by omega)
          · rw [if_neg t3]
            refine ⟨fun f q => ?_, fun p' c' q => absurd (congrArg Prod.snd q) (by simp)⟩
            have e1 : lxQ T z p = f := congrArg Prod.fst q
            rw [← e1]
            refine Run.valN t1 t2 t3 (fun y => ?_)
            cases m with
            | false => rfl
            | true => exact absurd y (h9 (by omega) rfl)
    · rw [if_neg c5]
      have hL4 : L ≤ 4 := by omega
      obtain ⟨v1, v2, v3, v4, v5, v6⟩ := lv_tab L hL4
      by_cases c2 : L = 2 ∧ lxT T z p = -9
      · rw [if_pos c2]
        unfold RE
        simp only [if_neg c5]
        obtain ⟨e2, t9⟩ := c2
        have em := hm (by omega)
        subst em
        have lt := lx_lt hp (by rw [t9]; decide)
        by_cases c : op < 5
        · rw [if_pos c]
          have hR := ih 2 (op + 1) (lxR T z p) true (-9 :: K) o (by omega) (by omega) (by omega) lt.2.1 (by show 1 + ocn K = op + 1; omega) (fun _ => TopLt.cons (by decide)) (fun _ => rfl) (fun y => by omega)
          rcases hx : rd T z fu 2 (op + 1) (lxR T z p) with ⟨p2, oc⟩
          rw [hx] at hR
          cases oc with
          | none => exact ⟨fun f q => Run.neither t9 (by omega) (hR.1 f q), fun p' c' q => absurd (congrArg Prod.snd q) (by simp [rb])⟩
          | some c2 =>
            refine ⟨fun f q => absurd (congrArg Prod.snd q) (by simp [rb]), fun p' c' q => ?_⟩
            have e1 : p2 = p' := congrArg Prod.fst q
            have e3 : c2 ++ [-9] = c' := Option.some.inj (congrArg Prod.snd q)
            subst e1; subst e3
            have g := hR.2 p2 c2 rfl
            rw [if_neg (by decide)] at g
            obtain ⟨pend, o', g1, g2, g3, g4⟩ := g
            refine ⟨pend ++ [-9], o', by rw [← List.append_assoc, g1, List.append_assoc], fun x hx => ?_, by rw [e2]; exact g3.app _, fun r w => Run.neither t9 (by omega) (g4 r ?_)⟩
            · rw [e2]
              rcases List.mem_append.mp hx with y | y
              · exact g2 x y
              · have : x = -9 := by simpa using y
                rw [this]; decide
            · rw [List.append_assoc] at w; exact w
        · rw [if_neg c]
          refine ⟨fun f q => ?_, fun p' c' q => absurd (congrArg Prod.snd q) (by simp)⟩
          have e1 : lxQ T z p = f := congrArg Prod.fst q
          rw [← e1]
          exact Run.opN (Or.inl ⟨t9, rfl⟩) (by omega)
      · rw [if_neg c2]
        have hT4 := hT hL4
        have hR := ih (L + 1) op p m K o (by omega) ho (by omega) hp hK (fun _ => hT4.mono (by omega)) (fun y => hm (by omega)) (fun y w => by
          by_cases e : L = 2
          · exact fun q => c2 ⟨e, q⟩
          · exact h9 (by omega) w)
        rcases hx : rd T z fu (L + 1) op p with ⟨p1, oc⟩
        rw [hx] at hR
        unfold RE
        simp only [if_neg c5]
        cases oc with
        | none => exact ⟨fun f q => hR.1 f q, fun p' c' q => absurd (congrArg Prod.snd q) (by simp [rb])⟩
        | some c1 =>
          obtain ⟨pend1, o1, g1, g2, g3, g4⟩ := RE.use (by omega) (hT4.mono (by omega)) hR
          obtain ⟨d1, d2⟩ := bd _ _ _ _ _ hp hx
          obtain ⟨i1, i2⟩ := eq_lp (rec := fun x => rd T z fu (L + 1) op x) hL4 hK hT4 (fun p m K2 o a1 a2 a3 a4 a5 => ih (L + 1) op p m K2 o (by omega) ho (by omega) a1 a2 (fun _ => a3) a4 a5) (fun p p' c a b => bd _ _ _ _ _ a b) o (if L = 2 then 1 else 160) p1 c1 pend1 o1 d2 g1 (Or.inr (fun x hx => Nat.le_trans v5 (g2 x hx))) (fun x hx => Nat.le_trans v3 (g2 x hx)) (fun e => by rw [if_pos e]; exact Nat.le_refl _) (fun e => by rw [if_neg e]; omega) g3 (fun e q => by rw [if_pos e] at q; omega)
          refine ⟨fun f q => g4 _ (i1 f q), fun p' c' q => ?_⟩
          obtain ⟨pn, on, n1, n2, n3, n4⟩ := i2 p' c' q
          exact ⟨pn, on, n1, n2, n3, fun r w => g4 _ (n4 r w)⟩
