/-- may a difference v be made with one stone x more -/
def mwith (T : Nat → Int32) (x v : Nat) : Bool := !(T v == -1) || !(T (if x ≤ v then v - x else x - v) == -1) || !(T (v + x) == -1)
/-- how many of k+1 .. k+m can -/
def cntW (T : Nat → Int32) (x : Nat) : Nat → Nat → Nat
  | 0, _ => 0
  | m + 1, k => (if mwith T x (k + 1) = true then 1 else 0) + cntW T x m (k + 1)
theorem absd (v x : Nat) (hv : v < 1000) (hx : x < 1000) : (if 0 ≤ (nI v - nI x) then (nI v - nI x) else 0 - (nI v - nI x)) = nI (if x ≤ v then v - x else x - v) := by
  have e : (nI v - nI x).toInt = (v : Int) - x := t_sub (nI_toInt (by omega)) (nI_toInt (by omega)) (by omega) (by omega)
  rw [t_abs (by rw [e]; omega), e]
  congr 1
  by_cases h : x ≤ v
  · rw [if_pos h]; omega
  · rw [if_neg h]; omega
theorem s_madeL {x n : Nat} (hx : x < 100) (hn : n < 100) (w : xI) : ∀ (m k c fu : Nat), k + m = n → m < fu → f_X5_madeWith_L5 fu (nI x) (nI n) (nI c) (nI (k + 1)) w = some (nI (c + cntW (w 4) x m k), w) := by
  intro m
  induction m with
  | zero =>
    intro k c fu h1 h2
    obtain ⟨f, rfl⟩ : ∃ f, fu = f + 1 := ⟨fu - 1, by omega⟩
    rw [f_X5_madeWith_L5, if_pos (nI_lt (by omega) (by omega))]; rfl
  | succ m ih =>
    intro k c fu h1 h2
    obtain ⟨f, rfl⟩ : ∃ f, fu = f + 1 := ⟨fu - 1, by omega⟩
    have hd : (if x ≤ k + 1 then k + 1 - x else x - (k + 1)) < 1000 := by
      by_cases h : x ≤ k + 1
      · rw [if_pos h]; omega
      · rw [if_neg h]; omega
    have er : cntW (w 4) x (m + 1) k = (if mwith (w 4) x (k + 1) = true then 1 else 0) + cntW (w 4) x m (k + 1) := rfl
    rw [f_X5_madeWith_L5, if_neg (nI_nlt (by omega) (by omega)), s_makesX w (by omega), absd _ _ (by omega) (by omega), s_makesX w hd, nI_add, s_makesX w (by omega), nI_1, nI_1, er]
    simp only [xlet_eq]
    unfold mwith
    by_cases g1 : w 4 (k + 1) = -1
    · by_cases g2 : w 4 (if x ≤ k + 1 then k + 1 - x else x - (k + 1)) = -1
      · by_cases g3 : w 4 (k + 1 + x) = -1
        · simp only [g1, g2, g3, if_true]
          rw [ih (k + 1) c f (by omega) (by omega)]; simp
        · have g3' : (w 4 (k + 1 + x) == -1) = false := by simpa using g3
          rw [if_pos g1, if_pos trivial, if_pos g2, if_pos trivial, if_neg g3, if_neg (by decide), ih (k + 1) (c + 1) f (by omega) (by omega), g3']
          simp [Nat.add_assoc, Nat.add_comm]
      · have g2' : (w 4 (if x ≤ k + 1 then k + 1 - x else x - (k + 1)) == -1) = false := by simpa using g2
        rw [if_pos g1, if_pos trivial, if_neg g2, if_neg (by decide), ih (k + 1) (c + 1) f (by omega) (by omega), g2']
        simp [Nat.add_assoc, Nat.add_comm]
    · have g1' : (w 4 (k + 1) == -1) = false := by simpa using g1
      rw [if_neg g1, if_neg (by decide), ih (k + 1) (c + 1) f (by omega) (by omega), g1']
      simp [Nat.add_assoc, Nat.add_comm]
/-- the best of the stones x+1 .. 99: which, and how many differences -/
def bestOwn (T : Nat → Int32) (n : Nat) : Nat → Nat → Int32 → Int32 → Int32 × Int32
  | 0, _, b, v => (b, v)
  | m + 1, k, b, v => if nI (cntW T (k + 1) n 0) ≤ v then bestOwn T n m (k + 1) b v else bestOwn T n m (k + 1) (nI (k + 1)) (nI (cntW T (k + 1) n 0))
theorem s_ownX {n : Nat} (hn : n < 100) (v2 : Int32) (w : xI) : ∀ (m k fu : Nat) (b v : Int32), k + m = 99 → m < fu → f_X10_own_L44 fu (nI n) v2 b v (nI (k + 1)) w = some (if v2 = 0 then (bestOwn (w 4) n m k b v).1 else (bestOwn (w 4) n m k b v).2, w) := by
  intro m
  induction m with
  | zero =>
    intro k fu b v h1 h2
    obtain ⟨f, rfl⟩ : ∃ f, fu = f + 1 := ⟨fu - 1, by omega⟩
    rw [f_X10_own_L44, if_pos (show (99 : Int32) < nI (k + 1) from nI_lt (a := 99) (by omega) (by omega))]
    by_cases h : v2 = 0
    · rw [if_pos h, if_pos h]; rfl
    · rw [if_neg h, if_neg h]; rfl
  | succ m ih =>
    intro k fu b v h1 h2
    obtain ⟨f, rfl⟩ : ∃ f, fu = f + 1 := ⟨fu - 1, by omega⟩
    have e := s_madeL (x := k + 1) (by omega) hn w n 0 0 2000 (by omega) (by omega)
    rw [Nat.zero_add, nI_0] at e
    have er : bestOwn (w 4) n (m + 1) k b v = if nI (cntW (w 4) (k + 1) n 0) ≤ v then bestOwn (w 4) n m (k + 1) b v else bestOwn (w 4) n m (k + 1) (nI (k + 1)) (nI (cntW (w 4) (k + 1) n 0)) := rfl
    rw [f_X10_own_L44, if_neg (show ¬ (99 : Int32) < nI (k + 1) from nI_nlt (a := 99) (by omega) (by omega)), f_X5_madeWith, show (1 : Int32) = nI (0 + 1) from rfl, e, xbind_some, xlet_eq, xlet_eq, nI_add, Nat.zero_add, Nat.zero_add, er]
    by_cases h : nI (cntW (w 4) (k + 1) n 0) ≤ v
    · rw [if_pos h, if_pos h]; exact ih (k + 1) f b v (by omega) (by omega)
    · rw [if_neg h, if_neg h]; exact ih (k + 1) f _ _ (by omega) (by omega)
theorem s_apart {γ : Type} {v x : Nat} (w : xI) (hv : v < 1000) (hx : x < 1000) (K : Int32 → xI → Option γ) : xbind (f_X11_apart (nI v) (nI x) w) K = K (nI (if x ≤ v then v - x else x - v)) w := by
  unfold f_X11_apart
  by_cases h : x ≤ v
  · rw [if_pos (nI_le h (by omega)), if_pos h, xbind_some, pk_sub h]
  · rw [if_neg (nI_ge (a := v) (b := x) (by omega) (by omega)), if_neg h, xbind_some, pk_sub (by omega)]
theorem s_ownIn (K : Int32 → Int32 → Int32 → Int32 → Int32 → xI → Option (Int32 × xI)) (U : Nat → Int32) {x n : Nat} (hx : x < 100) (hn : n < 100) (v2 b v : Int32) (w : xI) (hU : ∀ d, d < 1000 → w 95 d = U d) : ∀ (m k c fu : Nat), k + m = n → m < fu → f_X11_own_L58 K fu (nI n) v2 b v (nI x) (nI c) (nI (k + 1)) w = if nI (c + cntW U x m k) ≤ v then K (nI n) v2 b v (nI (x + 1)) w else K (nI n) v2 (nI x) (nI (c + cntW U x m k)) (nI (x + 1)) w := by
  intro m
  induction m with
  | zero =>
    intro k c fu h1 h2
    obtain ⟨f, rfl⟩ : ∃ f, fu = f + 1 := ⟨fu - 1, by omega⟩
    rw [f_X11_own_L58, if_pos (nI_lt (by omega) (by omega))]
    simp only [xlet_eq, nI_1]
    show _ = if nI c ≤ v then _ else K (nI n) v2 (nI x) (nI c) (nI (x + 1)) w
    by_cases h : nI c ≤ v
    · rw [if_pos h, if_pos h, if_pos h]
    · rw [if_neg h, if_neg h, if_neg h]
  | succ m ih =>
    intro k c fu h1 h2
    obtain ⟨f, rfl⟩ : ∃ f, fu = f + 1 := ⟨fu - 1, by omega⟩
    have hd : (if x ≤ k + 1 then k + 1 - x else x - (k + 1)) < 1000 := by
      by_cases h : x ≤ k + 1
      · rw [if_pos h]; omega
      · rw [if_neg h]; omega
    have er : cntW U x (m + 1) k = (if mwith U x (k + 1) = true then 1 else 0) + cntW U x m (k + 1) := rfl
    rw [f_X11_own_L58, if_neg (nI_nlt (by omega) (by omega)), xin_nI (by omega) (by decide), xchk_true, nI_clamp (by omega), s_apart w (by omega) (by omega), xin_nI hd (by decide), xchk_true, nI_clamp (by omega), nI_add, xin_nI (by omega) (by decide), xchk_true, nI_clamp (by omega), hU _ (by omega), hU _ hd, hU _ (by omega), er]
    unfold f_X11_own_L105
    simp only [xlet_eq, nI_1, Int32.add_zero]
    unfold mwith
    rw [if_neg (show ¬ (1 : Int32) = 0 by decide)]
    by_cases g1 : U (k + 1) = -1
    · by_cases g2 : U (if x ≤ k + 1 then k + 1 - x else x - (k + 1)) = -1
      · by_cases g3 : U (k + 1 + x) = -1
        · simp only [g1, g2, g3, if_true]
          rw [ih (k + 1) c f (by omega) (by omega)]; simp
        · have g3' : (U (k + 1 + x) == -1) = false := by simpa using g3
          rw [if_pos g1, if_pos g2, if_neg g3, ih (k + 1) (c + 1) f (by omega) (by omega), g3']
          simp [Nat.add_assoc, Nat.add_comm]
      · have g2' : (U (if x ≤ k + 1 then k + 1 - x else x - (k + 1)) == -1) = false := by simpa using g2
        rw [if_pos g1, if_neg g2, ih (k + 1) (c + 1) f (by omega) (by omega), g2']
        simp [Nat.add_assoc, Nat.add_comm]
    · have g1' : (U (k + 1) == -1) = false := by simpa using g1
      rw [if_neg g1, ih (k + 1) (c + 1) f (by omega) (by omega), g1']
      simp [Nat.add_assoc, Nat.add_comm]
