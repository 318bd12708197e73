theorem s_ownM {n : Nat} (U : Nat → Int32) (hn : n < 100) (v2 : Int32) (w : xI) (hU : ∀ d, d < 1000 → w 95 d = U d) : ∀ (m k fu : Nat) (b v : Int32), k + m = 99 → m < fu → f_X11_own_L45 fu (nI n) v2 b v (nI (k + 1)) w = some (if v2 = 0 then (bestOwn U n m k b v).1 else (bestOwn U n m k b v).2, w) := by
  intro m
  induction m with
  | zero =>
    intro k fu b v h1 h2
    obtain ⟨f, rfl⟩ : ∃ f, fu = f + 1 := ⟨fu - 1, by omega⟩
    rw [f_X11_own_L45, if_pos (show (99 : Int32) < nI (k + 1) from nI_lt (a := 99) (by omega) (by omega))]
    by_cases h : v2 = 0
    · rw [if_pos h, if_pos h]; rfl
    · rw [if_neg h, if_neg h]; rfl
  | succ m ih =>
    intro k fu b v h1 h2
    obtain ⟨f, rfl⟩ : ∃ f, fu = f + 1 := ⟨fu - 1, by omega⟩
    have er : bestOwn U n (m + 1) k b v = if nI (cntW U (k + 1) n 0) ≤ v then bestOwn U n m (k + 1) b v else bestOwn U n m (k + 1) (nI (k + 1)) (nI (cntW U (k + 1) n 0)) := rfl
    have e := s_ownIn (fun a1 a2 a3 a4 a5 w => f_X11_own_L45 f a1 a2 a3 a4 a5 w) U (x := k + 1) (by omega) hn v2 b v w hU n 0 0 2000 (by omega) (by omega)
    rw [Nat.zero_add, Nat.zero_add, nI_0] at e
    rw [f_X11_own_L45, if_neg (show ¬ (99 : Int32) < nI (k + 1) from nI_nlt (a := 99) (by omega) (by omega)), er]
    refine e.trans ?_
    by_cases h : nI (cntW U (k + 1) n 0) ≤ v
    · rw [if_pos h, if_pos h]; exact ih (k + 1) f b v (by omega) (by omega)
    · rw [if_neg h, if_neg h]; exact ih (k + 1) f _ _ (by omega) (by omega)
theorem cntW_le (T : Nat → Int32) (x : Nat) : ∀ m k, cntW T x m k ≤ m := by
  intro m
  induction m with
  | zero => intro k; exact Nat.le_refl _
  | succ m ih =>
    intro k
    have e := ih (k + 1)
    show (if mwith T x (k + 1) = true then 1 else 0) + cntW T x m (k + 1) ≤ m + 1
    by_cases h : mwith T x (k + 1) = true
    · rw [if_pos h]; omega
    · rw [if_neg h]; omega
theorem own_first (T : Nat → Int32) {n : Nat} (hn : n < 100) : bestOwn T n 99 0 0 (-1) = bestOwn T n 99 0 1 0 := by
  have hc := cntW_le T 1 n 0
  show (if nI (cntW T 1 n 0) ≤ -1 then bestOwn T n 98 1 0 (-1) else bestOwn T n 98 1 (nI 1) (nI (cntW T 1 n 0))) = (if nI (cntW T 1 n 0) ≤ 0 then bestOwn T n 98 1 1 0 else bestOwn T n 98 1 (nI 1) (nI (cntW T 1 n 0)))
  rw [if_neg (fun z => absurd (Int32.le_trans (nI_pos' (by omega)) z) (by decide))]
  by_cases h : nI (cntW T 1 n 0) ≤ 0
  · rw [if_pos h]
    have e : cntW T 1 n 0 = 0 := Nat.le_zero.mp ((nI_leI (a := cntW T 1 n 0) (b := 0) (by omega) (by omega)).mp h)
    rw [e]; rfl
  · rw [if_neg h]
theorem op_own (a1 : Int32) (a2 : Int32) : OpI (f_X10_own a1 a2) (f_X11_own a1 a2) := by
  intro w hR
  by_cases h : 0 ≤ a1 ∧ a1 ≤ 99
  · by_cases h2 : 0 ≤ a2 ∧ a2 ≤ 1
    · obtain ⟨d, hd, rfl⟩ := nI_bd (n := 99) (by decide) h.1 h.2
      obtain ⟨T, m1, m2, m3⟩ := hR.made
      obtain ⟨s1, s2, -⟩ := hR.st
      obtain ⟨n, hn, en⟩ := nI_bd (n := 5) (by decide) s2.1 s2.2
      have em : w 71 1 = nI n := by rw [s1, en]
      by_cases h5 : n = 5
      · subst h5
        exact OpI.q (-3) w w (by rw [f_X10_own, s_within, if_pos h, if_neg (by decide), s_within, if_pos h2, if_neg (by decide), en, if_neg (by decide)]) (by rw [f_X11_own, s_in, if_pos h, if_neg (by decide), s_in, if_pos h2, if_neg (by decide), em, if_pos (show nI 5 = (5 : Int32) from rfl)]) hR
      · have c1 : nI n < (5 : Int32) := nI_lt (a := n) (b := 5) (by omega) (by omega)
        have c2 : ¬ nI n = (5 : Int32) := fun z => h5 ((nI_eq (a := n) (b := 5) (by omega) (by omega)).mp z)
        refine OpI.q (if a2 = 0 then (bestOwn (w 4) d 99 0 0 (-1)).1 else (bestOwn (w 4) d 99 0 0 (-1)).2) w (xuc w 95 T) ?_ ?_ m2
        · rw [f_X10_own, s_within, if_pos h, if_neg (by decide), s_within, if_pos h2, if_neg (by decide), en, if_pos c1, own_first (w 4) (by omega)]
          exact s_ownX (by omega) a2 w 99 0 2000 1 0 (by omega) (by omega)
        · rw [f_X11_own, s_in, if_pos h, if_neg (by decide), s_in, if_pos h2, if_neg (by decide), em, if_neg c2, m1, xbind_some]
          exact s_ownM (w 4) (by omega) a2 (xuc w 95 T) (fun d hd => by rw [xuc_same]; exact m3 d hd) 99 0 2000 0 (-1) (by omega) (by omega)
    · exact OpI.q (-2) w w (by rw [f_X10_own, s_within, if_pos h, if_neg (by decide), s_within, if_neg h2, if_pos rfl]) (by rw [f_X11_own, s_in, if_pos h, if_neg (by decide), s_in, if_neg h2, if_pos rfl]) hR
  · exact OpI.q (-2) w w (by rw [f_X10_own, s_within, if_neg h, if_pos rfl]) (by rw [f_X11_own, s_in, if_neg h, if_pos rfl]) hR
