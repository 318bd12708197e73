def cntU (T : Nat → Int32) : Nat → Nat
  | 0 => 0
  | m + 1 => cntU T m + (if T (m + 1) = -1 then 0 else 1)
def firU (T : Nat → Int32) : Nat → Int32 → Int32
  | 0, v => v
  | m + 1, v => firU T m (if T (m + 1) = -1 then nI (m + 1) else v)
theorem cntU_le (T : Nat → Int32) (m : Nat) : cntU T m ≤ m := by
  induction m with
  | zero => exact Nat.le_refl _
  | succ m ih =>
    show cntU T m + (if T (m + 1) = -1 then 0 else 1) ≤ m + 1
    by_cases h : T (m + 1) = -1
    · rw [if_pos h]; omega
    · rw [if_neg h]; omega
theorem nI_m1 {k : Nat} (h : k < 2 ^ 31) : ¬ nI k = -1 := fun z => absurd (z ▸ nI_pos' h : (0 : Int32) ≤ -1) (by decide)
theorem firU_v (T : Nat → Int32) : ∀ (k : Nat) (v : Int32), k < 1000 → firU T k v = if firU T k (-1) = -1 then v else firU T k (-1) := by
  intro k
  induction k with
  | zero => intro v _; show v = if (-1 : Int32) = -1 then v else -1; rw [if_pos rfl]
  | succ k ih =>
    intro v hk
    show firU T k (if T (k + 1) = -1 then nI (k + 1) else v) = if firU T k (if T (k + 1) = -1 then nI (k + 1) else -1) = -1 then v else firU T k (if T (k + 1) = -1 then nI (k + 1) else -1)
    by_cases h : T (k + 1) = -1
    · simp only [if_pos h]
      have e := ih (nI (k + 1)) (by omega)
      by_cases h2 : firU T k (-1) = -1
      · rw [if_pos h2] at e; rw [e, if_neg (nI_m1 (by omega))]
      · rw [if_neg h2] at e; rw [e, if_neg h2]
    · simp only [if_neg h]
      exact ih v (by omega)
theorem s_makesX {γ : Type} {d : Nat} (w : xI) (hd : d < 1000) (K : Int32 → xI → Option γ) : xbind (f_X5_makes (nI d) w) K = if w 4 d = -1 then K 0 w else K 1 w := by
  unfold f_X5_makes
  rw [s_fewest w hd]
  by_cases h : w 4 d = -1
  · rw [if_pos h, if_pos h]; rfl
  · rw [if_neg h, if_neg h]; rfl
theorem s_makingsX {n : Nat} (hn : n < 1000) (v2 : Int32) (w : xI) : ∀ (m k fu : Nat), k + m = n → m < fu → f_X10_makings_L27 fu (nI n) v2 (nI (cntU (w 4) k)) (firU (w 4) k (-1)) (nI (k + 1)) w = some (if v2 = 0 then nI (cntU (w 4) n) else firU (w 4) n (-1), w) := by
  intro m
  induction m with
  | zero =>
    intro k fu h1 h2
    obtain ⟨f, rfl⟩ : ∃ f, fu = f + 1 := ⟨fu - 1, by omega⟩
    have hk : k = n := by omega
    subst hk
    rw [f_X10_makings_L27, if_pos (nI_lt (by omega) (by omega))]
    by_cases h : v2 = 0
    · rw [if_pos h, if_pos h]
    · rw [if_neg h, if_neg h]
  | succ m ih =>
    intro k fu h1 h2
    obtain ⟨f, rfl⟩ : ∃ f, fu = f + 1 := ⟨fu - 1, by omega⟩
    have go := ih (k + 1) f (by omega) (by omega)
    have ec : cntU (w 4) (k + 1) = cntU (w 4) k + (if w 4 (k + 1) = -1 then 0 else 1) := rfl
    have ef : firU (w 4) (k + 1) (-1) = firU (w 4) k (if w 4 (k + 1) = -1 then nI (k + 1) else -1) := rfl
    rw [ec, ef] at go
    rw [f_X10_makings_L27, if_neg (nI_nlt (by omega) (by omega)), s_makesX w (by omega), nI_1, nI_1, xlet_eq, xlet_eq, xlet_eq, xlet_eq]
    by_cases h : w 4 (k + 1) = -1
    · rw [if_pos h] at go ⊢
      rw [if_pos h, firU_v _ _ _ (by omega), Nat.add_zero] at go
      rw [if_pos rfl]
      by_cases h3 : firU (w 4) k (-1) = -1
      · rw [if_pos h3] at go ⊢; exact go
      · rw [if_neg h3] at go ⊢; exact go
    · rw [if_neg h] at go ⊢
      rw [if_neg h] at go
      rw [if_neg (by decide)]
      exact go
theorem s_makingsM (U : Nat → Int32) (v2 : Int32) (w : xI) (hU : ∀ d, d < 1000 → w 95 d = U d) : ∀ (m c fu : Nat) (v : Int32), m < 1000 → m < fu → f_X11_makings_L35 fu v2 (nI c) v (nI m) w = some (if v2 = 0 then nI (c + cntU U m) else firU U m v, w) := by
  intro m
  induction m with
  | zero =>
    intro c fu v h1 h2
    obtain ⟨f, rfl⟩ : ∃ f, fu = f + 1 := ⟨fu - 1, by omega⟩
    rw [f_X11_makings_L35, if_pos (show nI 0 < (1 : Int32) by decide)]
    by_cases h : v2 = 0
    · rw [if_pos h, if_pos h]; rfl
    · rw [if_neg h, if_neg h]; rfl
  | succ m ih =>
    intro c fu v h1 h2
    obtain ⟨f, rfl⟩ : ∃ f, fu = f + 1 := ⟨fu - 1, by omega⟩
    have e1 : nI (m + 1) + (-1 : Int32) = nI m := by rw [← nI_pred m, Int32.sub_eq_add_neg]
    rw [f_X11_makings_L35, if_neg (show ¬ nI (m + 1) < (1 : Int32) from nI_nlt (b := 1) (by omega) (by omega)), xin_nI (by omega) (by decide), xchk_true, nI_clamp (by omega), hU _ (by omega)]
    have ec : cntU U (m + 1) = cntU U m + (if U (m + 1) = -1 then 0 else 1) := rfl
    have ef : firU U (m + 1) v = firU U m (if U (m + 1) = -1 then nI (m + 1) else v) := rfl
    by_cases h : U (m + 1) = -1
    · rw [if_pos h] at ec ef
      rw [if_pos h]
      unfold f_X11_makings_L58
      rw [xlet_eq, xin_nI (by omega) (by decide), xchk_true, nI_clamp (by omega), hU _ (by omega), if_pos h, xlet_eq, e1, show nI c + (0 : Int32) = nI c from Int32.add_zero _]
      show f_X11_makings_L35 f v2 (nI c) (nI (m + 1)) (nI m) w = _
      rw [ih c f _ (by omega) (by omega), ec, ef]; rfl
    · rw [if_neg h] at ec ef
      rw [if_neg h]
      unfold f_X11_makings_L58
      rw [xlet_eq, xin_nI (by omega) (by decide), xchk_true, nI_clamp (by omega), hU _ (by omega), if_neg h, xlet_eq, e1, nI_1]
      show f_X11_makings_L35 f v2 (nI (c + 1)) v (nI m) w = _
      rw [ih (c + 1) f _ (by omega) (by omega), ec, ef, show c + 1 + cntU U m = c + (cntU U m + 1) by omega]
theorem op_makings (a1 : Int32) (a2 : Int32) : OpI (f_X10_makings a1 a2) (f_X11_makings a1 a2) := by
  intro w hR
  by_cases h : 0 ≤ a1 ∧ a1 ≤ 999
  · by_cases h2 : 0 ≤ a2 ∧ a2 ≤ 1
    · obtain ⟨d, hd, rfl⟩ := nI_bd (n := 999) (by decide) h.1 h.2
      obtain ⟨T, m1, m2, m3⟩ := hR.made
      refine OpI.q (if a2 = 0 then nI (cntU (w 4) d) else firU (w 4) d (-1)) w (xuc w 95 T) ?_ ?_ m2
      · rw [f_X10_makings, s_diffX, if_pos h, if_neg (by decide), s_within, if_pos h2, if_neg (by decide)]
        exact s_makingsX (by omega) a2 w d 0 2000 (by omega) (by omega)
      · rw [f_X11_makings, s_in, if_pos h, if_neg (by decide), s_in, if_pos h2, if_neg (by decide), m1, xbind_some]
        have g := s_makingsM (w 4) a2 (xuc w 95 T) (fun d hd => by rw [xuc_same]; exact m3 d hd) d 0 2000 (-1) (by omega) (by omega)
        rw [Nat.zero_add, nI_0] at g
        exact g
    · exact OpI.q (-2) w w (by rw [f_X10_makings, s_diffX, if_pos h, if_neg (by decide), s_within, if_neg h2, if_pos rfl]) (by rw [f_X11_makings, s_in, if_pos h, if_neg (by decide), s_in, if_neg h2, if_pos rfl]) hR
  · exact OpI.q (-2) w w (by rw [f_X10_makings, s_diffX, if_neg h, if_pos rfl]) (by rw [f_X11_makings, s_in, if_neg h, if_pos rfl]) hR
