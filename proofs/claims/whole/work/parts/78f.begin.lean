-- ===== how it all begins =====
def C90 : Nat → Int32 := (upd (upd (upd (upd (upd (upd (upd (upd (upd (upd (upd (upd (upd (upd (upd (upd (upd (upd (upd (upd (upd (upd (upd (upd (upd (upd (upd (upd (upd (upd (upd (upd (upd (upd (fun _ => 0) 0 109) 1 97) 2 121) 3 32) 4 49) 5 32) 6 59) 7 32) 8 102) 9 105) 10 110) 11 101) 12 32) 13 111) 14 102) 15 102) 16 32) 17 42) 18 32) 19 50) 20 32) 21 59) 22 32) 23 116) 24 111) 25 108) 26 108) 27 32) 28 104) 29 111) 30 117) 31 114) 32 32) 33 59)
def C91 : Nat → Int32 := (upd (upd (upd (upd (upd (upd (upd (upd (upd (upd (upd (upd (upd (upd (upd (upd (upd (upd (upd (upd (upd (upd (upd (upd (upd (upd (upd (upd (upd (upd (upd (upd (upd (upd (upd (upd (upd (upd (upd (upd (upd (upd (upd (upd (upd (upd (upd (upd (upd (upd (upd (upd (upd (upd (upd (upd (upd (upd (upd (upd (upd (upd (upd (upd (upd (upd (upd (upd (upd (upd (upd (upd (upd (upd (upd (upd (upd (upd (upd (upd (upd (upd (upd (upd (upd (upd (upd (upd (upd (upd (upd (upd (upd (upd (upd (upd (fun _ => 0) 0 109) 1 97) 2 121) 3 32) 4 32) 5 32) 6 32) 7 32) 8 102) 9 105) 10 110) 11 101) 12 32) 13 32) 14 32) 15 32) 16 116) 17 111) 18 108) 19 108) 20 32) 21 32) 22 32) 23 32) 24 105) 25 110) 26 32) 27 32) 28 32) 29 32) 30 32) 31 32) 32 111) 33 117) 34 116) 35 32) 36 32) 37 32) 38 32) 39 32) 40 111) 41 102) 42 102) 43 32) 44 32) 45 32) 46 32) 47 32) 48 104) 49 111) 50 117) 51 114) 52 32) 53 32) 54 32) 55 32) 56 109) 57 97) 58 110) 59 121) 60 32) 61 32) 62 32) 63 32) 64 115) 65 116) 66 111) 67 110) 68 101) 69 115) 70 32) 71 32) 72 111) 73 114) 74 32) 75 32) 76 32) 77 32) 78 32) 79 32) 80 97) 81 110) 82 100) 83 32) 84 32) 85 32) 86 32) 87 32) 88 110) 89 111) 90 116) 91 32) 92 32) 93 32) 94 32) 95 32)
theorem C90_eq : ∀ j, j < 34 → C90 j = TT j := by decide
theorem C91_eq : ∀ j, j < 96 → C91 j = xWords.getD j 0 := by decide
theorem xz_z {w : xI} {q k : Nat} (h : w q = fun _ => 0) : xzero w k q = fun _ => 0 := by
  unfold xzero
  by_cases c : q = k
  · rw [if_pos c]
  · rw [if_neg c]; exact h
theorem xz_n {w : xI} {q k : Nat} {X : Nat → Int32} (e : q ≠ k) (h : w q = X) : xzero w k q = X := by
  unfold xzero
  rw [if_neg e]; exact h
theorem xu_n {w : xI} {q k j : Nat} {x : Int32} {X : Nat → Int32} (e : q ≠ k) (h : w q = X) : xup w k j x q = X := by
  rw [xup_ne _ _ _ e]; exact h
def W33 (w : xI) : xI := (xzero (xup (xzero (xzero (xup (xzero (xzero (xup (xzero (xzero (xup (xzero (xzero (xzero (xzero (xzero (xzero (xzero (xzero (xzero (xzero (xzero (xzero (xzero (xzero (xzero (xzero (xzero (xzero (xzero (xzero (xzero (xzero (xzero (xzero (xzero (xzero (xzero (xzero (xzero (xzero (xzero (xzero (xzero (xzero (xzero (xzero (xzero (xzero (xzero (xzero (xzero (xzero (xzero (xzero (xzero (xzero (xzero (xzero (xzero (xzero (xzero (xzero (xzero (xzero (xzero (xzero (xzero (xzero (xzero w 5) 6) 7) 8) 9) 10) 11) 12) 13) 14) 15) 16) 17) 18) 19) 20) 21) 22) 23) 24) 25) 26) 27) 28) 29) 30) 31) 32) 33) 34) 35) 36) 37) 38) 39) 40) 41) 42) 43) 44) 45) 46) 47) 48) 49) 50) 51) 52) 53) 54) 55) 56) 57) 58) 59) 60) 61) 62) 63) 63 0 (-1)) 64) 65) 65 0 (-1)) 66) 67) 67 0 (-1)) 68) 69) 69 0 (-1)) 70)
theorem W33_lt (w : xI) {q : Nat} (h : q < 5) : W33 w q = w q := by
  unfold W33
  repeat (first | rfl | refine xz_n (by omega) ?_ | refine xu_n (by omega) ?_)
theorem W33_z {w : xI} {q : Nat} (hw : w q = fun _ => 0) (h : q ≠ 63 ∧ q ≠ 65 ∧ q ≠ 67 ∧ q ≠ 69) : W33 w q = fun _ => 0 := by
  unfold W33
  repeat (first | exact hw | refine xz_z ?_ | refine xu_n (by omega) ?_)
theorem W33_sh (w : xI) : ∀ s, s < 4 → W33 w (63 + 2 * s) 0 = -1 ∧ W33 w (63 + 2 * s) 1 = 0 := fun s hs => match s, hs with
  | 0, _ => ⟨rfl, rfl⟩
  | 1, _ => ⟨rfl, rfl⟩
  | 2, _ => ⟨rfl, rfl⟩
  | 3, _ => ⟨rfl, rfl⟩
  | k + 4, h => absurd h (by omega)
def W00 : xI := xzero (xzero (xup (xup (xup (xzero (xzero (xzero (fun _ _ => 0) 0) 1) 2) 2 0 (1 : Int32)) 2 1 (1 : Int32)) 2 2 (0 : Int32)) 3) 4
theorem W00_z {q : Nat} (h : q ≠ 2) : W00 q = fun _ => 0 := by
  unfold W00
  repeat (first | rfl | refine xz_z ?_ | refine xu_n h ?_)
theorem ge_8 (w : xI) : g_8 w = some ((), w) := rfl
theorem ge_9 (w : xI) : g_9 w = some ((), w) := rfl
theorem ge_10 (w : xI) : g_10 w = some ((), w) := rfl
theorem ge_11 (w : xI) : g_11 w = some ((), w) := rfl
theorem ge_12 (w : xI) : g_12 w = some ((), w) := rfl
theorem ge_13 (w : xI) : g_13 w = some ((), w) := rfl
theorem ge_14 (w : xI) : g_14 w = some ((), w) := rfl
theorem ge_15 (w : xI) : g_15 w = some ((), w) := rfl
theorem ge_16 (w : xI) : g_16 w = some ((), w) := rfl
theorem ge_17 (w : xI) : g_17 w = some ((), w) := rfl
theorem ge_19 (w : xI) : g_19 w = some ((), (xzero w 20)) := rfl
theorem ge_21 (w : xI) : g_21 w = some ((), (xzero (xzero (xzero w 22) 23) 24)) := rfl
theorem ge_25 (w : xI) : g_25 w = some ((), (xzero (xzero w 26) 27)) := rfl
theorem ge_28 (w : xI) : g_28 w = some ((), (xzero (xzero (xzero w 29) 30) 31)) := rfl
theorem ge_33 (w : xI) : g_33 w = some ((), (xzero (xzero (xzero (xzero w 34) 35) 36) 37)) := rfl
theorem ge_39 (w : xI) : g_39 w = some ((), (xzero (xzero (xzero w 40) 41) 42)) := rfl
theorem ge_43 (w : xI) : g_43 w = some ((), (xzero (xzero (xzero w 44) 45) 46)) := rfl
theorem ge_47 (w : xI) : g_47 w = some ((), (xzero (xzero (xzero w 48) 49) 50)) := rfl
theorem ge_51 (w : xI) : g_51 w = some ((), (xzero (xzero (xzero w 52) 53) 54)) := rfl
theorem ge_55 (w : xI) : g_55 w = some ((), (xzero (xzero (xzero w 56) 57) 58)) := rfl
theorem ge_59 (w : xI) : g_59 w = some ((), (xzero (xzero (xzero w 60) 61) 62)) := rfl
theorem ge_63 (w : xI) : g_63 w = some ((), (xzero (xup w 63 0 (-1 : Int32)) 64)) := rfl
theorem ge_65 (w : xI) : g_65 w = some ((), (xzero (xup w 65 0 (-1 : Int32)) 66)) := rfl
theorem ge_67 (w : xI) : g_67 w = some ((), (xzero (xup w 67 0 (-1 : Int32)) 68)) := rfl
theorem ge_69 (w : xI) : g_69 w = some ((), (xzero (xup w 69 0 (-1 : Int32)) 70)) := rfl
theorem ge_5 (w : xI) : g_5 w = some ((), (xzero (xzero (xzero (xzero (xzero (xzero (xzero (xzero (xzero (xzero (xzero (xzero w 6) 7) 8) 9) 10) 11) 12) 13) 14) 15) 16) 17)) := by
  unfold g_5
  rw [ge_8, xbind_some, ge_9, xbind_some, ge_10, xbind_some, ge_11, xbind_some, ge_12, xbind_some, ge_13, xbind_some, ge_14, xbind_some, ge_15, xbind_some, ge_16, xbind_some, ge_17, xbind_some]
theorem ge_1 {T : Nat → Int32} (hT : f_X5_layAll W00 = some ((), xuc W00 4 T)) : g_1 (xzero (xzero (fun _ _ => 0) 0) 1) = some ((), xuc W00 4 T) := by
  unfold g_1
  have e : xzero (xzero (xup (xup (xup (xzero (xzero (xzero (fun _ _ => 0) 0) 1) 2) 2 0 (1 : Int32)) 2 1 (1 : Int32)) 2 2 (0 : Int32)) 3) 4 = W00 := rfl
  rw [e, hT, xbind_some]
theorem g0_eq {T : Nat → Int32} (hT : f_X5_layAll W00 = some ((), xuc W00 4 T)) : g_0 (xzero (fun _ _ => 0) 0) = f_X10_init_L185 2000 (nI 0) (W33 (xuc W00 4 T)) := by
  unfold g_0
  rw [ge_1 hT, xbind_some, ge_5, xbind_some, ge_19, xbind_some, ge_21, xbind_some, ge_25, xbind_some, ge_28, xbind_some, ge_33, xbind_some, ge_39, xbind_some, ge_43, xbind_some, ge_47, xbind_some, ge_51, xbind_some, ge_55, xbind_some, ge_59, xbind_some, ge_63, xbind_some, ge_65, xbind_some, ge_67, xbind_some, ge_69, xbind_some, nI_0]
  generalize xuc W00 4 T = w
  generalize f_X10_init_L185 = F
  unfold W33
  rfl
theorem by_tab : xLen.getD 0 0 = 34 ∧ ∀ i, i < 34 → (xByt.getD 0 []).getD i 0 = FL.getD i 0 := by decide
theorem gd_hi : ∀ (l : List Int32) (i : Nat), l.length ≤ i → l.getD i 0 = 0 := by
  intro l
  induction l with
  | nil => intro i _; rfl
  | cons x l ih =>
    intro i h
    cases i with
    | zero => exact absurd h (by simp)
    | succ i => exact ih i (by simpa using h)
theorem TT_hi {j : Nat} (h : 34 ≤ j) : TT j = 0 := gd_hi FL j h
theorem s_putsL : ∀ (k i fu : Nat) (w : xI), i + k = 34 → k < fu → w 19 1 = nI i → (∀ j, w 20 j = if j < i then TT j else 0) → ∃ g w', f_X10_init_L185 fu (nI i) w = f_X10_init_L185 (g + 1) (nI 34) w' ∧ w' 19 1 = nI 34 ∧ w' 20 = TT ∧ ∀ q, q ≠ 19 → q ≠ 20 → w' q = w q := by
  intro k
  induction k with
  | zero =>
    intro i fu w e hf h1 h2
    obtain ⟨g, rfl⟩ : ∃ g, fu = g + 1 := ⟨fu - 1, by omega⟩
    have ei : i = 34 := by omega
    subst ei
    refine ⟨g, w, rfl, h1, funext fun j => ?_, fun _ _ _ => rfl⟩
    rw [h2 j]
    by_cases c : j < 34
    · rw [if_pos c]
    · rw [if_neg c, TT_hi (by omega)]
  | succ k ih =>
    intro i fu w e hf h1 h2
    obtain ⟨fu, rfl⟩ : ∃ g, fu = g + 1 := ⟨fu - 1, by omega⟩
    obtain ⟨t1, t2⟩ := by_tab
    have st : f_X10_init_L185 (fu + 1) (nI i) w = f_X10_init_L185 fu (nI (i + 1)) (xup (xup w 20 i (TT i)) 19 1 (nI (i + 1))) := by
      have n34 : ¬ Int32.ofNat 34 ≤ nI i := (show ¬ nI 34 ≤ nI i from nI_ge (by omega) (by decide))
      have n160 : ¬ (160 : Int32) ≤ nI i := (show ¬ nI 160 ≤ nI i from nI_ge (by omega) (by decide))
      rw [f_X10_init_L185, t1, if_neg n34, xin_nI (by omega) (by decide), xchk_true, nI_clamp (by omega), t2 i (by omega)]
      unfold f_X4_put
      rw [h1, if_neg n160, xin_nI (by omega) (by decide), xchk_true, xbind_some, nI_clamp (by omega)]
      simp only [xlet_eq, nI_1]
      rfl
    rw [st]
    obtain ⟨g, w', r1, r2, r3, r4⟩ := ih (i + 1) fu (xup (xup w 20 i (TT i)) 19 1 (nI (i + 1))) (by omega) (by omega) (by rw [xup_same, upd_s]) (fun j => by
      rw [xup_ne _ _ _ (by decide), xup_same]
      by_cases c : j = i
      · rw [c, upd_s, if_pos (by omega)]
      · rw [upd_n _ _ c, h2 j]
        by_cases d : j < i
        · rw [if_pos d, if_pos (by omega)]
        · rw [if_neg d, if_neg (by omega)])
    exact ⟨g, w', r1, r2, r3, fun q a b => by rw [r4 q a b, xup_ne _ _ _ a, xup_ne _ _ _ b]⟩
theorem s_copyML : ∀ (k i fu : Nat) (w : xI), i + k = 34 → k < fu → (∀ j, j < 34 → w 90 j = TT j) → (∀ j, j < i → w 80 j = TT j) → ∃ g w', f_X11_init_L1047 fu (nI i) w = f_X11_init_L1047 (g + 1) (nI 34) w' ∧ (∀ j, j < 34 → w' 80 j = TT j) ∧ ∀ q, q ≠ 80 → w' q = w q := by
  intro k
  induction k with
  | zero =>
    intro i fu w e hf h1 h2
    obtain ⟨g, rfl⟩ : ∃ g, fu = g + 1 := ⟨fu - 1, by omega⟩
    have ei : i = 34 := by omega
    subst ei
    exact ⟨g, w, rfl, h2, fun _ _ => rfl⟩
  | succ k ih =>
    intro i fu w e hf h1 h2
    obtain ⟨fu, rfl⟩ : ∃ g, fu = g + 1 := ⟨fu - 1, by omega⟩
    have st : f_X11_init_L1047 (fu + 1) (nI i) w = f_X11_init_L1047 fu (nI (i + 1)) (xup w 80 i (w 90 i)) := by
      have n34 : ¬ (34 : Int32) ≤ nI i := (show ¬ nI 34 ≤ nI i from nI_ge (by omega) (by decide))
      rw [f_X11_init_L1047, if_neg n34, xin_nI (by omega) (by decide), xchk_true, xin_nI (by omega) (by decide), xchk_true, xlet_eq, nI_1, nI_clamp (by omega)]
    rw [st]
    obtain ⟨g, w', r1, r2, r3⟩ := ih (i + 1) fu (xup w 80 i (w 90 i)) (by omega) (by omega) (fun j hj => by rw [xup_ne _ _ _ (by decide)]; exact h1 j hj) (fun j hj => by
      rw [xup_same]
      by_cases c : j = i
      · rw [c, upd_s]; exact h1 i (by omega)
      · rw [upd_n _ _ c]; exact h2 j (by omega))
    exact ⟨g, w', r1, r2, fun q a => by rw [r3 q a, xup_ne _ _ _ a]⟩
