theorem s_apart0 {γ : Type} (s : Int32) (w : xI) (h : s.toInt.natAbs < 2 ^ 31) (K : Int32 → xI → Option γ) : xbind (f_X11_apart s 0 w) K = K (nI s.toInt.natAbs) w := by
  have e := t_abs h
  unfold f_X11_apart
  by_cases h0 : 0 ≤ s
  · rw [if_pos h0] at e ⊢
    rw [xbind_some, Int32.sub_zero, ← e]
  · rw [if_neg h0] at e ⊢
    rw [xbind_some, e]
theorem s_makes {n : Nat} (hn : n ≤ 5) : ∀ (m k fu : Nat) (s u : Int32) (w : xI), k + m = n → m < fu → w 71 1 = nI n → bdS (w 73) → s.toInt.natAbs ≤ 100 * k → f_X11_makes fu (nI k) s u w = some ((), xuc w 95 (tabLay (w 73) m k s u (w 95))) := by
  intro m
  induction m with
  | zero =>
    intro k fu s u w h1 h2 hw hb hs
    obtain ⟨f, rfl⟩ : ∃ f, fu = f + 1 := ⟨fu - 1, by omega⟩
    have hk : k = n := by omega
    have e : xin (nI s.toInt.natAbs) 1000 = true := xin_nI (by omega) (by decide)
    rw [f_X11_makes, f_X11_makes_o, hw, hk, if_pos rfl, s_apart0 _ _ (by omega), e, xchk_true, xchk_true, xchk_true]
    show _ = some ((), xuc w 95 (if w 95 (if 0 ≤ s then s else 0 - s).toNatClampNeg = -1 ∨ u < w 95 (if 0 ≤ s then s else 0 - s).toNatClampNeg then upd (w 95) (if 0 ≤ s then s else 0 - s).toNatClampNeg u else w 95))
    rw [t_abs (by omega)]
    by_cases h1 : w 95 (nI s.toInt.natAbs).toNatClampNeg = -1
    · rw [if_pos h1, if_pos (Or.inl h1), xup_xuc]
    · rw [if_neg h1]
      by_cases h2 : w 95 (nI s.toInt.natAbs).toNatClampNeg ≤ u
      · rw [if_pos h2, if_neg (fun z => z.elim h1 (fun y => absurd y (Int32.not_lt.mpr h2))), xuc_self, xup_xuc]
        have : upd (w 95) (nI s.toInt.natAbs).toNatClampNeg (w 95 (nI s.toInt.natAbs).toNatClampNeg) = w 95 := by
          funext j; unfold upd; by_cases hj : j = (nI s.toInt.natAbs).toNatClampNeg
          · rw [if_pos hj, hj]
          · rw [if_neg hj]
        rw [this, xuc_self, xchk_true, xchk_true]
      · rw [if_neg h2, if_pos (Or.inr (Int32.not_le.mp h2)), xup_xuc]
  | succ m ih =>
    intro k fu s u w h1 h2 hw hb hs
    obtain ⟨f, rfl⟩ : ∃ f, fu = f + 1 := ⟨fu - 1, by omega⟩
    have hk := hb k (by omega)
    have b1 : (s + w 73 k).toInt.natAbs ≤ 100 * (k + 1) := by rw [t_add rfl rfl (by omega) (by omega)]; omega
    have b2 : (s - w 73 k).toInt.natAbs ≤ 100 * (k + 1) := by rw [t_sub rfl rfl (by omega) (by omega)]; omega
    rw [f_X11_makes, f_X11_makes_o, hw, if_neg (fun z => absurd ((nI_eq (a := k) (b := n) (by omega) (by omega)).mp z) (by omega)), nI_1, ih (k + 1) f s u w (by omega) (by omega) hw hb (by omega), xbind_some, xin_nI (by omega) (by decide), xchk_true, nI_clamp (by omega), xuc_ne _ _ _ (by decide)]
    rw [ih (k + 1) f _ _ _ (by omega) (by omega) (by rw [xuc_ne _ _ _ (by decide)]; exact hw) (by rw [xuc_ne _ _ _ (by decide)]; exact hb) b1, xbind_some, xchk_true, xuc_xuc, xuc_same, xuc_ne _ _ _ (by decide), xuc_ne _ _ _ (by decide)]
    rw [ih (k + 1) f _ _ _ (by omega) (by omega) (by rw [xuc_ne _ _ _ (by decide)]; exact hw) (by rw [xuc_ne _ _ _ (by decide)]; exact hb) b2, xbind_some, xuc_xuc, xuc_same, xuc_ne _ _ _ (by decide)]
    rfl
theorem s_findsMadeL {n : Nat} (hn : n ≤ 5) : ∀ (m k fu : Nat) (w : xI), k + m = 1000 → m < fu → w 71 1 = nI n → bdS (w 73) → f_X11_findsMade_L2 fu (nI k) w = some ((), xuc w 95 (tabLay (w 73) n 0 0 0 (fillT k (w 95)))) := by
  intro m
  induction m with
  | zero =>
    intro k fu w h1 h2 hw hb
    obtain ⟨f, rfl⟩ : ∃ f, fu = f + 1 := ⟨fu - 1, by omega⟩
    have e : fillT k (w 95) = w 95 := by funext j; unfold fillT; rw [if_neg (by omega)]
    have hl := s_makes hn n 0 8 0 0 w (by omega) (by omega) hw hb (by decide)
    rw [nI_0] at hl
    rw [f_X11_findsMade_L2, if_pos (show (999 : Int32) < nI k from nI_lt (a := 999) (by omega) (by omega)), hl, e]; rfl
  | succ m ih =>
    intro k fu w h1 h2 hw hb
    obtain ⟨f, rfl⟩ : ∃ f, fu = f + 1 := ⟨fu - 1, by omega⟩
    rw [f_X11_findsMade_L2, if_neg (show ¬ (999 : Int32) < nI k from nI_nlt (a := 999) (by omega) (by omega)), xin_nI (by omega) (by decide), xchk_true, xlet_eq, nI_1, nI_clamp (by omega), ih (k + 1) f _ (by omega) (by omega) (by rw [xup_ne _ _ _ (by decide)]; exact hw) (by rw [xup_ne _ _ _ (by decide)]; exact hb), xup_ne _ _ _ (by decide : (73 : Nat) ≠ 95)]
    have := fill_up w 95 (k := k) (by omega)
    congr 2
    funext i
    by_cases hi : i = 95
    · subst hi
      rw [xuc_same, xuc_same]
      have e2 := congrFun this 95
      rw [xuc_same, xuc_same] at e2
      rw [e2]
    · rw [xuc_ne _ _ _ hi, xuc_ne _ _ _ hi, xup_ne _ _ _ hi]
/-- the model's table is that of st, wherever the first n stones are st's -/
theorem s_findsMade {n : Nat} {w : xI} (st : Nat → Int32) (hn : n ≤ 5) (hw : w 71 1 = nI n) (hb : ∀ j, j < 5 → 0 ≤ w 73 j ∧ w 73 j ≤ 100) (hst : ∀ j, j < n → st j = w 73 j) : ∃ T, f_X11_findsMade w = some ((), xuc w 95 T) ∧ ∀ d, d < 1000 → T d = tabOf st n d := by
  have hB : bdS (w 73) := bd_of hb
  refine ⟨tabLay (w 73) n 0 0 0 (fillT 0 (w 95)), ?_, ?_⟩
  · have h := s_findsMadeL hn 1000 0 2000 w (by omega) (by omega) hw hB
    rw [nI_0] at h
    exact h
  · refine lay_cg hB n 0 0 0 _ _ (by omega) (by decide) (fun j hj => hst j (by omega)) (fun d hd => ?_)
    unfold fillT
    rw [if_pos ⟨by omega, hd⟩]
/-- after a sheet of differences is made, all that lasts is as it was -/
theorem Rel_made {w : xI} (T : Nat → Int32) (hR : Rel w) : Rel (xuc w 95 T) := by
  refine hR.scr (fun k j h => ?_)
  by_cases hk : k = 95
  · subst hk; exact absurd h (by simp [core, coreA])
  · rw [xuc_ne _ _ _ hk]
theorem Rel.made {w : xI} (hR : Rel w) : ∃ T, f_X11_findsMade w = some ((), xuc w 95 T) ∧ Rel (xuc w 95 T) ∧ ∀ d, d < 1000 → T d = w 4 d := by
  obtain ⟨s1, s2, s3, s4, s5⟩ := hR.st
  obtain ⟨n, hn, en⟩ := nI_bd (n := 5) (by decide) s2.1 s2.2
  obtain ⟨T, h1, h2⟩ := s_findsMade (w := w) (w 3) hn (by rw [s1, en]) (fun j hj => by rw [s3 j hj]; exact ⟨(s4 j hj).1, Int32.le_trans (s4 j hj).2 (by decide)⟩) (fun j hj => (s3 j (by omega)).symm)
  refine ⟨T, h1, Rel_made T hR, fun d hd => ?_⟩
  rw [h2 d hd, s5 d hd, en, nI_clamp (by omega)]
