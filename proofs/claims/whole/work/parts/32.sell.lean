theorem op_sell : OpI f_X10_sell f_X11_sell := by
  intro w hR
  obtain ⟨s1, s2, s3, s4, s5⟩ := hR.st
  obtain ⟨n, hn, en⟩ := nI_bd (n := 5) (by decide) s2.1 s2.2
  have em : w 71 1 = nI n := by rw [s1, en]
  cases n with
  | zero =>
    have en' : w 1 2 = 0 := en
    have em' : w 71 1 = 0 := em
    exact OpI.q (-3) w w (by simp [f_X10_sell, en']) (by simp [f_X11_sell, em']) hR
  | succ k =>
    have c1 : 0 < nI (k + 1) := nI_lt (a := 0) (b := k + 1) (by omega) (by omega)
    have c2 : ¬ nI (k + 1) = 0 := nI_ne0 (by omega) (by omega)
    have ew : xup w 1 2 (nI k) 1 2 = nI k := by simp [xup, upd]
    have e3 : xup w 1 2 (nI k) 3 = w 3 := xup_ne _ _ _ (by decide)
    obtain ⟨T, h1, h2⟩ := s_layAll (n := k) (w := xup w 1 2 (nI k)) (by omega) ew (by rw [e3]; exact s4)
    refine OpI.q (nI k) (xuc (xup w 1 2 (nI k)) 4 T) (xup (xuc (xup w 1 2 (nI k)) 4 T) 71 1 (nI k)) ?_ ?_ ?_
    · rw [f_X10_sell, en, if_pos c1, nI_pred, h1, xbind_some, xuc_ne _ _ _ (by decide), ew]
    · have e71 : xuc (xup w 1 2 (nI k)) 4 T 71 1 = nI (k + 1) := by rw [xuc_ne _ _ _ (by decide), xup_ne _ _ _ (by decide), em]
      rw [f_X11_sell, e71, if_neg c2, nI_pred]
    · refine hR.stone (fun c h1 h2 h3 h4 h5 => ?_) (fun j hj => ?_) ?_
      · rw [xup_ne _ _ _ h5, xuc_ne _ _ _ h3, xup_ne _ _ _ h1]
      · simp [xup, upd, hj, xuc]
      · have g1 : xup (xuc (xup w 1 2 (nI k)) 4 T) 71 1 (nI k) 71 1 = nI k := by simp [xup, upd]
        have g2 : xup (xuc (xup w 1 2 (nI k)) 4 T) 71 1 (nI k) 1 2 = nI k := by simp [xup, upd, xuc]
        have g3 : xup (xuc (xup w 1 2 (nI k)) 4 T) 71 1 (nI k) 3 = w 3 := by rw [xup_ne _ _ _ (by decide), xuc_ne _ _ _ (by decide), xup_ne _ _ _ (by decide)]
        have g4 : xup (xuc (xup w 1 2 (nI k)) 4 T) 71 1 (nI k) 4 = T := by rw [xup_ne _ _ _ (by decide), xuc_same]
        have g5 : xup (xuc (xup w 1 2 (nI k)) 4 T) 71 1 (nI k) 73 = w 73 := by rw [xup_ne _ _ _ (by decide), xuc_ne _ _ _ (by decide), xup_ne _ _ _ (by decide)]
        unfold R_stone
        rw [g1, g2, g3, g4, g5]
        refine ⟨rfl, ⟨nI_pos' (by omega), (nI_leI (a := k) (b := 5) (by omega) (by omega)).mpr (by omega)⟩, s3, s4, fun d hd => ?_⟩
        rw [h2 d hd, e3, nI_clamp (by omega)]
theorem op_stone (a1 : Int32) : OpI (f_X10_stone a1) (f_X11_stone a1) := by
  intro w hR
  obtain ⟨s1, s2, s3, s4, s5⟩ := hR.st
  obtain ⟨n, hn, en⟩ := nI_bd (n := 5) (by decide) s2.1 s2.2
  have em : w 71 1 = nI n := by rw [s1, en]
  by_cases h0 : 1 ≤ a1 ∧ a1 ≤ 99
  · by_cases h5 : n = 5
    · subst h5
      have c1 : ¬ nI 5 < (5 : Int32) := by decide
      have c2 : nI 5 = (5 : Int32) := rfl
      exact OpI.q (-4) w w (by rw [f_X10_stone, s_within, if_pos h0, if_neg (by decide), en, if_neg c1]) (by rw [f_X11_stone, s_in, if_pos h0, if_neg (by decide), em, if_pos c2]) hR
    · have c1 : nI n < (5 : Int32) := nI_lt (a := n) (b := 5) (by omega) (by omega)
      have c2 : ¬ nI n = (5 : Int32) := fun z => h5 ((nI_eq (a := n) (b := 5) (by omega) (by omega)).mp z)
      have ix : xin (nI n) 5 = true := xin_nI (by omega) (by decide)
      have ic : (nI n).toNatClampNeg = n := nI_clamp (by omega)
      have ew : xup (xup w 3 n a1) 1 2 (nI (n + 1)) 1 2 = nI (n + 1) := by simp [xup, upd]
      have e3 : xup (xup w 3 n a1) 1 2 (nI (n + 1)) 3 = upd (w 3) n a1 := by funext i; simp [xup, upd]
      have a0 : 0 ≤ a1 := Int32.le_trans (by decide) h0.1
      have b3 : ∀ j, j < 5 → 0 ≤ upd (w 3) n a1 j ∧ upd (w 3) n a1 j ≤ 99 := by
        intro j hj
        unfold upd
        by_cases hjn : j = n
        · rw [if_pos hjn]; exact ⟨a0, h0.2⟩
        · rw [if_neg hjn]; exact s4 j hj
      obtain ⟨T, h1, h2⟩ := s_layAll (n := n + 1) (w := xup (xup w 3 n a1) 1 2 (nI (n + 1))) (by omega) ew (by rw [e3]; exact b3)
      generalize hw1 : xuc (xup (xup w 3 n a1) 1 2 (nI (n + 1))) 4 T = w1
      have d1 : ∀ c, c ≠ 1 → c ≠ 3 → c ≠ 4 → w1 c = w c := fun c k1 k3 k4 => by rw [← hw1, xuc_ne _ _ _ k4, xup_ne _ _ _ k1, xup_ne _ _ _ k3]
      have d2 : w1 1 2 = nI (n + 1) := by rw [← hw1, xuc_ne _ _ _ (by decide)]; exact ew
      have d3 : w1 3 = upd (w 3) n a1 := by rw [← hw1, xuc_ne _ _ _ (by decide)]; exact e3
      have d4 : w1 4 = T := by rw [← hw1, xuc_same]
      refine OpI.q (nI n) w1 (xup (xup w1 73 n a1) 71 1 (nI (n + 1))) ?_ ?_ ?_
      · rw [f_X10_stone, s_within, if_pos h0, if_neg (by decide), en, if_pos c1, xlet_eq, ix, xchk_true, ic, nI_1, h1, xbind_some, hw1]
      · have e71 : w1 71 1 = nI n := by rw [d1 71 (by decide) (by decide) (by decide), em]
        rw [f_X11_stone, s_in, if_pos h0, if_neg (by decide), e71, if_neg c2, ix, xchk_true, ic, nI_1, nI_pred]
      · refine hR.stone (fun c k1 k3 k4 k73 k71 => ?_) (fun j hj => ?_) ?_
        · rw [xup_ne _ _ _ k71, xup_ne _ _ _ k73, d1 c k1 k3 k4]
        · rw [← d1 71 (by decide) (by decide) (by decide)]; simp [xup, upd, hj]
        · have g1 : xup (xup w1 73 n a1) 71 1 (nI (n + 1)) 71 1 = nI (n + 1) := by simp [xup, upd]
          have g2 : xup (xup w1 73 n a1) 71 1 (nI (n + 1)) 1 2 = nI (n + 1) := by rw [xup_ne _ _ _ (by decide), xup_ne _ _ _ (by decide), d2]
          have g3 : xup (xup w1 73 n a1) 71 1 (nI (n + 1)) 3 = upd (w 3) n a1 := by rw [xup_ne _ _ _ (by decide), xup_ne _ _ _ (by decide), d3]
          have g4 : xup (xup w1 73 n a1) 71 1 (nI (n + 1)) 4 = T := by rw [xup_ne _ _ _ (by decide), xup_ne _ _ _ (by decide), d4]
          have g5 : xup (xup w1 73 n a1) 71 1 (nI (n + 1)) 73 = upd (w 73) n a1 := by
            rw [xup_ne _ _ _ (by decide), xup_xuc, xuc_same, d1 73 (by decide) (by decide) (by decide)]
          unfold R_stone
          rw [g1, g2, g3, g4, g5]
          refine ⟨rfl, ⟨nI_pos' (by omega), (nI_leI (a := n + 1) (b := 5) (by omega) (by omega)).mpr (by omega)⟩, fun j hj => ?_, b3, fun d hd => ?_⟩
          · unfold upd
            by_cases hjn : j = n
            · rw [if_pos hjn, if_pos hjn]
            · rw [if_neg hjn, if_neg hjn]; exact s3 j hj
          · rw [h2 d hd, e3, nI_clamp (by omega)]
  · exact OpI.q (-2) w w (by rw [f_X10_stone, s_within, if_neg h0, if_pos rfl]) (by rw [f_X11_stone, s_in, if_neg h0, if_pos rfl]) hR
