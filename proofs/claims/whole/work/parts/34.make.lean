theorem s_diffX {γ : Type} (a : Int32) (w : xI) (K : Int32 → xI → Option γ) : xbind (f_X10_isDifference a w) K = if 0 ≤ a ∧ a ≤ 999 then K 1 w else K 0 w := by
  unfold f_X10_isDifference
  rw [s_within]
  by_cases h : 0 ≤ a ∧ a ≤ 999
  · rw [if_pos h, if_pos h]; rfl
  · rw [if_neg h, if_neg h]; rfl
theorem s_fewest {γ : Type} {d : Nat} (w : xI) (hd : d < 1000) (K : Int32 → xI → Option γ) : xbind (f_X5_fewestFor (nI d) w) K = K (w 4 d) w := by
  unfold f_X5_fewestFor
  rw [if_neg (nI_pos (by omega)), if_neg (show ¬ (999 : Int32) < nI d from nI_nlt (a := 999) (by omega) (by omega)), xin_nI hd (by decide), xchk_true, xbind_some, nI_clamp (by omega)]
theorem op_make (a1 : Int32) : OpI (f_X10_make a1) (f_X11_make a1) := by
  intro w hR
  by_cases h : 0 ≤ a1 ∧ a1 ≤ 999
  · obtain ⟨d, hd, rfl⟩ := nI_bd (n := 999) (by decide) h.1 h.2
    obtain ⟨T, m1, m2, m3⟩ := hR.made
    refine OpI.q (w 4 d) w (xuc w 95 T) ?_ ?_ m2
    · rw [f_X10_make, s_diffX, if_pos h, if_neg (by decide), s_fewest w (by omega)]
    · rw [f_X11_make, s_in, if_pos h, if_neg (by decide), m1, xbind_some, xin_nI (by omega) (by decide), xchk_true, nI_clamp (by omega), xuc_same, m3 d (by omega)]
  · exact OpI.q (-2) w w (by rw [f_X10_make, s_diffX, if_neg h, if_pos rfl]) (by rw [f_X11_make, s_in, if_neg h, if_pos rfl]) hR
