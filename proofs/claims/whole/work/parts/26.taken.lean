def isAS (k o : Int32) : Prop := o = k ∨ o = 0 ∨ (o = 1 ∧ k = 3) ∨ (o = 2 ∧ k = 5)
theorem s_isA {γ : Type} (o : Nat) (a : Int32) (w : xI) (K : Int32 → xI → Option γ) : (isAS (w o 1) a → xbind (f_X0_isA o a w) K = K 1 w) ∧ (¬ isAS (w o 1) a → xbind (f_X0_isA o a w) K = K 0 w) := by
  unfold f_X0_isA isAS
  generalize w o 1 = k
  by_cases h1 : a = k
  · simp [h1, xbind_some]
  · by_cases h2 : a = 0
    · simp [h1, h2, xbind_some]
    · by_cases h3 : a = 1
      · subst h3
        by_cases h4 : k = 3
        · simp [h4, xbind_some]
        · simp [h1, h4, xbind_some]
      · by_cases h5 : a = 2
        · subst h5
          by_cases h6 : k = 5
          · simp [h6, xbind_some]
          · simp [h1, h6, xbind_some]
        · simp [h1, h2, h3, h5, xbind_some]
theorem s_isUnder {γ : Type} (k a : Int32) (w : xI) (K : Int32 → xI → Option γ) : (isAS k a → xbind (f_X11_isUnder k a w) K = K 1 w) ∧ (¬ isAS k a → xbind (f_X11_isUnder k a w) K = K 0 w) := by
  unfold f_X11_isUnder isAS
  by_cases h2 : a = 0
  · simp [h2, xbind_some]
  · by_cases h1 : a = k
    · simp [h1, xbind_some]
    · have h1' : ¬ k = a := fun h => h1 h.symm
      by_cases h3 : a = 1
      · subst h3
        by_cases h4 : k = 3
        · simp [h4, xbind_some]
        · simp [h1, h1', h4, xbind_some]
      · by_cases h5 : a = 2
        · subst h5
          by_cases h6 : k = 5
          · simp [h6, xbind_some]
          · simp [h1, h1', h6, xbind_some]
        · simp [h1, h1', h2, h3, h5, xbind_some]
theorem op_taken (a1 : Int32) (a2 : Int32) : OpI (f_X10_taken a1 a2) (f_X11_taken a1 a2) := by
  intro w hR
  obtain ⟨n, hn, en, em⟩ := hR.n
  obtain ⟨s1, s2, s3, s4, s5⟩ := hR.st
  by_cases h2 : 0 ≤ a2 ∧ a2 ≤ 6
  · by_cases h1 : 0 ≤ a1 ∧ a1 ≤ 14
    · by_cases h5 : 5 ≤ a1
      · obtain ⟨j, hj, rfl⟩ := nI_bd (n := 14) (by decide) h1.1 h1.2
        have hj5 : 5 ≤ j := (nI_leI (by decide) (by omega)).mp h5
        have e5 : nI j - (5 : Int32) = nI (j - 5) := pk_sub hj5
        by_cases hc : j - 5 < n
        · have c1 : 0 ≤ nI (j - 5) ∧ nI (j - 5) < w 5 2 := ⟨nI_pos' (by omega), by rw [en]; exact nI_lt hc (by omega)⟩
          have c2 : nI (j - 5) < w 71 3 := by rw [em]; exact nI_lt hc (by omega)
          have e1 : xin (nI (j - 5)) 10 = true := xin_nI (by omega) (by decide)
          have e2 : (nI (j - 5)).toNatClampNeg = j - 5 := nI_clamp (by omega)
          obtain ⟨y0, y1, y2, y3, y4, y5⟩ := hR.yd.2.2.1 (j - 5) (by omega)
          obtain ⟨b0, b1, b2, b3, b4, b5⟩ := hR.yd.2.2.2 (j - 5) (by omega)
          by_cases hA : isAS (w (8 + (j - 5)) 1) a2
          · have h6 : ¬ (6 : Int32) ≤ a2 := by
              intro h6
              have h66 : a2 = 6 := Int32.le_antisymm h2.2 h6
              subst h66
              rcases hA with h | h | h | h
              · rw [← h] at b1; exact absurd b1.2 (by decide)
              · exact absurd h (by decide)
              · exact absurd h.1 (by decide)
              · exact absurd h.1 (by decide)
            exact OpI.q (nI (j - 5)) w w (by simp [f_X10_taken, s_within, h1, h2, h5, e5, xlet, s_has, c1, e1, e2, xchk, (s_isA _ _ _ _).1 hA]) (by simp [f_X11_taken, s_in, h1, h2, h5, e5, c2, h6, e1, e2, xchk, y1, (s_isUnder _ _ _ _).1 hA]) hR
          · by_cases h6 : (6 : Int32) ≤ a2
            · exact OpI.q (-13) w w (by simp [f_X10_taken, s_within, h1, h2, h5, e5, xlet, s_has, c1, e1, e2, xchk, (s_isA _ _ _ _).2 hA]) (by simp [f_X11_taken, s_in, h1, h2, h5, e5, c2, h6]) hR
            · exact OpI.q (-13) w w (by simp [f_X10_taken, s_within, h1, h2, h5, e5, xlet, s_has, c1, e1, e2, xchk, (s_isA _ _ _ _).2 hA]) (by simp [f_X11_taken, s_in, h1, h2, h5, e5, c2, h6, e1, e2, xchk, y1, (s_isUnder _ _ _ _).2 hA]) hR
        · have c1 : ¬ (0 ≤ nI (j - 5) ∧ nI (j - 5) < w 5 2) := by rw [en]; exact fun z => nI_nlt (by omega) (by omega) z.2
          have c2 : ¬ nI (j - 5) < w 71 3 := by rw [em]; exact nI_nlt (by omega) (by omega)
          exact OpI.q (-11) w w (by simp [f_X10_taken, s_within, h1, h2, h5, e5, xlet, s_has, c1]) (by simp [f_X11_taken, s_in, h1, h2, h5, e5, c2]) hR
      · by_cases h3 : a1 < w 1 2
        · have h3m : a1 < w 71 1 := by rw [s1]; exact h3
          by_cases h6 : a2 = 6
          · obtain ⟨j, hj, rfl⟩ := nI_bd (n := 14) (by decide) h1.1 h1.2
            have hj5 : j < 5 := Nat.not_le.mp fun z => h5 (nI_le (a := 5) z (by omega))
            have e1 : xin (nI j) 5 = true := xin_nI (by omega) (by decide)
            have e2 : (nI j).toNatClampNeg = j := nI_clamp (by omega)
            exact OpI.q (w 3 j) w w (by simp [f_X10_taken, s_within, h1, h5, h3, h6, e1, e2, xchk]) (by simp [f_X11_taken, s_in, h1, h5, h3m, h6, e1, e2, xchk, s3 j hj5]) hR
          · exact OpI.q (-13) w w (by simp [f_X10_taken, s_within, h1, h2, h5, h3, h6]) (by simp [f_X11_taken, s_in, h1, h2, h5, h3m, h6]) hR
        · have h3m : ¬ a1 < w 71 1 := by rw [s1]; exact h3
          exact OpI.q (-11) w w (by simp [f_X10_taken, s_within, h1, h2, h5, h3]) (by simp [f_X11_taken, s_in, h1, h2, h5, h3m]) hR
    · exact OpI.q (-12) w w (by simp [f_X10_taken, s_within, h1, h2]) (by simp [f_X11_taken, s_in, h1, h2]) hR
  · exact OpI.q (-2) w w (by simp [f_X10_taken, s_within, h2]) (by simp [f_X11_taken, s_in, h2]) hR
