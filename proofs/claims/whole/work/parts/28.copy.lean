def mcp (w : xI) (a b lo hi : Nat) : xI := fun c => if c = 89 then (fun j => if b + lo ≤ j ∧ j < b + hi then w 89 (a + (j - b)) else w 89 j) else w c
theorem mcp_nil (w : xI) (a b k : Nat) : mcp w a b k k = w := by
  funext c j
  unfold mcp
  by_cases hc : c = 89
  · subst hc; simp only [if_true]; rw [if_neg (by omega)]
  · rw [if_neg hc]
theorem mcp_up (w : xI) {a b lo hi : Nat} (h : lo < hi) (hab : b ≤ a) : mcp (xup w 89 (b + lo) (w 89 (a + lo))) a b (lo + 1) hi = mcp w a b lo hi := by
  funext c j
  unfold mcp
  by_cases hc : c = 89
  · subst hc
    simp only [if_true, xup_same]
    unfold upd
    by_cases h1 : b + (lo + 1) ≤ j ∧ j < b + hi
    · rw [if_pos h1, if_neg (by omega : ¬ a + (j - b) = b + lo), if_pos ⟨by omega, h1.2⟩]
    · rw [if_neg h1]
      by_cases h2 : j = b + lo
      · rw [if_pos h2, if_pos ⟨by omega, by omega⟩, h2, Nat.add_sub_cancel_left]
      · rw [if_neg h2, if_neg (by omega)]
  · rw [if_neg hc, if_neg hc, xup_ne _ _ _ hc]
theorem mcp_dn (w : xI) {a b hi : Nat} (hab : a < b) : mcp (xup w 89 (b + hi) (w 89 (a + hi))) a b 0 hi = mcp w a b 0 (hi + 1) := by
  funext c j
  unfold mcp
  by_cases hc : c = 89
  · subst hc
    simp only [if_true, xup_same]
    unfold upd
    by_cases h1 : b + 0 ≤ j ∧ j < b + hi
    · rw [if_pos h1, if_neg (by omega : ¬ a + (j - b) = b + hi), if_pos ⟨by omega, by omega⟩]
    · rw [if_neg h1]
      by_cases h2 : j = b + hi
      · rw [if_pos h2, if_pos ⟨by omega, by omega⟩, h2, Nat.add_sub_cancel_left]
      · rw [if_neg h2, if_neg (by omega)]
  · rw [if_neg hc, if_neg hc, xup_ne _ _ _ hc]
theorem s_copyL {n a b : Nat} (ha : a + n ≤ 160) (hb : b + n ≤ 160) : ∀ (m k fu : Nat) (w : xI), k + m = n → m < fu → f_X11_copy_L147 fu (nI n) (nI a) (nI b) (nI k) w = some (nI n, if b ≤ a then mcp w a b k n else mcp w a b 0 (n - k)) := by
  intro m
  induction m with
  | zero =>
    intro k fu w h1 h2
    obtain ⟨f, rfl⟩ : ∃ f, fu = f + 1 := ⟨fu - 1, by omega⟩
    have hk : k = n := by omega
    subst hk
    rw [f_X11_copy_L147, if_pos (nI_le (Nat.le_refl _) (by omega)), mcp_nil, Nat.sub_self, mcp_nil, ite_self]
  | succ m ih =>
    intro k fu w h1 h2
    obtain ⟨f, rfl⟩ : ∃ f, fu = f + 1 := ⟨fu - 1, by omega⟩
    rw [f_X11_copy_L147, if_neg (nI_ge (a := k) (b := n) (by omega) (by omega))]
    by_cases hab : b ≤ a
    · rw [if_pos (nI_le hab (by omega)), nI_add, nI_add, xin_nI (by omega) (by decide), xchk_true, xin_nI (by omega) (by decide), xchk_true, xlet_eq, nI_1, nI_clamp (by omega), nI_clamp (by omega), ih (k + 1) f _ (by omega) (by omega), if_pos hab, if_pos hab, mcp_up w (by omega) hab]
    · have e : nI n - 1 - nI k = nI (n - 1 - k) := by
        rw [show nI n - (1 : Int32) = nI n - nI 1 from rfl, pk_sub (by omega), pk_sub (by omega)]
      rw [if_neg (nI_ge (a := a) (b := b) (by omega) (by omega)), e, xlet_eq, nI_add, nI_add, xin_nI (by omega) (by decide), xchk_true, xin_nI (by omega) (by decide), xchk_true, xlet_eq, nI_1, nI_clamp (by omega), nI_clamp (by omega), ih (k + 1) f _ (by omega) (by omega), if_neg hab, if_neg hab]
      rw [show n - (k + 1) = n - 1 - k by omega, mcp_dn w (by omega), show n - 1 - k + 1 = n - k by omega]
theorem s_holds {γ : Type} (o : Nat) (a n : Int32) (w : xI) (K : Int32 → xI → Option γ) : xbind (f_X6_holds o a n w) K = if 0 ≤ n ∧ (0 ≤ a ∧ a ≤ w o 1) ∧ n ≤ w o 1 - a then K 1 w else K 0 w := by
  unfold f_X6_holds
  by_cases h1 : n < 0
  · rw [if_pos h1, if_neg (fun z => absurd h1 (Int32.not_lt.mpr z.1)), xbind_some]
  · rw [if_neg h1, s_within]
    by_cases h2 : 0 ≤ a ∧ a ≤ w o 1
    · rw [if_pos h2, if_neg (by decide)]
      by_cases h3 : w o 1 - a < n
      · rw [if_pos h3, if_neg (fun z => absurd h3 (Int32.not_lt.mpr z.2.2)), xbind_some]
      · rw [if_neg h3, if_pos ⟨Int32.not_lt.mp h1, h2, Int32.not_lt.mp h3⟩, xbind_some]
    · rw [if_neg h2, if_pos rfl, if_neg (fun z => h2 z.2.1), xbind_some]
theorem Rel_copy {w : xI} {s t i j n : Nat} (hR : Rel w) (hs : s < 4) (ht : t < 4) (hi : i + n ≤ 40) (hj : j + n ≤ 40) : Rel (mcp (xcopy w (63 + 2 * s + 1) (63 + 2 * t + 1) (nI i) (nI j) (nI n)) (40 * s + i) (40 * t + j) 0 n) := by
  have ex : ∀ k, k ≠ 63 + 2 * t + 1 → xcopy w (63 + 2 * s + 1) (63 + 2 * t + 1) (nI i) (nI j) (nI n) k = w k := fun k hk => if_neg hk
  have et : xcopy w (63 + 2 * s + 1) (63 + 2 * t + 1) (nI i) (nI j) (nI n) (63 + 2 * t + 1) = va_cpy (w (63 + 2 * s + 1)) (w (63 + 2 * t + 1)) i j n := by
    unfold xcopy
    rw [if_pos rfl, nI_clamp (by omega), nI_clamp (by omega), nI_clamp (by omega)]
  have em : ∀ w a b lo hi k, k ≠ 89 → mcp w a b lo hi k = w k := fun w a b lo hi k hk => if_neg hk
  refine hR.sheet (fun k h1 h2 => ?_) (fun q hq => ?_)
  · rw [em _ _ _ _ _ _ (by omega), ex _ (by omega)]
  · obtain ⟨a, b, c, d, e⟩ := hR.sh q hq
    obtain ⟨-, -, -, -, e'⟩ := hR.sh s hs
    rw [em _ _ _ _ _ 87 (by decide), em _ _ _ _ _ 88 (by decide), em _ _ _ _ _ (63 + 2 * q) (by omega), em _ _ _ _ _ (64 + 2 * q) (by omega), ex 87 (by omega), ex 88 (by omega), ex (63 + 2 * q) (by omega)]
    refine ⟨a, b, c, d, fun y hy => ?_⟩
    unfold mcp
    rw [if_pos rfl, ex 89 (by omega)]
    by_cases h : q = t
    · subst h
      rw [show 64 + 2 * q = 63 + 2 * q + 1 by omega, et]
      unfold va_cpy
      by_cases hy2 : j ≤ y ∧ y < j + n
      · rw [if_pos hy2, if_pos ⟨by omega, by omega⟩, show 40 * s + i + (40 * q + y - (40 * q + j)) = 40 * s + (i + (y - j)) by omega, e' _ (by omega)]
        rw [show 64 + 2 * s = 63 + 2 * s + 1 by omega]
      · rw [if_neg hy2, if_neg (by omega), e y hy, show 64 + 2 * q = 63 + 2 * q + 1 by omega]
    · rw [ex (64 + 2 * q) (by omega), if_neg (by omega)]
      exact e y hy
theorem op_copy (a1 : Int32) (a2 : Int32) (a3 : Int32) (a4 : Int32) (a5 : Int32) : OpI (f_X10_copy a1 a2 a3 a4 a5) (f_X11_copy a1 a2 a3 a4 a5) := by
  intro w hR
  by_cases h1 : 0 ≤ a1 ∧ a1 ≤ 3
  · by_cases h3 : 0 ≤ a3 ∧ a3 ≤ 3
    · obtain ⟨s, hs, rfl⟩ := nI_bd (n := 3) (by decide) h1.1 h1.2
      obtain ⟨t, ht, rfl⟩ := nI_bd (n := 3) (by decide) h3.1 h3.2
      have e1 : xin (nI s) 4 = true := xin_nI (by omega) (by decide)
      have e2 : (nI s).toNatClampNeg = s := nI_clamp (by omega)
      have e3 : xin (nI t) 4 = true := xin_nI (by omega) (by decide)
      have e4 : (nI t).toNatClampNeg = t := nI_clamp (by omega)
      obtain ⟨sa, sb, sc, sd, se⟩ := hR.sh s (by omega)
      obtain ⟨ta, tb, tc, td, te⟩ := hR.sh t (by omega)
      by_cases m1 : w (63 + 2 * s) 0 = -1
      · exact OpI.q (-11) w w (by simp [f_X10_copy, s_isSheet, h1, h3, e1, e2, e3, e4, xchk, xlet, m1]) (by simp [f_X11_copy, s_in, h1, h3, e1, e2, xchk, sa, m1]) hR
      by_cases m2 : w (63 + 2 * t) 0 = -1
      · exact OpI.q (-11) w w (by simp [f_X10_copy, s_isSheet, h1, h3, e1, e2, e3, e4, xchk, xlet, m1, m2]) (by simp [f_X11_copy, s_in, h1, h3, e1, e2, e3, e4, xchk, sa, ta, m1, m2]) hR
      by_cases m3 : w (63 + 2 * s) 0 = w (63 + 2 * t) 0
      · by_cases g1 : 0 ≤ a5
        · by_cases g2 : 0 ≤ a2
          · by_cases g3 : a2 ≤ w (63 + 2 * s) 1
            · by_cases g4 : a5 ≤ w (63 + 2 * s) 1 - a2
              · by_cases g5 : 0 ≤ a4
                · by_cases g6 : a4 ≤ w (63 + 2 * t) 1
                  · by_cases g7 : a5 ≤ w (63 + 2 * t) 1 - a4
                    · obtain ⟨ns, hns, ens⟩ := nI_bd (n := 40) (by decide) sd.1 sd.2
                      obtain ⟨nt, hnt, ent⟩ := nI_bd (n := 40) (by decide) td.1 td.2
                      rw [ens] at g3 g4
                      rw [ent] at g6 g7
                      obtain ⟨i, hi, rfl⟩ := nI_bd (by omega) g2 g3
                      obtain ⟨j, hj, rfl⟩ := nI_bd (by omega) g5 g6
                      rw [pk_sub hi] at g4
                      rw [pk_sub hj] at g7
                      obtain ⟨n, hn, rfl⟩ := nI_bd (by omega) g1 g4
                      have hn2 : n ≤ nt - j := (nI_leI (by omega) (by omega)).mp g7
                      have f1 : (nI i).toNatClampNeg = i := nI_clamp (by omega)
                      have f2 : (nI j).toNatClampNeg = j := nI_clamp (by omega)
                      have f3 : (nI n).toNatClampNeg = n := nI_clamp (by omega)
                      have p1 : ¬ nI i < 0 := nI_pos (by omega)
                      have p2 : ¬ nI j < 0 := nI_pos (by omega)
                      have p3 : ¬ nI n < 0 := nI_pos (by omega)
                      have c1 : 0 ≤ nI n ∧ (0 ≤ nI i ∧ nI i ≤ w (63 + 2 * s) 1) ∧ nI n ≤ w (63 + 2 * s) 1 - nI i := ⟨g1, ⟨g2, by rw [ens]; exact g3⟩, by rw [ens, pk_sub hi]; exact g4⟩
                      have c2 : 0 ≤ nI n ∧ (0 ≤ nI j ∧ nI j ≤ w (63 + 2 * t) 1) ∧ nI n ≤ w (63 + 2 * t) 1 - nI j := ⟨g1, ⟨g5, by rw [ent]; exact g6⟩, by rw [ent, pk_sub hj]; exact g7⟩
                      refine OpI.q (nI n) (xcopy w (63 + 2 * s + 1) (63 + 2 * t + 1) (nI i) (nI j) (nI n)) _ ?_ ?_ (Rel_copy hR (by omega) (by omega) (s := s) (t := t) (i := i) (j := j) (n := n) (by omega) (by omega))
                      · have b4 : i + n ≤ 40 := by omega
                        have b5 : j + n ≤ 40 := by omega
                        rw [f_X10_copy, s_isSheet, if_pos h1, if_neg (by decide), s_isSheet, if_pos h3, if_neg (by decide), e1, xchk_true, xlet_eq, e3, xchk_true, xlet_eq, e2, e4, if_neg m1, if_neg m2, if_pos m3, s_holds, if_pos c1, if_neg (by decide), s_holds, if_pos c2, if_neg (by decide), f1, f2, f3, decide_eq_true p1, decide_eq_true p2, decide_eq_true p3, decide_eq_true b4, decide_eq_true b5]
                        rfl
                      · generalize hw2 : xcopy w (63 + 2 * s + 1) (63 + 2 * t + 1) (nI i) (nI j) (nI n) = w2
                        have k87 : w2 87 = w 87 := by rw [← hw2]; exact if_neg (by omega)
                        have k88 : w2 88 = w 88 := by rw [← hw2]; exact if_neg (by omega)
                        have m2' : ¬ w 87 t = -1 := by rw [ta]; exact m2
                        have m1' : ¬ w 87 s = -1 := by rw [sa]; exact m1
                        have m3' : w 87 s = w 87 t := by rw [sa, ta]; exact m3
                        have q1 : ¬ w 88 s < nI i := by rw [sb]; exact Int32.not_lt.mpr c1.2.1.2
                        have q2 : ¬ w 88 t < nI j := by rw [tb]; exact Int32.not_lt.mpr c2.2.1.2
                        have q3 : ¬ w 88 s - nI i < nI n := by rw [sb]; exact Int32.not_lt.mpr c1.2.2
                        have q4 : nI n ≤ w 88 t - nI j := by rw [tb]; exact c2.2.2
                        rw [f_X11_copy, s_in, if_pos h1, if_neg (by decide), s_in, if_pos h3, if_neg (by decide), e1, xchk_true, e2, k87, if_neg m1', e3, xchk_true, e4, if_neg m2', xchk_true, xchk_true, if_pos m3', if_neg p3, if_neg p1, if_neg p2, xchk_true, k88, if_neg q1, xchk_true, if_neg q2, xchk_true, if_neg q3, xchk_true, if_pos q4, xlet_eq, xlet_eq]
                        rw [show (40 : Int32) * nI s + nI i = nI (40 * s + i) by rw [show (40 : Int32) = nI 40 from rfl, pk_mul, nI_add], show (40 : Int32) * nI t + nI j = nI (40 * t + j) by rw [show (40 : Int32) = nI 40 from rfl, pk_mul, nI_add]]
                        have hL := s_copyL (n := n) (a := 40 * s + i) (b := 40 * t + j) (by omega) (by omega) n 0 2000 w2 (by omega) (by omega)
                        rw [nI_0, Nat.sub_zero, ite_self] at hL
                        exact hL
                    · exact OpI.q (-12) w w (by simp [f_X10_copy, s_isSheet, h1, h3, e1, e2, e3, e4, xchk, xlet, m1, m2, m3, s_holds, g1, g2, g3, g4, g5, g6, g7]) (by simp [f_X11_copy, s_in, h1, h3, e1, e2, e3, e4, xchk, xlet, sa, ta, sb, tb, m1, m2, m3, g1, g2, g3, g4, g5, g6, g7, Int32.not_lt.mpr g1, Int32.not_lt.mpr g2, Int32.not_lt.mpr g3, Int32.not_lt.mpr g4, Int32.not_lt.mpr g5, Int32.not_lt.mpr g6]) hR
                  · exact OpI.q (-12) w w (by simp [f_X10_copy, s_isSheet, h1, h3, e1, e2, e3, e4, xchk, xlet, m1, m2, m3, s_holds, g1, g2, g3, g4, g5, g6]) (by simp [f_X11_copy, s_in, h1, h3, e1, e2, e3, e4, xchk, xlet, sa, ta, sb, tb, m1, m2, m3, g1, g2, g3, g5, Int32.not_lt.mpr g1, Int32.not_lt.mpr g2, Int32.not_lt.mpr g3, Int32.not_lt.mpr g5, Int32.not_le.mp g6]) hR
                · exact OpI.q (-12) w w (by simp [f_X10_copy, s_isSheet, h1, h3, e1, e2, e3, e4, xchk, xlet, m1, m2, m3, s_holds, g1, g2, g3, g4, g5]) (by simp [f_X11_copy, s_in, h1, h3, e1, e2, e3, e4, xchk, xlet, sa, ta, sb, tb, m1, m2, m3, Int32.not_lt.mpr g1, Int32.not_lt.mpr g2, Int32.not_le.mp g5]) hR
              · by_cases g5 : 0 ≤ a4
                · by_cases g6 : a4 ≤ w (63 + 2 * t) 1
                  · exact OpI.q (-12) w w (by simp [f_X10_copy, s_isSheet, h1, h3, e1, e2, e3, e4, xchk, xlet, m1, m2, m3, s_holds, g1, g2, g3, g4]) (by simp [f_X11_copy, s_in, h1, h3, e1, e2, e3, e4, xchk, xlet, sa, ta, sb, tb, m1, m2, m3, Int32.not_lt.mpr g1, Int32.not_lt.mpr g2, Int32.not_lt.mpr g3, Int32.not_lt.mpr g5, Int32.not_lt.mpr g6, Int32.not_le.mp g4]) hR
                  · exact OpI.q (-12) w w (by simp [f_X10_copy, s_isSheet, h1, h3, e1, e2, e3, e4, xchk, xlet, m1, m2, m3, s_holds, g1, g2, g3, g4]) (by simp [f_X11_copy, s_in, h1, h3, e1, e2, e3, e4, xchk, xlet, sa, ta, sb, tb, m1, m2, m3, Int32.not_lt.mpr g1, Int32.not_lt.mpr g2, Int32.not_lt.mpr g3, Int32.not_lt.mpr g5, Int32.not_le.mp g6]) hR
                · exact OpI.q (-12) w w (by simp [f_X10_copy, s_isSheet, h1, h3, e1, e2, e3, e4, xchk, xlet, m1, m2, m3, s_holds, g1, g2, g3, g4]) (by simp [f_X11_copy, s_in, h1, h3, e1, e2, e3, e4, xchk, xlet, sa, ta, sb, tb, m1, m2, m3, Int32.not_lt.mpr g1, Int32.not_lt.mpr g2, Int32.not_le.mp g5]) hR
            · by_cases g5 : 0 ≤ a4
              · exact OpI.q (-12) w w (by simp [f_X10_copy, s_isSheet, h1, h3, e1, e2, e3, e4, xchk, xlet, m1, m2, m3, s_holds, g1, g2, g3]) (by simp [f_X11_copy, s_in, h1, h3, e1, e2, e3, e4, xchk, xlet, sa, ta, sb, tb, m1, m2, m3, Int32.not_lt.mpr g1, Int32.not_lt.mpr g2, Int32.not_lt.mpr g5, Int32.not_le.mp g3]) hR
              · exact OpI.q (-12) w w (by simp [f_X10_copy, s_isSheet, h1, h3, e1, e2, e3, e4, xchk, xlet, m1, m2, m3, s_holds, g1, g2, g3]) (by simp [f_X11_copy, s_in, h1, h3, e1, e2, e3, e4, xchk, xlet, sa, ta, sb, tb, m1, m2, m3, Int32.not_lt.mpr g1, Int32.not_lt.mpr g2, Int32.not_le.mp g5]) hR
          · exact OpI.q (-12) w w (by simp [f_X10_copy, s_isSheet, h1, h3, e1, e2, e3, e4, xchk, xlet, m1, m2, m3, s_holds, g1, g2]) (by simp [f_X11_copy, s_in, h1, h3, e1, e2, e3, e4, xchk, xlet, sa, ta, sb, tb, m1, m2, m3, Int32.not_lt.mpr g1, Int32.not_le.mp g2]) hR
        · exact OpI.q (-12) w w (by simp [f_X10_copy, s_isSheet, h1, h3, e1, e2, e3, e4, xchk, xlet, m1, m2, m3, s_holds, g1]) (by simp [f_X11_copy, s_in, h1, h3, e1, e2, e3, e4, xchk, xlet, sa, ta, sb, tb, m1, m2, m3, Int32.not_le.mp g1]) hR
      · exact OpI.q (-13) w w (by simp [f_X10_copy, s_isSheet, h1, h3, e1, e2, e3, e4, xchk, xlet, m1, m2, m3]) (by simp [f_X11_copy, s_in, h1, h3, e1, e2, e3, e4, xchk, xlet, sa, ta, m1, m2, m3]) hR
    · exact OpI.q (-2) w w (by simp [f_X10_copy, s_isSheet, h1, h3]) (by simp [f_X11_copy, s_in, h1, h3]) hR
  · exact OpI.q (-2) w w (by simp [f_X10_copy, s_isSheet, h1]) (by simp [f_X11_copy, s_in, h1]) hR
