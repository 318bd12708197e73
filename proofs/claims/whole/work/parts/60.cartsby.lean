-- ===== carts by a sheet =====
/-- the component's cells of x, the model's of y -/
def mix (x y : xI) : xI := fun k => if k < 71 then x k else y k
theorem mix_lo {x y : xI} {k : Nat} (h : k < 71) : mix x y k = x k := if_pos h
theorem mix_hi {x y : xI} {k : Nat} (h : ¬ k < 71) : mix x y k = y k := if_neg h
theorem mix_self {w w1 : xI} (h : ∀ k, 71 ≤ k → w1 k = w k) : mix w w1 = w := by
  funext k
  by_cases c : k < 71
  · rw [mix_lo c]
  · rw [mix_hi c, h k (by omega)]
theorem mix_xup_lo {x y : xI} {k j : Nat} {v : Int32} (h : k < 71) : mix (xup x k j v) y = xup (mix x y) k j v := by
  funext q
  by_cases c : q < 71
  · rw [mix_lo c]
    by_cases e : q = k
    · subst e; rw [xup_same, xup_same, mix_lo c]
    · rw [xup_ne _ _ _ e, xup_ne _ _ _ e, mix_lo c]
  · rw [mix_hi c, xup_ne _ _ _ (by omega), mix_hi c]
theorem mix_xup_hi {x y : xI} {k j : Nat} {v : Int32} (h : ¬ k < 71) : mix x (xup y k j v) = xup (mix x y) k j v := by
  funext q
  by_cases c : q < 71
  · rw [mix_lo c, xup_ne _ _ _ (by omega), mix_lo c]
  · rw [mix_hi c]
    by_cases e : q = k
    · subst e; rw [xup_same, xup_same, mix_hi c]
    · rw [xup_ne _ _ _ e, xup_ne _ _ _ e, mix_hi c]
theorem mix_cart {x y : xI} {n : Nat} (hn : n < 10) (a1 a2 a3 a4 a5 : Int32) : mix (cartX x n a1 a2 a3 a4 a5) (cartM y n a1 a2 a3 a4 a5) = cartM (cartX (mix x y) n a1 a2 a3 a4 a5) n a1 a2 a3 a4 a5 := by
  unfold cartX cartM
  rw [mix_xup_hi (by decide), mix_xup_hi (by decide), mix_xup_hi (by decide), mix_xup_hi (by decide), mix_xup_hi (by decide), mix_xup_hi (by decide), mix_xup_hi (by decide)]
  rw [mix_xup_lo (by decide), mix_xup_lo (by decide), mix_xup_lo (by omega), mix_xup_lo (by omega), mix_xup_lo (by omega), mix_xup_lo (by omega), mix_xup_lo (by omega)]
theorem cartX_hi {x : xI} {n : Nat} (hn : n < 10) {a1 a2 a3 a4 a5 : Int32} {k : Nat} (hk : 71 ≤ k) : cartX x n a1 a2 a3 a4 a5 k = x k := by
  unfold cartX
  rw [xup_ne _ _ _ (by omega), xup_ne _ _ _ (by omega), xup_ne _ _ _ (by omega), xup_ne _ _ _ (by omega), xup_ne _ _ _ (by omega), xup_ne _ _ _ (by omega), xup_ne _ _ _ (by omega)]
theorem cartM_lo {x : xI} {n : Nat} {a1 a2 a3 a4 a5 : Int32} {k : Nat} (hk : k < 71) : cartM x n a1 a2 a3 a4 a5 k = x k := by
  unfold cartM
  rw [xup_ne _ _ _ (by omega), xup_ne _ _ _ (by omega), xup_ne _ _ _ (by omega), xup_ne _ _ _ (by omega), xup_ne _ _ _ (by omega), xup_ne _ _ _ (by omega), xup_ne _ _ _ (by omega)]
theorem s_cbL {N s z P0 : Nat} (hs : s < 4) (hz : z ≤ 40) : ∀ (m k fu g : Nat) (x y : xI), k + m = N → N ≤ 8 → m < fu → P0 + 5 * k < 2 ^ 31 → Rel (mix x y) → x (63 + 2 * s) 1 = nI z → ∃ r x' y', f_X10_cartsBy_L71 fu (nI N) (63 + 2 * s) (nI g) (nI (P0 + 5 * k)) (nI k) x = some (r, x') ∧ f_X11_cartsBy_L64 fu (nI s) (nI P0) (nI N) (nI g) (nI k) y = some (r, y') ∧ Rel (mix x' y') ∧ (∀ q, 71 ≤ q → x' q = x q) ∧ ∀ q, q < 71 → y' q = y q := by
  intro m
  induction m with
  | zero =>
    intro k fu g x y h1 hN h2 hp hR ez
    obtain ⟨f, rfl⟩ : ∃ f, fu = f + 1 := ⟨fu - 1, by omega⟩
    refine ⟨nI g, x, y, ?_, ?_, hR, fun _ _ => rfl, fun _ _ => rfl⟩
    · rw [f_X10_cartsBy_L71, if_pos (nI_le (by omega) (by omega))]
    · rw [f_X11_cartsBy_L64, if_pos (nI_le (by omega) (by omega))]
  | succ m ih =>
    intro k fu g x y h1 hN h2 hp hR ez
    obtain ⟨f, rfl⟩ : ∃ f, fu = f + 1 := ⟨fu - 1, by omega⟩
    obtain ⟨e87, e88, b0, b1, e89⟩ := hR.sh s hs
    rw [mix_hi (by decide), mix_lo (by omega), ez] at e88
    have c89 : ∀ i, i < 40 → y 89 (40 * s + i) = x (64 + 2 * s) i := fun i hi => by
      have := e89 i hi
      rw [mix_hi (by decide), mix_lo (by omega)] at this; exact this
    have ei : nI P0 + (5 : Int32) * nI k = nI (P0 + 5 * k) := by rw [show (5 : Int32) = nI 5 from rfl, pk_mul, nI_add]
    have e1 : 63 + 2 * s + 1 = 64 + 2 * s := by omega
    have e40 : (40 : Int32) * nI s = nI (40 * s) := pk_mul 40 s
    have t5 : (nI z - 5).toInt = (z : Int) - 5 := t_sub (nI_toInt (by omega)) rfl (by omega) (by omega)
    rw [f_X10_cartsBy_L71, f_X11_cartsBy_L64, if_neg (nI_ge (by omega) (by omega)), if_neg (nI_ge (by omega) (by omega)), s_holds, ez, xlet_eq, ei, if_neg (nI_pos (by omega)), if_neg (nI_nlt (by omega) (by omega)), xin_nI hs (by decide), xchk_true, nI_clamp (n := s) (by omega), e88]
    by_cases c : P0 + 5 * k + 5 ≤ z
    · have hcond : (0 : Int32) ≤ 5 ∧ (0 ≤ nI (P0 + 5 * k) ∧ nI (P0 + 5 * k) ≤ nI z) ∧ 5 ≤ nI z - nI (P0 + 5 * k) := ⟨by decide, ⟨nI_pos' (by omega), nI_le (by omega) (by omega)⟩, by rw [pk_sub (by omega)]; exact nI_le (a := 5) (by omega) (by omega)⟩
      have hm : nI (P0 + 5 * k) ≤ nI z - 5 := i_le.mpr (by rw [t5, nI_toInt (by omega)]; omega)
      have p1 : nI (P0 + 5 * k) + 1 = nI (P0 + 5 * k + 1) := nI_1 _
      have p2 : nI (P0 + 5 * k) + 2 = nI (P0 + 5 * k + 2) := nI_add _ 2
      have p3 : nI (P0 + 5 * k) + 3 = nI (P0 + 5 * k + 3) := nI_add _ 3
      have p4 : nI (P0 + 5 * k) + 4 = nI (P0 + 5 * k + 4) := nI_add _ 4
      have p5 : nI (P0 + 5 * k) + 5 = nI (P0 + 5 * (k + 1)) := nI_add _ 5
      have m1 : nI (40 * s + (P0 + 5 * k)) + 1 = nI (40 * s + (P0 + 5 * k + 1)) := nI_1 _
      have m2 : nI (40 * s + (P0 + 5 * k)) + 2 = nI (40 * s + (P0 + 5 * k + 2)) := nI_add _ 2
      have m3 : nI (40 * s + (P0 + 5 * k)) + 3 = nI (40 * s + (P0 + 5 * k + 3)) := nI_add _ 3
      have m4 : nI (40 * s + (P0 + 5 * k)) + 4 = nI (40 * s + (P0 + 5 * k + 4)) := nI_add _ 4
      rw [if_pos hcond, if_neg (by decide), if_pos hm, e40, nI_add, p1, p2, p3, p4, p5, xlet_eq, m1, m2, m3, m4, xin_nI (by omega) (by decide), xin_nI (by omega) (by decide), xin_nI (by omega) (by decide), xin_nI (by omega) (by decide), xin_nI (by omega) (by decide), xin_nI (by omega) (by decide), xin_nI (by omega) (by decide), xin_nI (by omega) (by decide), xin_nI (by omega) (by decide), xin_nI (by omega) (by decide)]
      simp only [xchk_true]
      rw [nI_clamp (by omega), nI_clamp (by omega), nI_clamp (by omega), nI_clamp (by omega), nI_clamp (by omega), nI_clamp (by omega), nI_clamp (by omega), nI_clamp (by omega), nI_clamp (by omega), nI_clamp (by omega), c89 _ (by omega), c89 _ (by omega), c89 _ (by omega), c89 _ (by omega), c89 _ (by omega), e1, Int32.add_zero, nI_1, nI_1]
      simp only [xlet_eq]
      generalize x (64 + 2 * s) (P0 + 5 * k) = a1
      generalize x (64 + 2 * s) (P0 + 5 * k + 1) = a2
      generalize x (64 + 2 * s) (P0 + 5 * k + 2) = a3
      generalize x (64 + 2 * s) (P0 + 5 * k + 3) = a4
      generalize x (64 + 2 * s) (P0 + 5 * k + 4) = a5
      obtain ⟨n, hn, en, em⟩ := hR.n
      rw [mix_lo (by decide)] at en
      rw [mix_hi (by decide)] at em
      obtain ⟨X1, X2, X3⟩ := s_cartX en hn a1 a2 a3 a4 a5
      obtain ⟨M1, M2, M3⟩ := s_cartM em hn a1 a2 a3 a4 a5
      by_cases ok : cartOk a1 a2 a3 a4 a5
      · by_cases n10 : n = 10
        · rw [X2 ok n10, M2 ok n10, xbind_some, xbind_some, if_pos (show (-4 : Int32) < 0 by decide), if_pos (show (-4 : Int32) < 0 by decide)]
          exact ih (k + 1) f g x y (by omega) hN (by omega) (by omega) hR ez
        · have hn' : n < 10 := by omega
          rw [X3 ok hn', M3 ok hn', xbind_some, xbind_some, if_neg (nI_pos (by omega)), if_neg (nI_pos (by omega))]
          have hR' : Rel (mix (cartX x n a1 a2 a3 a4 a5) (cartM y n a1 a2 a3 a4 a5)) := by
            rw [mix_cart hn']
            exact Rel_cart hR (by rw [mix_lo (by decide)]; exact en) hn' ok
          have ez' : cartX x n a1 a2 a3 a4 a5 (63 + 2 * s) 1 = nI z := by
            unfold cartX
            rw [xup_ne _ _ _ (by omega), xup_ne _ _ _ (by omega), xup_ne _ _ _ (by omega), xup_ne _ _ _ (by omega), xup_ne _ _ _ (by omega), xup_ne _ _ _ (by omega), xup_ne _ _ _ (by omega)]; exact ez
          obtain ⟨r, x', y', q1, q2, q3, q4, q5⟩ := ih (k + 1) f (g + 1) _ _ (by omega) hN (by omega) (by omega) hR' ez'
          exact ⟨r, x', y', q1, q2, q3, fun q hq => by rw [q4 q hq, cartX_hi hn' hq], fun q hq => by rw [q5 q hq, cartM_lo hq]⟩
      · rw [X1 ok, M1 ok, xbind_some, xbind_some, if_pos (show (-2 : Int32) < 0 by decide), if_pos (show (-2 : Int32) < 0 by decide)]
        exact ih (k + 1) f g x y (by omega) hN (by omega) (by omega) hR ez
    · have hcond : ¬ ((0 : Int32) ≤ 5 ∧ (0 ≤ nI (P0 + 5 * k) ∧ nI (P0 + 5 * k) ≤ nI z) ∧ 5 ≤ nI z - nI (P0 + 5 * k)) := by
        rintro ⟨-, ⟨-, h3⟩, h4⟩
        have h3' := (nI_leI (by omega) (by omega)).mp h3
        rw [pk_sub h3'] at h4
        have := (nI_leI (a := 5) (by omega) (by omega)).mp h4
        omega
      have hm : ¬ nI (P0 + 5 * k) ≤ nI z - 5 := fun q => by have := i_le.mp q; rw [t5, nI_toInt (by omega)] at this; omega
      rw [if_neg hcond, if_pos rfl, if_neg hm]
      exact ⟨-12, x, y, rfl, rfl, hR, fun _ _ => rfl, fun _ _ => rfl⟩
theorem s_cbNeg {N s : Nat} {a3 : Int32} (h : a3 < 0) (hN : N ≤ 8) (x y : xI) : ∃ r, f_X10_cartsBy_L71 2000 (nI N) (63 + 2 * s) 0 a3 0 x = some (r, x) ∧ f_X11_cartsBy_L64 2000 (nI s) a3 (nI N) 0 0 y = some (r, y) := by
  by_cases c : N = 0
  · refine ⟨0, ?_, ?_⟩
    · rw [f_X10_cartsBy_L71, c, if_pos (by decide)]
    · rw [f_X11_cartsBy_L64, c, if_pos (by decide)]
  · refine ⟨-12, ?_, ?_⟩
    · rw [f_X10_cartsBy_L71, if_neg (nI_nle (by omega) (by omega)), s_holds, if_neg (fun z => absurd h (Int32.not_lt.mpr z.2.1.1)), if_pos rfl]
    · rw [f_X11_cartsBy_L64, if_neg (nI_nle (by omega) (by omega)), xlet_eq, if_pos h]
theorem op_cartsBy (a1 : Int32) (a2 : Int32) (a3 : Int32) (a4 : Int32) : OpI (f_X10_cartsBy a1 a2 a3 a4) (f_X11_cartsBy a1 a2 a3 a4) := by
  intro w hR
  by_cases h1 : 0 ≤ a1 ∧ a1 ≤ 3
  · by_cases h2 : 0 ≤ a2 ∧ a2 ≤ 2
    · by_cases h4 : 0 ≤ a4 ∧ a4 ≤ 8
      · obtain ⟨s, hs, rfl⟩ := nI_bd (n := 3) (by decide) h1.1 h1.2
        obtain ⟨N, hN, rfl⟩ := nI_bd (n := 8) (by decide) h4.1 h4.2
        have hs4 : s < 4 := by omega
        obtain ⟨e87, e88, b0, b1, e89⟩ := hR.sh s hs4
        obtain ⟨z, hz, ez⟩ := nI_bd (n := 40) (by decide) b1.1 b1.2
        have pre : ∀ w1 : xI, w1 = w → f_X10_cartsBy (nI s) a2 a3 (nI N) w1 = if w (63 + 2 * s) 0 = -1 then some (-11, w) else if w (63 + 2 * s) 0 = a2 then f_X10_cartsBy_L71 2000 (nI N) (63 + 2 * s) 0 a3 0 w else some (-13, w) := by
          intro w1 e
          rw [e, f_X10_cartsBy, s_isSheet, if_pos h1, if_neg (by decide), s_within, if_pos h2, if_neg (by decide), s_within, if_pos h4, if_neg (by decide), xin_nI hs4 (by decide), xchk_true, xlet_eq, nI_clamp (by omega)]
        have mod : ∀ w1 : xI, (∀ k, 71 ≤ k → w1 k = w k) → f_X11_cartsBy (nI s) a2 a3 (nI N) w1 = if w (63 + 2 * s) 0 = -1 then some (-11, w1) else if w (63 + 2 * s) 0 = a2 then f_X11_cartsBy_L64 2000 (nI s) a3 (nI N) 0 0 w1 else some (-13, w1) := by
          intro w1 hw
          rw [f_X11_cartsBy, s_in, if_pos h1, if_neg (by decide), s_in, if_pos h2, if_neg (by decide), s_in, if_pos h4, if_neg (by decide), xin_nI hs4 (by decide), xchk_true, xchk_true, nI_clamp (by omega), hw 87 (by decide), e87]
        by_cases c1 : w (63 + 2 * s) 0 = -1
        · exact OpI.q (-11) w w (by rw [pre w rfl, if_pos c1]) (by rw [mod w (fun _ _ => rfl), if_pos c1]) hR
        by_cases c2 : w (63 + 2 * s) 0 = a2
        · by_cases c3 : a3 < 0
          · obtain ⟨r, q1, q2⟩ := s_cbNeg (s := s) c3 hN w w
            exact OpI.q r w w (by rw [pre w rfl, if_neg c1, if_pos c2, q1]) (by rw [mod w (fun _ _ => rfl), if_neg c1, if_pos c2, q2]) hR
          · obtain ⟨P, hP, rfl⟩ := nI_of c3
            have hRw : Rel (mix w w) := by rw [mix_self (fun _ _ => rfl)]; exact hR
            obtain ⟨r, x', y', q1, q2, q3, q4, q5⟩ := s_cbL (N := N) (P0 := P) hs4 hz N 0 2000 0 w w (by omega) hN (by omega) (by omega) hRw ez
            have hR2 : Rel (mix w x') := by rw [mix_self q4]; exact hR
            obtain ⟨r2, x2, y2, p1, p2, p3, p4, p5⟩ := s_cbL (N := N) (P0 := P) hs4 hz N 0 2000 0 w x' (by omega) hN (by omega) (by omega) hR2 ez
            have e := q1.symm.trans p1
            have er : r = r2 ∧ x' = x2 := by
              have := Option.some.inj e
              exact ⟨congrArg Prod.fst this, congrArg Prod.snd this⟩
            have ey : mix x2 y2 = y2 := by
              funext k
              by_cases ck : k < 71
              · rw [mix_lo ck, p5 k ck, er.2]
              · rw [mix_hi ck]
            rw [ey] at p3
            rw [nI_0, Nat.mul_zero, Nat.add_zero] at q1
            rw [nI_0] at p2
            refine OpI.q r x' y2 ?_ ?_ p3
            · rw [pre w rfl, if_neg c1, if_pos c2]; exact q1
            · rw [mod x' q4, if_neg c1, if_pos c2, er.1]; exact p2
        · exact OpI.q (-13) w w (by rw [pre w rfl, if_neg c1, if_neg c2]) (by rw [mod w (fun _ _ => rfl), if_neg c1, if_neg c2]) hR
      · exact OpI.q (-2) w w (by rw [f_X10_cartsBy, s_isSheet, if_pos h1, if_neg (by decide), s_within, if_pos h2, if_neg (by decide), s_within, if_neg h4, if_pos rfl]) (by rw [f_X11_cartsBy, s_in, if_pos h1, if_neg (by decide), s_in, if_pos h2, if_neg (by decide), s_in, if_neg h4, if_pos rfl]) hR
    · exact OpI.q (-2) w w (by rw [f_X10_cartsBy, s_isSheet, if_pos h1, if_neg (by decide), s_within, if_neg h2, if_pos rfl]) (by rw [f_X11_cartsBy, s_in, if_pos h1, if_neg (by decide), s_in, if_neg h2, if_pos rfl]) hR
  · exact OpI.q (-2) w w (by rw [f_X10_cartsBy, s_isSheet, if_neg h1, if_pos rfl]) (by rw [f_X11_cartsBy, s_in, if_neg h1, if_pos rfl]) hR
