-- ===== op_init =====
def Zc (q : Nat) : Prop := q = 1 ∨ q = 3 ∨ (5 ≤ q ∧ q ≤ 18) ∨ (21 ≤ q ∧ q ≤ 38) ∨ (64 ≤ q ∧ q ≤ 70 ∧ q ≠ 65 ∧ q ≠ 67 ∧ q ≠ 69) ∨ (73 ≤ q ∧ q ≤ 79) ∨ (83 ≤ q ∧ q ≤ 86) ∨ q = 88 ∨ q = 89
theorem W00_2 : W00 2 = upd (upd (upd (fun _ => 0) 0 1) 1 1) 2 0 := by
  unfold W00
  refine xz_n (by decide) ?_
  refine xz_n (by decide) ?_
  refine xu_s ?_
  refine xu_s ?_
  refine xu_s ?_
  exact xz_s _ _
theorem sh_tab : ∀ s, s < 4 → (upd (upd (upd (upd (fun _ => 0) 0 (-1)) 1 (-1)) 2 (-1)) 3 (-1) : Nat → Int32) s = -1 := by decide
theorem op_init : ∃ w1 w2, g_0 (xzero (fun _ _ => 0) 0) = some ((), w1) ∧ g_71 (xzero w1 71) = some ((), w2) ∧ Rel w2 := by
  obtain ⟨T, hT, hTt⟩ := s_layAll (n := 0) (w := W00) (by omega) (by rw [W00_z (by decide)]; rfl) (fun j _ => by
    rw [W00_z (by decide)]
    show (0 : Int32) ≤ 0 ∧ (0 : Int32) ≤ 99
    decide)
  rw [W00_z (by decide)] at hTt
  have Vlt : ∀ q, q < 5 → W33 (xuc W00 4 T) q = xuc W00 4 T q := fun q h => W33_lt _ h
  have Vz : ∀ q, 5 ≤ q → q ≠ 63 ∧ q ≠ 65 ∧ q ≠ 67 ∧ q ≠ 69 → W33 (xuc W00 4 T) q = fun _ => 0 := fun q h1 h2 => W33_z (by rw [xuc_ne _ _ _ (by omega)]; exact W00_z (by omega)) h2
  have Vsh := W33_sh (xuc W00 4 T)
  have e0 := g0_eq hT
  generalize W33 (xuc W00 4 T) = V at *
  obtain ⟨g, w', r1, r2, r3, r4⟩ := s_putsL 34 0 2000 V (by omega) (by omega) (by rw [Vz 19 (by decide) (by decide)]; rfl) (fun j => by rw [Vz 20 (by decide) (by decide), if_neg (by omega)])
  obtain ⟨u1, a1, a2, a3, a4, a5, a6, a7⟩ := (s_into (T := TT) (z := 34) (t := 0) (w := w') (by decide) (by decide) r3 r2).2 _ _ _ first_ok
  have E1 : g_0 (xzero (fun _ _ => 0) 0) = some ((), xup u1 0 3 1) := by
    rw [e0, r1, f_X10_init_L185, by_tab.1, if_pos (by decide), show xin (0 : Int32) 6 = true from by decide, xchk_true, xlet_eq, show (0 : Int32).toNatClampNeg = 0 from by decide, a1, xbind_some]
  have Vu : ∀ q, q ≠ 19 → q ≠ 20 → q ≠ 39 → q ≠ 40 → q ≠ 41 → u1 q = V q := fun q h1 h2 h3 h4 h5 => by rw [a2 q h1 (by omega) (by omega) (by omega), r4 q h1 h2]
  have Vu0 : u1 0 = fun _ => 0 := by rw [Vu 0 (by decide) (by decide) (by decide) (by decide) (by decide), Vlt 0 (by decide), xuc_ne _ _ _ (by decide)]; exact W00_z (by decide)
  obtain ⟨W, c0, c1, c2, c3, c4, c5, c6, c7⟩ := g71_eq (xup u1 0 3 1) (fun q hq => by rw [xup_ne _ _ _ (by omega), Vu q (by omega) (by omega) (by omega) (by omega) (by omega)]; exact Vz q (by omega) (by omega))
  obtain ⟨g', w'', s1, s2, s3⟩ := s_copyML 34 0 2000 W (by omega) (by omega) (fun j hj => by rw [c2]; exact C90_eq j hj) (fun j hj => absurd hj (Nat.not_lt_zero j))
  have h91 : ∀ j, j < 96 → w'' 91 j = xWords.getD j 0 := fun j hj => by rw [s3 91 (by decide), c3]; exact C91_eq j hj
  have h71 : ∀ j, j ≠ 58 → w'' 71 j = 0 := fun j hj => by rw [s3 71 (by decide), c4, upd_n _ _ hj]
  have h58 : w'' 71 58 = -1 := by rw [s3 71 (by decide), c4, upd_s]
  obtain ⟨u2, b1, b2, b3, b4, b5, b6⟩ := (s_mtext (T := TT) (z := 34) (t := 0) (w := xup w'' 71 11 34) (by decide) (by decide) ⟨by rw [xup_same, upd_s]; rfl, fun j hj => by rw [xup_ne _ _ _ (by decide)]; exact s2 j hj, fun j hj => by rw [xup_ne _ _ _ (by decide)]; exact h91 j hj, by rw [xup_same, upd_n _ _ (by decide), h71 14 (by decide)]; rfl⟩).2 _ _ _ first_ok
  have E2 : g_71 (xzero (xup u1 0 3 1) 71) = some ((), u2) := by
    rw [c0, s1, f_X11_init_L1047, if_pos (by decide), b1, xbind_some]
  refine ⟨_, u2, E1, E2, ?_⟩
  have lo : ∀ q, q < 71 → u2 q = xup u1 0 3 1 q := fun q hq => by rw [b2.1 q (by omega) (by omega) (by omega) (by omega), xup_ne _ _ _ (by omega), s3 q (by omega), c1 q hq]
  have lo1 : ∀ q, 1 ≤ q → q < 71 → u2 q = u1 q := fun q h1 hq => by rw [lo q hq, xup_ne _ _ _ (by omega)]
  have lo2 : ∀ q, 1 ≤ q → q < 71 → q ≠ 19 → q ≠ 20 → q ≠ 39 → q ≠ 40 → q ≠ 41 → u2 q = V q := fun q h0 hq h1 h2 h3 h4 h5 => by rw [lo1 q h0 hq, Vu q h1 h2 h3 h4 h5]
  have hi : ∀ q, 72 ≤ q → q ≠ 80 → q ≠ 81 → q ≠ 82 → q ≠ 92 → u2 q = W q := fun q h0 h1 h2 h3 h4 => by rw [b2.1 q (by omega) h2 h3 h4, xup_ne _ _ _ (by omega), s3 q h1]
  have m71 : ∀ j, j ≠ 11 → j ≠ 14 → j < 28 ∨ (j = 32 ∨ j = 33) ∨ 36 < j → u2 71 j = w'' 71 j := fun j h1 h2 h3 => by rw [b2.2.1 j h1 h2 h3, xup_same, upd_n _ _ h1]
  have zc : ∀ q, Zc q → u2 q = fun _ => 0 := fun q h => by
    unfold Zc at h
    by_cases c : q < 71
    · rw [lo2 q (by omega) c (by omega) (by omega) (by omega) (by omega) (by omega)]
      by_cases d : q < 5
      · rw [Vlt q d, xuc_ne _ _ _ (by omega)]; exact W00_z (by omega)
      · exact Vz q (by omega) (by omega)
    · rw [hi q (by omega) (by omega) (by omega) (by omega) (by omega)]
      exact c7 q (by omega) (by omega) (by omega) (by omega)
  have zj : ∀ q j, Zc q → u2 q j = 0 := fun q j h => by rw [zc q h]
  have e2 : u2 2 = upd (upd (upd (fun _ => 0) 0 1) 1 1) 2 0 := by rw [lo2 2 (by decide) (by decide) (by decide) (by decide) (by decide) (by decide) (by decide), Vlt 2 (by decide), xuc_ne _ _ _ (by decide)]; exact W00_2
  have e72 : u2 72 = upd (upd (upd (fun _ => 0) 0 1) 1 1) 2 0 := by rw [hi 72 (by decide) (by decide) (by decide) (by decide) (by decide)]; exact c5
  have e4 : u2 4 = T := by rw [lo2 4 (by decide) (by decide) (by decide) (by decide) (by decide) (by decide) (by decide), Vlt 4 (by decide), xuc_same]
  have e87 : ∀ s, s < 4 → u2 87 s = -1 := fun s hs => by rw [hi 87 (by decide) (by decide) (by decide) (by decide) (by decide), c6]; exact sh_tab s hs
  have e03 : u2 0 3 = 1 := by rw [lo 0 (by decide), xup_same, upd_s]
  have e04 : u2 0 4 = 0 := by rw [lo 0 (by decide), xup_same, upd_n _ _ (by decide), Vu0]
  have e12 : u2 1 2 = 0 := zj 1 2 (by unfold Zc; omega)
  have e52 : u2 5 2 = 0 := zj 5 2 (by unfold Zc; omega)
  have e330 : u2 33 0 = 0 := zj 33 0 (by unfold Zc; omega)
  have z71 : ∀ j, j ≠ 11 → j ≠ 14 → j ≠ 58 → j < 28 ∨ (j = 32 ∨ j = 33) ∨ 36 < j → u2 71 j = 0 := fun j h1 h2 h3 h4 => by rw [m71 j h1 h2 h4, h71 j h3]
  have rSt : R_stone u2 := by
    refine ⟨by rw [z71 1 (by decide) (by decide) (by decide) (by decide), e12], by rw [e12]; decide, fun j _ => by rw [zj 73 j (by unfold Zc; omega), zj 3 j (by unfold Zc; omega)], fun j _ => by rw [zj 3 j (by unfold Zc; omega)]; decide, fun d hd => ?_⟩
    rw [e4, e12, zc 3 (by unfold Zc; omega), hTt d hd]; rfl
  have rYd : R_yard u2 := by
    refine ⟨by rw [z71 3 (by decide) (by decide) (by decide) (by decide), e52], by rw [e52]; decide, fun c hc => ?_, fun c hc => ?_⟩
    · have z8 : ∀ j, u2 (8 + c) j = 0 := fun j => zj (8 + c) j (by unfold Zc; omega)
      rw [z8 0, z8 1, z8 2, z8 3, z8 4, zj 7 c (by unfold Zc; omega), zj 74 c (by unfold Zc; omega), zj 75 c (by unfold Zc; omega), zj 76 c (by unfold Zc; omega), zj 77 c (by unfold Zc; omega), zj 78 c (by unfold Zc; omega), zj 79 c (by unfold Zc; omega)]
      exact ⟨rfl, rfl, rfl, rfl, rfl, rfl⟩
    · have z8 : ∀ j, u2 (8 + c) j = 0 := fun j => zj (8 + c) j (by unfold Zc; omega)
      rw [z8 0, z8 1, z8 2, z8 3, z8 4, zj 7 c (by unfold Zc; omega)]
      decide
  have rTp : R_tape u2 := by
    have h19 : u2 19 1 = 0 := by rw [lo1 19 (by decide) (by decide)]; exact a3
    exact ⟨by rw [b3, h19], by rw [h19]; decide, fun j hj => by rw [h19] at hj; exact absurd hj (Nat.not_lt_zero j)⟩
  have rTx : R_text u2 := by
    refine ⟨by rw [b4, e03]; rfl, by rw [e03]; decide, by rw [z71 15 (by decide) (by decide) (by decide) (by decide), e04], by rw [e04, e03]; decide, fun t ht => ?_⟩
    rw [e03, show (1 : Int32).toNatClampNeg = 1 from by decide] at ht
    have et : t = 0 := by omega
    subst et
    obtain ⟨bl, g0, g1, g2⟩ := first_ok.bd
    exact TextOk.new (by omega) g0 g1 g2 (by rw [lo1 _ (by omega) (by omega)]; exact a4) (by rw [lo1 _ (by omega) (by omega)]; exact a5) (by rw [lo1 _ (by omega) (by omega)]; exact a6) (fun i hi => by rw [lo1 _ (by omega) (by omega)]; exact a7 i hi) b5 b6
  have rIm : R_img u2 := ⟨by rw [z71 16 (by decide) (by decide) (by decide) (by decide), e330], Or.inl e330, fun h => by rw [e330] at h; exact absurd h (by decide)⟩
  have rSh : R_sheet u2 := by
    intro s hs
    have eq : u2 (63 + 2 * s) = V (63 + 2 * s) := lo2 _ (by omega) (by omega) (by omega) (by omega) (by omega) (by omega) (by omega)
    obtain ⟨v0, v1⟩ := Vsh s hs
    rw [eq, v0, v1, e87 s hs, zj 88 s (by unfold Zc; omega)]
    exact ⟨rfl, rfl, by decide, by decide, fun i _ => by rw [zj 89 _ (by unfold Zc; omega), zj (64 + 2 * s) i (by unfold Zc; omega)]⟩
  refine ⟨?_, rSt.pj, rYd.pj, rTp.pj, rTx.pj, rIm.pj, rSh.pj, ?_⟩
  · unfold R_scale
    rw [xpj_all (k := 72) (coreA_all rfl), xpj_all (k := 2) (coreA_all rfl), e72, e2]
    exact ⟨fun _ _ => rfl, by decide, by decide, by decide⟩
  · unfold R_const
    rw [xpj_all (k := 91) (coreA_all rfl), xpj_core (k := 71) (j := 58) rfl, xpj_core (k := 71) (j := 59) rfl, m71 58 (by decide) (by decide) (by decide), h58, z71 59 (by decide) (by decide) (by decide) (by decide)]
    exact ⟨fun j hj => by rw [hi 91 (by decide) (by decide) (by decide) (by decide) (by decide), c3]; exact C91_eq j hj, rfl, rfl⟩
