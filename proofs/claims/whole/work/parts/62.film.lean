-- ===== days that are told =====
/-- a row of cells tells the day of k hours -/
def Tells (w : xI) (cm : Nat → Int32) (t n : Nat) (k : Nat) (T : Nat → Int32) : Prop := ∀ h, h < k → dayS w cm t n (-1) 0 h ≠ 0 → T (2 * dayR w cm t n (-1) 0 h) = nI h ∧ T (2 * dayR w cm t n (-1) 0 h + 1) = nI (dayS w cm t n (-1) 0 h)
theorem dayR_inj {w : xI} {cm : Nat → Int32} {t n : Nat} {sk : Int32} {ab h h' : Nat} (a : dayS w cm t n sk ab h ≠ 0) (b : dayS w cm t n sk ab h' ≠ 0) (e : dayR w cm t n sk ab h = dayR w cm t n sk ab h') : h = h' := by
  rcases Nat.lt_trichotomy h h' with l | l | l
  · have := dayR_mono w cm t n sk ab h' l a; omega
  · exact l
  · have := dayR_mono w cm t n sk ab h l b; omega
theorem s_filX {w : xI} {cm : Nat → Int32} {t n s : Nat} (hs : s < 4) : ∀ (m r fu : Nat) (u : xI), r + m = dayR w cm t n (-1) 0 10 → m < fu → DayX w cm t n (-1) 0 10 u → u (63 + 2 * s) 0 = 2 → u (63 + 2 * s) 1 = nI (2 * dayR w cm t n (-1) 0 10) →
    (∀ h, h < 10 → dayS w cm t n (-1) 0 h ≠ 0 → dayR w cm t n (-1) 0 h < r → u (64 + 2 * s) (2 * dayR w cm t n (-1) 0 h) = nI h ∧ u (64 + 2 * s) (2 * dayR w cm t n (-1) 0 h + 1) = nI (dayS w cm t n (-1) 0 h)) → (∀ j, 2 * r ≤ j → j < 40 → u (64 + 2 * s) j = 0) →
    ∃ u', f_X10_film_L37 fu (63 + 2 * s) (nI r) u = some (nI (dayR w cm t n (-1) 0 10), u') ∧ (∀ q, q ≠ 64 + 2 * s → u' q = u q) ∧ Tells w cm t n 10 (u' (64 + 2 * s)) ∧ ∀ j, 2 * dayR w cm t n (-1) 0 10 ≤ j → j < 40 → u' (64 + 2 * s) j = 0 := by
  have hR10 := dayR_le w cm t n (-1) 0 10
  intro m
  induction m with
  | zero =>
    intro r fu u h1 h2 hD e0 e1 hT hZ
    obtain ⟨f, rfl⟩ : ∃ f, fu = f + 1 := ⟨fu - 1, by omega⟩
    refine ⟨u, ?_, fun _ _ => rfl, fun h hh hh0 => hT h hh hh0 (by have := dayR_mono w cm t n (-1) 0 10 hh hh0; omega), fun j a b => hZ j (by omega) b⟩
    rw [f_X10_film_L37, hD.1, if_pos (nI_le (by omega) (by omega))]
  | succ m ih =>
    intro r fu u h1 h2 hD e0 e1 hT hZ
    obtain ⟨f, rfl⟩ : ∃ f, fu = f + 1 := ⟨fu - 1, by omega⟩
    obtain ⟨d5, d6, d7, d8, d9, dr⟩ := hD
    obtain ⟨h, a, b, d⟩ := row_hour (w := w) (cm := cm) (t := t) (n := n) (sk := -1) (ab := 0) 10 r (by omega)
    obtain ⟨g1, g2⟩ := dr h a b
    rw [d] at g1 g2
    have ea : (2 : Int32) * nI r = nI (2 * r) := pk_mul 2 r
    have ec : 63 + 2 * s + 1 = 64 + 2 * s := by omega
    have n0 : ¬ (2 : Int32) = 0 := by decide
    have n1 : ¬ (2 : Int32) = 1 := by decide
    have q1 := s_put (63 + 2 * s) (2 * r) (nI h) u e1 (by omega) (by omega)
    rw [e0, if_neg n0, if_neg n1, ec] at q1
    have x1 : ∀ (v : Int32) j, xup u (64 + 2 * s) j v (63 + 2 * s) = u (63 + 2 * s) := fun v j => xup_ne _ _ _ (by omega)
    have q2 := s_put (63 + 2 * s) (2 * r + 1) (nI (dayS w cm t n (-1) 0 h)) (xup u (64 + 2 * s) (2 * r) (nI h)) (n := 2 * dayR w cm t n (-1) 0 10) (by rw [x1]; exact e1) (by omega) (by omega)
    rw [x1, e0, if_neg n0, if_neg n1, ec] at q2
    generalize hv : xup (xup u (64 + 2 * s) (2 * r) (nI h)) (64 + 2 * s) (2 * r + 1) (nI (dayS w cm t n (-1) 0 h)) = v at q2
    have vq : ∀ q, q ≠ 64 + 2 * s → v q = u q := fun q hq => by rw [← hv, xup_ne _ _ _ hq, xup_ne _ _ _ hq]
    have vT : v (64 + 2 * s) = upd (upd (u (64 + 2 * s)) (2 * r) (nI h)) (2 * r + 1) (nI (dayS w cm t n (-1) 0 h)) := by rw [← hv, xup_same, xup_same]
    have Dv : DayX w cm t n (-1) 0 10 v := DayX.cg ⟨d5, d6, d7, d8, d9, dr⟩ (vq 28 (by omega)) (vq 30 (by omega)) (vq 31 (by omega))
    obtain ⟨u', r1, r2, r3, r4⟩ := ih (r + 1) f v (by omega) (by omega) Dv (by rw [vq _ (by omega)]; exact e0) (by rw [vq _ (by omega)]; exact e1) (fun h' a' b' d' => by
      rw [vT]
      by_cases e : h' = h
      · subst e
        rw [d, upd_n _ _ (by omega), upd_s, upd_s]; exact ⟨rfl, rfl⟩
      · have ne : dayR w cm t n (-1) 0 h' ≠ r := fun z => e (dayR_inj b' b (z.trans d.symm))
        rw [upd_n _ _ (by omega), upd_n _ _ (by omega), upd_n _ _ (by omega), upd_n _ _ (by omega)]
        exact hT h' a' b' (by omega)) (fun j j1 j2 => by rw [vT, upd_n _ _ (by omega), upd_n _ _ (by omega)]; exact hZ j (by omega) j2)
    refine ⟨u', ?_, fun q hq => by rw [r2 q hq, vq q hq], r3, r4⟩
    rw [f_X10_film_L37, d5, if_neg (nI_ge (by omega) (by omega)), xin_nI (by omega) (by decide), nI_clamp (by omega), g1, ea, nI_1, xchk_true, q1, xbind_some, xchk_true, xup_ne _ _ _ (by omega), g2, q2, xbind_some, xlet_eq, nI_1]
    exact r1
theorem s_zroM {s : Nat} (hs : s < 4) : ∀ (m k fu : Nat) (u : xI), k + m = 40 → m < fu → ∃ z, f_X11_film_L20 fu (nI s) (nI k) u = f_X11_film_L48 2000 (nI s) 0 0 z ∧ (∀ q, q ≠ 89 → z q = u q) ∧ ∀ i, z 89 i = if 40 * s + k ≤ i ∧ i < 40 * s + 40 then 0 else u 89 i := by
  intro m
  induction m with
  | zero =>
    intro k fu u h1 h2
    obtain ⟨f, rfl⟩ : ∃ f, fu = f + 1 := ⟨fu - 1, by omega⟩
    refine ⟨u, ?_, fun _ _ => rfl, fun i => by rw [if_neg (by omega)]⟩
    rw [f_X11_film_L20, if_pos (show (40 : Int32) ≤ nI k from nI_le (a := 40) (by omega) (by omega))]
  | succ m ih =>
    intro k fu u h1 h2
    obtain ⟨f, rfl⟩ : ∃ f, fu = f + 1 := ⟨fu - 1, by omega⟩
    have e40 : (40 : Int32) * nI s = nI (40 * s) := pk_mul 40 s
    obtain ⟨z, r1, r2, r3⟩ := ih (k + 1) f (xup u 89 (40 * s + k) 0) (by omega) (by omega)
    refine ⟨z, ?_, fun q hq => by rw [r2 q hq, xup_ne _ _ _ hq], fun i => ?_⟩
    · rw [f_X11_film_L20, if_neg (show ¬ (40 : Int32) ≤ nI k from nI_ge (b := 40) (by omega) (by omega)), e40, nI_add, xin_nI (by omega) (by decide), xchk_true, xlet_eq, nI_1, nI_clamp (by omega)]
      exact r1
    · rw [r3 i, xup_same]
      by_cases e : i = 40 * s + k
      · rw [e, upd_s, if_neg (by omega), if_pos (by omega)]
      · rw [upd_n _ _ e]
        by_cases g : 40 * s + k ≤ i ∧ i < 40 * s + 40
        · rw [if_pos g, if_pos (by omega)]
        · rw [if_neg g, if_neg (by omega)]
theorem s_rowsM {w : xI} {cm : Nat → Int32} {t n : Nat} {u : xI} (hn : n ≤ 10) (h100 : ∀ h, h < 10 → u 100 h = nI (dayS w cm t n (-1) 0 h)) : ∀ (m k fu : Nat), k + m = 10 → m < fu → f_X11_rowsOfDay_L4 fu (nI (dayR w cm t n (-1) 0 k)) (nI k) u = some (nI (dayR w cm t n (-1) 0 10), u) := by
  have hp := pw10 hn
  intro m
  induction m with
  | zero =>
    intro k fu h1 h2
    obtain ⟨f, rfl⟩ : ∃ f, fu = f + 1 := ⟨fu - 1, by omega⟩
    have hk : k = 10 := by omega
    subst hk
    rw [f_X11_rowsOfDay_L4, if_pos (show (10 : Int32) ≤ nI 10 from nI_le (a := 10) (by omega) (by omega))]
  | succ m ih =>
    intro k fu h1 h2
    obtain ⟨f, rfl⟩ : ∃ f, fu = f + 1 := ⟨fu - 1, by omega⟩
    have hS := dayS_lt w cm t n (-1) 0 k
    have go := ih (k + 1) f (by omega) (by omega)
    have er : dayR w cm t n (-1) 0 (k + 1) = if dayS w cm t n (-1) 0 k = 0 then dayR w cm t n (-1) 0 k else dayR w cm t n (-1) 0 k + 1 := rfl
    rw [f_X11_rowsOfDay_L4, if_neg (show ¬ (10 : Int32) ≤ nI k from nI_ge (b := 10) (by omega) (by omega)), xin_nI (by omega) (by decide), xchk_true, nI_clamp (by omega), h100 k (by omega), Int32.add_zero, nI_1, nI_1]
    simp only [xlet_eq]
    by_cases c : dayS w cm t n (-1) 0 k = 0
    · rw [if_pos c] at er
      rw [if_pos (show nI (dayS w cm t n (-1) 0 k) = 0 by rw [c]; rfl), ← er]; exact go
    · rw [if_neg c] at er
      rw [if_neg (nI_ne0 (by omega) (by omega)), ← er]; exact go
theorem s_filM {w : xI} {cm : Nat → Int32} {t n s : Nat} (hn : n ≤ 10) (hs : s < 4) : ∀ (m k fu : Nat) (u : xI), k + m = 10 → m < fu → (∀ h, h < 10 → u 100 h = nI (dayS w cm t n (-1) 0 h)) →
    (∀ h, h < k → dayS w cm t n (-1) 0 h ≠ 0 → u 89 (40 * s + 2 * dayR w cm t n (-1) 0 h) = nI h ∧ u 89 (40 * s + 2 * dayR w cm t n (-1) 0 h + 1) = nI (dayS w cm t n (-1) 0 h)) → (∀ j, 2 * dayR w cm t n (-1) 0 k ≤ j → j < 40 → u 89 (40 * s + j) = 0) →
    ∃ u', f_X11_film_L48 fu (nI s) (nI (dayR w cm t n (-1) 0 k)) (nI k) u = some (nI (dayR w cm t n (-1) 0 10), u') ∧ (∀ q, q ≠ 87 → q ≠ 88 → q ≠ 89 → u' q = u q) ∧ u' 87 = upd (u 87) s 2 ∧ u' 88 = upd (u 88) s (nI (2 * dayR w cm t n (-1) 0 10)) ∧ (∀ i, ¬ (40 * s ≤ i ∧ i < 40 * s + 40) → u' 89 i = u 89 i) ∧
      (∀ h, h < 10 → dayS w cm t n (-1) 0 h ≠ 0 → u' 89 (40 * s + 2 * dayR w cm t n (-1) 0 h) = nI h ∧ u' 89 (40 * s + 2 * dayR w cm t n (-1) 0 h + 1) = nI (dayS w cm t n (-1) 0 h)) ∧ ∀ j, 2 * dayR w cm t n (-1) 0 10 ≤ j → j < 40 → u' 89 (40 * s + j) = 0 := by
  have hp := pw10 hn
  intro m
  induction m with
  | zero =>
    intro k fu u h1 h2 h100 hT hZ
    obtain ⟨f, rfl⟩ : ∃ f, fu = f + 1 := ⟨fu - 1, by omega⟩
    have hk : k = 10 := by omega
    subst hk
    have ea : (2 : Int32) * nI (dayR w cm t n (-1) 0 10) = nI (2 * dayR w cm t n (-1) 0 10) := pk_mul 2 _
    refine ⟨xup (xup u 87 s 2) 88 s (nI (2 * dayR w cm t n (-1) 0 10)), ?_, fun q a b c => by rw [xup_ne _ _ _ b, xup_ne _ _ _ a], by rw [xup_ne _ _ _ (by decide), xup_same], by rw [xup_same, xup_ne _ _ _ (by decide)], fun i _ => by rw [xup_ne _ _ _ (by decide), xup_ne _ _ _ (by decide)], by rw [xup_ne _ _ _ (by decide), xup_ne _ _ _ (by decide)]; exact hT, by rw [xup_ne _ _ _ (by decide), xup_ne _ _ _ (by decide)]; exact hZ⟩
    have gr := s_rowsM (u := xup (xup u 87 s 2) 88 s (nI (2 * dayR w cm t n (-1) 0 10))) hn (fun h hh => by rw [xup_ne _ _ _ (by decide), xup_ne _ _ _ (by decide)]; exact h100 h hh) 10 0 2000 (by omega) (by omega)
    rw [f_X11_film_L48, if_pos (show (10 : Int32) ≤ nI 10 from nI_le (a := 10) (by omega) (by omega)), xin_nI hs (by decide), xchk_true, xchk_true, nI_clamp (by omega), ea]
    unfold f_X11_rowsOfDay
    have gr' : f_X11_rowsOfDay_L4 2000 0 0 (xup (xup u 87 s 2) 88 s (nI (2 * dayR w cm t n (-1) 0 10))) = some (nI (dayR w cm t n (-1) 0 10), xup (xup u 87 s 2) 88 s (nI (2 * dayR w cm t n (-1) 0 10))) := gr
    rw [gr', xbind_some]
  | succ m ih =>
    intro k fu u h1 h2 h100 hT hZ
    obtain ⟨f, rfl⟩ : ∃ f, fu = f + 1 := ⟨fu - 1, by omega⟩
    have hS := dayS_lt w cm t n (-1) 0 k
    have hRk := dayR_le w cm t n (-1) 0 k
    have er : dayR w cm t n (-1) 0 (k + 1) = if dayS w cm t n (-1) 0 k = 0 then dayR w cm t n (-1) 0 k else dayR w cm t n (-1) 0 k + 1 := rfl
    have ea : (2 : Int32) * nI (dayR w cm t n (-1) 0 k) = nI (2 * dayR w cm t n (-1) 0 k) := pk_mul 2 _
    have e40 : (40 : Int32) * nI s = nI (40 * s) := pk_mul 40 s
    rw [f_X11_film_L48, if_neg (show ¬ (10 : Int32) ≤ nI k from nI_ge (b := 10) (by omega) (by omega)), xin_nI (by omega) (by decide), xchk_true, nI_clamp (n := k) (by omega), h100 k (by omega)]
    by_cases c : dayS w cm t n (-1) 0 k = 0
    · rw [if_pos c] at er
      rw [if_pos (show nI (dayS w cm t n (-1) 0 k) = 0 by rw [c]; rfl), xlet_eq, nI_1, ← er]
      exact ih (k + 1) f u (by omega) (by omega) h100 (fun h hh hs0 => by
        by_cases e : h = k
        · subst e; exact absurd c hs0
        · exact hT h (by omega) hs0) (by rw [er]; exact hZ)
    · rw [if_neg c] at er
      rw [if_neg (nI_ne0 (by omega) (by omega)), ea, e40, nI_add, nI_1, xin_nI (by omega) (by decide), xchk_true, xchk_true, xin_nI (by omega) (by decide), xchk_true, xlet_eq, xlet_eq, nI_1, nI_1, nI_clamp (by omega), nI_clamp (by omega), ← er]
      generalize hv : xup (xup u 89 (40 * s + 2 * dayR w cm t n (-1) 0 k) (nI k)) 89 (40 * s + 2 * dayR w cm t n (-1) 0 k + 1) (nI (dayS w cm t n (-1) 0 k)) = v
      have vq : ∀ q, q ≠ 89 → v q = u q := fun q hq => by rw [← hv, xup_ne _ _ _ hq, xup_ne _ _ _ hq]
      have vT : v 89 = upd (upd (u 89) (40 * s + 2 * dayR w cm t n (-1) 0 k) (nI k)) (40 * s + 2 * dayR w cm t n (-1) 0 k + 1) (nI (dayS w cm t n (-1) 0 k)) := by rw [← hv, xup_same, xup_same]
      obtain ⟨u', r1, r2, r3, r4, r5, r6⟩ := ih (k + 1) f v (by omega) (by omega) (fun h hh => by rw [vq 100 (by decide)]; exact h100 h hh) (fun h hh hs0 => by
        rw [vT]
        by_cases e : h = k
        · subst e
          rw [upd_n _ _ (by omega), upd_s, upd_s]; exact ⟨rfl, rfl⟩
        · have hm := dayR_mono w cm t n (-1) 0 k (h := h) (by omega) hs0
          rw [upd_n _ _ (by omega), upd_n _ _ (by omega), upd_n _ _ (by omega), upd_n _ _ (by omega)]
          exact hT h (by omega) hs0) (fun j j1 j2 => by rw [vT, upd_n _ _ (by omega), upd_n _ _ (by omega)]; exact hZ j (by omega) j2)
      exact ⟨u', r1, fun q a b d => by rw [r2 q a b d, vq q d], by rw [r3, vq 87 (by decide)], by rw [r4, vq 88 (by decide)], fun i hi => by rw [r5 i hi, vT, upd_n _ _ (by omega), upd_n _ _ (by omega)], r6⟩
theorem Rel.shEnd {w w' : xI} (hR : Rel w) (h : ∀ k, ¬ scrN k → k ≠ 71 → ¬ (63 ≤ k ∧ k ≤ 70) → ¬ (87 ≤ k ∧ k ≤ 89) → w' k = w k) (h71 : ∀ j, j < 20 ∨ j = 58 ∨ j = 59 → w' 71 j = w 71 j) (hy : R_sheet w') : Rel w' := by
  generalize he : (fun k => if (63 ≤ k ∧ k ≤ 70) ∨ (87 ≤ k ∧ k ≤ 89) then w' k else w k : xI) = w3
  have i1 : ∀ k, (63 ≤ k ∧ k ≤ 70) ∨ (87 ≤ k ∧ k ≤ 89) → w3 k = w' k := fun k hk => by rw [← he]; exact if_pos hk
  have i2 : ∀ k, ¬ ((63 ≤ k ∧ k ≤ 70) ∨ (87 ≤ k ∧ k ≤ 89)) → w3 k = w k := fun k hk => by rw [← he]; exact if_neg hk
  have h3 : Rel w3 := hR.sheet (fun k a b => i2 k (by omega)) (fun s hs => by
    rw [i1 87 (by omega), i1 88 (by omega), i1 89 (by omega), i1 (63 + 2 * s) (by omega), i1 (64 + 2 * s) (by omega)]
    exact hy s hs)
  refine h3.fr (fun k hk hne => ?_) (fun j hj => by rw [i2 71 (by omega)]; exact h71 j hj)
  by_cases c : (63 ≤ k ∧ k ≤ 70) ∨ (87 ≤ k ∧ k ≤ 89)
  · rw [i1 k c]
  · rw [i2 k c]; exact h k hk hne (by omega) (by omega)
theorem op_film (a1 : Int32) : OpI (f_X10_film a1) (f_X11_film a1) := by
  intro w hR
  obtain ⟨n, hn, en, em⟩ := hR.n
  obtain ⟨t, ht, e4, e15, hX⟩ := hR.law
  by_cases h1 : 0 ≤ a1 ∧ a1 ≤ 3
  · obtain ⟨s, hs, rfl⟩ := nI_bd (n := 3) (by decide) h1.1 h1.2
    have hs4 : s < 4 := by omega
    have hR10 := dayR_le w (w 7) t n (-1) 0 10
    obtain ⟨u1, r1, r2, r3, r4⟩ := s_till (γ := Int32 × xI) hR hn en ht e4 hX
    have ea : (2 : Int32) * nI (dayR w (w 7) t n (-1) 0 10) = nI (2 * dayR w (w 7) t n (-1) 0 10) := pk_mul 2 _
    generalize hb : zf (xup (xup u1 (63 + 2 * s) 0 2) (63 + 2 * s) 1 (nI (2 * dayR w (w 7) t n (-1) 0 10))) (63 + 2 * s + 1) 0 40 = b
    have bq : ∀ q, q ≠ 63 + 2 * s → q ≠ 64 + 2 * s → b q = u1 q := fun q a c => by rw [← hb, zf_ne _ _ _ (by omega), xup_ne _ _ _ a, xup_ne _ _ _ a]
    have b63 : b (63 + 2 * s) = upd (upd (u1 (63 + 2 * s)) 0 2) 1 (nI (2 * dayR w (w 7) t n (-1) 0 10)) := by rw [← hb, zf_ne _ _ _ (by omega), xup_same, xup_same]
    have b64 : ∀ j, j < 40 → b (64 + 2 * s) j = 0 := fun j hj => by
      rw [← hb, show 64 + 2 * s = 63 + 2 * s + 1 by omega, zf_same]
      show (if 0 ≤ j ∧ j < 40 then _ else _) = _
      rw [if_pos ⟨Nat.zero_le _, hj⟩]
    have Db : DayX w (w 7) t n (-1) 0 10 b := r2.cg (bq 28 (by omega) (by omega)) (bq 30 (by omega) (by omega)) (bq 31 (by omega) (by omega))
    obtain ⟨w1, x1, x2, x3, x4⟩ := s_filX hs4 (dayR w (w 7) t n (-1) 0 10) 0 2000 b (by omega) (by omega) Db (by rw [b63, upd_n _ _ (by decide), upd_s]) (by rw [b63, upd_s]) (fun h _ _ z => absurd z (Nat.not_lt_zero _)) (fun j _ hj => b64 j hj)
    rw [nI_0] at x1
    -- the model
    have k1 : ∀ q, q ≠ 63 + 2 * s → q ≠ 64 + 2 * s → w1 q = u1 q := fun q c d => by rw [x2 q d, bq q c d]
    have hMz : Mz w (w 7) t w1 := (hR.mz r3 e15 hX).cg (fun q hq => k1 q (by omega) (by omega)) (fun j hj => by rw [k1 71 (by omega) (by omega)])
    obtain ⟨u2, q1, ⟨q2, q3, q4, q5, q6⟩, q7, q8⟩ := s_livesM (γ := Int32 × xI) (sk := -1) (ab := 0) (N := 10) hR hR.ydB hn (by decide) en (by decide) hMz (by rw [k1 71 (by omega) (by omega)]; exact (hR.sk r3).1) (by rw [k1 71 (by omega) (by omega)]; exact (hR.sk r3).2)
    obtain ⟨z, z1, z2, z3⟩ := s_zroM hs4 40 0 2000 u2 (by omega) (by omega)
    obtain ⟨w2, y1, y2, y3, y4, y5, y6, y7⟩ := s_filM (w := w) (cm := w 7) (t := t) hn hs4 10 0 2000 z (by omega) (by omega) (fun h hh => by rw [z2 100 (by decide), q5 h hh, if_pos hh]) (fun h hh => absurd hh (Nat.not_lt_zero h)) (fun j _ hj => by rw [z3 _, if_pos (by omega)])
    rw [nI_0] at z1
    have y1' : f_X11_film_L48 2000 (nI s) 0 0 z = some (nI (dayR w (w 7) t n (-1) 0 10), w2) := y1
    have kM : ∀ q, q ≠ 71 → q ≠ 93 → q ≠ 94 → q ≠ 95 → q ≠ 99 → q ≠ 100 → q ≠ 87 → q ≠ 88 → q ≠ 89 → w2 q = w1 q := fun q a b c d e f g h i => by rw [y2 q g h i, z2 q i, q7.1 q a b c d e f]
    have e63 : w2 (63 + 2 * s) = w1 (63 + 2 * s) := kM _ (by omega) (by omega) (by omega) (by omega) (by omega) (by omega) (by omega) (by omega) (by omega)
    have e64 : w2 (64 + 2 * s) = w1 (64 + 2 * s) := kM _ (by omega) (by omega) (by omega) (by omega) (by omega) (by omega) (by omega) (by omega) (by omega)
    have f63 : w1 (63 + 2 * s) = upd (upd (u1 (63 + 2 * s)) 0 2) 1 (nI (2 * dayR w (w 7) t n (-1) 0 10)) := by rw [x2 _ (by omega), b63]
    refine OpI.q (nI (dayR w (w 7) t n (-1) 0 10)) w1 w2 ?_ ?_ (hR.shEnd (fun k hk h71 hs1 hs2 => ?_) (fun j hj => ?_) (fun s' hs' => ?_))
    · rw [f_X10_film, s_isSheet, if_pos h1, if_neg (by decide), r1, xin_nI hs4 (by decide), xchk_true, xlet_eq, nI_clamp (by omega), r2.1, ea, s_become, xbind_some, hb]; exact x1
    · rw [f_X11_film, s_in, if_pos h1, if_neg (by decide)]
      refine (q1 _).trans ?_
      rw [z1]; exact y1'
    · unfold scrN at hk
      rw [kM k h71 (by omega) (by omega) (by omega) (by omega) (by omega) (by omega) (by omega) (by omega), k1 k (by omega) (by omega), r3 k (by omega)]
    · rw [y2 71 (by decide) (by decide) (by decide), z2 71 (by decide), q7.2 j (by omega), k1 71 (by omega) (by omega), r3 71 (by omega)]
    · by_cases e : s' = s
      · subst e
        rw [y3, upd_s, y4, upd_s, e63, e64, f63, upd_s, upd_n _ _ (by decide), upd_s]
        refine ⟨rfl, rfl, by decide, ⟨nI_pos' (by omega), nI_le (b := 40) (by omega) (by omega)⟩, fun i hi => ?_⟩
        by_cases g : 2 * dayR w (w 7) t n (-1) 0 10 ≤ i
        · rw [y7 i g hi, x4 i g hi]
        · obtain ⟨h, a, b, d⟩ := row_hour (w := w) (cm := w 7) (t := t) (n := n) (sk := -1) (ab := 0) 10 (i / 2) (by omega)
          obtain ⟨m1, m2⟩ := y6 h a b
          obtain ⟨l1, l2⟩ := x3 h a b
          rw [d] at m1 m2 l1 l2
          by_cases o : i % 2 = 0
          · rw [show i = 2 * (i / 2) by omega, m1, l1]
          · rw [show 40 * s' + i = 40 * s' + 2 * (i / 2) + 1 by omega, m2, show w1 (64 + 2 * s') i = w1 (64 + 2 * s') (2 * (i / 2) + 1) by congr 1; omega, l2]
      · obtain ⟨g1, g2, g3, g4, g5⟩ := hR.sh s' hs'
        have c63 : w2 (63 + 2 * s') = w (63 + 2 * s') := by rw [kM _ (by omega) (by omega) (by omega) (by omega) (by omega) (by omega) (by omega) (by omega) (by omega), k1 _ (by omega) (by omega), r3 _ (by omega)]
        have c64 : w2 (64 + 2 * s') = w (64 + 2 * s') := by rw [kM _ (by omega) (by omega) (by omega) (by omega) (by omega) (by omega) (by omega) (by omega) (by omega), k1 _ (by omega) (by omega), r3 _ (by omega)]
        have cM : ∀ q, 87 ≤ q → q ≤ 89 → u2 q = w q := fun q a b => by rw [q7.1 q (by omega) (by omega) (by omega) (by omega) (by omega) (by omega), k1 q (by omega) (by omega), r3 q (by omega)]
        rw [y3, upd_n _ _ e, y4, upd_n _ _ e, z2 87 (by decide), z2 88 (by decide), cM 87 (by decide) (by decide), cM 88 (by decide) (by decide), c63, c64]
        refine ⟨g1, g2, g3, g4, fun i hi => ?_⟩
        rw [y5 _ (by omega), z3 _, if_neg (by omega), cM 89 (by decide) (by decide)]
        exact g5 i hi
  · exact OpI.q (-2) w w (by rw [f_X10_film, s_isSheet, if_neg h1, if_pos rfl]) (by rw [f_X11_film, s_in, if_neg h1, if_pos rfl]) hR
