def Told (w : xI) (t n : Nat) (sz : Int32) (T : Nat → Int32) : Prop := sz = nI (2 * dayR w (w 7) t n (-1) 0 10) ∧ Tells w (w 7) t n 10 T
theorem s_toldL {w : xI} {t n s : Nat} (hs : s < 4) {u : xI} (hD : DayX w (w 7) t n (-1) 0 10 u) (T : Nat → Int32) (hT : u (64 + 2 * s) = T) : ∀ (m r fu : Nat), r + m = dayR w (w 7) t n (-1) 0 10 → m < fu → (∀ h, h < 10 → dayS w (w 7) t n (-1) 0 h ≠ 0 → dayR w (w 7) t n (-1) 0 h < r → T (2 * dayR w (w 7) t n (-1) 0 h) = nI h ∧ T (2 * dayR w (w 7) t n (-1) 0 h + 1) = nI (dayS w (w 7) t n (-1) 0 h)) →
    ∃ x, f_X1_isToldBy_L17 (63 + 2 * s) fu (nI r) u = some (x, u) ∧ (x = 1 ∧ Tells w (w 7) t n 10 T ∨ x = 0 ∧ ¬ Tells w (w 7) t n 10 T) := by
  have hR10 := dayR_le w (w 7) t n (-1) 0 10
  obtain ⟨d5, d6, d7, d8, d9, dr⟩ := hD
  intro m
  induction m with
  | zero =>
    intro r fu h1 h2 hp
    obtain ⟨f, rfl⟩ : ∃ f, fu = f + 1 := ⟨fu - 1, by omega⟩
    refine ⟨1, ?_, Or.inl ⟨rfl, fun h a b => hp h a b (by have := dayR_mono w (w 7) t n (-1) 0 10 a b; omega)⟩⟩
    rw [f_X1_isToldBy_L17, d5, if_pos (nI_le (by omega) (by omega))]
  | succ m ih =>
    intro r fu h1 h2 hp
    obtain ⟨f, rfl⟩ : ∃ f, fu = f + 1 := ⟨fu - 1, by omega⟩
    obtain ⟨h, a, b, d⟩ := row_hour (w := w) (cm := w 7) (t := t) (n := n) (sk := -1) (ab := 0) 10 r (by omega)
    obtain ⟨g1, g2⟩ := dr h a b
    rw [d] at g1 g2
    have ea : (2 : Int32) * nI r = nI (2 * r) := pk_mul 2 r
    have ec : 63 + 2 * s + 1 = 64 + 2 * s := by omega
    rw [f_X1_isToldBy_L17, d5, if_neg (nI_ge (by omega) (by omega)), ea, nI_1, xin_nI (by omega) (by decide), xin_nI (by omega) (by decide), xin_nI (by omega) (by decide), nI_clamp (by omega), nI_clamp (by omega), nI_clamp (by omega), ec, hT, g1, g2, nI_1]
    simp only [xchk_true, xlet_eq]
    by_cases c1 : T (2 * r) = nI h
    · rw [if_pos c1]
      by_cases c2 : T (2 * r + 1) = nI (dayS w (w 7) t n (-1) 0 h)
      · rw [if_pos c2]
        refine ih (r + 1) f (by omega) (by omega) (fun h' a' b' d' => ?_)
        by_cases e : h' = h
        · subst e; rw [d]; exact ⟨c1, c2⟩
        · have ne : dayR w (w 7) t n (-1) 0 h' ≠ r := fun z => e (dayR_inj b' b (z.trans d.symm))
          exact hp h' a' b' (by omega)
      · rw [if_neg c2]
        exact ⟨0, rfl, Or.inr ⟨rfl, fun z => c2 (by have := (z h a b).2; rw [d] at this; exact this)⟩⟩
    · rw [if_neg c1]
      exact ⟨0, rfl, Or.inr ⟨rfl, fun z => c1 (by have := (z h a b).1; rw [d] at this; exact this)⟩⟩
theorem s_toldX {γ : Type} {w : xI} {t n s : Nat} (hs : s < 4) {u : xI} (hD : DayX w (w 7) t n (-1) 0 10 u) (sz : Int32) (T : Nat → Int32) (hz : u (63 + 2 * s) 1 = sz) (hT : u (64 + 2 * s) = T) : ∃ x, (∀ (K : Int32 → xI → Option γ), xbind (f_X1_isToldBy (63 + 2 * s) u) K = K x u) ∧ (x = 1 ∧ Told w t n sz T ∨ x = 0 ∧ ¬ Told w t n sz T) := by
  have hR10 := dayR_le w (w 7) t n (-1) 0 10
  have ea : (2 : Int32) * nI (dayR w (w 7) t n (-1) 0 10) = nI (2 * dayR w (w 7) t n (-1) 0 10) := pk_mul 2 _
  unfold f_X1_isToldBy
  rw [hz, hD.1, ea]
  by_cases c : sz = nI (2 * dayR w (w 7) t n (-1) 0 10)
  · obtain ⟨x, x1, x2⟩ := s_toldL hs hD T hT (dayR w (w 7) t n (-1) 0 10) 0 2000 (by omega) (by omega) (fun h _ _ z => absurd z (Nat.not_lt_zero _))
    rw [nI_0] at x1
    refine ⟨x, fun K => by rw [if_pos c, x1, xbind_some], ?_⟩
    rcases x2 with ⟨a, b⟩ | ⟨a, b⟩
    · exact Or.inl ⟨a, c, b⟩
    · exact Or.inr ⟨a, fun z => b z.2⟩
  · exact ⟨0, fun K => by rw [if_neg c, xbind_some], Or.inr ⟨rfl, fun z => c z.1⟩⟩
theorem s_areL {w : xI} {t n s z : Nat} (hn : n ≤ 10) (hs : s < 4) (hz : z ≤ 40) {u : xI} (T : Nat → Int32) (h100 : ∀ h, h < 10 → u 100 h = nI (dayS w (w 7) t n (-1) 0 h)) (h88 : u 88 s = nI z) (h89 : ∀ i, i < 40 → u 89 (40 * s + i) = T i) : ∀ (m k fu : Nat), k + m = 10 → m < fu → Tells w (w 7) t n k T → ∃ x, f_X11_areRows_L10 fu (nI s) (nI (dayR w (w 7) t n (-1) 0 k)) (nI k) u = some (x, u) ∧ (x = 1 ∧ Told w t n (nI z) T ∨ x = 0 ∧ ¬ Told w t n (nI z) T) := by
  have hp := pw10 hn
  have hR10 := dayR_le w (w 7) t n (-1) 0 10
  intro m
  induction m with
  | zero =>
    intro k fu h1 h2 hp2
    obtain ⟨f, rfl⟩ : ∃ f, fu = f + 1 := ⟨fu - 1, by omega⟩
    have hk : k = 10 := by omega
    subst hk
    have ea : (2 : Int32) * nI (dayR w (w 7) t n (-1) 0 10) = nI (2 * dayR w (w 7) t n (-1) 0 10) := pk_mul 2 _
    rw [f_X11_areRows_L10, if_pos (show (10 : Int32) ≤ nI 10 from nI_le (a := 10) (by omega) (by omega)), xin_nI hs (by decide), xchk_true, nI_clamp (by omega), h88, ea]
    by_cases c : nI (2 * dayR w (w 7) t n (-1) 0 10) = nI z
    · rw [if_pos c]; exact ⟨1, rfl, Or.inl ⟨rfl, c.symm, hp2⟩⟩
    · rw [if_neg c]; exact ⟨0, rfl, Or.inr ⟨rfl, fun q => c q.1.symm⟩⟩
  | succ m ih =>
    intro k fu h1 h2 hp2
    obtain ⟨f, rfl⟩ : ∃ f, fu = f + 1 := ⟨fu - 1, by omega⟩
    have hS := dayS_lt w (w 7) t n (-1) 0 k
    have hRk := dayR_le w (w 7) t n (-1) 0 k
    have er : dayR w (w 7) t n (-1) 0 (k + 1) = if dayS w (w 7) t n (-1) 0 k = 0 then dayR w (w 7) t n (-1) 0 k else dayR w (w 7) t n (-1) 0 k + 1 := rfl
    have ea : (2 : Int32) * nI (dayR w (w 7) t n (-1) 0 k) = nI (2 * dayR w (w 7) t n (-1) 0 k) := pk_mul 2 _
    have e40 : (40 : Int32) * nI s = nI (40 * s) := pk_mul 40 s
    rw [f_X11_areRows_L10, if_neg (show ¬ (10 : Int32) ≤ nI k from nI_ge (b := 10) (by omega) (by omega)), xin_nI (n := 10) (by omega) (by decide), nI_clamp (n := k) (by omega), h100 k (by omega)]
    by_cases c : dayS w (w 7) t n (-1) 0 k = 0
    · rw [if_pos c] at er
      rw [xchk_true, if_pos (show nI (dayS w (w 7) t n (-1) 0 k) = 0 by rw [c]; rfl), xlet_eq, nI_1, ← er]
      refine ih (k + 1) f (by omega) (by omega) (fun h a b => ?_)
      by_cases e : h = k
      · subst e; exact absurd c b
      · exact hp2 h (by omega) b
    · rw [if_neg c] at er
      have hmk := dayR_mono w (w 7) t n (-1) 0 10 (h := k) (by omega) c
      rw [xchk_true, if_neg (nI_ne0 (by omega) (by omega)), ea, e40, nI_add, nI_1, xin_nI hs (by decide), xchk_true, nI_clamp (n := s) (by omega), h88]
      by_cases c1 : z ≤ 2 * dayR w (w 7) t n (-1) 0 k
      · rw [if_pos (nI_le c1 (by omega))]
        refine ⟨0, rfl, Or.inr ⟨rfl, fun q => ?_⟩⟩
        have := (nI_eq (by omega) (by omega)).mp q.1
        omega
      · rw [if_neg (nI_ge (by omega) (by omega)), xin_nI (by omega) (by decide), xin_nI (by omega) (by decide), nI_clamp (by omega), nI_clamp (by omega), h89 _ (by omega), show 40 * s + 2 * dayR w (w 7) t n (-1) 0 k + 1 = 40 * s + (2 * dayR w (w 7) t n (-1) 0 k + 1) by omega, h89 _ (by omega), nI_1, nI_1]
        simp only [xchk_true, xlet_eq]
        by_cases c2 : T (2 * dayR w (w 7) t n (-1) 0 k) = nI k
        · rw [if_pos c2]
          by_cases c3 : T (2 * dayR w (w 7) t n (-1) 0 k + 1) = nI (dayS w (w 7) t n (-1) 0 k)
          · rw [if_pos c3, ← er]
            refine ih (k + 1) f (by omega) (by omega) (fun h a b => ?_)
            by_cases e : h = k
            · subst e; exact ⟨c2, c3⟩
            · exact hp2 h (by omega) b
          · rw [if_neg c3]
            exact ⟨0, rfl, Or.inr ⟨rfl, fun q => c3 (q.2 k (by omega) c).2⟩⟩
        · rw [if_neg c2]
          exact ⟨0, rfl, Or.inr ⟨rfl, fun q => c2 (q.2 k (by omega) c).1⟩⟩
noncomputable def lawV (w : xI) (n : Nat) (sz : Int32) (T : Nat → Int32) : Nat → Nat → Nat → Nat
  | 0, _, S => S
  | m + 1, t, S => @ite Nat (Told w t n sz T) (Classical.propDecidable _) (lawV w n sz T m (t + 1) (S ||| 2 ^ t)) (lawV w n sz T m (t + 1) S)
theorem lawV_pos {w : xI} {n : Nat} {sz : Int32} {T : Nat → Int32} {m t S : Nat} (c : Told w t n sz T) : lawV w n sz T (m + 1) t S = lawV w n sz T m (t + 1) (S ||| 2 ^ t) := if_pos c
theorem lawV_neg {w : xI} {n : Nat} {sz : Int32} {T : Nat → Int32} {m t S : Nat} (c : ¬ Told w t n sz T) : lawV w n sz T (m + 1) t S = lawV w n sz T m (t + 1) S := if_neg c
theorem Rel.texts {w : xI} (hR : Rel w) : ∃ N : Nat, N ≤ 6 ∧ w 0 3 = nI N ∧ w 71 14 = nI N ∧ ∀ t, t < N → TxB w t w := by
  obtain ⟨a, b, c, d, e⟩ := hR.tx
  obtain ⟨N, hN, eN⟩ := nI_bd (n := 6) (by decide) (Int32_01 b.1) b.2
  refine ⟨N, hN, eN, a.trans eN, fun t ht => ⟨by omega, e t (by rw [eN, nI_clamp (by omega)]; exact ht), rfl, rfl, rfl, rfl⟩⟩
theorem s_lawX {w : xI} (hR : Rel w) {n s N : Nat} (hn : n ≤ 10) (en : w 5 2 = nI n) (hs : s < 4) (hN : N ≤ 6) (eN : w 0 3 = nI N) (hX : ∀ t, t < N → TxB w t w) : ∀ (m t fu S : Nat) (u : xI), t + m = N → m < fu → S < 2 ^ t → FrX w u → (∀ c, c < 10 → u 29 c = w 7 c) → ∃ u', f_X10_laws_L24 fu (nI s) (nI S) (nI t) u = some (nI (lawV w n (w (63 + 2 * s) 1) (w (64 + 2 * s)) m t S), u') ∧ FrX w u' := by
  intro m
  induction m with
  | zero =>
    intro t fu S u h1 h2 hS hf e29
    obtain ⟨f, rfl⟩ : ∃ f, fu = f + 1 := ⟨fu - 1, by omega⟩
    refine ⟨u, ?_, hf⟩
    rw [f_X10_laws_L24, hf 0 (by omega), eN, if_pos (nI_le (by omega) (by omega))]; rfl
  | succ m ih =>
    intro t fu S u h1 h2 hS hf e29
    obtain ⟨f, rfl⟩ : ∃ f, fu = f + 1 := ⟨fu - 1, by omega⟩
    have e2 : 2 ^ (t + 1) = 2 ^ t * 2 := Nat.pow_succ 2 t
    have h0 : 0 < 2 ^ t := Nat.two_pow_pos t
    have htN : t < N := by omega
    obtain ⟨u1, r1, r2, r3, r4⟩ := s_dayX (γ := Int32 × xI) (sk := -1) (ab := 0) (C := 1023) (N := 10) hR hR.ydB hn en (by decide) (by decide) (free0 hn) hf (fun c hc => e29 c (by omega)) (hX t htN)
    obtain ⟨x, x1, x2⟩ := s_toldX (γ := Int32 × xI) hs r2 (w (63 + 2 * s) 1) (w (64 + 2 * s)) (by rw [r3 _ (by omega)]) (r3 _ (by omega))
    have e29' : ∀ c, c < 10 → u1 29 c = w 7 c := fun c hc => by rw [r4]; exact e29 c hc
    have pre : f_X10_laws_L24 (f + 1) (nI s) (nI S) (nI t) u = if x = 0 then f_X10_laws_L24 f (nI s) (nI S) (nI (t + 1)) u1 else f_X10_laws_L24 f (nI s) (nI (S ||| 2 ^ t)) (nI (t + 1)) u1 := by
      rw [f_X10_laws_L24, hf 0 (by omega), eN, if_neg (nI_ge (by omega) (by omega)), xin_nI (by omega) (by decide), xchk_true, xlet_eq, nI_clamp (n := t) (by omega)]
      refine (r1 _).trans ?_
      rw [xin_nI hs (by decide), xchk_true, xlet_eq, nI_clamp (by omega), x1, b_orP (by omega) hS, nI_1]; rfl
    rw [pre]
    rcases x2 with ⟨a, b⟩ | ⟨a, b⟩
    · rw [a, if_neg (by decide), lawV_pos b]
      exact ih (t + 1) f _ u1 (by omega) (by omega) (Nat.or_lt_two_pow (by omega) (by omega)) r3 e29'
    · rw [a, if_pos rfl, lawV_neg b]
      exact ih (t + 1) f S u1 (by omega) (by omega) (by omega) r3 e29'
/-- only the model's day and its law have changed -/
def FrR (u u' : xI) : Prop := (∀ q, q ≠ 71 → q ≠ 93 → q ≠ 94 → q ≠ 95 → q ≠ 99 → q ≠ 100 → u' q = u q) ∧ ∀ j, j ≠ 15 → j < 40 ∨ 57 < j → u' 71 j = u 71 j
theorem FrR.tr {u v z : xI} (h1 : FrR u v) (h2 : FrR v z) : FrR u z := ⟨fun q a b c d e f => (h2.1 q a b c d e f).trans (h1.1 q a b c d e f), fun j hj hk => (h2.2 j hj hk).trans (h1.2 j hj hk)⟩
theorem FrL.frR {u v : xI} (h : FrL u v) : FrR u v := ⟨h.1, fun j _ hj => h.2 j hj⟩
theorem FrR.up {u : xI} {x : Int32} : FrR u (xup u 71 15 x) := ⟨fun q a _ _ _ _ _ => xup_ne _ _ _ a, fun i hi _ => by rw [xup_same, upd_n _ _ hi]⟩
theorem FrR.mz {w : xI} {t t' : Nat} {u u' : xI} (hf : FrR u u') (h : Mz w (w 7) t u) (hX : TxB w t' u) (hr : u' 71 15 = nI t') : Mz w (w 7) t' u' := by
  obtain ⟨⟨a1, a2⟩, b, c, d, e, f⟩ := h
  have ht := hX.1
  have k : ∀ q, (40 ≤ q ∧ q ≤ 61) ∨ (72 ≤ q ∧ q ≤ 79) ∨ q = 81 ∨ q = 82 → u' q = u q := fun q hq => hf.1 q (by omega) (by omega) (by omega) (by omega) (by omega) (by omega)
  refine ⟨⟨by rw [hf.2 3 (by decide) (by omega)]; exact a1, fun i hi => ?_⟩, hr, hX.cg (k _ (by omega)) (k _ (by omega)) (k _ (by omega)) (k _ (by omega)), by rw [k 72 (by omega)]; exact d, by rw [hf.2 1 (by decide) (by omega)]; exact e, by rw [k 73 (by omega)]; exact f⟩
  rw [k 74 (by omega), k 75 (by omega), k 76 (by omega), k 77 (by omega), k 78 (by omega), k 79 (by omega)]
  exact a2 i hi
theorem s_lawM {w w1 : xI} (hR : Rel w) (hf0 : FrX w w1) {n s N z t0 : Nat} (hn : n ≤ 10) (en : w 5 2 = nI n) (hs : s < 4) (hz : z ≤ 40) (ez : w (63 + 2 * s) 1 = nI z) (hN : N ≤ 6) (eN : w 71 14 = nI N) (hX : ∀ t, t < N → TxB w t w) (hM0 : Mz w (w 7) t0 w1) : ∀ (m t fu S : Nat) (u : xI), t + m = N → m < fu → S < 2 ^ t → FrR w1 u → ∃ u', f_X11_laws_L23 fu (nI s) (nI t0) (nI S) (nI t) u = some (nI (lawV w n (w (63 + 2 * s) 1) (w (64 + 2 * s)) m t S), u') ∧ FrR w1 u' ∧ u' 71 15 = nI t0 := by
  obtain ⟨g1, g2, g3, g4, g5⟩ := hR.sh s hs
  intro m
  induction m with
  | zero =>
    intro t fu S u h1 h2 hS hf
    obtain ⟨f, rfl⟩ : ∃ f, fu = f + 1 := ⟨fu - 1, by omega⟩
    refine ⟨xup u 71 15 (nI t0), ?_, hf.tr FrR.up, by rw [xup_same, upd_s]⟩
    rw [f_X11_laws_L23, hf.2 14 (by decide) (by omega), hf0 71 (by omega), eN, if_pos (nI_le (by omega) (by omega))]; rfl
  | succ m ih =>
    intro t fu S u h1 h2 hS hf
    obtain ⟨f, rfl⟩ : ∃ f, fu = f + 1 := ⟨fu - 1, by omega⟩
    have e2 : 2 ^ (t + 1) = 2 ^ t * 2 := Nat.pow_succ 2 t
    have h0 : 0 < 2 ^ t := Nat.two_pow_pos t
    have hpt : 2 ^ t ≤ 2 ^ 6 := Nat.pow_le_pow_right (by decide) (by omega)
    have htN : t < N := by omega
    have fz : FrR w1 (xup u 71 15 (nI t)) := hf.tr FrR.up
    have hMz : Mz w (w 7) t (xup u 71 15 (nI t)) := fz.mz hM0 (hf0.txB (hX t htN)) (by rw [xup_same, upd_s])
    obtain ⟨u1, q1, ⟨q2, q3, q4, q5, q6⟩, q7, q8⟩ := s_livesM (γ := Int32 × xI) (sk := -1) (ab := 0) (N := 10) hR hR.ydB hn (by decide) en (by decide) hMz (by rw [fz.2 58 (by decide) (by omega)]; exact (hR.sk hf0).1) (by rw [fz.2 59 (by decide) (by omega)]; exact (hR.sk hf0).2)
    have c8 : ∀ q, 87 ≤ q → q ≤ 89 → u1 q = w q := fun q a b => by rw [q7.1 q (by omega) (by omega) (by omega) (by omega) (by omega) (by omega), fz.1 q (by omega) (by omega) (by omega) (by omega) (by omega) (by omega), hf0 q (by omega)]
    obtain ⟨x, x1, x2⟩ := s_areL (w := w) (t := t) hn hs hz (u := u1) (w (64 + 2 * s)) (fun h hh => by rw [q5 h hh, if_pos hh]) (by rw [c8 88 (by decide) (by decide), g2]; exact ez) (fun i hi => by rw [c8 89 (by decide) (by decide)]; exact g5 i hi) 10 0 2000 (by omega) (by omega) (fun h hh => absurd hh (Nat.not_lt_zero h))
    have x1' : f_X11_areRows_L10 2000 (nI s) 0 0 u1 = some (x, u1) := x1
    have pre : f_X11_laws_L23 (f + 1) (nI s) (nI t0) (nI S) (nI t) u = if x = 0 then f_X11_laws_L23 f (nI s) (nI t0) (nI S) (nI (t + 1)) u1 else f_X11_laws_L23 f (nI s) (nI t0) (nI (S ||| 2 ^ t)) (nI (t + 1)) u1 := by
      have ar : f_X11_areRows (nI s) (xup u 71 15 (nI t)) = some (x, u1) := by
        unfold f_X11_areRows
        refine (q1 _).trans ?_
        exact x1'
      rw [f_X11_laws_L23, hf.2 14 (by decide) (by omega), hf0 71 (by omega), eN, if_neg (nI_ge (by omega) (by omega)), ar, xbind_some, b_orP (by omega) hS, show (nI S ||| 0 : Int32) = nI S from (b_or (T := 0) (by omega) (by decide)).trans (by rw [Nat.or_zero]), nI_1]; rfl
    rw [pre]
    rw [ez] at ih ⊢
    rcases x2 with ⟨a, b⟩ | ⟨a, b⟩
    · rw [a, if_neg (by decide), lawV_pos b]
      exact ih (t + 1) f _ u1 (by omega) (by omega) (Nat.or_lt_two_pow (by omega) (by omega)) (fz.tr q7.frR)
    · rw [a, if_pos rfl, lawV_neg b]
      exact ih (t + 1) f S u1 (by omega) (by omega) (by omega) (fz.tr q7.frR)
theorem op_laws (a1 : Int32) : OpI (f_X10_laws a1) (f_X11_laws a1) := by
  intro w hR
  obtain ⟨n, hn, en, em⟩ := hR.n
  obtain ⟨t, ht, e4, e15, hX0⟩ := hR.law
  obtain ⟨N, hN, eN, eM, hX⟩ := hR.texts
  by_cases h1 : 0 ≤ a1 ∧ a1 ≤ 3
  · obtain ⟨s, hs, rfl⟩ := nI_bd (n := 3) (by decide) h1.1 h1.2
    have hs4 : s < 4 := by omega
    obtain ⟨e87, e88, b0, b1, e89⟩ := hR.sh s hs4
    obtain ⟨z, hz, ez⟩ := nI_bd (n := 40) (by decide) b1.1 b1.2
    by_cases hr : refV w s = 0
    · obtain ⟨y, y1, y2, y3⟩ := s_take (γ := Int32 × xI) w
      have fy : FrX w y := fun k hk => y2 k (by omega)
      obtain ⟨w1, x1, x2⟩ := s_lawX hR hn en hs4 hN eN hX N 0 2000 0 y (by omega) (by omega) (by decide) fy y3
      obtain ⟨w2, m1, m2, m3⟩ := s_lawM hR x2 hn en hs4 hz ez hN eM hX (hR.mz x2 e15 hX0) N 0 2000 0 w1 (by omega) (by omega) (by decide) ⟨fun _ _ _ _ _ _ _ => rfl, fun _ _ _ => rfl⟩
      rw [nI_0] at x1 m1
      refine OpI.q (nI (lawV w n (w (63 + 2 * s) 1) (w (64 + 2 * s)) N 0 0)) w1 w2 ?_ ?_ (hR.fr (fun k hk h71 => ?_) (fun j hj => ?_))
      · rw [f_X10_laws, s_refX hs4, hr, if_pos rfl, y1]; exact x1
      · rw [f_X11_laws, s_refM (w := w) hs4 (by rw [x2 87 (by omega)]; exact e87) (by rw [x2 88 (by omega)]; exact e88), hr, if_pos rfl, x2 71 (by omega), e15, xlet_eq]; exact m1
      · unfold scrN at hk
        rw [m2.1 k h71 (by omega) (by omega) (by omega) (by omega) (by omega), x2 k (by omega)]
      · by_cases e : j = 15
        · rw [e, m3, e15]
        · rw [m2.2 j e (by omega), x2 71 (by omega)]
    · exact OpI.q (refV w s) w w (by rw [f_X10_laws, s_refX hs4, if_neg hr]) (by rw [f_X11_laws, s_refM (w := w) hs4 e87 e88, if_neg hr]) hR
  · exact OpI.q (-2) w w (by rw [f_X10_laws, s_refXn h1, if_neg (by decide)]) (by rw [f_X11_laws, s_refMn h1, if_neg (by decide)]) hR
