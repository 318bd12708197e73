/-- the text that is asked lies as in w -/
def TxB (w : xI) (t : Nat) (u : xI) : Prop := t < 6 ∧ TextOk w t ∧ u (40 + 4 * t) = w (40 + 4 * t) ∧ u (41 + 4 * t) = w (41 + 4 * t) ∧ u 81 = w 81 ∧ u 82 = w 82
theorem TxB.ok {w : xI} {t : Nat} {u : xI} (h : TxB w t u) : TextOk u t := by
  obtain ⟨h1, h2, h3, h4, h5, h6⟩ := h
  unfold TextOk at *
  rw [h3, h4, h5, h6]; exact h2
theorem TxB.cg {w : xI} {t : Nat} {u u' : xI} (h : TxB w t u) (h1 : u' (40 + 4 * t) = u (40 + 4 * t)) (h2 : u' (41 + 4 * t) = u (41 + 4 * t)) (h3 : u' 81 = u 81) (h4 : u' 82 = u 82) : TxB w t u' := by
  obtain ⟨a1, a2, a3, a4, a5, a6⟩ := h
  exact ⟨a1, a2, h1.trans a3, h2.trans a4, h3.trans a5, h4.trans a6⟩
theorem s_pans {γ : Type} {w : xI} {cm : Nat → Int32} {h n S : Nat} (hn : n ≤ 10) (hS : S < 2 ^ n) {u : xI} (hP : Prep w cm h n u) (K : Int32 → xI → Option γ) : xbind (f_X8_fillsPans (nI S) u) K = if (1 ≤ miS w n S ∧ miS w n S ≤ 2) ∧ (1 ≤ moS w n S ∧ moS w n S ≤ 2) then K 1 u else K 0 u := by
  have hp := pw10 hn
  have hI := mkM_lt (inP w) n
  have l1 : S &&& mkM (inP w) n < 2 ^ n := Nat.lt_of_le_of_lt Nat.and_le_left hS
  have l2 : bdif S (mkM (inP w) n) < 2 ^ n := bdif_lt hS
  have p1 : pop (S &&& mkM (inP w) n) = miS w n S := (pop_n l1 hn).trans bits_in
  have p2 : pop (bdif S (mkM (inP w) n)) = moS w n S := (pop_n l2 hn).trans (bits_out (by omega))
  have q1 := pop_le (S &&& mkM (inP w) n)
  have q2 := pop_le (bdif S (mkM (inP w) n))
  unfold f_X8_fillsPans
  rw [hP.2.2.2.1, b_and (by omega) (by omega), s_bits (by omega), s_within, p1]
  rw [p1] at q1
  rw [p2] at q2
  have i1 : ((1 : Int32) ≤ nI (miS w n S) ∧ nI (miS w n S) ≤ 2) ↔ (1 ≤ miS w n S ∧ miS w n S ≤ 2) := and_congr (nI_leI (a := 1) (by omega) (by omega)) (nI_leI (b := 2) (by omega) (by omega))
  have i2 : ((1 : Int32) ≤ nI (moS w n S) ∧ nI (moS w n S) ≤ 2) ↔ (1 ≤ moS w n S ∧ moS w n S ≤ 2) := and_congr (nI_leI (a := 1) (by omega) (by omega)) (nI_leI (b := 2) (by omega) (by omega))
  by_cases c1 : 1 ≤ miS w n S ∧ miS w n S ≤ 2
  · rw [if_pos (i1.mpr c1), if_neg (by decide), hP.2.2.2.1, b_dif (by omega) (by omega), s_bits (by omega), s_within, p2]
    by_cases c2 : 1 ≤ moS w n S ∧ moS w n S ≤ 2
    · rw [if_pos (i2.mpr c2), if_neg (by decide), if_pos ⟨c1, c2⟩, xbind_some]
    · rw [if_neg (fun z => c2 (i2.mp z)), if_pos rfl, if_neg (fun z => c2 z.2), xbind_some]
  · rw [if_neg (fun z => c1 (i1.mp z)), if_pos rfl, if_neg (fun z => c1 z.1), xbind_some]
theorem come_all {cm : Nat → Int32} {h n S : Nat} (hn : n ≤ 10) (hS : S < 2 ^ n) : bdif S (mkM (cmP cm h) n) = 0 ↔ acS cm h n S := by
  have hp := pw10 hn
  have hb := bdif_bit S (mkM (cmP cm h) n) (by omega)
  constructor
  · intro e c hc hb1
    have := hb c
    rw [e, Nat.zero_testBit, mkM_bit, hb1, decide_eq_true hc] at this
    simp [cmP] at this
    exact this
  · intro g
    refine Nat.eq_of_testBit_eq (fun i => ?_)
    rw [hb i, Nat.zero_testBit, mkM_bit]
    by_cases hi : i < n
    · by_cases hb1 : S.testBit i = true
      · have := g i hi hb1
        simp [cmP, hi, this]
      · simp [hb1]
    · rw [bit_ge (n := n) (i := i) hS (by omega)]; rfl
theorem Wd.cg {w : xI} {cm : Nat → Int32} {h n S : Nat} {u u' : xI} (hW : Wd w cm h n S u) (h1 : u' 21 = u 21) (h2 : u' 24 = u 24) : Wd w cm h n S u' := by
  unfold Wd
  rw [h1, h2]; exact hW
/-- may it be: the component -/
theorem s_mayX {γ : Type} {w : xI} {cm : Nat → Int32} {t h n S : Nat} (hn : n ≤ 10) (hS : S < 2 ^ n) {u : xI} (hP : Prep w cm h n u) (hW : Wd w cm h n S u) (hX : TxB w t u) : ∃ T, (∀ (K : Int32 → xI → Option γ), (mbS w cm t h n S → xbind (f_X8_mayBe (39 + 4 * t) u) K = K 1 (xuc u (42 + 4 * t) T)) ∧ (¬ mbS w cm t h n S → xbind (f_X8_mayBe (39 + 4 * t) u) K = K 0 (xuc u (42 + 4 * t) T))) := by
  have hp := pw10 hn
  have hC := mkM_lt (cmP cm h) n
  obtain ⟨w7, w8, w9, w10, w11, w12, w24⟩ := hW
  by_cases c1 : (1 ≤ miS w n S ∧ miS w n S ≤ 2) ∧ (1 ≤ moS w n S ∧ moS w n S ≤ 2)
  · by_cases c2 : acS cm h n S
    · by_cases c3 : (ofS w cm h n S).1 = -1
      · refine ⟨u (42 + 4 * t), fun K => ⟨fun z => absurd c3 z.2.2.2.1, fun _ => ?_⟩⟩
        unfold f_X8_mayBe
        rw [w7, s_pans hn hS hP, if_pos c1, if_neg (by decide), w7, hP.2.2.1, b_dif (by omega) (by omega), (come_all hn hS).mpr c2, if_pos nI_0, w11, if_pos c3, xbind_some, xuc_self]
      · obtain ⟨T, hT⟩ := s_says (γ := Int32 × xI) (p := 0) (o2 := 24) hX.ok hX.1 (by decide) (Or.inl (by decide))
        rw [nI_0] at hT
        have ea : askV u t 0 (u 24) = askV w t 0 (nmS w cm h n S) := by
          rw [askV_w (w := w) (fun j => by rw [hX.2.2.1]) (fun j => by rw [hX.2.2.2.1]), askV_cg hX.2.1 (by decide) w24]
        have go : ∀ (K : Int32 → xI → Option γ), xbind (f_X8_mayBe (39 + 4 * t) u) K = if askV w t 0 (nmS w cm h n S) = 1 then K 1 (xuc u (42 + 4 * t) T) else K 0 (xuc u (42 + 4 * t) T) := by
          intro K
          unfold f_X8_mayBe
          rw [w7, s_pans hn hS hP, if_pos c1, if_neg (by decide), w7, hP.2.2.1, b_dif (by omega) (by omega), (come_all hn hS).mpr c2, if_pos nI_0, w11, if_neg c3, hT, ea]
          by_cases c4 : askV w t 0 (nmS w cm h n S) = 1
          · rw [if_pos c4, if_pos c4, xbind_some]
          · rw [if_neg c4, if_neg c4, xbind_some]
        refine ⟨T, fun K => ⟨fun z => ?_, fun z => ?_⟩⟩
        · rw [go K, if_pos z.2.2.2.2]
        · rw [go K, if_neg (fun y => z ⟨c1.1, c1.2, c2, c3, y⟩)]
    · refine ⟨u (42 + 4 * t), fun K => ⟨fun z => absurd z.2.2.1 c2, fun _ => ?_⟩⟩
      unfold f_X8_mayBe
      have hb := bdif_lt (T := mkM (cmP cm h) n) hS
      have nz : ¬ nI (bdif S (mkM (cmP cm h) n)) = 0 := fun z => c2 ((come_all hn hS).mp ((nI_eq (b := 0) (by omega) (by decide)).mp z))
      rw [w7, s_pans hn hS hP, if_pos c1, if_neg (by decide), w7, hP.2.2.1, b_dif (by omega) (by omega), if_neg nz, xbind_some, xuc_self]
  · refine ⟨u (42 + 4 * t), fun K => ⟨fun z => absurd ⟨z.1, z.2.1⟩ c1, fun _ => ?_⟩⟩
    unfold f_X8_mayBe
    rw [w7, s_pans hn hS hP, if_neg c1, if_pos rfl, xbind_some, xuc_self]
theorem s_brX {γ : Type} {w : xI} {cm : Nat → Int32} {t h n S : Nat} {u : xI} (hW : Wd w cm h n S u) (hX : TxB w t u) : ∃ T, (∀ (K : Int32 → xI → Option γ), xbind (f_X8_brings (39 + 4 * t) u) K = K (brS w cm t h n S) (xuc u (42 + 4 * t) T)) := by
  obtain ⟨w7, w8, w9, w10, w11, w12, w24⟩ := hW
  have ht := hX.1
  have ea : ∀ (z : xI) (p : Nat), p < 3 → TxB w t z → z 24 = u 24 → askV z t p (z 24) = askV w t p (nmS w cm h n S) := by
    intro z p hp hz e
    rw [e, askV_w (w := w) (fun j => by rw [hz.2.2.1]) (fun j => by rw [hz.2.2.2.1]), askV_cg hX.2.1 hp w24]
  obtain ⟨T1, h1⟩ := s_says (γ := Int32 × xI) (p := 1) (o2 := 24) hX.ok hX.1 (by decide) (Or.inl (by decide))
  have hX1 : TxB w t (xuc u (42 + 4 * t) T1) := hX.cg (xuc_ne _ _ _ (by omega)) (xuc_ne _ _ _ (by omega)) (xuc_ne _ _ _ (by omega)) (xuc_ne _ _ _ (by omega))
  obtain ⟨T2, h2⟩ := s_says (γ := Int32 × xI) (p := 2) (o2 := 24) hX1.ok hX.1 (by decide) (Or.inl (by decide))
  refine ⟨T2, fun K => ?_⟩
  unfold f_X8_brings
  rw [show (1 : Int32) = nI 1 from rfl, h1, show (2 : Int32) = nI 2 from rfl, h2, ea _ 1 (by decide) hX rfl, ea _ 2 (by decide) hX1 (xuc_ne _ _ _ (by omega)), xuc_xuc, w8, xbind_some]
  rfl
theorem finV_bd (p : Nat) (v : Int32) : 0 ≤ finV p v ∧ finV p v ≤ 99 := by
  unfold finV
  by_cases c : p = 0
  · rw [if_pos c]
    by_cases d : v = 0
    · rw [if_pos d]; decide
    · rw [if_neg d]; decide
  · rw [if_neg c]
    by_cases d : v < 0
    · rw [if_pos d]; decide
    · rw [if_neg d]
      by_cases e : 99 < v
      · rw [if_pos e]; decide
      · rw [if_neg e]; exact ⟨Int32.not_lt.mp d, Int32.not_lt.mp e⟩
theorem brS_bd {w : xI} {cm : Nat → Int32} (hY : YdB w cm) {t h n S : Nat} (hh : h ≤ 10) (hn : n ≤ 10) : brS w cm t h n S ≤ nI (wthS w cm h n S) ∧ -198 ≤ (brS w cm t h n S).toInt ∧ (brS w cm t h n S).toInt ≤ 1980 := by
  obtain ⟨-, -, bw⟩ := inS_le hY (S := S) hh hn
  have a := finV_bd 1 (evS (w (40 + 4 * t)) (nmS w cm h n S) (endT w t 1 - staT w t 1) (staT w t 1) 0 (fun _ => 0) 0)
  have b := finV_bd 2 (evS (w (40 + 4 * t)) (nmS w cm h n S) (endT w t 2 - staT w t 2) (staT w t 2) 0 (fun _ => 0) 0)
  have a' : 0 ≤ askV w t 1 (nmS w cm h n S) ∧ askV w t 1 (nmS w cm h n S) ≤ 99 := a
  have b' : 0 ≤ askV w t 2 (nmS w cm h n S) ∧ askV w t 2 (nmS w cm h n S) ≤ 99 := b
  obtain ⟨x, hx, ex⟩ := nI_bd (n := 99) (by decide) a'.1 a'.2
  obtain ⟨y, hy, ey⟩ := nI_bd (n := 99) (by decide) b'.1 b'.2
  have e1 : (nI (wthS w cm h n S) - nI x).toInt = (wthS w cm h n S : Int) - x := t_sub (nI_toInt (by omega)) (nI_toInt (by omega)) (by omega) (by omega)
  have e2 : (brS w cm t h n S).toInt = (wthS w cm h n S : Int) - x - y := by
    unfold brS
    rw [ex, ey]
    exact t_sub e1 (nI_toInt (by omega)) (by omega) (by omega)
  refine ⟨i_le.mpr ?_, by omega, by omega⟩
  rw [e2, nI_toInt (by omega)]
  omega
