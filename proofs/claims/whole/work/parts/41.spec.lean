-- ===== carts at an hour =====
/-- how long one that comes at c has waited at h -/
def waitN (h : Nat) (c : Int32) : Nat := h - c.toNatClampNeg
theorem s_waitX {γ : Type} {h : Nat} {c : Int32} (hh : h ≤ 10) (h0 : 0 ≤ c) (h9 : c ≤ 9) (w : xI) (K : Int32 → xI → Option γ) : xbind (f_X10_waited (nI h) c w) K = K (nI (waitN h c)) w := by
  obtain ⟨j, hj, rfl⟩ := nI_bd (n := 9) (by decide) h0 h9
  unfold f_X10_waited waitN
  rw [nI_clamp (by omega), xbind_some]
  have e : (nI h - nI j).toInt = (h : Int) - j := t_sub (nI_toInt (by omega)) (nI_toInt (by omega)) (by omega) (by omega)
  by_cases c : 0 < nI h - nI j
  · have c' := i_lt.mp c
    rw [e] at c'
    have : (0 : Int32).toInt = 0 := rfl
    rw [if_pos c, pk_sub (by omega)]
  · have c' : ¬ (0 : Int) < (h : Int) - j := fun z => c (i_lt.mpr (by rw [e]; exact z))
    rw [if_neg c, show h - j = 0 by omega]; rfl
/-- what a cart of world w weighs, when it has waited wd -/
def wgS (k wt mo : Int32) (wd : Nat) : Nat := if k = 2 then wt.toNatClampNeg + mo.toNatClampNeg * wd else if k = 5 then (if mo.toNatClampNeg * wd + 1 < wt.toNatClampNeg then wt.toNatClampNeg - mo.toNatClampNeg * wd else 1) else wt.toNatClampNeg
def wtS (k va mo : Int32) (wd : Nat) : Nat := if k = 1 then va.toNatClampNeg - mo.toNatClampNeg * wd else if k = 3 then (if wd ≤ 3 then 2 * (va.toNatClampNeg - mo.toNatClampNeg * wd) else 0) else if k = 4 then va.toNatClampNeg - mo.toNatClampNeg else va.toNatClampNeg
theorem m9 {b d : Nat} (hb : b ≤ 9) (hd : d ≤ 10) : b * d ≤ 90 := Nat.mul_le_mul hb hd
theorem wgS_le {k wt mo : Int32} {wd : Nat} (h1 : 0 ≤ wt ∧ wt ≤ 99) (h2 : 0 ≤ mo ∧ mo ≤ 9) (hd : wd ≤ 10) : wgS k wt mo wd ≤ 189 := by
  obtain ⟨a, ha, rfl⟩ := nI_bd (n := 99) (by decide) h1.1 h1.2
  obtain ⟨b, hb, rfl⟩ := nI_bd (n := 9) (by decide) h2.1 h2.2
  have := m9 hb hd
  unfold wgS
  rw [nI_clamp (by omega), nI_clamp (by omega)]
  split
  · omega
  · split
    · split
      · omega
      · omega
    · omega
theorem wtS_le {k va mo : Int32} {wd : Nat} (h1 : 0 ≤ va ∧ va ≤ 99) : wtS k va mo wd ≤ 198 := by
  obtain ⟨a, ha, rfl⟩ := nI_bd (n := 99) (by decide) h1.1 h1.2
  unfold wtS
  rw [nI_clamp (by omega)]
  split
  · omega
  · split
    · split
      · omega
      · omega
    · split
      · omega
      · omega
theorem s_weighsX {γ : Type} {o wd : Nat} {w : xI} (h1 : 0 ≤ w o 2 ∧ w o 2 ≤ 99) (h2 : 0 ≤ w o 4 ∧ w o 4 ≤ 9) (hd : wd ≤ 10) (K : Int32 → xI → Option γ) : xbind (f_X0_weighs o (nI wd) w) K = K (nI (wgS (w o 1) (w o 2) (w o 4) wd)) w := by
  obtain ⟨a, ha, ea⟩ := nI_bd (n := 99) (by decide) h1.1 h1.2
  obtain ⟨b, hb, eb⟩ := nI_bd (n := 9) (by decide) h2.1 h2.2
  have := m9 hb hd
  unfold f_X0_weighs wgS
  rw [ea, eb, nI_clamp (by omega), nI_clamp (by omega), pk_mul, nI_add]
  have e : (nI a - nI (b * wd)).toInt = (a : Int) - (b * wd : Nat) := t_sub (nI_toInt (by omega)) (nI_toInt (by omega)) (by omega) (by omega)
  by_cases c1 : w o 1 = 2
  · rw [if_pos c1, if_pos c1, xbind_some]
  · rw [if_neg c1, if_neg c1]
    by_cases c2 : w o 1 = 5
    · rw [if_pos c2, if_pos c2, xbind_some]
      by_cases c3 : b * wd + 1 < a
      · rw [if_pos c3, if_pos (show (1 : Int32) < nI a - nI (b * wd) from i_lt.mpr (by rw [e]; show (1 : Int) < _; omega)), pk_sub (by omega)]
      · rw [if_neg c3, if_neg (show ¬ (1 : Int32) < nI a - nI (b * wd) from fun z => by have z' := i_lt.mp z; rw [e] at z'; have z2 : (1 : Int) < (a : Int) - (b * wd : Nat) := z'; omega)]; rfl
    · rw [if_neg c2, if_neg c2, xbind_some]
theorem t_max0 {x y : Nat} (hx : x < 2 ^ 30) (hy : y < 2 ^ 30) : (if (0 : Int32) < nI x - nI y then nI x - nI y else 0) = nI (x - y) := by
  have e : (nI x - nI y).toInt = (x : Int) - (y : Nat) := t_sub (nI_toInt (by omega)) (nI_toInt (by omega)) (by omega) (by omega)
  by_cases c3 : y < x
  · rw [if_pos (show (0 : Int32) < nI x - nI y from i_lt.mpr (by rw [e]; show (0 : Int) < _; omega)), pk_sub (by omega)]
  · rw [if_neg (show ¬ (0 : Int32) < nI x - nI y from fun z => by have z' := i_lt.mp z; rw [e] at z'; have z2 : (0 : Int) < (x : Int) - (y : Nat) := z'; omega), show x - y = 0 by omega]; rfl
theorem s_worthX {γ : Type} {o wd : Nat} {w : xI} (h1 : 0 ≤ w o 3 ∧ w o 3 ≤ 99) (h2 : 0 ≤ w o 4 ∧ w o 4 ≤ 9) (hd : wd ≤ 10) (K : Int32 → xI → Option γ) : xbind (f_X0_worth o (nI wd) w) K = K (nI (wtS (w o 1) (w o 3) (w o 4) wd)) w := by
  obtain ⟨a, ha, ea⟩ := nI_bd (n := 99) (by decide) h1.1 h1.2
  obtain ⟨b, hb, eb⟩ := nI_bd (n := 9) (by decide) h2.1 h2.2
  have := m9 hb hd
  unfold f_X0_worth wtS f_X0_spoiled
  rw [ea, eb, nI_clamp (by omega), nI_clamp (by omega), pk_mul, t_max0 (by omega) (by omega), t_max0 (by omega) (by omega)]
  by_cases c1 : w o 1 = 1
  · rw [if_pos c1, if_pos c1]; rfl
  · rw [if_neg c1, if_neg c1]
    by_cases c2 : w o 1 = 2
    · rw [if_pos c2, if_neg (fun z => absurd (c2.symm.trans z) (by decide)), if_neg (fun z => absurd (c2.symm.trans z) (by decide))]; rfl
    · rw [if_neg c2]
      by_cases c3 : w o 1 = 3
      · rw [if_pos c3, if_pos c3]
        by_cases c4 : wd ≤ 3
        · rw [if_pos c4, if_pos (show nI wd ≤ 3 from nI_le (b := 3) c4 (by omega)), xbind_some]
          show K (nI 2 * nI (a - b * wd)) w = _
          rw [pk_mul]
        · rw [if_neg c4, if_neg (show ¬ nI wd ≤ 3 from nI_ge (a := 3) (by omega) (by omega))]; rfl
      · rw [if_neg c3, if_neg c3]
        by_cases c4 : w o 1 = 4
        · rw [if_pos c4, if_pos c4]; rfl
        · rw [if_neg c4, if_neg c4]; rfl
/-- what a weighing needs of a yard: all the bounds of Rel -/
def YdB (w : xI) (cm : Nat → Int32) : Prop := (∃ n : Nat, n ≤ 10 ∧ w 5 2 = nI n) ∧ (∀ c, c < 10 → 0 ≤ cm c ∧ cm c ≤ 9) ∧
  ∀ c, c < 10 → (0 ≤ w (8 + c) 0 ∧ w (8 + c) 0 ≤ 1) ∧ (0 ≤ w (8 + c) 2 ∧ w (8 + c) 2 ≤ 99) ∧ (0 ≤ w (8 + c) 3 ∧ w (8 + c) 3 ≤ 99) ∧ (0 ≤ w (8 + c) 4 ∧ w (8 + c) 4 ≤ 9)
theorem Rel.ydB {w : xI} (hR : Rel w) : YdB w (w 7) := by
  obtain ⟨n, hn, en, -⟩ := hR.n
  exact ⟨⟨n, hn, en⟩, fun c hc => (hR.yd.2.2.2 c hc).2.2.2.2.2, fun c hc => by obtain ⟨b0, b1, b2, b3, b4, b5⟩ := hR.yd.2.2.2 c hc; exact ⟨b0, b2, b3, b4⟩⟩
def wgN (w : xI) (cm : Nat → Int32) (h c : Nat) : Nat := wgS (w (8 + c) 1) (w (8 + c) 2) (w (8 + c) 4) (waitN h (cm c))
def wtN (w : xI) (cm : Nat → Int32) (h c : Nat) : Nat := wtS (w (8 + c) 1) (w (8 + c) 3) (w (8 + c) 4) (waitN h (cm c))
theorem waitN_le {h : Nat} (hh : h ≤ 10) (c : Int32) : waitN h c ≤ 10 := by unfold waitN; omega
theorem wgN_le {w : xI} {cm : Nat → Int32} (hY : YdB w cm) {h c : Nat} (hh : h ≤ 10) (hc : c < 10) : wgN w cm h c ≤ 189 := by
  obtain ⟨b0, b2, b3, b4⟩ := hY.2.2 c hc
  exact wgS_le b2 b4 (waitN_le hh _)
theorem wtN_le {w : xI} {cm : Nat → Int32} (hY : YdB w cm) {h c : Nat} (hc : c < 10) : wtN w cm h c ≤ 198 := by
  obtain ⟨b0, b2, b3, b4⟩ := hY.2.2 c hc
  exact wtS_le b3
-- the model's
/-- the model's cells as those of w with the carts coming by cm -/
def MxY (w : xI) (cm : Nat → Int32) (u : xI) : Prop := u 71 3 = w 5 2 ∧ ∀ c, c < 10 → u 74 c = w (8 + c) 0 ∧ u 75 c = w (8 + c) 1 ∧ u 76 c = w (8 + c) 2 ∧ u 77 c = w (8 + c) 3 ∧ u 78 c = w (8 + c) 4 ∧ (nI c < w 5 2 → u 79 c = cm c)
theorem Rel.yd79 {w : xI} (hR : Rel w) (c : Nat) (hc : c < 10) : w 74 c = w (8 + c) 0 ∧ w 75 c = w (8 + c) 1 ∧ w 76 c = w (8 + c) 2 ∧ w 77 c = w (8 + c) 3 ∧ w 78 c = w (8 + c) 4 ∧ (nI c < w 5 2 → w 79 c = w 7 c) := by
  obtain ⟨y0, y1, y2, y3, y4, y5⟩ := hR.yd.2.2.1 c hc
  exact ⟨y0, y1, y2, y3, y4, fun _ => y5⟩
theorem Rel.mxY {w : xI} (hR : Rel w) : MxY w (w 7) w := ⟨hR.yd.1, hR.yd79⟩
theorem s_waitM {γ : Type} {w : xI} {cm : Nat → Int32} (hY : YdB w cm) {u : xI} (hM : MxY w cm u) {c h : Nat} (hc : c < 10) (hcn : nI c < w 5 2) (hh : h ≤ 10) (K : Int32 → xI → Option γ) : xbind (f_X11_waited (nI c) (nI h) u) K = K (nI (waitN h (cm c))) u := by
  obtain ⟨y0, y1, y2, y3, y4, y5⟩ := hM.2 c hc
  obtain ⟨j, hj, e⟩ := nI_bd (n := 9) (by decide) (hY.2.1 c hc).1 (hY.2.1 c hc).2
  unfold f_X11_waited waitN
  rw [xin_nI hc (by decide), xchk_true, nI_clamp (by omega), xchk_true, y5 hcn, e, nI_clamp (by omega)]
  by_cases g : j ≤ h
  · rw [if_pos (nI_le g (by omega)), xbind_some, pk_sub g]
  · rw [if_neg (nI_ge (by omega) (by omega)), xbind_some, show h - j = 0 by omega]; rfl
theorem s_weighsM {γ : Type} {w : xI} {cm : Nat → Int32} (hY : YdB w cm) {u : xI} (hM : MxY w cm u) {c h : Nat} (hc : c < 10) (hcn : nI c < w 5 2) (hh : h ≤ 10) (K : Int32 → xI → Option γ) : xbind (f_X11_weighs (nI c) (nI h) u) K = K (nI (wgN w cm h c)) u := by
  obtain ⟨y0, y1, y2, y3, y4, y5⟩ := hM.2 c hc
  obtain ⟨b0, b2, b3, b4⟩ := hY.2.2 c hc
  obtain ⟨a, ha, ea⟩ := nI_bd (n := 99) (by decide) b2.1 b2.2
  obtain ⟨b, hb, eb⟩ := nI_bd (n := 9) (by decide) b4.1 b4.2
  have hd := waitN_le hh (cm c)
  have := m9 hb hd
  unfold f_X11_weighs wgN wgS
  rw [xin_nI hc (by decide), xchk_true, s_waitM hY hM hc hcn hh, nI_clamp (by omega)]
  generalize waitN h (cm c) = wd at *
  rw [y1, y2, y4, xlet_eq, xchk_true, xlet_eq, ea, eb, nI_clamp (by omega), nI_clamp (by omega), pk_mul, nI_add]
  have e : (nI a - nI (b * wd)).toInt = (a : Int) - (b * wd : Nat) := t_sub (nI_toInt (by omega)) (nI_toInt (by omega)) (by omega) (by omega)
  by_cases c1 : w (8 + c) 1 = 2
  · rw [if_pos c1, if_pos c1]; rfl
  · rw [if_neg c1, if_neg c1]
    by_cases c2 : w (8 + c) 1 = 5
    · rw [if_pos c2, if_pos c2, xchk_true]
      unfold f_X11_within
      by_cases c4 : b * wd + 1 ≤ a
      · have q : nI a - nI (b * wd) = nI (a - b * wd) := pk_sub (by omega)
        rw [q, if_pos (show (1 : Int32) ≤ nI (a - b * wd) from nI_le (a := 1) (by omega) (by omega)), if_pos (show nI (a - b * wd) ≤ (999 : Int32) from nI_le (b := 999) (by omega) (by omega)), xbind_some, xbind_some]
        by_cases c3 : b * wd + 1 < a
        · rw [if_pos c3]
        · rw [if_neg c3, show a - b * wd = 1 by omega]
      · rw [if_neg (show ¬ (1 : Int32) ≤ nI a - nI (b * wd) from fun z => by have z' := i_le.mp z; rw [e] at z'; have z2 : (1 : Int) ≤ (a : Int) - (b * wd : Nat) := z'; omega), if_neg (by omega), xbind_some, xbind_some]; rfl
    · rw [if_neg c2, if_neg c2, xchk_true, xbind_some]
theorem t_cl0 {x y : Nat} (hx : x ≤ 999) (hy : y < 2 ^ 30) (w : xI) : f_X11_within (nI x - nI y) 0 999 w = some (nI (x - y), w) := by
  have e : (nI x - nI y).toInt = (x : Int) - (y : Nat) := t_sub (nI_toInt (by omega)) (nI_toInt (by omega)) (by omega) (by omega)
  unfold f_X11_within
  by_cases c3 : y ≤ x
  · rw [pk_sub c3, if_pos (nI_pos' (by omega)), if_pos (show nI (x - y) ≤ (999 : Int32) from nI_le (b := 999) (by omega) (by omega))]
  · rw [if_neg (show ¬ (0 : Int32) ≤ nI x - nI y from fun z => by have z' := i_le.mp z; rw [e] at z'; have z2 : (0 : Int) ≤ (x : Int) - (y : Nat) := z'; omega), show x - y = 0 by omega]; rfl
theorem s_worthM {γ : Type} {w : xI} {cm : Nat → Int32} (hY : YdB w cm) {u : xI} (hM : MxY w cm u) {c h : Nat} (hc : c < 10) (hcn : nI c < w 5 2) (hh : h ≤ 10) (K : Int32 → xI → Option γ) : xbind (f_X11_worthAt (nI c) (nI h) u) K = K (nI (wtN w cm h c)) u := by
  obtain ⟨y0, y1, y2, y3, y4, y5⟩ := hM.2 c hc
  obtain ⟨b0, b2, b3, b4⟩ := hY.2.2 c hc
  obtain ⟨a, ha, ea⟩ := nI_bd (n := 99) (by decide) b3.1 b3.2
  obtain ⟨b, hb, eb⟩ := nI_bd (n := 9) (by decide) b4.1 b4.2
  have hd := waitN_le hh (cm c)
  have := m9 hb hd
  unfold f_X11_worthAt wtN wtS
  rw [s_waitM hY hM hc hcn hh, xin_nI hc (by decide), xchk_true, xchk_true, nI_clamp (by omega)]
  generalize waitN h (cm c) = wd at *
  rw [y3, y4, ea, eb, pk_mul, t_cl0 (by omega) (by omega), xbind_some, xchk_true, y1, xlet_eq, y3, y4, ea, eb, nI_clamp (by omega), nI_clamp (by omega), t_cl0 (by omega) (by omega)]
  by_cases c1 : w (8 + c) 1 = 1
  · rw [if_pos c1, if_pos c1]; rfl
  · rw [if_neg c1, if_neg c1]
    by_cases c3 : w (8 + c) 1 = 3
    · rw [if_pos c3, if_pos c3]
      by_cases c4 : wd ≤ 3
      · rw [if_pos c4, if_pos (show nI wd ≤ 3 from nI_le (b := 3) c4 (by omega)), xbind_some]
        show K (nI 2 * nI (a - b * wd)) u = _
        rw [pk_mul]
      · rw [if_neg c4, if_neg (show ¬ nI wd ≤ 3 from nI_ge (a := 3) (by omega) (by omega))]; rfl
    · rw [if_neg c3, if_neg c3]
      by_cases c4 : w (8 + c) 1 = 4
      · rw [if_pos c4, if_pos c4, xchk_true, xchk_true]; rfl
      · rw [if_neg c4, if_neg c4, xchk_true]; rfl
theorem op_at (a1 : Int32) (a2 : Int32) (a3 : Int32) : OpI (f_X10_at a1 a2 a3) (f_X11_at a1 a2 a3) := by
  intro w hR
  obtain ⟨n, hn, en, em⟩ := hR.n
  by_cases h1 : 0 ≤ a1 ∧ a1 < w 5 2
  · have h1m : 0 ≤ a1 ∧ a1 < w 71 3 := by rw [hR.yd.1]; exact h1
    obtain ⟨c, hc, e0, e1, e2, -⟩ := cart_ix hR h1
    subst e0
    by_cases h2 : 0 ≤ a2 ∧ a2 ≤ 9
    · by_cases h3 : 0 ≤ a3 ∧ a3 ≤ 1
      · obtain ⟨h, hh, rfl⟩ := nI_bd (n := 9) (by decide) h2.1 h2.2
        obtain ⟨b0, b2, b3, b4⟩ := hR.ydB.2.2 c hc
        have bc := hR.ydB.2.1 c hc
        by_cases h0 : a3 = 0
        · refine OpI.q (nI (wgN w (w 7) h c)) w w ?_ ?_ hR
          · rw [f_X10_at, s_has, if_pos h1, if_neg (by decide), s_hourX, if_pos h2, if_neg (by decide), s_within, if_pos h3, if_neg (by decide), e1, xchk_true, e2, s_waitX (by omega) bc.1 bc.2, xchk_true, xlet_eq, if_pos h0, s_weighsX b2 b4 (waitN_le (by omega) _)]; rfl
          · rw [f_X11_at, s_isCart _ _ em hn, if_pos h1m, if_neg (by decide), s_hourM, if_pos h2, if_neg (by decide), s_in, if_pos h3, if_neg (by decide), if_pos h0, s_weighsM hR.ydB hR.mxY hc h1.2 (by omega)]
        · refine OpI.q (nI (wtN w (w 7) h c)) w w ?_ ?_ hR
          · rw [f_X10_at, s_has, if_pos h1, if_neg (by decide), s_hourX, if_pos h2, if_neg (by decide), s_within, if_pos h3, if_neg (by decide), e1, xchk_true, e2, s_waitX (by omega) bc.1 bc.2, xchk_true, xlet_eq, if_neg h0, s_worthX b3 b4 (waitN_le (by omega) _)]; rfl
          · rw [f_X11_at, s_isCart _ _ em hn, if_pos h1m, if_neg (by decide), s_hourM, if_pos h2, if_neg (by decide), s_in, if_pos h3, if_neg (by decide), if_neg h0, s_worthM hR.ydB hR.mxY hc h1.2 (by omega)]
      · exact OpI.q (-7) w w (by rw [f_X10_at, s_has, if_pos h1, if_neg (by decide), s_hourX, if_pos h2, if_neg (by decide), s_within, if_neg h3, if_pos rfl]) (by rw [f_X11_at, s_isCart _ _ em hn, if_pos h1m, if_neg (by decide), s_hourM, if_pos h2, if_neg (by decide), s_in, if_neg h3, if_pos rfl]) hR
    · exact OpI.q (-7) w w (by rw [f_X10_at, s_has, if_pos h1, if_neg (by decide), s_hourX, if_neg h2, if_pos rfl]) (by rw [f_X11_at, s_isCart _ _ em hn, if_pos h1m, if_neg (by decide), s_hourM, if_neg h2, if_pos rfl]) hR
  · have h1m : ¬ (0 ≤ a1 ∧ a1 < w 71 3) := by rw [hR.yd.1]; exact h1
    exact OpI.q (-5) w w (by rw [f_X10_at, s_has, if_neg h1, if_pos rfl]) (by rw [f_X11_at, s_isCart _ _ em hn, if_neg h1m, if_pos rfl]) hR
