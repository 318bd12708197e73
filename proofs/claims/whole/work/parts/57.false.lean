-- ===== a false stone =====
/-- y is a sum of stones k .. k + m - 1, each one way, the other, or not at all -/
def cmb (st : Nat → Int32) : Nat → Nat → Int → Prop
  | 0, _, y => y = 0
  | m + 1, k, y => cmb st m (k + 1) y ∨ cmb st m (k + 1) (y - (st k).toInt) ∨ cmb st m (k + 1) (y + (st k).toInt)
theorem cmb_neg {st : Nat → Int32} : ∀ (m k : Nat) (y : Int), cmb st m k y → cmb st m k (-y) := by
  intro m
  induction m with
  | zero => intro k y h; have h' : y = 0 := h; show -y = 0; omega
  | succ m ih =>
    intro k y h
    rcases h with h | h | h
    · exact Or.inl (ih _ _ h)
    · refine Or.inr (Or.inr ?_)
      have := ih _ _ h
      rw [show -(y - (st k).toInt) = -y + (st k).toInt by omega] at this
      exact this
    · refine Or.inr (Or.inl ?_)
      have := ih _ _ h
      rw [show -(y + (st k).toInt) = -y - (st k).toInt by omega] at this
      exact this
theorem lay_made {st : Nat → Int32} (hb : bdS st) : ∀ (m k : Nat) (s : Int32) (u : Nat) (T : Nat → Int32) (d : Nat), k + m ≤ 5 → u + m < 100 → s.toInt.natAbs ≤ 100 * k → (tabLay st m k s (nI u) T d ≠ -1 ↔ T d ≠ -1 ∨ ∃ y, cmb st m k y ∧ (s.toInt + y).natAbs = d) := by
  intro m
  induction m with
  | zero =>
    intro k s u T d h1 hu h2
    have e : (if 0 ≤ s then s else 0 - s).toNatClampNeg = s.toInt.natAbs := by rw [t_abs (by omega), nI_clamp (by omega)]
    show (if T (if 0 ≤ s then s else 0 - s).toNatClampNeg = -1 ∨ nI u < T (if 0 ≤ s then s else 0 - s).toNatClampNeg then upd T (if 0 ≤ s then s else 0 - s).toNatClampNeg (nI u) else T) d ≠ -1 ↔ _
    rw [e]
    by_cases ed : d = s.toInt.natAbs
    · refine ⟨fun _ => Or.inr ⟨0, rfl, by rw [Int.add_zero]; exact ed.symm⟩, fun _ => ?_⟩
      by_cases c : T s.toInt.natAbs = -1 ∨ nI u < T s.toInt.natAbs
      · rw [if_pos c, ed, upd_s]; exact nI_m1 (by omega)
      · rw [if_neg c, ed]; exact fun z => c (Or.inl z)
    · have e2 : (if T s.toInt.natAbs = -1 ∨ nI u < T s.toInt.natAbs then upd T s.toInt.natAbs (nI u) else T) d = T d := by
        by_cases c : T s.toInt.natAbs = -1 ∨ nI u < T s.toInt.natAbs
        · rw [if_pos c, upd_n _ _ ed]
        · rw [if_neg c]
      rw [e2]
      refine ⟨Or.inl, fun h => h.elim id (fun ⟨y, y1, y2⟩ => ?_)⟩
      have y1' : y = 0 := y1
      rw [y1', Int.add_zero] at y2
      exact absurd y2.symm ed
  | succ m ih =>
    intro k s u T d h1 hu h2
    have hk := hb k (by omega)
    have b1 : (s + st k).toInt = s.toInt + (st k).toInt := t_add rfl rfl (by omega) (by omega)
    have b2 : (s - st k).toInt = s.toInt - (st k).toInt := t_sub rfl rfl (by omega) (by omega)
    show tabLay st m (k + 1) (s - st k) (nI u + 1) (tabLay st m (k + 1) (s + st k) (nI u + 1) (tabLay st m (k + 1) s (nI u) T)) d ≠ -1 ↔ _
    rw [nI_1, ih (k + 1) (s - st k) (u + 1) _ d (by omega) (by omega) (by rw [b2]; omega), ih (k + 1) (s + st k) (u + 1) _ d (by omega) (by omega) (by rw [b1]; omega), ih (k + 1) s u T d (by omega) (by omega) (by omega), b1, b2]
    constructor
    · rintro (((h | ⟨y, y1, y2⟩) | ⟨y, y1, y2⟩) | ⟨y, y1, y2⟩)
      · exact Or.inl h
      · exact Or.inr ⟨y, Or.inl y1, y2⟩
      · refine Or.inr ⟨y + (st k).toInt, Or.inr (Or.inl ?_), by rw [← y2]; congr 1; omega⟩
        rw [show y + (st k).toInt - (st k).toInt = y by omega]; exact y1
      · refine Or.inr ⟨y - (st k).toInt, Or.inr (Or.inr ?_), by rw [← y2]; congr 1; omega⟩
        rw [show y - (st k).toInt + (st k).toInt = y by omega]; exact y1
    · rintro (h | ⟨y, y1 | y1 | y1, y2⟩)
      · exact Or.inl (Or.inl (Or.inl h))
      · exact Or.inl (Or.inl (Or.inr ⟨y, y1, y2⟩))
      · exact Or.inl (Or.inr ⟨_, y1, by rw [← y2]; congr 1; omega⟩)
      · exact Or.inr ⟨_, y1, by rw [← y2]; congr 1; omega⟩
theorem tab_made {st : Nat → Int32} (hb : bdS st) {n d : Nat} (hn : n ≤ 5) : tabOf st n d ≠ -1 ↔ cmb st n 0 (d : Int) := by
  have h := lay_made hb n 0 0 0 (fun _ => -1) d (by omega) (by omega) (by decide)
  rw [nI_0] at h
  refine h.trans ⟨fun g => ?_, fun g => Or.inr ⟨d, g, ?_⟩⟩
  · rcases g with g | ⟨y, y1, y2⟩
    · exact absurd rfl g
    · have z : (0 : Int32).toInt = 0 := rfl
      rw [z, Int.zero_add] at y2
      by_cases c : 0 ≤ y
      · rw [show (d : Int) = y by omega]; exact y1
      · rw [show (d : Int) = -y by omega]; exact cmb_neg _ _ _ y1
  · have z : (0 : Int32).toInt = 0 := rfl
    rw [z, Int.zero_add]; omega
/-- the stones with one of them 1 heavier -/
def heav (st : Nat → Int32) (h : Nat) : Nat → Int32 := fun j => if j = h then st j + 1 else st j
theorem heav_bd {st : Nat → Int32} (hb : ∀ j, j < 5 → 0 ≤ st j ∧ st j ≤ 99) (h : Nat) : ∀ j, j < 5 → 0 ≤ heav st h j ∧ heav st h j ≤ 100 := by
  intro j hj
  obtain ⟨x, hx, ex⟩ := nI_bd (n := 99) (by decide) (hb j hj).1 (hb j hj).2
  unfold heav
  by_cases c : j = h
  · rw [if_pos c, ex, nI_1]; exact ⟨nI_pos' (by omega), nI_le (b := 100) (by omega) (by omega)⟩
  · rw [if_neg c]; exact ⟨(hb j hj).1, Int32.le_trans (hb j hj).2 (by decide)⟩
theorem s_reach {w : xI} {n h : Nat} (hn : n ≤ 5) (hh : h < 5) (hw : w 1 2 = nI n) (hb : ∀ j, j < 5 → 0 ≤ w 3 j ∧ w 3 j ≤ 99) : ∀ (m k fu : Nat) (x : Int32), k + m = n → m < fu → x.toInt.natAbs ≤ 1000 + 100 * k → ∃ r, f_X5_reaches fu x (nI k) (nI h) w = some (r, w) ∧ (r = 1 ∧ cmb (heav (w 3) h) m k x.toInt ∨ r = 0 ∧ ¬ cmb (heav (w 3) h) m k x.toInt) := by
  intro m
  induction m with
  | zero =>
    intro k fu x h1 h2 hx
    obtain ⟨f, rfl⟩ : ∃ f, fu = f + 1 := ⟨fu - 1, by omega⟩
    rw [f_X5_reaches, f_X5_reaches_o, hw, if_pos (nI_le (by omega) (by omega))]
    by_cases c : x = 0
    · rw [if_pos c]; exact ⟨1, rfl, Or.inl ⟨rfl, by rw [c]; rfl⟩⟩
    · rw [if_neg c]; exact ⟨0, rfl, Or.inr ⟨rfl, fun z => c (i_eq (show x.toInt = (0 : Int32).toInt from z))⟩⟩
  | succ m ih =>
    intro k fu x h1 h2 hx
    obtain ⟨f, rfl⟩ : ∃ f, fu = f + 1 := ⟨fu - 1, by omega⟩
    have bd := (bd_of (heav_bd hb h)) k (by omega)
    have b1 : (x + heav (w 3) h k).toInt = x.toInt + (heav (w 3) h k).toInt := t_add rfl rfl (by omega) (by omega)
    have b2 : (x - heav (w 3) h k).toInt = x.toInt - (heav (w 3) h k).toInt := t_sub rfl rfl (by omega) (by omega)
    obtain ⟨r1, p1, q1⟩ := ih (k + 1) f x (by omega) (by omega) (by omega)
    obtain ⟨r2, p2, q2⟩ := ih (k + 1) f (x - heav (w 3) h k) (by omega) (by omega) (by rw [b2]; omega)
    obtain ⟨r3, p3, q3⟩ := ih (k + 1) f (x + heav (w 3) h k) (by omega) (by omega) (by rw [b1]; omega)
    rw [b2] at q2
    rw [b1] at q3
    have pre : f_X5_reaches (f + 1) x (nI k) (nI h) w = f_X5_reaches_L45 (f_X5_reaches f) x (nI k) (nI h) (heav (w 3) h k) w := by
      rw [f_X5_reaches, f_X5_reaches_o, hw, if_neg (nI_ge (by omega) (by omega)), if_pos (show nI k < (5 : Int32) from nI_lt (b := 5) (by omega) (by omega)), xin_nI (by omega) (by decide), xchk_true, xchk_true, nI_clamp (by omega)]
      unfold heav
      by_cases c : k = h
      · rw [if_pos (by rw [c]), if_pos c]
      · rw [if_neg (fun z => c ((nI_eq (by omega) (by omega)).mp z)), if_neg c]
    rw [pre]
    unfold f_X5_reaches_L45
    rw [nI_1, p1, xbind_some]
    rcases q1 with ⟨e1, c1⟩ | ⟨e1, c1⟩
    · rw [e1, if_neg (by decide)]; exact ⟨1, rfl, Or.inl ⟨rfl, Or.inl c1⟩⟩
    · rw [e1, if_pos rfl, p2, xbind_some]
      rcases q2 with ⟨e2, c2⟩ | ⟨e2, c2⟩
      · rw [e2, if_neg (by decide)]; exact ⟨1, rfl, Or.inl ⟨rfl, Or.inr (Or.inl c2)⟩⟩
      · rw [e2, if_pos rfl, p3, xbind_some]
        rcases q3 with ⟨e3, c3⟩ | ⟨e3, c3⟩
        · rw [e3, if_neg (by decide)]; exact ⟨1, rfl, Or.inl ⟨rfl, Or.inr (Or.inr c3)⟩⟩
        · rw [e3, if_pos rfl]; exact ⟨0, rfl, Or.inr ⟨rfl, fun z => z.elim c1 (fun z => z.elim c2 c3)⟩⟩
noncomputable def falV (st : Nat → Int32) (n d : Nat) : Nat → Nat → Nat → Nat
  | 0, _, S => S
  | m + 1, k, S => @ite Nat (cmb (heav st k) n 0 (d : Int)) (Classical.propDecidable _) (falV st n d m (k + 1) (S ||| 2 ^ k)) (falV st n d m (k + 1) S)
theorem falV_pos {st : Nat → Int32} {n d m k S : Nat} (c : cmb (heav st k) n 0 (d : Int)) : falV st n d (m + 1) k S = falV st n d m (k + 1) (S ||| 2 ^ k) := if_pos c
theorem falV_neg {st : Nat → Int32} {n d m k S : Nat} (c : ¬ cmb (heav st k) n 0 (d : Int)) : falV st n d (m + 1) k S = falV st n d m (k + 1) S := if_neg c
theorem s_falX {w : xI} {n d : Nat} (hn : n ≤ 5) (hd : d < 1000) (hw : w 1 2 = nI n) (hb : ∀ j, j < 5 → 0 ≤ w 3 j ∧ w 3 j ≤ 99) : ∀ (m k fu S : Nat), k + m = n → m < fu → S < 2 ^ k → f_X5_heavierFor_L12 fu (nI d) (nI S) (nI k) w = some (nI (falV (w 3) n d m k S), w) := by
  intro m
  induction m with
  | zero =>
    intro k fu S h1 h2 hS
    obtain ⟨f, rfl⟩ : ∃ f, fu = f + 1 := ⟨fu - 1, by omega⟩
    rw [f_X5_heavierFor_L12, hw, if_pos (nI_le (by omega) (by omega))]; rfl
  | succ m ih =>
    intro k fu S h1 h2 hS
    obtain ⟨f, rfl⟩ : ∃ f, fu = f + 1 := ⟨fu - 1, by omega⟩
    have e2 : 2 ^ (k + 1) = 2 ^ k * 2 := Nat.pow_succ 2 k
    have h0 : 0 < 2 ^ k := Nat.two_pow_pos k
    obtain ⟨r, p, q⟩ := s_reach hn (h := k) (by omega) hw hb n 0 8 (nI d) (by omega) (by omega) (by rw [nI_toInt (by omega)]; omega)
    rw [nI_toInt (by omega)] at q
    rw [nI_0] at p
    rw [f_X5_heavierFor_L12, hw, if_neg (nI_ge (by omega) (by omega)), p, xbind_some, b_orP (by omega) hS, nI_1]
    simp only [xlet_eq]
    rcases q with ⟨e, c⟩ | ⟨e, c⟩
    · rw [e, if_neg (by decide), falV_pos c]
      exact ih (k + 1) f _ (by omega) (by omega) (Nat.or_lt_two_pow (by omega) (by omega))
    · rw [e, if_pos rfl, falV_neg c]
      exact ih (k + 1) f S (by omega) (by omega) (by omega)
theorem s_falM {w : xI} {n d : Nat} (hn : n ≤ 5) (hd : d < 1000) (hb : ∀ j, j < 5 → 0 ≤ w 3 j ∧ w 3 j ≤ 99) : ∀ (m k fu S : Nat) (u : xI), k + m = n → m < fu → S < 2 ^ k → u 71 1 = nI n → (∀ j, j < 5 → u 73 j = w 3 j) → ∃ u', f_X11_falsely_L34 fu (nI d) (nI S) (nI k) u = some (nI (falV (w 3) n d m k S), u') ∧ ∀ q, q ≠ 95 → u' q = u q := by
  intro m
  induction m with
  | zero =>
    intro k fu S u h1 h2 hS hw h73
    obtain ⟨f, rfl⟩ : ∃ f, fu = f + 1 := ⟨fu - 1, by omega⟩
    refine ⟨u, ?_, fun _ _ => rfl⟩
    rw [f_X11_falsely_L34, hw, if_pos (nI_le (by omega) (by omega))]; rfl
  | succ m ih =>
    intro k fu S u h1 h2 hS hw h73
    obtain ⟨f, rfl⟩ : ∃ f, fu = f + 1 := ⟨fu - 1, by omega⟩
    have e2 : 2 ^ (k + 1) = 2 ^ k * 2 := Nat.pow_succ 2 k
    have h0 : 0 < 2 ^ k := Nat.two_pow_pos k
    have hpk : 2 ^ k ≤ 2 ^ 5 := Nat.pow_le_pow_right (by decide) (by omega)
    have hv : ∀ j, j < 5 → xup u 73 k (w 3 k + 1) 73 j = heav (w 3) k j := by
      intro j hj
      rw [xup_same]
      unfold heav
      by_cases c : j = k
      · rw [c, upd_s, if_pos rfl]
      · rw [upd_n _ _ c, if_neg c, h73 j hj]
    obtain ⟨T, t1, t2⟩ := s_findsMade (w := xup u 73 k (w 3 k + 1)) (heav (w 3) k) hn (by rw [xup_ne _ _ _ (by decide)]; exact hw) (fun j hj => by rw [hv j hj]; exact heav_bd hb k j hj) (fun j hj => (hv j (by omega)).symm)
    have back : xup (xuc (xup u 73 k (w 3 k + 1)) 95 T) 73 k (w 3 k + 1 - 1) = xuc u 95 T := by
      have e1 : w 3 k + 1 - 1 = w 3 k := by
        obtain ⟨x, hx, ex⟩ := nI_bd (n := 99) (by decide) (hb k (by omega)).1 (hb k (by omega)).2
        rw [ex, nI_1]; exact nI_pred x
      rw [e1]
      funext q j
      by_cases c : q = 73
      · subst c
        rw [xup_same, xuc_ne _ _ _ (by decide), xup_same, xuc_ne _ _ _ (by decide)]
        by_cases e : j = k
        · rw [e, upd_s, h73 k (by omega)]
        · rw [upd_n _ _ e, upd_n _ _ e]
      · rw [xup_ne _ _ _ c]
        by_cases c2 : q = 95
        · rw [c2, xuc_same, xuc_same]
        · rw [xuc_ne _ _ _ c2, xuc_ne _ _ _ c2, xup_ne _ _ _ c]
    have mid : xuc (xup u 73 k (w 3 k + 1)) 95 T 73 k = w 3 k + 1 := by rw [xuc_ne _ _ _ (by decide), xup_same, upd_s]
    rw [f_X11_falsely_L34, hw, if_neg (nI_ge (by omega) (by omega)), xin_nI (by omega) (by decide), nI_clamp (by omega), h73 k (by omega)]
    simp only [xchk_true, xlet_eq]
    rw [t1, xbind_some, xin_nI hd (by decide), xchk_true, nI_clamp (by omega), mid, back, xuc_same, t2 d hd, nI_1, b_orP (by omega) hS, show (0 : Int32) = nI 0 from rfl, b_or (by omega) (by decide), Nat.or_zero]
    have go : ∀ S2, S2 < 2 ^ (k + 1) → ∃ u', f_X11_falsely_L34 f (nI d) (nI S2) (nI (k + 1)) (xuc u 95 T) = some (nI (falV (w 3) n d m (k + 1) S2), u') ∧ ∀ q, q ≠ 95 → u' q = u q := by
      intro S2 hS2
      obtain ⟨u', r1, r2⟩ := ih (k + 1) f S2 (xuc u 95 T) (by omega) (by omega) hS2 (by rw [xuc_ne _ _ _ (by decide)]; exact hw) (fun j hj => by rw [xuc_ne _ _ _ (by decide)]; exact h73 j hj)
      exact ⟨u', r1, fun q hq => by rw [r2 q hq, xuc_ne _ _ _ hq]⟩
    have tm := tab_made (st := heav (w 3) k) (bd_of (heav_bd hb k)) (n := n) (d := d) hn
    by_cases c : tabOf (heav (w 3) k) n d = -1
    · rw [if_pos c, falV_neg (fun z => (tm.mpr z) c)]
      exact go S (by omega)
    · rw [if_neg c, falV_pos (tm.mp c)]
      exact go _ (Nat.or_lt_two_pow (by omega) (by omega))
theorem op_falsely (a1 : Int32) : OpI (f_X10_falsely a1) (f_X11_falsely a1) := by
  intro w hR
  by_cases h : 0 ≤ a1 ∧ a1 ≤ 999
  · obtain ⟨d, hd, rfl⟩ := nI_bd (n := 999) (by decide) h.1 h.2
    obtain ⟨s1, s2, s3, s4, s5⟩ := hR.st
    obtain ⟨n, hn, en⟩ := nI_bd (n := 5) (by decide) s2.1 s2.2
    obtain ⟨T, m1, m2, m3⟩ := hR.made
    by_cases c : w 4 d = -1
    · obtain ⟨w2, g1, g2⟩ := s_falM (w := w) (n := n) (d := d) hn (by omega) s4 n 0 2000 0 (xuc w 95 T) (by omega) (by omega) (by decide) (by rw [xuc_ne _ _ _ (by decide), s1, en]) (fun j hj => by rw [xuc_ne _ _ _ (by decide)]; exact s3 j hj)
      have gx := s_falX (w := w) (n := n) (d := d) hn (by omega) en s4 n 0 2000 0 (by omega) (by omega) (by decide)
      rw [nI_0] at g1 gx
      refine OpI.q (nI (falV (w 3) n d n 0 0)) w w2 ?_ ?_ (hR.fr (fun k hk h71 => ?_) (fun j hj => ?_))
      · rw [f_X10_falsely, s_diffX, if_pos h, if_neg (by decide)]
        unfold f_X5_heavierFor
        rw [s_makesX w (by omega), if_pos c, if_pos rfl, gx, xbind_some]
      · rw [f_X11_falsely, s_in, if_pos h, if_neg (by decide), m1, xbind_some, xin_nI (by omega) (by decide), xchk_true, nI_clamp (by omega), xuc_same, m3 d (by omega), if_pos c]; exact g1
      · unfold scrN at hk
        rw [g2 k (by omega), xuc_ne _ _ _ (by omega)]
      · rw [g2 71 (by decide), xuc_ne _ _ _ (by decide)]
    · refine OpI.q 0 w (xuc w 95 T) ?_ ?_ m2
      · rw [f_X10_falsely, s_diffX, if_pos h, if_neg (by decide)]
        unfold f_X5_heavierFor
        rw [s_makesX w (by omega), if_neg c, if_neg (by decide), xbind_some]
      · rw [f_X11_falsely, s_in, if_pos h, if_neg (by decide), m1, xbind_some, xin_nI (by omega) (by decide), xchk_true, nI_clamp (by omega), xuc_same, m3 d (by omega), if_neg c]
  · exact OpI.q (-2) w w (by rw [f_X10_falsely, s_diffX, if_neg h, if_pos rfl]) (by rw [f_X11_falsely, s_in, if_neg h, if_pos rfl]) hR
