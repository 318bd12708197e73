-- ===== a weighing, as both reckon it =====
def inS (w : xI) (cm : Nat → Int32) (h n S : Nat) : Nat := bsum (wgN w cm h) (fun c => S.testBit c && inP w c) n 0
def outS (w : xI) (cm : Nat → Int32) (h n S : Nat) : Nat := bsum (wgN w cm h) (fun c => S.testBit c && !inP w c) n 0
def wthS (w : xI) (cm : Nat → Int32) (h n S : Nat) : Nat := bsum (wtN w cm h) (fun c => S.testBit c) n 0
def miS (w : xI) (n S : Nat) : Nat := bsum one1 (fun c => S.testBit c && inP w c) n 0
def moS (w : xI) (n S : Nat) : Nat := bsum one1 (fun c => S.testBit c && !inP w c) n 0
def difN (a b : Nat) : Nat := if b ≤ a then a - b else b - a
def dS (w : xI) (cm : Nat → Int32) (h n S : Nat) : Nat := difN (inS w cm h n S * (w 2 0).toNatClampNeg) (outS w cm h n S * (w 2 1).toNatClampNeg)
def mdU (T : Nat → Int32) (x : Int32) : Int32 := if x < 0 then -1 else if 999 < x then -1 else T x.toNatClampNeg
def fewU (a b : Int32) : Int32 := if a = -1 then b else if b = -1 then a else if b ≤ a then b else a
def offU (T : Nat → Int32) (d : Nat) : Nat → Nat → Int32 × Int32
  | 0, _ => (-1, 0)
  | m + 1, o => if fewU (mdU T (nI d - nI o)) (mdU T (nI d + nI o)) = -1 then offU T d m (o + 1) else (nI o, fewU (mdU T (nI d - nI o)) (mdU T (nI d + nI o)))
def ofS (w : xI) (cm : Nat → Int32) (h n S : Nat) : Int32 × Int32 := offU (w 4) (dS w cm h n S) ((w 2 2).toNatClampNeg + 1) 0
def nmS (w : xI) (cm : Nat → Int32) (h n S : Nat) : Nat → Int32 := nm6 (nI (inS w cm h n S)) (nI (outS w cm h n S)) (ofS w cm h n S).1 (nI h) (nI (pop S)) (ofS w cm h n S).2
def acS (cm : Nat → Int32) (h n S : Nat) : Prop := ∀ c, c < n → S.testBit c = true → cm c ≤ nI h
def mbS (w : xI) (cm : Nat → Int32) (t h n S : Nat) : Prop := (1 ≤ miS w n S ∧ miS w n S ≤ 2) ∧ (1 ≤ moS w n S ∧ moS w n S ≤ 2) ∧ acS cm h n S ∧ (ofS w cm h n S).1 ≠ -1 ∧ askV w t 0 (nmS w cm h n S) = 1
def brS (w : xI) (cm : Nat → Int32) (t h n S : Nat) : Int32 := nI (wthS w cm h n S) - askV w t 1 (nmS w cm h n S) - askV w t 2 (nmS w cm h n S)
/-- the tables that a weighing reads -/
def TabB (w : xI) : Prop := (∀ d, d < 1000 → -1 ≤ w 4 d) ∧ (1 ≤ w 2 0 ∧ w 2 0 ≤ 3) ∧ (1 ≤ w 2 1 ∧ w 2 1 ≤ 3) ∧ (0 ≤ w 2 2 ∧ w 2 2 ≤ 9)
theorem put_ge {T : Nat → Int32} {s u : Int32} (h : ∀ d, d < 1000 → -1 ≤ T d) (hu : -1 ≤ u) : ∀ d, d < 1000 → -1 ≤ tabPut T s u d := by
  intro d hd
  show -1 ≤ (if T (if 0 ≤ s then s else 0 - s).toNatClampNeg = -1 ∨ u < T (if 0 ≤ s then s else 0 - s).toNatClampNeg then upd T (if 0 ≤ s then s else 0 - s).toNatClampNeg u else T) d
  generalize (if 0 ≤ s then s else 0 - s).toNatClampNeg = z
  by_cases c : T z = -1 ∨ u < T z
  · rw [if_pos c]
    unfold upd
    by_cases e : d = z
    · rw [if_pos e]; exact hu
    · rw [if_neg e]; exact h d hd
  · rw [if_neg c]; exact h d hd
theorem lay_ge {st : Nat → Int32} : ∀ (m k : Nat) (s : Int32) (u : Nat) (T : Nat → Int32), u + m < 100 → (∀ d, d < 1000 → -1 ≤ T d) → ∀ d, d < 1000 → -1 ≤ tabLay st m k s (nI u) T d := by
  intro m
  induction m with
  | zero => intro k s u T hu h; exact put_ge h (Int32.le_trans (by decide) (nI_pos' (n := u) (by omega)))
  | succ m ih =>
    intro k s u T hu h
    show ∀ d, d < 1000 → -1 ≤ tabLay st m (k + 1) (s - st k) (nI u + 1) (tabLay st m (k + 1) (s + st k) (nI u + 1) (tabLay st m (k + 1) s (nI u) T)) d
    rw [nI_1]
    exact ih (k + 1) _ (u + 1) _ (by omega) (ih (k + 1) _ (u + 1) _ (by omega) (ih (k + 1) _ u _ (by omega) h))
theorem Rel.tabB {w : xI} (hR : Rel w) : TabB w := by
  obtain ⟨s1, s2, s3, s4, s5⟩ := hR.st
  obtain ⟨n, hn, en⟩ := nI_bd (n := 5) (by decide) s2.1 s2.2
  refine ⟨fun d hd => ?_, hR.sc.2.1, hR.sc.2.2.1, hR.sc.2.2.2⟩
  rw [s5 d hd, en, nI_clamp (by omega)]
  have h := lay_ge (st := w 3) n 0 0 0 (fun _ => -1) (by omega) (fun _ _ => by decide) d hd
  rw [nI_0] at h
  exact h
theorem mdU_ge {w : xI} (hT : TabB w) (x : Int32) : -1 ≤ mdU (w 4) x := by
  unfold mdU
  by_cases c1 : x < 0
  · rw [if_pos c1]; decide
  · rw [if_neg c1]
    by_cases c2 : 999 < x
    · rw [if_pos c2]; decide
    · rw [if_neg c2]
      obtain ⟨j, hj, rfl⟩ := nI_bd (n := 999) (by decide) (Int32.not_lt.mp c1) (Int32.not_lt.mp c2)
      rw [nI_clamp (by omega)]
      exact hT.1 j (by omega)
theorem s_fewX {γ : Type} (x : Int32) (w : xI) (K : Int32 → xI → Option γ) : xbind (f_X5_fewestFor x w) K = K (mdU (w 4) x) w := by
  unfold f_X5_fewestFor mdU
  by_cases c1 : x < 0
  · rw [if_pos c1, if_pos c1]; rfl
  · rw [if_neg c1, if_neg c1]
    by_cases c2 : 999 < x
    · rw [if_pos c2, if_pos c2]; rfl
    · rw [if_neg c2, if_neg c2]
      obtain ⟨j, hj, rfl⟩ := nI_bd (n := 999) (by decide) (Int32.not_lt.mp c1) (Int32.not_lt.mp c2)
      rw [xin_nI (by omega) (by decide), xchk_true, xbind_some]
theorem fewU_m1 {a b : Int32} : fewU a b = -1 ↔ a = -1 ∧ b = -1 := by
  unfold fewU
  by_cases c1 : a = -1
  · rw [if_pos c1]; exact ⟨fun h => ⟨c1, h⟩, fun h => h.2⟩
  · rw [if_neg c1]
    by_cases c2 : b = -1
    · rw [if_pos c2]; exact ⟨fun h => absurd h c1, fun h => absurd h.1 c1⟩
    · rw [if_neg c2]
      by_cases c3 : b ≤ a
      · rw [if_pos c3]; exact ⟨fun h => absurd h c2, fun h => absurd h.1 c1⟩
      · rw [if_neg c3]; exact ⟨fun h => absurd h c1, fun h => absurd h.1 c1⟩
theorem offU_ge (T : Nat → Int32) (d : Nat) : ∀ m o, o + m < 1000 → (offU T d m o).1 = -1 → offU T d m o = (-1, 0) := by
  intro m
  induction m with
  | zero => intro o _ _; rfl
  | succ m ih =>
    intro o ho h
    show (if fewU (mdU T (nI d - nI o)) (mdU T (nI d + nI o)) = -1 then offU T d m (o + 1) else (nI o, fewU (mdU T (nI d - nI o)) (mdU T (nI d + nI o)))) = (-1, 0)
    have h' : (if fewU (mdU T (nI d - nI o)) (mdU T (nI d + nI o)) = -1 then offU T d m (o + 1) else (nI o, fewU (mdU T (nI d - nI o)) (mdU T (nI d + nI o)))).1 = -1 := h
    by_cases c : fewU (mdU T (nI d - nI o)) (mdU T (nI d + nI o)) = -1
    · rw [if_pos c] at h' ⊢; exact ih (o + 1) (by omega) h'
    · rw [if_neg c] at h'; exact absurd h' (nI_m1 (k := o) (by omega))
/-- what is off, and by how many stones it is made up -/
theorem s_offX {sl : Nat} (hs : sl ≤ 9) (d : Nat) {w : xI} (hsl : w 2 2 = nI sl) : ∀ (m o fu : Nat), o + m = sl + 1 → m < fu → f_X5_offOf_L2 fu (nI d) (nI o) w = some ((offU (w 4) d m o).1, w) ∧ ((offU (w 4) d m o).1 ≠ -1 → fewU (mdU (w 4) (nI d - (offU (w 4) d m o).1)) (mdU (w 4) (nI d + (offU (w 4) d m o).1)) = (offU (w 4) d m o).2) := by
  intro m
  induction m with
  | zero =>
    intro o fu h1 h2
    obtain ⟨f, rfl⟩ : ∃ f, fu = f + 1 := ⟨fu - 1, by omega⟩
    rw [f_X5_offOf_L2, hsl, if_pos (nI_lt (by omega) (by omega))]
    exact ⟨rfl, fun z => absurd rfl z⟩
  | succ m ih =>
    intro o fu h1 h2
    obtain ⟨f, rfl⟩ : ∃ f, fu = f + 1 := ⟨fu - 1, by omega⟩
    obtain ⟨i1, i2⟩ := ih (o + 1) f (by omega) (by omega)
    have e : offU (w 4) d (m + 1) o = if fewU (mdU (w 4) (nI d - nI o)) (mdU (w 4) (nI d + nI o)) = -1 then offU (w 4) d m (o + 1) else (nI o, fewU (mdU (w 4) (nI d - nI o)) (mdU (w 4) (nI d + nI o))) := rfl
    rw [f_X5_offOf_L2, hsl, if_neg (nI_nlt (by omega) (by omega)), s_fewX, s_fewX, xlet_eq, nI_1, e]
    by_cases c : fewU (mdU (w 4) (nI d - nI o)) (mdU (w 4) (nI d + nI o)) = -1
    · obtain ⟨c1, c2⟩ := fewU_m1.mp c
      rw [if_pos c, if_pos c1, if_pos c2]
      exact ⟨i1, i2⟩
    · rw [if_neg c]
      refine ⟨?_, fun _ => rfl⟩
      by_cases c1 : mdU (w 4) (nI d - nI o) = -1
      · rw [if_pos c1, if_neg (fun z => c (fewU_m1.mpr ⟨c1, z⟩))]
      · rw [if_neg c1]
theorem s_stonesX {γ : Type} {w : xI} (hT : TabB w) (d : Nat) (o : Int32) (K : Int32 → xI → Option γ) : xbind (f_X5_stonesFor (nI d) o w) K = K (fewU (mdU (w 4) (nI d - o)) (mdU (w 4) (nI d + o))) w := by
  have g1 := mdU_ge hT (nI d - o)
  have g2 := mdU_ge hT (nI d + o)
  unfold f_X5_stonesFor fewU
  rw [s_fewX, s_fewX]
  generalize mdU (w 4) (nI d - o) = a at *
  generalize mdU (w 4) (nI d + o) = b at *
  by_cases c1 : a = -1
  · rw [if_pos c1, if_pos c1, xbind_some]
    by_cases c2 : a < b
    · rw [if_pos c2]
    · rw [if_neg c2]
      have : b = a := by
        rw [c1] at c2 ⊢
        exact Int32.le_antisymm (Int32.not_lt.mp c2) g2
      rw [this]
  · rw [if_neg c1, if_neg c1]
    by_cases c2 : b = -1
    · rw [if_pos c2, if_pos c2, xbind_some]
      rw [if_neg (fun z => by rw [c2] at z; exact absurd g1 (Int32.not_le.mpr z))]
    · rw [if_neg c2, if_neg c2, xbind_some]
      by_cases c3 : b < a
      · rw [if_pos c3, if_pos (Int32.le_of_lt c3)]
      · rw [if_neg c3]
        by_cases c4 : b ≤ a
        · rw [if_pos c4, Int32.le_antisymm c4 (Int32.not_lt.mp c3)]
        · rw [if_neg c4]
theorem s_wtL {w : xI} {cm : Nat → Int32} {h n S : Nat} (hn : n ≤ 10) (hS : S < 2 ^ 31) {u : xI} (hP : Prep w cm h n u) : ∀ (m k fu : Nat) (a : Nat), k + m = n → m < fu → f_X8_weightOf_L4 fu (nI S) (nI a) (nI k) u = some (nI (a + bsum (wgN w cm h) (fun c => S.testBit c) m k), u) ∧ f_X8_worthOf_L4 fu (nI S) (nI a) (nI k) u = some (nI (a + bsum (wtN w cm h) (fun c => S.testBit c) m k), u) := by
  intro m
  induction m with
  | zero =>
    intro k fu a h1 h2
    obtain ⟨f, rfl⟩ : ∃ f, fu = f + 1 := ⟨fu - 1, by omega⟩
    rw [f_X8_weightOf_L4, f_X8_worthOf_L4, hP.1, if_pos (nI_le (by omega) (by omega)), if_pos (nI_le (by omega) (by omega))]
    exact ⟨rfl, rfl⟩
  | succ m ih =>
    intro k fu a h1 h2
    obtain ⟨f, rfl⟩ : ∃ f, fu = f + 1 := ⟨fu - 1, by omega⟩
    obtain ⟨r1, r2⟩ := hP.2.1 k (by omega)
    have e1 : bsum (wgN w cm h) (fun c => S.testBit c) (m + 1) k = (if S.testBit k = true then wgN w cm h k else 0) + bsum (wgN w cm h) (fun c => S.testBit c) m (k + 1) := rfl
    have e2 : bsum (wtN w cm h) (fun c => S.testBit c) (m + 1) k = (if S.testBit k = true then wtN w cm h k else 0) + bsum (wtN w cm h) (fun c => S.testBit c) m (k + 1) := rfl
    rw [f_X8_weightOf_L4, f_X8_worthOf_L4, hP.1, if_neg (nI_ge (by omega) (by omega)), if_neg (nI_ge (by omega) (by omega)), e1, e2, xin_nI (by omega) (by decide), xchk_true, xchk_true, nI_clamp (by omega), r1, r2, nI_add, nI_add, nI_1]
    simp only [xlet_eq]
    by_cases c : S.testBit k = true
    · rw [if_pos ((b_on hS (by omega)).mpr c), if_pos ((b_on hS (by omega)).mpr c), if_pos c, if_pos c, (ih (k + 1) f _ (by omega) (by omega)).1, (ih (k + 1) f _ (by omega) (by omega)).2, Nat.add_assoc, Nat.add_assoc]
      exact ⟨rfl, rfl⟩
    · rw [if_neg (fun z => c ((b_on hS (by omega)).mp z)), if_neg (fun z => c ((b_on hS (by omega)).mp z)), if_neg c, if_neg c, (ih (k + 1) f a (by omega) (by omega)).1, (ih (k + 1) f a (by omega) (by omega)).2, Nat.zero_add, Nat.zero_add]
      exact ⟨rfl, rfl⟩
theorem s_weightX {γ : Type} {w : xI} {cm : Nat → Int32} {h n S : Nat} (hn : n ≤ 10) (hS : S < 2 ^ 31) {u : xI} (hP : Prep w cm h n u) (K : Int32 → xI → Option γ) : xbind (f_X8_weightOf (nI S) u) K = K (nI (bsum (wgN w cm h) (fun c => S.testBit c) n 0)) u := by
  have g := (s_wtL hn hS hP n 0 2000 0 (by omega) (by omega)).1
  rw [nI_0, Nat.zero_add] at g
  unfold f_X8_weightOf
  rw [g, xbind_some]
theorem s_worthOfX {γ : Type} {w : xI} {cm : Nat → Int32} {h n S : Nat} (hn : n ≤ 10) (hS : S < 2 ^ 31) {u : xI} (hP : Prep w cm h n u) (K : Int32 → xI → Option γ) : xbind (f_X8_worthOf (nI S) u) K = K (nI (wthS w cm h n S)) u := by
  have g := (s_wtL hn hS hP n 0 2000 0 (by omega) (by omega)).2
  rw [nI_0, Nat.zero_add] at g
  unfold f_X8_worthOf
  rw [g, xbind_some]; rfl
theorem Prep.cg {w : xI} {cm : Nat → Int32} {h n : Nat} {u u' : xI} (hP : Prep w cm h n u) (h1 : u' 5 = u 5) (h2 : u' 22 = u 22) (h3 : u' 23 = u 23) (h4 : u' 21 5 = u 21 5) (h5 : u' 21 6 = u 21 6) (h6 : u' 24 3 = u 24 3) : Prep w cm h n u' := by
  unfold Prep
  rw [h1, h2, h3, h4, h5, h6]
  exact hP
theorem bits_in {w : xI} {f : Nat → Nat} {n S : Nat} : bsum f (fun c => (S &&& mkM (inP w) n).testBit c) n 0 = bsum f (fun c => S.testBit c && inP w c) n 0 := by
  refine bsum_cg n 0 (fun i _ hi => ⟨?_, fun _ => rfl⟩)
  show (S &&& mkM (inP w) n).testBit i = _
  rw [Nat.testBit_and, mkM_bit, decide_eq_true (show i < n by omega), Bool.true_and]
theorem bits_out {w : xI} {f : Nat → Nat} {n S : Nat} (hS : S < 2 ^ 31) : bsum f (fun c => (bdif S (mkM (inP w) n)).testBit c) n 0 = bsum f (fun c => S.testBit c && !inP w c) n 0 := by
  refine bsum_cg n 0 (fun i _ hi => ⟨?_, fun _ => rfl⟩)
  show (bdif S (mkM (inP w) n)).testBit i = _
  rw [bdif_bit _ _ hS, mkM_bit, decide_eq_true (show i < n by omega), Bool.true_and]
theorem inS_le {w : xI} {cm : Nat → Int32} (hY : YdB w cm) {h n S : Nat} (hh : h ≤ 10) (hn : n ≤ 10) : inS w cm h n S ≤ 1890 ∧ outS w cm h n S ≤ 1890 ∧ wthS w cm h n S ≤ 1980 := by
  have a := bsum_le (f := wgN w cm h) (p := fun c => S.testBit c && inP w c) (B := 189) n 0 (fun i _ hi => wgN_le hY hh (by omega))
  have b := bsum_le (f := wgN w cm h) (p := fun c => S.testBit c && !inP w c) (B := 189) n 0 (fun i _ hi => wgN_le hY hh (by omega))
  have c := bsum_le (f := wtN w cm h) (p := fun c => S.testBit c) (B := 198) n 0 (fun i _ hi => wtN_le hY (by omega))
  unfold inS outS wthS
  omega
theorem dif_abs {a b : Nat} (ha : a < 2 ^ 30) (hb : b < 2 ^ 30) : (if 0 ≤ (nI a - nI b) then (nI a - nI b) else 0 - (nI a - nI b)) = nI (difN a b) := by
  have e : (nI a - nI b).toInt = (a : Int) - b := t_sub (nI_toInt (by omega)) (nI_toInt (by omega)) (by omega) (by omega)
  rw [t_abs (by rw [e]; omega), e]
  congr 1
  unfold difN
  by_cases h : b ≤ a
  · rw [if_pos h]; omega
  · rw [if_neg h]; omega
/-- a weighing of S stands in the component's cells -/
def Wd (w : xI) (cm : Nat → Int32) (h n S : Nat) (u : xI) : Prop := u 21 7 = nI S ∧ u 21 8 = nI (wthS w cm h n S) ∧ u 21 9 = nI (inS w cm h n S) ∧ u 21 10 = nI (outS w cm h n S) ∧ u 21 11 = (ofS w cm h n S).1 ∧ u 21 12 = (ofS w cm h n S).2 ∧ ∀ j, j < 6 → u 24 j = nmS w cm h n S j
theorem s_weighX {γ : Type} {w : xI} {cm : Nat → Int32} (hY : YdB w cm) (hT : TabB w) {h n S : Nat} (hh : h ≤ 10) (hn : n ≤ 10) (hS : S < 2 ^ n) {u : xI} (hP : Prep w cm h n u) (h2 : u 2 = w 2) (h4 : u 4 = w 4) : ∃ u', (∀ (K : Unit → xI → Option γ), xbind (f_X8_weigh (nI S) u) K = K () u') ∧ Wd w cm h n S u' ∧ Prep w cm h n u' ∧ (∀ q, q ≠ 21 → q ≠ 24 → u' q = u q) ∧ (∀ j, j < 7 ∨ 12 < j → u' 21 j = u 21 j) := by
  have hp := pw10 hn
  have hI := mkM_lt (inP w) n
  have hS31 : S < 2 ^ 31 := by omega
  obtain ⟨a0, ha0, ea0⟩ := nI_bd (n := 3) (by decide) (Int32_01 hT.2.1.1) hT.2.1.2
  obtain ⟨a1, ha1, ea1⟩ := nI_bd (n := 3) (by decide) (Int32_01 hT.2.2.1.1) hT.2.2.1.2
  obtain ⟨sl, hsl, esl⟩ := nI_bd (n := 9) (by decide) hT.2.2.2.1 hT.2.2.2.2
  obtain ⟨bi, bo, bw⟩ := inS_le hY (S := S) hh hn
  have m0 : inS w cm h n S * a0 ≤ 1890 * 3 := Nat.mul_le_mul bi ha0
  have m1 : outS w cm h n S * a1 ≤ 1890 * 3 := Nat.mul_le_mul bo ha1
  have ed : dS w cm h n S = difN (inS w cm h n S * a0) (outS w cm h n S * a1) := by unfold dS; rw [ea0, ea1, nI_clamp (by omega), nI_clamp (by omega)]
  have eo : ofS w cm h n S = offU (w 4) (dS w cm h n S) (sl + 1) 0 := by unfold ofS; rw [esl, nI_clamp (by omega)]
  -- worth
  generalize hu1 : xup u 21 7 (nI S) = u1
  have P1 : Prep w cm h n u1 := hP.cg (by rw [← hu1, xup_ne _ _ _ (by decide)]) (by rw [← hu1, xup_ne _ _ _ (by decide)]) (by rw [← hu1, xup_ne _ _ _ (by decide)]) (by rw [← hu1, xup_same, upd_n _ _ (by decide)]) (by rw [← hu1, xup_same, upd_n _ _ (by decide)]) (by rw [← hu1, xup_ne _ _ _ (by decide)])
  generalize hu2 : xup u1 21 8 (nI (wthS w cm h n S)) = u2
  have P2 : Prep w cm h n u2 := P1.cg (by rw [← hu2, xup_ne _ _ _ (by decide)]) (by rw [← hu2, xup_ne _ _ _ (by decide)]) (by rw [← hu2, xup_ne _ _ _ (by decide)]) (by rw [← hu2, xup_same, upd_n _ _ (by decide)]) (by rw [← hu2, xup_same, upd_n _ _ (by decide)]) (by rw [← hu2, xup_ne _ _ _ (by decide)])
  generalize hu3 : xup u2 21 9 (nI (inS w cm h n S)) = u3
  have P3 : Prep w cm h n u3 := P2.cg (by rw [← hu3, xup_ne _ _ _ (by decide)]) (by rw [← hu3, xup_ne _ _ _ (by decide)]) (by rw [← hu3, xup_ne _ _ _ (by decide)]) (by rw [← hu3, xup_same, upd_n _ _ (by decide)]) (by rw [← hu3, xup_same, upd_n _ _ (by decide)]) (by rw [← hu3, xup_ne _ _ _ (by decide)])
  generalize hu4 : xup u3 21 10 (nI (outS w cm h n S)) = u4
  have f4 : ∀ q, q ≠ 21 → u4 q = u q := fun q hq => by rw [← hu4, xup_ne _ _ _ hq, ← hu3, xup_ne _ _ _ hq, ← hu2, xup_ne _ _ _ hq, ← hu1, xup_ne _ _ _ hq]
  have x42 : u4 2 = w 2 := by rw [f4 2 (by decide)]; exact h2
  have x44 : u4 4 = w 4 := by rw [f4 4 (by decide)]; exact h4
  have x32 : u3 2 = w 2 := by rw [← h2, ← hu3, xup_ne _ _ _ (by decide), ← hu2, xup_ne _ _ _ (by decide), ← hu1, xup_ne _ _ _ (by decide)]
  have x39 : u3 21 9 = nI (inS w cm h n S) := by rw [← hu3, xup_same, upd_s]
  have x47 : u4 21 7 = nI S := by rw [← hu4, xup_same, upd_n _ _ (by decide), ← hu3, xup_same, upd_n _ _ (by decide), ← hu2, xup_same, upd_n _ _ (by decide), ← hu1, xup_same, upd_s]
  have x48 : u4 21 8 = nI (wthS w cm h n S) := by rw [← hu4, xup_same, upd_n _ _ (by decide), ← hu3, xup_same, upd_n _ _ (by decide), ← hu2, xup_same, upd_s]
  have x49 : u4 21 9 = nI (inS w cm h n S) := by rw [← hu4, xup_same, upd_n _ _ (by decide), x39]
  have x410 : u4 21 10 = nI (outS w cm h n S) := by rw [← hu4, xup_same, upd_s]
  have x4j : ∀ j, j < 7 ∨ 12 < j → u4 21 j = u 21 j := fun j hj => by rw [← hu4, xup_same, upd_n _ _ (by omega), ← hu3, xup_same, upd_n _ _ (by omega), ← hu2, xup_same, upd_n _ _ (by omega), ← hu1, xup_same, upd_n _ _ (by omega)]
  obtain ⟨q1, q2⟩ := s_offX (sl := sl) hsl (dS w cm h n S) (w := u4) (by rw [x42]; exact esl) (sl + 1) 0 2000 (by omega) (by omega)
  rw [x44, ← eo, nI_0] at q1
  rw [x44, ← eo] at q2
  have T4 : ∀ z : xI, z 4 = w 4 → z 2 = w 2 → TabB z := fun z z4 z2 => by unfold TabB; rw [z4, z2]; exact hT
  -- the end, for stones s0
  have fin : ∀ (z : xI), (∀ q, q ≠ 21 → z q = u4 q) → (∀ j, j ≠ 11 → z 21 j = u4 21 j) → z 21 11 = (ofS w cm h n S).1 → ∃ u', (∀ (K : Unit → xI → Option γ), xbind (f_X8_weigh_L114 (nI S) (ofS w cm h n S).2 z) K = K () u') ∧ Wd w cm h n S u' ∧ Prep w cm h n u' ∧ (∀ q, q ≠ 21 → q ≠ 24 → u' q = u q) ∧ (∀ j, j < 7 ∨ 12 < j → u' 21 j = u 21 j) := by
    intro z zf zj z11
    have zq : ∀ q, q ≠ 21 → z q = u q := fun q hq => by rw [zf q hq, f4 q hq]
    generalize hz2 : xup z 21 12 (ofS w cm h n S).2 = z2
    have y2 : ∀ j, j ≠ 12 → z2 21 j = z 21 j := fun j hj => by rw [← hz2, xup_same, upd_n _ _ hj]
    have y2q : ∀ q, q ≠ 21 → z2 q = u q := fun q hq => by rw [← hz2, xup_ne _ _ _ hq]; exact zq q hq
    have y212 : z2 21 12 = (ofS w cm h n S).2 := by rw [← hz2, xup_same, upd_s]
    generalize hz3 : xup (xup (xup z2 24 0 (z 21 9)) 24 1 (z 21 10)) 24 2 (z 21 11) = z3
    have z324 : z3 21 = z2 21 := by rw [← hz3, xup_ne _ _ _ (by decide), xup_ne _ _ _ (by decide), xup_ne _ _ _ (by decide)]
    have z3q : ∀ q, q ≠ 24 → z3 q = z2 q := fun q hq => by rw [← hz3, xup_ne _ _ _ hq, xup_ne _ _ _ hq, xup_ne _ _ _ hq]
    have z30 : z3 24 = upd (upd (upd (z2 24) 0 (z 21 9)) 1 (z 21 10)) 2 (z 21 11) := by rw [← hz3, xup_same, xup_same, xup_same]
    generalize hz4 : xup (xup z3 24 4 (nI (pop S))) 24 5 (z3 21 12) = z4
    have z4q : ∀ q, q ≠ 24 → z4 q = z3 q := fun q hq => by rw [← hz4, xup_ne _ _ _ hq, xup_ne _ _ _ hq]
    have z44 : z4 24 = upd (upd (z3 24) 4 (nI (pop S))) 5 (z3 21 12) := by rw [← hz4, xup_same, xup_same]
    have z4j : ∀ j, j ≠ 12 → z4 21 j = z 21 j := fun j hj => by rw [z4q 21 (by decide), z324, y2 j hj]
    refine ⟨z4, fun K => ?_, ⟨?_, ?_, ?_, ?_, ?_, ?_, ?_⟩, hP.cg ?_ ?_ ?_ ?_ ?_ ?_, fun q q1 q2 => ?_, fun j hj => ?_⟩
    · unfold f_X8_weigh_L114
      have e9 : z2 21 9 = z 21 9 := y2 9 (by decide)
      rw [hz2]
      rw [show xup (xup (xup z2 24 0 (z 21 9)) 24 1 (z 21 10)) 24 2 (z 21 11) = z3 from hz3, s_bits (by omega), hz4, xbind_some]
    · rw [z4j 7 (by decide), zj 7 (by decide), x47]
    · rw [z4j 8 (by decide), zj 8 (by decide), x48]
    · rw [z4j 9 (by decide), zj 9 (by decide), x49]
    · rw [z4j 10 (by decide), zj 10 (by decide), x410]
    · rw [z4j 11 (by decide), z11]
    · rw [z4q 21 (by decide), z324, y212]
    · intro j hj
      rw [z44, z30, z324, y212, zj 9 (by decide), x49, zj 10 (by decide), x410, z11, y2q 24 (by decide)]
      match j, hj with
      | 0, _ => rfl
      | 1, _ => rfl
      | 2, _ => rfl
      | 3, _ => exact hP.2.2.2.2
      | 4, _ => rfl
      | 5, _ => rfl
      | k + 6, g => omega
    · rw [z4q 5 (by decide), z3q 5 (by decide), y2q 5 (by decide)]
    · rw [z4q 22 (by decide), z3q 22 (by decide), y2q 22 (by decide)]
    · rw [z4q 23 (by decide), z3q 23 (by decide), y2q 23 (by decide)]
    · rw [z4j 5 (by decide), zj 5 (by decide), x4j 5 (by decide)]
    · rw [z4j 6 (by decide), zj 6 (by decide), x4j 6 (by decide)]
    · rw [z44, z30, upd_n _ _ (by decide), upd_n _ _ (by decide), upd_n _ _ (by decide), upd_n _ _ (by decide), upd_n _ _ (by decide), y2q 24 (by decide)]
    · rw [z4q q q2, z3q q q2, y2q q q1]
    · rw [z4j j (by omega), zj j (by omega), x4j j hj]
  have pre : ∀ (K : Unit → xI → Option γ), xbind (f_X8_weigh (nI S) u) K = xbind (if (ofS w cm h n S).1 = -1 then f_X8_weigh_L114 (nI S) 0 (xup u4 21 11 (ofS w cm h n S).1) else xbind (f_X5_stonesFor (nI (dS w cm h n S)) (ofS w cm h n S).1 (xup u4 21 11 (ofS w cm h n S).1)) fun r10 w11 => f_X8_weigh_L114 (nI S) r10 w11) K := by
    intro K
    unfold f_X8_weigh
    rw [hu1, s_worthOfX hn hS31 P1, P1.2.2.2.1, b_and hS31 (by omega), hu2, s_weightX hn (Nat.lt_of_le_of_lt Nat.and_le_left hS31) P2, bits_in]
    rw [P2.2.2.2.1, b_dif hS31 (by omega)]
    show xbind (xbind (f_X8_weightOf (nI (bdif S (mkM (inP w) n))) (xup u2 21 9 (nI (inS w cm h n S)))) _) K = _
    rw [hu3, s_weightX hn (bdif_lt hS31) P3, bits_out hS31, x39, x32, ea0, ea1, pk_mul]
    show xbind (xlet (if 0 ≤ nI (inS w cm h n S * a0) - nI (outS w cm h n S) * nI a1 then nI (inS w cm h n S * a0) - nI (outS w cm h n S) * nI a1 else 0 - (nI (inS w cm h n S * a0) - nI (outS w cm h n S) * nI a1)) fun x7 => xbind (f_X5_offOf x7 (xup u3 21 10 (nI (outS w cm h n S)))) _) K = _
    rw [pk_mul, dif_abs (by omega) (by omega), ← ed, xlet_eq, hu4]
    unfold f_X5_offOf
    rw [q1, xbind_some]
  by_cases c : (ofS w cm h n S).1 = -1
  · have e0 : (ofS w cm h n S).2 = 0 := by
      rw [eo] at c ⊢
      rw [offU_ge _ _ _ _ (by omega) c]
    obtain ⟨u', r1, r2⟩ := fin (xup u4 21 11 (ofS w cm h n S).1) (fun q hq => xup_ne _ _ _ hq) (fun j hj => by rw [xup_same, upd_n _ _ hj]) (by rw [xup_same, upd_s])
    refine ⟨u', fun K => ?_, r2⟩
    rw [pre K, if_pos c, ← e0]
    exact r1 K
  · obtain ⟨u', r1, r2⟩ := fin (xup u4 21 11 (ofS w cm h n S).1) (fun q hq => xup_ne _ _ _ hq) (fun j hj => by rw [xup_same, upd_n _ _ hj]) (by rw [xup_same, upd_s])
    refine ⟨u', fun K => ?_, r2⟩
    have y4 : xup u4 21 11 (ofS w cm h n S).1 4 = w 4 := by rw [xup_ne _ _ _ (by decide)]; exact x44
    rw [pre K, if_neg c, s_stonesX (T4 _ y4 (by rw [xup_ne _ _ _ (by decide)]; exact x42)), y4, q2 c]
    exact r1 K
