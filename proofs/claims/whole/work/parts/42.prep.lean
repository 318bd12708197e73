-- ===== the hour's rows =====
def mkM (p : Nat → Bool) : Nat → Nat
  | 0 => 0
  | n + 1 => if p n = true then mkM p n ||| 2 ^ n else mkM p n
theorem mkM_lt (p : Nat → Bool) : ∀ n, mkM p n < 2 ^ n := by
  intro n
  induction n with
  | zero => exact Nat.zero_lt_one
  | succ n ih =>
    have e : 2 ^ (n + 1) = 2 ^ n * 2 := Nat.pow_succ 2 n
    have h0 : 0 < 2 ^ n := Nat.two_pow_pos n
    show (if p n = true then mkM p n ||| 2 ^ n else mkM p n) < 2 ^ (n + 1)
    by_cases c : p n = true
    · rw [if_pos c]; exact Nat.or_lt_two_pow (by omega) (by omega)
    · rw [if_neg c]; omega
theorem mkM_bit (p : Nat → Bool) : ∀ n i, (mkM p n).testBit i = (decide (i < n) && p i) := by
  intro n
  induction n with
  | zero => intro i; show Nat.testBit 0 i = _; rw [Nat.zero_testBit]; simp
  | succ n ih =>
    intro i
    show (if p n = true then mkM p n ||| 2 ^ n else mkM p n).testBit i = _
    by_cases c : p n = true
    · rw [if_pos c, Nat.testBit_or, ih i, Nat.testBit_two_pow]
      by_cases h : i = n
      · subst h; simp [c]
      · have h1 : ¬ n = i := fun z => h z.symm
        by_cases h2 : i < n
        · simp [h1, h2, Nat.lt_succ_of_lt h2]
        · simp [h1, h2, show ¬ i < n + 1 by omega]
    · rw [if_neg c, ih i]
      by_cases h : i = n
      · subst h; simp [c]
      · by_cases h2 : i < n
        · simp [h2, Nat.lt_succ_of_lt h2]
        · simp [h2, show ¬ i < n + 1 by omega]
def inP (w : xI) (c : Nat) : Bool := decide (w (8 + c) 0 = 1)
def cmP (cm : Nat → Int32) (h c : Nat) : Bool := decide (cm c ≤ nI h)
def CxY (w : xI) (cm : Nat → Int32) (o2 : Nat) (u : xI) : Prop := u 5 2 = w 5 2 ∧ (∀ c, c < 10 → u (8 + c) = w (8 + c)) ∧ ∀ c, c < 10 → nI c < w 5 2 → u o2 c = cm c
theorem b_orP {k : Nat} (hk : k < 10) {S : Nat} (hS : S < 2 ^ k) : nI S ||| ((1 : Int32) <<< (nI k &&& 31)) = nI (S ||| 2 ^ k) := by
  have h := pw10 (n := k) (by omega)
  rw [b_shl (by omega), b_or (by omega) (by omega)]
theorem s_prepL {w : xI} {cm : Nat → Int32} (hY : YdB w cm) {n h o2 : Nat} (hn : n ≤ 10) (hwn : w 5 2 = nI n) (hh : h ≤ 10) (ho : o2 ≠ 21 ∧ o2 ≠ 22 ∧ o2 ≠ 23) : ∀ (m k fu : Nat) (u : xI), k + m = n → m < fu → CxY w cm o2 u → u 21 5 = nI (mkM (cmP cm h) k) → u 21 6 = nI (mkM (inP w) k) → (∀ c, c < k → u 22 c = nI (wgN w cm h c) ∧ u 23 c = nI (wtN w cm h c)) →
    ∃ u', f_X8_prepare_L19 o2 fu (nI h) (nI k) u = some ((), u') ∧ u' 21 5 = nI (mkM (cmP cm h) n) ∧ u' 21 6 = nI (mkM (inP w) n) ∧ (∀ c, c < n → u' 22 c = nI (wgN w cm h c) ∧ u' 23 c = nI (wtN w cm h c)) ∧ (∀ q, q ≠ 21 → q ≠ 22 → q ≠ 23 → u' q = u q) ∧ (∀ j, j ≠ 5 → j ≠ 6 → u' 21 j = u 21 j) := by
  intro m
  induction m with
  | zero =>
    intro k fu u h1 h2 hC h5 h6 hr
    obtain ⟨f, rfl⟩ : ∃ f, fu = f + 1 := ⟨fu - 1, by omega⟩
    have hk : k = n := by omega
    subst hk
    refine ⟨u, ?_, h5, h6, hr, fun _ _ _ _ => rfl, fun _ _ _ => rfl⟩
    rw [f_X8_prepare_L19, hC.1, hwn, if_pos (nI_le (Nat.le_refl _) (by omega))]
  | succ m ih =>
    intro k fu u h1 h2 hC h5 h6 hr
    obtain ⟨f, rfl⟩ : ∃ f, fu = f + 1 := ⟨fu - 1, by omega⟩
    have hk : k < 10 := by omega
    have hkn : nI k < w 5 2 := by rw [hwn]; exact nI_lt (by omega) (by omega)
    obtain ⟨b0, b2, b3, b4⟩ := hY.2.2 k hk
    have bc := hY.2.1 k hk
    have e8 : ∀ j, u (8 + k) j = w (8 + k) j := fun j => by rw [hC.2.1 k hk]
    have hl5 := mkM_lt (cmP cm h) k
    have hl6 := mkM_lt (inP w) k
    rw [f_X8_prepare_L19, hC.1, hwn, if_neg (nI_ge (by omega) (by omega)), xin_nI hk (by decide), xchk_true, xlet_eq, xchk_true, nI_clamp (by omega), hC.2.2 k hk hkn, s_waitX hh bc.1 bc.2, s_weighsX (by rw [e8]; exact b2) (by rw [e8]; exact b4) (waitN_le hh _), xchk_true]
    have ew : nI (wgS (u (8 + k) 1) (u (8 + k) 2) (u (8 + k) 4) (waitN h (cm k))) = nI (wgN w cm h k) := by rw [e8, e8, e8]; rfl
    rw [ew]
    have n8 : ∀ (z : xI) j x, xup z 22 j x (8 + k) = z (8 + k) := fun z j x => xup_ne _ _ _ (by omega)
    have n8' : ∀ (z : xI) j x, xup z 23 j x (8 + k) = z (8 + k) := fun z j x => xup_ne _ _ _ (by omega)
    have n8s : ∀ (z : xI) j x, xup z 21 j x (8 + k) = z (8 + k) := fun z j x => xup_ne _ _ _ (by omega)
    rw [s_worthX (by rw [n8, e8]; exact b3) (by rw [n8, e8]; exact b4) (waitN_le hh _), xchk_true, xchk_true]
    have et : nI (wtS (xup u 22 k (nI (wgN w cm h k)) (8 + k) 1) (xup u 22 k (nI (wgN w cm h k)) (8 + k) 3) (xup u 22 k (nI (wgN w cm h k)) (8 + k) 4) (waitN h (cm k))) = nI (wtN w cm h k) := by rw [n8, e8, e8, e8]; rfl
    rw [et]
    generalize hv : xup (xup u 22 k (nI (wgN w cm h k))) 23 k (nI (wtN w cm h k)) = v
    have vo : v o2 k = cm k := by rw [← hv, xup_ne _ _ _ ho.2.2, xup_ne _ _ _ ho.2.1]; exact hC.2.2 k hk hkn
    have v8 : v (8 + k) = w (8 + k) := by rw [← hv, n8', n8]; exact hC.2.1 k hk
    have v5 : xup u 22 k (nI (wgN w cm h k)) 21 5 = nI (mkM (cmP cm h) k) := by rw [xup_ne _ _ _ (by decide)]; exact h5
    have v6 : xup u 22 k (nI (wgN w cm h k)) 21 6 = nI (mkM (inP w) k) := by rw [xup_ne _ _ _ (by decide)]; exact h6
    have w5 : v 21 5 = nI (mkM (cmP cm h) k) := by rw [← hv, xup_ne _ _ _ (by decide)]; exact v5
    have w6 : v 21 6 = nI (mkM (inP w) k) := by rw [← hv, xup_ne _ _ _ (by decide)]; exact v6
    have vf : ∀ q, q ≠ 21 → q ≠ 22 → q ≠ 23 → v q = u q := fun q q1 q2 q3 => by rw [← hv, xup_ne _ _ _ q3, xup_ne _ _ _ q2]
    have v21 : v 21 = u 21 := by rw [← hv, xup_ne _ _ _ (by decide), xup_ne _ _ _ (by decide)]
    have vr : ∀ c, c < k + 1 → v 22 c = nI (wgN w cm h c) ∧ v 23 c = nI (wtN w cm h c) := by
      intro c hc
      rw [← hv]
      by_cases e : c = k
      · subst e
        rw [xup_ne _ _ _ (by decide : (22 : Nat) ≠ 23), xup_same, xup_same, upd_s, upd_s]; exact ⟨rfl, rfl⟩
      · rw [xup_ne _ _ _ (by decide : (22 : Nat) ≠ 23), xup_same, xup_same, upd_n _ _ e, upd_n _ _ e, xup_ne _ _ _ (by decide)]; exact hr c (by omega)
    rw [vo, v8, v5, v6, b_orP hk hl5, b_orP hk hl6, nI_1]
    -- the rest, for any new masks
    have fin : ∀ z : xI, z 21 5 = nI (mkM (cmP cm h) (k + 1)) → z 21 6 = nI (mkM (inP w) (k + 1)) → (∀ q, q ≠ 21 → z q = v q) → (∀ j, j ≠ 5 → j ≠ 6 → z 21 j = v 21 j) →
        ∃ u', f_X8_prepare_L19 o2 f (nI h) (nI (k + 1)) z = some ((), u') ∧ u' 21 5 = nI (mkM (cmP cm h) n) ∧ u' 21 6 = nI (mkM (inP w) n) ∧ (∀ c, c < n → u' 22 c = nI (wgN w cm h c) ∧ u' 23 c = nI (wtN w cm h c)) ∧ (∀ q, q ≠ 21 → q ≠ 22 → q ≠ 23 → u' q = u q) ∧ (∀ j, j ≠ 5 → j ≠ 6 → u' 21 j = u 21 j) := by
      intro z z5 z6 zf zj
      obtain ⟨u', r1, r2, r3, r4, r5, r6⟩ := ih (k + 1) f z (by omega) (by omega) ⟨by rw [zf 5 (by decide), vf 5 (by decide) (by decide) (by decide)]; exact hC.1, fun c hc => by rw [zf _ (by omega), vf _ (by omega) (by omega) (by omega)]; exact hC.2.1 c hc, fun c hc hg => by rw [zf _ ho.1, vf _ ho.1 ho.2.1 ho.2.2]; exact hC.2.2 c hc hg⟩ z5 z6 (fun c hc => by rw [zf 22 (by decide), zf 23 (by decide)]; exact vr c hc)
      exact ⟨u', r1, r2, r3, r4, fun q q1 q2 q3 => by rw [r5 q q1 q2 q3, zf q q1, vf q q1 q2 q3], fun j j5 j6 => by rw [r6 j j5 j6, zj j j5 j6, v21]⟩
    have m5 : mkM (cmP cm h) (k + 1) = if cm k ≤ nI h then mkM (cmP cm h) k ||| 2 ^ k else mkM (cmP cm h) k := by
      show (if cmP cm h k = true then _ else _) = _
      unfold cmP
      by_cases c : cm k ≤ nI h
      · rw [if_pos (decide_eq_true c), if_pos c]
      · rw [if_neg (by simpa using c), if_neg c]
    have m6 : mkM (inP w) (k + 1) = if w (8 + k) 0 = 1 then mkM (inP w) k ||| 2 ^ k else mkM (inP w) k := by
      show (if inP w k = true then _ else _) = _
      unfold inP
      by_cases c : w (8 + k) 0 = 1
      · rw [if_pos (decide_eq_true c), if_pos c]
      · rw [if_neg (by simpa using c), if_neg c]
    by_cases c5 : cm k ≤ nI h
    · rw [if_neg (Int32.not_lt.mpr c5), n8s, v8]
      rw [if_pos c5] at m5
      by_cases c6 : w (8 + k) 0 = 1
      · rw [if_pos c6] at m6 ⊢
        rw [xlet_eq]
        exact fin _ (by rw [m5, xup_same, upd_n _ _ (by decide), xup_same, upd_s]) (by rw [m6, xup_same, upd_s]) (fun q q1 => by rw [xup_ne _ _ _ q1, xup_ne _ _ _ q1]) (fun j j5 j6 => by rw [xup_same, upd_n _ _ j6, xup_same, upd_n _ _ j5])
      · rw [if_neg c6] at m6 ⊢
        rw [xlet_eq]
        exact fin _ (by rw [m5, xup_same, upd_s]) (by rw [m6, xup_same, upd_n _ _ (by decide)]; exact w6) (fun q q1 => by rw [xup_ne _ _ _ q1]) (fun j j5 j6 => by rw [xup_same, upd_n _ _ j5])
    · rw [if_pos (Int32.not_le.mp c5)]
      rw [if_neg c5] at m5
      by_cases c6 : w (8 + k) 0 = 1
      · rw [if_pos c6] at m6 ⊢
        rw [xlet_eq]
        exact fin _ (by rw [m5, xup_same, upd_n _ _ (by decide)]; exact w5) (by rw [m6, xup_same, upd_s]) (fun q q1 => by rw [xup_ne _ _ _ q1]) (fun j j5 j6 => by rw [xup_same, upd_n _ _ j6])
      · rw [if_neg c6] at m6 ⊢
        rw [xlet_eq]
        exact fin _ (by rw [m5]; exact w5) (by rw [m6]; exact w6) (fun q q1 => rfl) (fun j j5 j6 => rfl)
/-- the hour's rows lie ready -/
def Prep (w : xI) (cm : Nat → Int32) (h n : Nat) (u : xI) : Prop := u 5 2 = nI n ∧ (∀ c, c < n → u 22 c = nI (wgN w cm h c) ∧ u 23 c = nI (wtN w cm h c)) ∧ u 21 5 = nI (mkM (cmP cm h) n) ∧ u 21 6 = nI (mkM (inP w) n) ∧ u 24 3 = nI h
theorem s_prepare {γ : Type} {w : xI} {cm : Nat → Int32} (hY : YdB w cm) {n h o2 : Nat} (hn : n ≤ 10) (hwn : w 5 2 = nI n) (hh : h ≤ 10) (ho : o2 ≠ 21 ∧ o2 ≠ 22 ∧ o2 ≠ 23 ∧ o2 ≠ 24) {u : xI} (hC : CxY w cm o2 u) : ∃ u', (∀ (K : Unit → xI → Option γ), xbind (f_X8_prepare (nI h) o2 u) K = K () u') ∧ Prep w cm h n u' ∧ (∀ q, q ≠ 21 → q ≠ 22 → q ≠ 23 → q ≠ 24 → u' q = u q) ∧ (∀ j, j ≠ 5 → j ≠ 6 → u' 21 j = u 21 j) := by
  obtain ⟨u', r1, r2, r3, r4, r5, r6⟩ := s_prepL hY hn hwn hh ⟨ho.1, ho.2.1, ho.2.2.1⟩ n 0 2000 (xup (xup (xup u 21 5 0) 21 6 0) 24 3 (nI h)) (by omega) (by omega)
    ⟨by rw [xup_ne _ _ _ (by decide), xup_ne _ _ _ (by decide), xup_ne _ _ _ (by decide)]; exact hC.1, fun c hc => by rw [xup_ne _ _ _ (by omega), xup_ne _ _ _ (by omega), xup_ne _ _ _ (by omega)]; exact hC.2.1 c hc, fun c hc hg => by rw [xup_ne _ _ _ ho.2.2.2, xup_ne _ _ _ ho.1, xup_ne _ _ _ ho.1]; exact hC.2.2 c hc hg⟩
    (by rw [xup_ne _ _ _ (by decide), xup_same, upd_n _ _ (by decide), xup_same, upd_s]; rfl) (by rw [xup_ne _ _ _ (by decide), xup_same, upd_s]; rfl) (fun c hc => absurd hc (Nat.not_lt_zero c))
  rw [nI_0] at r1
  refine ⟨u', fun K => ?_, ⟨?_, r4, r2, r3, ?_⟩, fun q q1 q2 q3 q4 => ?_, fun j j5 j6 => ?_⟩
  · unfold f_X8_prepare
    rw [r1, xbind_some]
  · rw [r5 5 (by decide) (by decide) (by decide), xup_ne _ _ _ (by decide), xup_ne _ _ _ (by decide), xup_ne _ _ _ (by decide), hC.1, hwn]
  · rw [r5 24 (by decide) (by decide) (by decide), xup_same, upd_s]
  · rw [r5 q q1 q2 q3, xup_ne _ _ _ q4, xup_ne _ _ _ q1, xup_ne _ _ _ q1]
  · rw [r6 j j5 j6, xup_ne _ _ _ (by decide), xup_same, upd_n _ _ j6, xup_same, upd_n _ _ j5]
