-- ===== a day =====
theorem bestL_inv {w : xI} {cm : Nat → Int32} {t h n thr : Nat} : ∀ (m S : Nat) (b : Nat × Int32), S + m = 2 ^ n → 1 ≤ S → (b = (0, 0) ∨ (1 ≤ b.1 ∧ b.1 < 2 ^ n ∧ b.1 &&& thr = 0 ∧ mbS w cm t h n b.1 ∧ b.2 = brS w cm t h n b.1 ∧ 0 < b.2)) → (bestL w cm t h n thr m S b = (0, 0) ∨ (1 ≤ (bestL w cm t h n thr m S b).1 ∧ (bestL w cm t h n thr m S b).1 < 2 ^ n ∧ (bestL w cm t h n thr m S b).1 &&& thr = 0 ∧ mbS w cm t h n (bestL w cm t h n thr m S b).1 ∧ (bestL w cm t h n thr m S b).2 = brS w cm t h n (bestL w cm t h n thr m S b).1 ∧ 0 < (bestL w cm t h n thr m S b).2)) := by
  intro m
  induction m with
  | zero => intro S b _ _ hb; exact hb
  | succ m ih =>
    intro S b h1 h2 hb
    by_cases c : okB w cm t h n thr S b.2
    · rw [bestL_pos c]
      refine ih (S + 1) _ (by omega) (by omega) (Or.inr ⟨h2, by omega, c.1, c.2.1, rfl, ?_⟩)
      refine Int32.lt_of_le_of_lt ?_ c.2.2
      rcases hb with hb | hb
      · rw [hb]; exact Int32.le_refl _
      · exact Int32.le_of_lt hb.2.2.2.2.2
    · rw [bestL_neg c]
      exact ih (S + 1) b (by omega) (by omega) hb
theorem bestB_inv (w : xI) (cm : Nat → Int32) (t h n thr : Nat) : bestB w cm t h n thr = (0, 0) ∨ (1 ≤ (bestB w cm t h n thr).1 ∧ (bestB w cm t h n thr).1 < 2 ^ n ∧ (bestB w cm t h n thr).1 &&& thr = 0 ∧ mbS w cm t h n (bestB w cm t h n thr).1 ∧ (bestB w cm t h n thr).2 = brS w cm t h n (bestB w cm t h n thr).1 ∧ 0 < (bestB w cm t h n thr).2) :=
  have h0 : 0 < 2 ^ n := Nat.two_pow_pos n
  bestL_inv (2 ^ n - 1) 1 (0, 0) (by omega) (Nat.le_refl _) (Or.inl rfl)
theorem bestB_lt (w : xI) (cm : Nat → Int32) (t h n thr : Nat) : (bestB w cm t h n thr).1 < 2 ^ n := by
  rcases bestB_inv w cm t h n thr with e | e
  · rw [e]; exact Nat.two_pow_pos n
  · exact e.2.1
noncomputable def dayT (w : xI) (cm : Nat → Int32) (t n : Nat) (sk : Int32) (ab : Nat) : Nat → Nat
  | 0 => 0
  | k + 1 => dayT w cm t n sk ab k ||| (if nI k = sk then 0 else (bestB w cm t k n (dayT w cm t n sk ab k ||| ab)).1)
noncomputable def dayS (w : xI) (cm : Nat → Int32) (t n : Nat) (sk : Int32) (ab : Nat) (k : Nat) : Nat := if nI k = sk then 0 else (bestB w cm t k n (dayT w cm t n sk ab k ||| ab)).1
noncomputable def dayB (w : xI) (cm : Nat → Int32) (t n : Nat) (sk : Int32) (ab : Nat) (k : Nat) : Int32 := (bestB w cm t k n (dayT w cm t n sk ab k ||| ab)).2
noncomputable def dayE (w : xI) (cm : Nat → Int32) (t n : Nat) (sk : Int32) (ab : Nat) : Nat → Int32
  | 0 => 0
  | k + 1 => if dayS w cm t n sk ab k = 0 then dayE w cm t n sk ab k else dayE w cm t n sk ab k + dayB w cm t n sk ab k
noncomputable def dayM (w : xI) (cm : Nat → Int32) (t n : Nat) (sk : Int32) (ab : Nat) : Nat → Int32
  | 0 => 0
  | k + 1 => if dayS w cm t n sk ab k = 0 then dayM w cm t n sk ab k else dayM w cm t n sk ab k + (nI (inS w cm k n (dayS w cm t n sk ab k)) - nI (outS w cm k n (dayS w cm t n sk ab k)))
noncomputable def dayR (w : xI) (cm : Nat → Int32) (t n : Nat) (sk : Int32) (ab : Nat) : Nat → Nat
  | 0 => 0
  | k + 1 => if dayS w cm t n sk ab k = 0 then dayR w cm t n sk ab k else dayR w cm t n sk ab k + 1
def mxW (f : Nat → Nat) (p : Nat → Bool) : Nat → Nat → Nat → Nat
  | 0, _, a => a
  | m + 1, k, a => mxW f p m (k + 1) (if p k = true then (if a < f k then f k else a) else a)
noncomputable def dayW (w : xI) (cm : Nat → Int32) (t n : Nat) (sk : Int32) (ab : Nat) : Nat → Nat
  | 0 => 0
  | k + 1 => if dayS w cm t n sk ab k = 0 then dayW w cm t n sk ab k else mxW (fun c => waitN k (cm c)) (fun c => (dayS w cm t n sk ab k).testBit c) n 0 (dayW w cm t n sk ab k)
theorem mxW_le {f : Nat → Nat} {p : Nat → Bool} {B : Nat} (hf : ∀ i, f i ≤ B) : ∀ m k a, a ≤ B → mxW f p m k a ≤ B := by
  intro m
  induction m with
  | zero => intro k a h; exact h
  | succ m ih =>
    intro k a h
    refine ih (k + 1) _ ?_
    by_cases c : p k = true
    · rw [if_pos c]
      by_cases d : a < f k
      · rw [if_pos d]; exact hf k
      · rw [if_neg d]; exact h
    · rw [if_neg c]; exact h
theorem dayT_s (w : xI) (cm : Nat → Int32) (t n : Nat) (sk : Int32) (ab k : Nat) : dayT w cm t n sk ab (k + 1) = dayT w cm t n sk ab k ||| dayS w cm t n sk ab k := rfl
theorem dayS_lt (w : xI) (cm : Nat → Int32) (t n : Nat) (sk : Int32) (ab k : Nat) : dayS w cm t n sk ab k < 2 ^ n := by
  unfold dayS
  by_cases c : nI k = sk
  · rw [if_pos c]; exact Nat.two_pow_pos n
  · rw [if_neg c]; exact bestB_lt _ _ _ _ _ _
theorem dayT_lt (w : xI) (cm : Nat → Int32) (t n : Nat) (sk : Int32) (ab : Nat) : ∀ k, dayT w cm t n sk ab k < 2 ^ n := by
  intro k
  induction k with
  | zero => exact Nat.two_pow_pos n
  | succ k ih => rw [dayT_s]; exact Nat.or_lt_two_pow ih (dayS_lt _ _ _ _ _ _ _)
theorem dayR_le (w : xI) (cm : Nat → Int32) (t n : Nat) (sk : Int32) (ab : Nat) : ∀ k, dayR w cm t n sk ab k ≤ k := by
  intro k
  induction k with
  | zero => exact Nat.le_refl _
  | succ k ih =>
    show (if dayS w cm t n sk ab k = 0 then dayR w cm t n sk ab k else dayR w cm t n sk ab k + 1) ≤ k + 1
    by_cases c : dayS w cm t n sk ab k = 0
    · rw [if_pos c]; omega
    · rw [if_neg c]; omega
theorem dayR_mono (w : xI) (cm : Nat → Int32) (t n : Nat) (sk : Int32) (ab : Nat) {h : Nat} : ∀ k, h < k → dayS w cm t n sk ab h ≠ 0 → dayR w cm t n sk ab h < dayR w cm t n sk ab k := by
  intro k
  induction k with
  | zero => intro hk; omega
  | succ k ih =>
    intro hk hs
    show dayR w cm t n sk ab h < (if dayS w cm t n sk ab k = 0 then dayR w cm t n sk ab k else dayR w cm t n sk ab k + 1)
    by_cases e : h = k
    · subst e; rw [if_neg hs]; omega
    · have := ih (by omega) hs
      by_cases c : dayS w cm t n sk ab k = 0
      · rw [if_pos c]; omega
      · rw [if_neg c]; omega
theorem dayW_le (w : xI) (cm : Nat → Int32) (t n : Nat) (sk : Int32) (ab : Nat) : ∀ k, k ≤ 10 → dayW w cm t n sk ab k ≤ 10 := by
  intro k
  induction k with
  | zero => intro _; exact Nat.zero_le _
  | succ k ih =>
    intro hk
    show (if dayS w cm t n sk ab k = 0 then dayW w cm t n sk ab k else mxW (fun c => waitN k (cm c)) (fun c => (dayS w cm t n sk ab k).testBit c) n 0 (dayW w cm t n sk ab k)) ≤ 10
    by_cases c : dayS w cm t n sk ab k = 0
    · rw [if_pos c]; exact ih (by omega)
    · rw [if_neg c]; exact mxW_le (fun i => waitN_le (by omega) _) n 0 _ (ih (by omega))
/-- the component's day after k hours -/
def DayX (w : xI) (cm : Nat → Int32) (t n : Nat) (sk : Int32) (ab k : Nat) (u : xI) : Prop := u 28 5 = nI (dayR w cm t n sk ab k) ∧ u 28 6 = dayE w cm t n sk ab k ∧ u 28 7 = nI (dayT w cm t n sk ab k) ∧ u 28 8 = dayM w cm t n sk ab k ∧ u 28 9 = nI (dayW w cm t n sk ab k) ∧ ∀ h, h < k → dayS w cm t n sk ab h ≠ 0 → u 30 (dayR w cm t n sk ab h) = nI h ∧ u 31 (dayR w cm t n sk ab h) = nI (dayS w cm t n sk ab h)
theorem DayX.cg {w : xI} {cm : Nat → Int32} {t n : Nat} {sk : Int32} {ab k : Nat} {u u' : xI} (h : DayX w cm t n sk ab k u) (h1 : u' 28 = u 28) (h2 : u' 30 = u 30) (h3 : u' 31 = u 31) : DayX w cm t n sk ab k u' := by
  unfold DayX
  rw [h1, h2, h3]; exact h
theorem s_noteL {cm : Nat → Int32} {n h S : Nat} (hn : n ≤ 10) (hh : h ≤ 10) (hS : S < 2 ^ n) (hcm : ∀ c, c < 10 → 0 ≤ cm c ∧ cm c ≤ 9) : ∀ (m c fu a : Nat) (u : xI), c + m = n → m < fu → a ≤ 10 → u 5 2 = nI n → (∀ c, c < n → u 29 c = cm c) → u 28 9 = nI a →
    ∃ u', f_X1_noteBest_L112 fu (nI h) (nI S) (nI c) u = some ((), u') ∧ (∀ q, q ≠ 28 → u' q = u q) ∧ (∀ j, j ≠ 9 → u' 28 j = u 28 j) ∧ u' 28 9 = nI (mxW (fun c => waitN h (cm c)) (fun c => S.testBit c) m c a) := by
  have hp := pw10 hn
  intro m
  induction m with
  | zero =>
    intro c fu a u h1 h2 ha e5 e29 e9
    obtain ⟨f, rfl⟩ : ∃ f, fu = f + 1 := ⟨fu - 1, by omega⟩
    refine ⟨u, ?_, fun _ _ => rfl, fun _ _ => rfl, e9⟩
    rw [f_X1_noteBest_L112, e5, if_pos (nI_le (by omega) (by omega))]
  | succ m ih =>
    intro c fu a u h1 h2 ha e5 e29 e9
    obtain ⟨f, rfl⟩ : ∃ f, fu = f + 1 := ⟨fu - 1, by omega⟩
    have hc : c < 10 := by omega
    have er : mxW (fun c => waitN h (cm c)) (fun c => S.testBit c) (m + 1) c a = mxW (fun c => waitN h (cm c)) (fun c => S.testBit c) m (c + 1) (if S.testBit c = true then (if a < waitN h (cm c) then waitN h (cm c) else a) else a) := rfl
    rw [f_X1_noteBest_L112, e5, if_neg (nI_ge (by omega) (by omega)), er, nI_1]
    simp only [xlet_eq]
    by_cases b : S.testBit c = true
    · rw [if_pos ((b_on (by omega) (by omega)).mpr b), if_pos b, xin_nI hc (by decide), xchk_true, nI_clamp (by omega), e29 c (by omega), s_waitX hh (hcm c hc).1 (hcm c hc).2, e9]
      have hw := waitN_le hh (cm c)
      have e : (if nI a < nI (waitN h (cm c)) then nI (waitN h (cm c)) else nI a) = nI (if a < waitN h (cm c) then waitN h (cm c) else a) := by
        by_cases d : a < waitN h (cm c)
        · rw [if_pos d, if_pos (nI_lt d (by omega))]
        · rw [if_neg d, if_neg (nI_nlt (by omega) (by omega))]
      rw [e]
      obtain ⟨u', r1, r2, r3, r4⟩ := ih (c + 1) f (if a < waitN h (cm c) then waitN h (cm c) else a) (xup u 28 9 (nI (if a < waitN h (cm c) then waitN h (cm c) else a))) (by omega) (by omega) (by split <;> omega) (by rw [xup_ne _ _ _ (by decide)]; exact e5) (fun i hi => by rw [xup_ne _ _ _ (by decide)]; exact e29 i hi) (by rw [xup_same, upd_s])
      exact ⟨u', r1, fun q hq => by rw [r2 q hq, xup_ne _ _ _ hq], fun j hj => by rw [r3 j hj, xup_same, upd_n _ _ hj], r4⟩
    · rw [if_neg (fun z => b ((b_on (by omega) (by omega)).mp z)), if_neg b]
      exact ih (c + 1) f a u (by omega) (by omega) ha e5 e29 e9
theorem s_note {γ : Type} {w : xI} {cm : Nat → Int32} (hY : YdB w cm) (hT : TabB w) {t n : Nat} {sk : Int32} {ab k : Nat} (hk : k < 10) (hn : n ≤ 10) (hsk : ¬ nI k = sk) {u : xI} (hP : Prep w cm k n u) (e2 : u 2 = w 2) (e4 : u 4 = w 4) (e29 : ∀ c, c < n → u 29 c = cm c) (e13 : u 21 13 = nI (dayS w cm t n sk ab k)) (e14 : u 21 14 = dayB w cm t n sk ab k) (hD : DayX w cm t n sk ab k u) :
    ∃ u', (∀ (K : Unit → xI → Option γ), xbind (f_X1_noteBest (nI k) u) K = K () u') ∧ DayX w cm t n sk ab (k + 1) u' ∧ (∀ q, q ≠ 21 → q ≠ 24 → q ≠ 28 → q ≠ 30 → q ≠ 31 → u' q = u q) := by
  have hp := pw10 hn
  have hS := dayS_lt w cm t n sk ab k
  have hTl := dayT_lt w cm t n sk ab k
  have hr := dayR_le w cm t n sk ab k
  have hW := dayW_le w cm t n sk ab k (by omega)
  obtain ⟨d5, d6, d7, d8, d9, dr⟩ := hD
  by_cases c : dayS w cm t n sk ab k = 0
  · refine ⟨u, fun K => ?_, ⟨?_, ?_, ?_, ?_, ?_, fun h hh hs => ?_⟩, fun _ _ _ _ _ _ => rfl⟩
    · unfold f_X1_noteBest
      rw [e13, c, xlet_eq, if_pos nI_0, xbind_some]
    · rw [d5]; show _ = nI (if dayS w cm t n sk ab k = 0 then _ else _); rw [if_pos c]
    · rw [d6]; show _ = (if dayS w cm t n sk ab k = 0 then _ else _); rw [if_pos c]
    · rw [d7, dayT_s, c, Nat.or_zero]
    · rw [d8]; show _ = (if dayS w cm t n sk ab k = 0 then _ else _); rw [if_pos c]
    · rw [d9]; show _ = nI (if dayS w cm t n sk ab k = 0 then _ else _); rw [if_pos c]
    · by_cases e : h = k
      · subst e; exact absurd c hs
      · exact dr h (by omega) hs
  · obtain ⟨u2, q1, W2, P2, f2, f2'⟩ := s_weighX (γ := Unit × xI) hY hT (by omega) hn hS hP e2 e4
    have x28 : u2 28 = u 28 := f2 28 (by decide) (by decide)
    have nz : ¬ nI (dayS w cm t n sk ab k) = 0 := nI_ne0 (by omega) (by omega)
    generalize hz : xup (xup (xup (xup (xup (xup u2 30 (dayR w cm t n sk ab k) (nI k)) 31 (dayR w cm t n sk ab k) (nI (dayS w cm t n sk ab k))) 28 5 (nI (dayR w cm t n sk ab k + 1))) 28 6 (dayE w cm t n sk ab k + dayB w cm t n sk ab k)) 28 7 (nI (dayT w cm t n sk ab k ||| dayS w cm t n sk ab k))) 28 8 (dayM w cm t n sk ab k + (nI (inS w cm k n (dayS w cm t n sk ab k)) - nI (outS w cm k n (dayS w cm t n sk ab k)))) = z
    have zq : ∀ q, q ≠ 28 → q ≠ 30 → q ≠ 31 → z q = u2 q := fun q q1 q2 q3 => by rw [← hz, xup_ne _ _ _ q1, xup_ne _ _ _ q1, xup_ne _ _ _ q1, xup_ne _ _ _ q1, xup_ne _ _ _ q3, xup_ne _ _ _ q2]
    have z9 : z 28 9 = nI (dayW w cm t n sk ab k) := by rw [← hz, xup_same, upd_n _ _ (by decide), xup_same, upd_n _ _ (by decide), xup_same, upd_n _ _ (by decide), xup_same, upd_n _ _ (by decide), xup_ne _ _ _ (by decide), xup_ne _ _ _ (by decide), x28, d9]
    obtain ⟨u', r1, r2, r3, r4⟩ := s_noteL (h := k) (S := dayS w cm t n sk ab k) hn (by omega) hS hY.2.1 n 0 2000 (dayW w cm t n sk ab k) z (by omega) (by omega) hW (by rw [zq 5 (by decide) (by decide) (by decide)]; exact P2.1) (fun c hc => by rw [zq 29 (by decide) (by decide) (by decide), f2 29 (by decide) (by decide)]; exact e29 c hc) z9
    have z30 : z 30 = upd (u2 30) (dayR w cm t n sk ab k) (nI k) := by rw [← hz, xup_ne _ _ _ (by decide), xup_ne _ _ _ (by decide), xup_ne _ _ _ (by decide), xup_ne _ _ _ (by decide), xup_ne _ _ _ (by decide), xup_same]
    have z31 : z 31 = upd (u2 31) (dayR w cm t n sk ab k) (nI (dayS w cm t n sk ab k)) := by rw [← hz, xup_ne _ _ _ (by decide), xup_ne _ _ _ (by decide), xup_ne _ _ _ (by decide), xup_ne _ _ _ (by decide), xup_same, xup_ne _ _ _ (by decide)]
    refine ⟨u', fun K => ?_, ⟨?_, ?_, ?_, ?_, ?_, fun h hh hs => ?_⟩, fun q q1 q2 q3 q4 q5 => ?_⟩
    · unfold f_X1_noteBest
      rw [e13, xlet_eq, if_neg nz, d5, if_pos (show nI (dayR w cm t n sk ab k) < (10 : Int32) from nI_lt (b := 10) (by omega) (by omega)), q1, x28, d5, xin_nI (by omega) (by decide), xchk_true, xchk_true, nI_clamp (by omega), nI_1]
      have g6 : ∀ (v : xI) , v 28 6 = v 28 6 := fun _ => rfl
      rw [d6, f2' 14 (by omega), e14, d7, b_or (by omega) (by omega), d8, W2.2.2.1, W2.2.2.2.1, hz]
      rw [nI_0] at r1
      rw [r1, xbind_some]
    · rw [r3 5 (by decide), ← hz, xup_same, upd_n _ _ (by decide), xup_same, upd_n _ _ (by decide), xup_same, upd_n _ _ (by decide), xup_same, upd_s]; show _ = nI (if dayS w cm t n sk ab k = 0 then _ else _); rw [if_neg c]
    · rw [r3 6 (by decide), ← hz, xup_same, upd_n _ _ (by decide), xup_same, upd_n _ _ (by decide), xup_same, upd_s]; show _ = (if dayS w cm t n sk ab k = 0 then _ else _); rw [if_neg c]
    · rw [r3 7 (by decide), ← hz, xup_same, upd_n _ _ (by decide), xup_same, upd_s, dayT_s]
    · rw [r3 8 (by decide), ← hz, xup_same, upd_s]; show _ = (if dayS w cm t n sk ab k = 0 then _ else _); rw [if_neg c]
    · rw [r4]; show _ = nI (if dayS w cm t n sk ab k = 0 then _ else _); rw [if_neg c]
    · rw [r2 30 (by decide), r2 31 (by decide), z30, z31, f2 30 (by decide) (by decide), f2 31 (by decide) (by decide)]
      by_cases e : h = k
      · subst e; rw [upd_s, upd_s]; exact ⟨rfl, rfl⟩
      · have hm := dayR_mono w cm t n sk ab k (h := h) (by omega) hs
        rw [upd_n _ _ (by omega), upd_n _ _ (by omega)]
        exact dr h (by omega) hs
    · rw [r2 q q3, zq q q3 q4 q5, f2 q q1 q2]
theorem dayS_best {w : xI} {cm : Nat → Int32} {t n : Nat} {sk : Int32} {ab k : Nat} (hsk : ¬ nI k = sk) : dayS w cm t n sk ab k = (bestB w cm t k n (dayT w cm t n sk ab k ||| ab)).1 := if_neg hsk
theorem s_runL {w : xI} {cm : Nat → Int32} (hY : YdB w cm) (hT : TabB w) {t n N C : Nat} {sk : Int32} {ab : Nat} (hn : n ≤ 10) (hwn : w 5 2 = nI n) (hN : N ≤ 10) (hC : C < 1024) (hCab : ∀ i, i < n → C.testBit i = !ab.testBit i) : ∀ (m k fu : Nat) (u : xI), k + m = N → m < fu → u 5 2 = w 5 2 → (∀ c, c < 10 → u (8 + c) = w (8 + c)) → (∀ c, c < n → u 29 c = cm c) → u 2 = w 2 → u 4 = w 4 → TxB w t u → DayX w cm t n sk ab k u →
    ∃ u', f_X1_run_L28 (39 + 4 * t) fu (nI N) sk (nI C) (nI k) u = some ((), u') ∧ DayX w cm t n sk ab N u' ∧ (∀ q, ¬ (21 ≤ q ∧ q ≤ 24) → q ≠ 28 → q ≠ 30 → q ≠ 31 → q ≠ 42 + 4 * t → u' q = u q) := by
  have hp := pw10 hn
  intro m
  induction m with
  | zero =>
    intro k fu u h1 h2 e5 e8 e29 e2 e4 hX hD
    obtain ⟨f, rfl⟩ : ∃ f, fu = f + 1 := ⟨fu - 1, by omega⟩
    have hk : k = N := by omega
    subst hk
    refine ⟨u, ?_, hD, fun _ _ _ _ _ _ => rfl⟩
    rw [f_X1_run_L28, if_pos (nI_le (Nat.le_refl _) (by omega))]
  | succ m ih =>
    intro k fu u h1 h2 e5 e8 e29 e2 e4 hX hD
    obtain ⟨f, rfl⟩ : ∃ f, fu = f + 1 := ⟨fu - 1, by omega⟩
    have ht := hX.1
    have hTl := dayT_lt w cm t n sk ab k
    rw [f_X1_run_L28, if_neg (nI_ge (by omega) (by omega)), if_neg (show ¬ (10 : Int32) ≤ nI k from nI_ge (b := 10) (by omega) (by omega))]
    simp only [xlet_eq, nI_1]
    by_cases c : nI k = sk
    · rw [if_pos c]
      have hs : dayS w cm t n sk ab k = 0 := if_pos c
      refine ih (k + 1) f u (by omega) (by omega) e5 e8 e29 e2 e4 hX ?_
      obtain ⟨d5, d6, d7, d8, d9, dr⟩ := hD
      refine ⟨?_, ?_, ?_, ?_, ?_, fun h hh hs2 => ?_⟩
      · rw [d5]; show _ = nI (if dayS w cm t n sk ab k = 0 then _ else _); rw [if_pos hs]
      · rw [d6]; show _ = (if dayS w cm t n sk ab k = 0 then _ else _); rw [if_pos hs]
      · rw [d7, dayT_s, hs, Nat.or_zero]
      · rw [d8]; show _ = (if dayS w cm t n sk ab k = 0 then _ else _); rw [if_pos hs]
      · rw [d9]; show _ = nI (if dayS w cm t n sk ab k = 0 then _ else _); rw [if_pos hs]
      · by_cases e : h = k
        · subst e; exact absurd hs hs2
        · exact dr h (by omega) hs2
    · rw [if_neg c]
      obtain ⟨u1, p1, P1, f1, f1'⟩ := s_prepare (γ := Unit × xI) hY hn hwn (h := k) (by omega) (o2 := 29) (by decide) ⟨e5, e8, fun c hc hg => e29 c (by rw [hwn] at hg; exact (nI_ltI (by omega) (by omega)).mp hg)⟩
      have k1 : ∀ q, ¬ (21 ≤ q ∧ q ≤ 24) → u1 q = u q := fun q hq => f1 q (by omega) (by omega) (by omega) (by omega)
      have D1 : DayX w cm t n sk ab k u1 := hD.cg (k1 _ (by decide)) (k1 _ (by decide)) (k1 _ (by decide))
      have hX1 : TxB w t u1 := hX.cg (k1 _ (by omega)) (k1 _ (by omega)) (k1 _ (by omega)) (k1 _ (by omega))
      have hF : ∀ i, i < n → (bdif C (dayT w cm t n sk ab k)).testBit i = !(dayT w cm t n sk ab k ||| ab).testBit i := by
        intro i hi
        rw [bdif_bit _ _ (by omega), hCab i hi, Nat.testBit_or]
        cases ab.testBit i <;> cases (dayT w cm t n sk ab k).testBit i <;> rfl
      obtain ⟨u2, q1, q2, q3, P2, q5⟩ := s_bestX (γ := Unit × xI) hY hT (t := t) (F := bdif C (dayT w cm t n sk ab k)) (thr := dayT w cm t n sk ab k ||| ab) (by omega) hn (bdif_lt (n := 10) hC) hF P1 (by rw [k1 2 (by decide)]; exact e2) (by rw [k1 4 (by decide)]; exact e4) hX1
      have k2 : ∀ q, ¬ (21 ≤ q ∧ q ≤ 24) → q ≠ 42 + 4 * t → u2 q = u q := fun q hq h42 => by rw [q5 q (by omega) (by omega) h42, k1 q hq]
      have D2 : DayX w cm t n sk ab k u2 := hD.cg (k2 _ (by decide) (by omega)) (k2 _ (by decide) (by omega)) (k2 _ (by decide) (by omega))
      obtain ⟨u3, r1, D3, r3⟩ := s_note (γ := Unit × xI) hY hT (ab := ab) (by omega) hn c P2 (by rw [k2 2 (by decide) (by omega)]; exact e2) (by rw [k2 4 (by decide) (by omega)]; exact e4) (fun i hi => by rw [k2 29 (by decide) (by omega)]; exact e29 i hi) (by rw [q2, dayS_best c]) q3 D2
      have k3 : ∀ q, ¬ (21 ≤ q ∧ q ≤ 24) → q ≠ 28 → q ≠ 30 → q ≠ 31 → q ≠ 42 + 4 * t → u3 q = u q := fun q a b d e g => by rw [r3 q (by omega) (by omega) b d e, k2 q a g]
      obtain ⟨u', s1, s2, s3⟩ := ih (k + 1) f u3 (by omega) (by omega) (by rw [k3 5 (by decide) (by decide) (by decide) (by decide) (by omega)]; exact e5) (fun i hi => by rw [k3 _ (by omega) (by omega) (by omega) (by omega) (by omega)]; exact e8 i hi) (fun i hi => by rw [k3 29 (by decide) (by decide) (by decide) (by decide) (by omega)]; exact e29 i hi) (by rw [k3 2 (by decide) (by decide) (by decide) (by decide) (by omega)]; exact e2) (by rw [k3 4 (by decide) (by decide) (by decide) (by decide) (by omega)]; exact e4) (hX.cg (k3 _ (by omega) (by omega) (by omega) (by omega) (by omega)) (k3 _ (by omega) (by omega) (by omega) (by omega) (by omega)) (k3 _ (by omega) (by omega) (by omega) (by omega) (by omega)) (k3 _ (by omega) (by omega) (by omega) (by omega) (by omega))) D3
      refine ⟨u', ?_, s2, fun q a b d e g => by rw [s3 q a b d e g, k3 q a b d e g]⟩
      rw [p1, D1.2.2.1, b_dif (by omega) (by omega)]
      refine (q1 _).trans ?_
      rw [r1]
      exact s1
/-- the component lives through a day of N hours -/
theorem s_runX {γ : Type} {w : xI} {cm : Nat → Int32} (hY : YdB w cm) (hT : TabB w) {t n N C : Nat} {sk : Int32} {ab : Nat} (hn : n ≤ 10) (hwn : w 5 2 = nI n) (hN : N ≤ 10) (hC : C < 1024) (hCab : ∀ i, i < n → C.testBit i = !ab.testBit i) {u : xI} (e5 : u 5 2 = w 5 2) (e8 : ∀ c, c < 10 → u (8 + c) = w (8 + c)) (e29 : ∀ c, c < n → u 29 c = cm c) (e2 : u 2 = w 2) (e4 : u 4 = w 4) (hX : TxB w t u) :
    ∃ u', (∀ (K : Unit → xI → Option γ), xbind (f_X1_run (nI N) sk (nI C) (39 + 4 * t) u) K = K () u') ∧ DayX w cm t n sk ab N u' ∧ (∀ q, ¬ (21 ≤ q ∧ q ≤ 24) → q ≠ 28 → q ≠ 30 → q ≠ 31 → q ≠ 42 + 4 * t → u' q = u q) := by
  generalize hz : xup (xup (xup (xup (xup u 28 5 (0 : Int32)) 28 6 (0 : Int32)) 28 7 (0 : Int32)) 28 8 (0 : Int32)) 28 9 (0 : Int32) = z
  have zq : ∀ q, q ≠ 28 → z q = u q := fun q hq => by rw [← hz, xup_ne _ _ _ hq, xup_ne _ _ _ hq, xup_ne _ _ _ hq, xup_ne _ _ _ hq, xup_ne _ _ _ hq]
  have ht := hX.1
  have D0 : DayX w cm t n sk ab 0 z := by
    rw [← hz]
    exact ⟨rfl, rfl, rfl, rfl, rfl, fun h hh => absurd hh (Nat.not_lt_zero h)⟩
  obtain ⟨u', s1, s2, s3⟩ := s_runL hY hT (ab := ab) hn hwn hN hC hCab N 0 2000 z (by omega) (by omega) (by rw [zq 5 (by decide)]; exact e5) (fun c hc => by rw [zq _ (by omega)]; exact e8 c hc) (fun c hc => by rw [zq 29 (by decide)]; exact e29 c hc) (by rw [zq 2 (by decide)]; exact e2) (by rw [zq 4 (by decide)]; exact e4) (hX.cg (zq _ (by omega)) (zq _ (by omega)) (zq _ (by omega)) (zq _ (by omega))) D0
  refine ⟨u', fun K => ?_, s2, fun q a b d e g => by rw [s3 q a b d e g, zq q b]⟩
  unfold f_X1_run
  rw [hz, show (0 : Int32) = nI 0 from rfl, s1, xbind_some]
