-- ===== the model's day =====
noncomputable def dayG (w : xI) (cm : Nat → Int32) (t n : Nat) (sk : Int32) (ab : Nat) (c : Nat) : Nat → Int32
  | 0 => -1
  | k + 1 => if (dayS w cm t n sk ab k).testBit c = true then nI k else dayG w cm t n sk ab c k
theorem day_disj (w : xI) (cm : Nat → Int32) (t n : Nat) (sk : Int32) (ab k : Nat) : ∀ i, (dayS w cm t n sk ab k).testBit i = true → (dayT w cm t n sk ab k).testBit i = false ∧ ab.testBit i = false := by
  intro i hi
  unfold dayS at hi
  by_cases c : nI k = sk
  · rw [if_pos c, Nat.zero_testBit] at hi; exact absurd hi (by decide)
  · rw [if_neg c] at hi
    rcases bestB_inv w cm t k n (dayT w cm t n sk ab k ||| ab) with e | e
    · rw [e, Nat.zero_testBit] at hi; exact absurd hi (by decide)
    · have h := congrArg (fun z => z.testBit i) e.2.2.1
      simp only [Nat.testBit_and, Nat.zero_testBit, hi, Bool.true_and, Nat.testBit_or, Bool.or_eq_false_iff] at h
      exact h
theorem dayT_ab (w : xI) (cm : Nat → Int32) (t n : Nat) (sk : Int32) (ab : Nat) : ∀ k i, (dayT w cm t n sk ab k).testBit i = true → ab.testBit i = false := by
  intro k
  induction k with
  | zero => intro i h; exact absurd (show Nat.testBit 0 i = true from h) (by rw [Nat.zero_testBit]; decide)
  | succ k ih =>
    intro i h
    rw [dayT_s, Nat.testBit_or] at h
    by_cases c : (dayT w cm t n sk ab k).testBit i = true
    · exact ih i c
    · have c' : (dayT w cm t n sk ab k).testBit i = false := by simpa using c
      rw [c', Bool.false_or] at h
      exact (day_disj w cm t n sk ab k i h).2
/-- the model's day after k hours -/
def DayM (w : xI) (cm : Nat → Int32) (t n : Nat) (sk : Int32) (ab k : Nat) (u : xI) : Prop := u 71 55 = nI (dayT w cm t n sk ab k ||| ab) ∧ u 71 56 = dayE w cm t n sk ab k ∧ u 71 57 = dayM w cm t n sk ab k ∧ (∀ h, h < 10 → u 100 h = if h < k then nI (dayS w cm t n sk ab h) else 0) ∧ ∀ c, c < n → u 99 c = dayG w cm t n sk ab c k
theorem s_goesL {n h S : Nat} (hn : n ≤ 10) (hS : S < 2 ^ n) : ∀ (m c fu : Nat) (u : xI), c + m = n → m < fu → u 71 3 = nI n → u 71 51 = nI S → ∃ u', f_X11_goesThrough_L72 fu (nI h) (nI c) u = some ((), u') ∧ (∀ q, q ≠ 99 → u' q = u q) ∧ ∀ i, u' 99 i = if c ≤ i ∧ i < n ∧ S.testBit i = true then nI h else u 99 i := by
  have hp := pw10 hn
  intro m
  induction m with
  | zero =>
    intro c fu u h1 h2 e3 e51
    obtain ⟨f, rfl⟩ : ∃ f, fu = f + 1 := ⟨fu - 1, by omega⟩
    refine ⟨u, ?_, fun _ _ => rfl, fun i => ?_⟩
    · rw [f_X11_goesThrough_L72, e3, if_pos (nI_le (by omega) (by omega))]
    · rw [if_neg (by omega)]
  | succ m ih =>
    intro c fu u h1 h2 e3 e51
    obtain ⟨f, rfl⟩ : ∃ f, fu = f + 1 := ⟨fu - 1, by omega⟩
    rw [f_X11_goesThrough_L72, e3, if_neg (nI_ge (by omega) (by omega)), e51, xin_nI (by omega) (by decide), nI_1, nI_clamp (by omega)]
    simp only [xchk_true, xlet_eq]
    by_cases b : S.testBit c = true
    · rw [if_pos ((b_on (by omega) (by omega)).mpr b)]
      obtain ⟨u', r1, r2, r3⟩ := ih (c + 1) f (xup u 99 c (nI h)) (by omega) (by omega) (by rw [xup_ne _ _ _ (by decide)]; exact e3) (by rw [xup_ne _ _ _ (by decide)]; exact e51)
      refine ⟨u', r1, fun q hq => by rw [r2 q hq, xup_ne _ _ _ hq], fun i => ?_⟩
      rw [r3 i, xup_same]
      by_cases e : i = c
      · subst e; rw [upd_s, if_neg (by omega), if_pos ⟨Nat.le_refl _, by omega, b⟩]
      · rw [upd_n _ _ e]
        by_cases g : c ≤ i ∧ i < n ∧ S.testBit i = true
        · rw [if_pos g, if_pos ⟨by omega, g.2⟩]
        · rw [if_neg g, if_neg (fun z => g ⟨by omega, z.2⟩)]
    · rw [if_neg (fun z => b ((b_on (by omega) (by omega)).mp z))]
      have es : xup u 99 c (u 99 c) = u := by rw [xup_xuc, upd_id _ _ rfl, xuc_self]
      rw [es]
      obtain ⟨u', r1, r2, r3⟩ := ih (c + 1) f u (by omega) (by omega) e3 e51
      refine ⟨u', r1, r2, fun i => ?_⟩
      rw [r3 i]
      by_cases g : c ≤ i ∧ i < n ∧ S.testBit i = true
      · by_cases e : i = c
        · subst e; exact absurd g.2.2 b
        · rw [if_pos g, if_pos ⟨by omega, g.2⟩]
      · rw [if_neg g, if_neg (fun z => g ⟨by omega, z.2⟩)]
/-- only the model's day has changed -/
def FrL (u u' : xI) : Prop := (∀ q, q ≠ 71 → q ≠ 93 → q ≠ 94 → q ≠ 95 → q ≠ 99 → q ≠ 100 → u' q = u q) ∧ ∀ j, j < 40 ∨ 57 < j → u' 71 j = u 71 j
theorem FrL.tr {u v z : xI} (h1 : FrL u v) (h2 : FrL v z) : FrL u z := ⟨fun q a b c d e f => (h2.1 q a b c d e f).trans (h1.1 q a b c d e f), fun j hj => (h2.2 j hj).trans (h1.2 j hj)⟩
theorem FrB.frL {u v : xI} (h : FrB u v) : FrL u v := ⟨fun q a b c _ _ _ => h.1 q a b c, fun j hj => h.2 j (by omega)⟩
theorem FrL.up {u : xI} {j : Nat} {x : Int32} (h1 : 40 ≤ j) (h2 : j ≤ 57) : FrL u (xup u 71 j x) := ⟨fun q a _ _ _ _ _ => xup_ne _ _ _ a, fun i hi => by rw [xup_same, upd_n _ _ (by omega)]⟩
theorem s_thru {γ : Type} {w : xI} {cm : Nat → Int32} (hY : YdB w cm) (hT : TabB w) {t n : Nat} {sk : Int32} {ab k : Nat} (hk : k < 10) (hn : n ≤ 10) (hab : ab < 1024) (hwn : w 5 2 = nI n) {u : xI} (hM : Mx w cm t u) (hsk : ¬ nI k = sk) (e51 : u 71 51 = nI (dayS w cm t n sk ab k)) (e52 : u 71 52 = dayB w cm t n sk ab k) (hD : DayM w cm t n sk ab k u) :
    ∃ u', (∀ (K : Unit → xI → Option γ), xbind (f_X11_goesThrough (nI k) u) K = K () u') ∧ DayM w cm t n sk ab (k + 1) u' ∧ (∀ q, q ≠ 71 → q ≠ 93 → q ≠ 94 → q ≠ 99 → q ≠ 100 → u' q = u q) ∧ ∀ j, j < 40 ∨ 57 < j → u' 71 j = u 71 j := by
  have hp := pw10 hn
  have hS := dayS_lt w cm t n sk ab k
  have hTl := dayT_lt w cm t n sk ab k
  have hTA : dayT w cm t n sk ab k ||| ab < 2 ^ 10 := Nat.or_lt_two_pow (by omega) hab
  obtain ⟨d5, d6, d7, d100, d99⟩ := hD
  by_cases c : dayS w cm t n sk ab k = 0
  · refine ⟨u, fun K => ?_, ⟨?_, ?_, ?_, fun h hh => ?_, fun i hi => ?_⟩, fun _ _ _ _ _ _ => rfl, fun _ _ => rfl⟩
    · unfold f_X11_goesThrough
      rw [e51, c, if_pos nI_0, xbind_some]
    · rw [d5, dayT_s, c, Nat.or_zero]
    · rw [d6]; show _ = (if dayS w cm t n sk ab k = 0 then _ else _); rw [if_pos c]
    · rw [d7]; show _ = (if dayS w cm t n sk ab k = 0 then _ else _); rw [if_pos c]
    · rw [d100 h hh]
      by_cases e : h = k
      · subst e; rw [if_neg (by omega), if_pos (by omega), c]; rfl
      · by_cases e2 : h < k
        · rw [if_pos e2, if_pos (by omega)]
        · rw [if_neg e2, if_neg (by omega)]
    · rw [d99 i hi]; show _ = (if (dayS w cm t n sk ab k).testBit i = true then _ else _); rw [c, Nat.zero_testBit, if_neg (by decide)]
  · obtain ⟨u2, g1, g2, g3, g4⟩ := s_weighM (γ := Unit × xI) hY hT (h := k) (by omega) hn hwn hS hM
    have k51 : u2 71 51 = nI (dayS w cm t n sk ab k) := by rw [g4.2 51 (by omega)]; exact e51
    have k52 : u2 71 52 = dayB w cm t n sk ab k := by rw [g4.2 52 (by omega)]; exact e52
    have k55 : u2 71 55 = nI (dayT w cm t n sk ab k ||| ab) := by rw [g4.2 55 (by omega)]; exact d5
    have k56 : u2 71 56 = dayE w cm t n sk ab k := by rw [g4.2 56 (by omega)]; exact d6
    have k57 : u2 71 57 = dayM w cm t n sk ab k := by rw [g4.2 57 (by omega)]; exact d7
    have nz : ¬ nI (dayS w cm t n sk ab k) = 0 := nI_ne0 (by omega) (by omega)
    generalize hz : xup (xup (xup (xup u2 71 55 (nI (dayT w cm t n sk ab (k + 1) ||| ab))) 71 56 (dayE w cm t n sk ab k + dayB w cm t n sk ab k)) 71 57 (dayM w cm t n sk ab k + (nI (inS w cm k n (dayS w cm t n sk ab k)) - nI (outS w cm k n (dayS w cm t n sk ab k))))) 100 k (nI (dayS w cm t n sk ab k)) = z
    have zq : ∀ q, q ≠ 71 → q ≠ 100 → z q = u2 q := fun q q1 q2 => by rw [← hz, xup_ne _ _ _ q2, xup_ne _ _ _ q1, xup_ne _ _ _ q1, xup_ne _ _ _ q1]
    have zj : ∀ j, j ≠ 55 → j ≠ 56 → j ≠ 57 → z 71 j = u2 71 j := fun j j1 j2 j3 => by rw [← hz, xup_ne _ _ _ (by decide), xup_same, upd_n _ _ j3, xup_same, upd_n _ _ j2, xup_same, upd_n _ _ j1]
    have z100 : z 100 = upd (u2 100) k (nI (dayS w cm t n sk ab k)) := by rw [← hz, xup_same, xup_ne _ _ _ (by decide), xup_ne _ _ _ (by decide), xup_ne _ _ _ (by decide)]
    obtain ⟨u', r1, r2, r3⟩ := s_goesL (h := k) hn hS n 0 2000 z (by omega) (by omega) (by rw [zj 3 (by decide) (by decide) (by decide)]; exact g3.1.1.trans hwn) (by rw [zj 51 (by decide) (by decide) (by decide)]; exact k51)
    refine ⟨u', fun K => ?_, ⟨?_, ?_, ?_, fun h hh => ?_, fun i hi => ?_⟩, fun q q1 q2 q3 q4 q5 => ?_, fun j hj => ?_⟩
    · unfold f_X11_goesThrough
      rw [e51, if_neg nz, g1, xin_nI hk (by decide), xchk_true, k51, k52, k55, k56, k57, g2.1, g2.2.1, b_or (by omega) (by omega), nI_clamp (by omega)]
      have eT : dayT w cm t n sk ab k ||| ab ||| dayS w cm t n sk ab k = dayT w cm t n sk ab (k + 1) ||| ab := by rw [dayT_s, Nat.or_assoc, Nat.or_comm ab, ← Nat.or_assoc]
      rw [nI_0] at r1
      rw [eT, hz, r1, xbind_some]
    · rw [r2 71 (by decide), ← hz, xup_ne _ _ _ (by decide), xup_same, upd_n _ _ (by decide), xup_same, upd_n _ _ (by decide), xup_same, upd_s]
    · rw [r2 71 (by decide), ← hz, xup_ne _ _ _ (by decide), xup_same, upd_n _ _ (by decide), xup_same, upd_s]; show _ = (if dayS w cm t n sk ab k = 0 then _ else _); rw [if_neg c]
    · rw [r2 71 (by decide), ← hz, xup_ne _ _ _ (by decide), xup_same, upd_s]; show _ = (if dayS w cm t n sk ab k = 0 then _ else _); rw [if_neg c]
    · rw [r2 100 (by decide), z100]
      by_cases e : h = k
      · subst e; rw [upd_s, if_pos (by omega)]
      · rw [upd_n _ _ e, g4.1 100 (by decide) (by decide) (by decide), d100 h hh]
        by_cases e2 : h < k
        · rw [if_pos e2, if_pos (by omega)]
        · rw [if_neg e2, if_neg (by omega)]
    · rw [r3 i, zq 99 (by decide) (by decide), g4.1 99 (by decide) (by decide) (by decide), d99 i hi]
      show _ = (if (dayS w cm t n sk ab k).testBit i = true then nI k else dayG w cm t n sk ab i k)
      by_cases b : (dayS w cm t n sk ab k).testBit i = true
      · rw [if_pos b, if_pos ⟨Nat.zero_le _, hi, b⟩]
      · rw [if_neg b, if_neg (fun z => b z.2.2)]
    · rw [r2 q q4, zq q q1 q5, g4.1 q q1 q2 q3]
    · rw [r2 71 (by decide), zj j (by omega) (by omega) (by omega), g4.2 j (by omega)]
theorem s_livesL {w : xI} {cm : Nat → Int32} (hY : YdB w cm) (hT : TabB w) {t n N : Nat} {sk : Int32} {ab : Nat} (hn : n ≤ 10) (hab : ab < 1024) (hwn : w 5 2 = nI n) (hN : N ≤ 10) : ∀ (m k fu : Nat) (u : xI), k + m = N → m < fu → Mx w cm t u → u 71 58 = sk → u 71 59 = nI ab → DayM w cm t n sk ab k u →
    ∃ u', f_X11_lives_L52 fu (nI N) (nI k) u = some ((), u') ∧ (u' 71 55 = nI (dayT w cm t n sk ab N) ∧ u' 71 56 = dayE w cm t n sk ab N ∧ u' 71 57 = dayM w cm t n sk ab N ∧ (∀ h, h < 10 → u' 100 h = if h < N then nI (dayS w cm t n sk ab h) else 0) ∧ ∀ c, c < n → u' 99 c = dayG w cm t n sk ab c N) ∧ FrL u u' ∧ Mx w cm t u' := by
  have hp := pw10 hn
  intro m
  induction m with
  | zero =>
    intro k fu u h1 h2 hM e58 e59 hD
    obtain ⟨f, rfl⟩ : ∃ f, fu = f + 1 := ⟨fu - 1, by omega⟩
    have hk : k = N := by omega
    subst hk
    have hTl := dayT_lt w cm t n sk ab k
    have hTA : dayT w cm t n sk ab k ||| ab < 2 ^ 10 := Nat.or_lt_two_pow (by omega) hab
    obtain ⟨d5, d6, d7, d100, d99⟩ := hD
    have hdif : bdif (dayT w cm t n sk ab k ||| ab) ab = dayT w cm t n sk ab k := by
      refine Nat.eq_of_testBit_eq (fun i => ?_)
      rw [bdif_bit _ _ (by omega), Nat.testBit_or]
      cases e1 : (dayT w cm t n sk ab k).testBit i
      · cases ab.testBit i <;> rfl
      · rw [dayT_ab w cm t n sk ab k i e1]; rfl
    refine ⟨xup u 71 55 (nI (dayT w cm t n sk ab k)), ?_, ⟨?_, ?_, ?_, ?_, ?_⟩, FrL.up (by decide) (by decide), hM.cg2 (fun q hq => xup_ne _ _ _ (by omega)) (by rw [xup_same, upd_n _ _ (by decide)]) (by rw [xup_same, upd_n _ _ (by decide)])⟩
    · rw [f_X11_lives_L52, if_pos (nI_le (Nat.le_refl _) (by omega)), d5, e59, b_dif (by omega) (by omega), hdif]
    · rw [xup_same, upd_s]
    · rw [xup_same, upd_n _ _ (by decide), d6]
    · rw [xup_same, upd_n _ _ (by decide), d7]
    · rw [xup_ne _ _ _ (by decide)]; exact d100
    · rw [xup_ne _ _ _ (by decide)]; exact d99
  | succ m ih =>
    intro k fu u h1 h2 hM e58 e59 hD
    obtain ⟨f, rfl⟩ : ∃ f, fu = f + 1 := ⟨fu - 1, by omega⟩
    have hTl := dayT_lt w cm t n sk ab k
    have hTA : dayT w cm t n sk ab k ||| ab < 2 ^ 10 := Nat.or_lt_two_pow (by omega) hab
    rw [f_X11_lives_L52, if_neg (nI_ge (by omega) (by omega)), e58, nI_1]
    simp only [xlet_eq]
    by_cases c : nI k = sk
    · rw [if_pos c]
      have hs : dayS w cm t n sk ab k = 0 := if_pos c
      refine ih (k + 1) f u (by omega) (by omega) hM e58 e59 ?_
      obtain ⟨d5, d6, d7, d100, d99⟩ := hD
      refine ⟨?_, ?_, ?_, fun h hh => ?_, fun i hi => ?_⟩
      · rw [d5, dayT_s, hs, Nat.or_zero]
      · rw [d6]; show _ = (if dayS w cm t n sk ab k = 0 then _ else _); rw [if_pos hs]
      · rw [d7]; show _ = (if dayS w cm t n sk ab k = 0 then _ else _); rw [if_pos hs]
      · rw [d100 h hh]
        by_cases e : h = k
        · subst e; rw [if_neg (by omega), if_pos (by omega), hs]; rfl
        · by_cases e2 : h < k
          · rw [if_pos e2, if_pos (by omega)]
          · rw [if_neg e2, if_neg (by omega)]
      · rw [d99 i hi]; show _ = (if (dayS w cm t n sk ab k).testBit i = true then _ else _); rw [hs, Nat.zero_testBit, if_neg (by decide)]
    · rw [if_neg c, hD.1]
      obtain ⟨u2, g1, g2, g3, g4⟩ := s_bestM (γ := Unit × xI) hY hT (t := t) (h := k) (thr := dayT w cm t n sk ab k ||| ab) (by omega) hn hwn hTA hM
      have M2 := g4.mx hM
      obtain ⟨d5, d6, d7, d100, d99⟩ := hD
      have D2 : DayM w cm t n sk ab k u2 := ⟨by rw [g4.2 55 (by omega)]; exact d5, by rw [g4.2 56 (by omega)]; exact d6, by rw [g4.2 57 (by omega)]; exact d7, by rw [g4.1 100 (by decide) (by decide) (by decide)]; exact d100, by rw [g4.1 99 (by decide) (by decide) (by decide)]; exact d99⟩
      obtain ⟨u3, p1, p2, p3, p4⟩ := s_thru (γ := Unit × xI) hY hT (ab := ab) (by omega) hn hab hwn M2 c (by rw [g2, dayS_best c]) g3 D2
      have M3 : Mx w cm t u3 := M2.cg2 (fun q hq => p3 q (by omega) (by omega) (by omega) (by omega) (by omega)) (p4 3 (by omega)) (p4 15 (by omega))
      obtain ⟨u', r1, r2, r3, r4⟩ := ih (k + 1) f u3 (by omega) (by omega) M3 (by rw [p4 58 (by omega), g4.2 58 (by omega)]; exact e58) (by rw [p4 59 (by omega), g4.2 59 (by omega)]; exact e59) p2
      refine ⟨u', ?_, r2, g4.frL.tr (FrL.tr ⟨fun q a b c d e f => p3 q a b c e f, p4⟩ r3), r4⟩
      rw [g1, p1]; exact r1
theorem s_fill {w : xI} : ∀ (m k fu : Nat) (N : Nat) (u : xI), k + m = 10 → m < fu → ∃ z, f_X11_lives_L24 fu (nI N) (nI k) u = f_X11_lives_L52 2000 (nI N) 0 z ∧ (∀ q, q ≠ 99 → q ≠ 100 → z q = u q) ∧ (∀ i, i < 10 → z 99 i = if k ≤ i then -1 else u 99 i) ∧ (∀ i, i < 10 → z 100 i = if k ≤ i then 0 else u 100 i) := by
  intro m
  induction m with
  | zero =>
    intro k fu N u h1 h2
    obtain ⟨f, rfl⟩ : ∃ f, fu = f + 1 := ⟨fu - 1, by omega⟩
    refine ⟨u, ?_, fun _ _ _ => rfl, fun i hi => by rw [if_neg (by omega)], fun i hi => by rw [if_neg (by omega)]⟩
    rw [f_X11_lives_L24, if_pos (show (10 : Int32) ≤ nI k from nI_le (a := 10) (by omega) (by omega))]
  | succ m ih =>
    intro k fu N u h1 h2
    obtain ⟨f, rfl⟩ : ∃ f, fu = f + 1 := ⟨fu - 1, by omega⟩
    obtain ⟨z, r1, r2, r3, r4⟩ := ih (k + 1) f N (xup (xup u 99 k (-1)) 100 k 0) (by omega) (by omega)
    refine ⟨z, ?_, fun q a b => by rw [r2 q a b, xup_ne _ _ _ b, xup_ne _ _ _ a], fun i hi => ?_, fun i hi => ?_⟩
    · rw [f_X11_lives_L24, if_neg (show ¬ (10 : Int32) ≤ nI k from nI_ge (b := 10) (by omega) (by omega)), xin_nI (by omega) (by decide), xchk_true, xchk_true, xlet_eq, nI_1, nI_clamp (by omega)]
      exact r1
    · rw [r3 i hi, xup_ne _ _ _ (by decide), xup_same]
      by_cases e : i = k
      · subst e; rw [upd_s, if_neg (by omega), if_pos (Nat.le_refl _)]
      · rw [upd_n _ _ e]
        by_cases g : k ≤ i
        · rw [if_pos g, if_pos (by omega)]
        · rw [if_neg g, if_neg (by omega)]
    · rw [r4 i hi, xup_same, xup_ne _ _ _ (by decide)]
      by_cases e : i = k
      · subst e; rw [upd_s, if_neg (by omega), if_pos (Nat.le_refl _)]
      · rw [upd_n _ _ e]
        by_cases g : k ≤ i
        · rw [if_pos g, if_pos (by omega)]
        · rw [if_neg g, if_neg (by omega)]
/-- all that the model needs for a day but its table of stones -/
def Mz (w : xI) (cm : Nat → Int32) (t : Nat) (u : xI) : Prop := MxY w cm u ∧ u 71 15 = nI t ∧ TxB w t u ∧ (∀ j, j < 3 → u 72 j = w 2 j) ∧ u 71 1 = w 1 2 ∧ ∀ j, j < 5 → u 73 j = w 3 j
theorem s_livesM {γ : Type} {w : xI} {cm : Nat → Int32} (hR : Rel w) (hY : YdB w cm) {t n N : Nat} {sk : Int32} {ab : Nat} (hn : n ≤ 10) (hab : ab < 1024) (hwn : w 5 2 = nI n) (hN : N ≤ 10) {u : xI} (hM : Mz w cm t u) (e58 : u 71 58 = sk) (e59 : u 71 59 = nI ab) :
    ∃ u', (∀ (K : Unit → xI → Option γ), xbind (f_X11_lives (nI N) u) K = K () u') ∧ (u' 71 55 = nI (dayT w cm t n sk ab N) ∧ u' 71 56 = dayE w cm t n sk ab N ∧ u' 71 57 = dayM w cm t n sk ab N ∧ (∀ h, h < 10 → u' 100 h = if h < N then nI (dayS w cm t n sk ab h) else 0) ∧ ∀ c, c < n → u' 99 c = dayG w cm t n sk ab c N) ∧ FrL u u' ∧ Mx w cm t u' := by
  obtain ⟨m1, m2, m3, m4, m5, m6⟩ := hM
  obtain ⟨s1, s2, s3, s4, s5⟩ := hR.st
  obtain ⟨ns, hns, ens⟩ := nI_bd (n := 5) (by decide) s2.1 s2.2
  obtain ⟨T, t1, t2⟩ := s_findsMade (w := u) (w 3) hns (by rw [m5, ens]) (fun j hj => by rw [m6 j hj]; exact ⟨(s4 j hj).1, Int32.le_trans (s4 j hj).2 (by decide)⟩) (fun j hj => (m6 j (by omega)).symm)
  have ht := m3.1
  generalize hz : xup (xup (xup (xuc u 95 T) 71 55 (xuc u 95 T 71 59)) 71 56 (0 : Int32)) 71 57 (0 : Int32) = z
  have zq : ∀ q, q ≠ 71 → q ≠ 95 → z q = u q := fun q q1 q2 => by rw [← hz, xup_ne _ _ _ q1, xup_ne _ _ _ q1, xup_ne _ _ _ q1, xuc_ne _ _ _ q2]
  have zj : ∀ j, j < 55 ∨ 57 < j → z 71 j = u 71 j := fun j hj => by rw [← hz, xup_same, upd_n _ _ (by omega), xup_same, upd_n _ _ (by omega), xup_same, upd_n _ _ (by omega), xuc_ne _ _ _ (by decide)]
  have z95 : z 95 = T := by rw [← hz, xup_ne _ _ _ (by decide), xup_ne _ _ _ (by decide), xup_ne _ _ _ (by decide), xuc_same]
  obtain ⟨y, r1, r2, r3, r4⟩ := s_fill (w := w) 10 0 2000 N z (by omega) (by omega)
  have My : Mx w cm t y := by
    have k : ∀ q, (40 ≤ q ∧ q ≤ 61) ∨ (72 ≤ q ∧ q ≤ 79) ∨ q = 81 ∨ q = 82 → y q = u q := fun q hq => by rw [r2 q (by omega) (by omega), zq q (by omega) (by omega)]
    have k71 : ∀ j, j < 55 ∨ 57 < j → y 71 j = u 71 j := fun j hj => by rw [r2 71 (by decide) (by decide), zj j hj]
    refine ⟨⟨by rw [k71 3 (by omega)]; exact m1.1, fun c hc => ?_⟩, by rw [k71 15 (by omega)]; exact m2, m3.cg (k _ (by omega)) (k _ (by omega)) (k _ (by omega)) (k _ (by omega)), by rw [k 72 (by omega)]; exact m4, fun d hd => ?_⟩
    · rw [k 74 (by omega), k 75 (by omega), k 76 (by omega), k 77 (by omega), k 78 (by omega), k 79 (by omega)]; exact m1.2 c hc
    · rw [r2 95 (by decide) (by decide), z95, t2 d hd, s5 d hd, ens, nI_clamp (by omega)]
  have D0 : DayM w cm t n sk ab 0 y := by
    refine ⟨?_, ?_, ?_, fun h hh => ?_, fun c hc => ?_⟩
    · rw [r2 71 (by decide) (by decide), ← hz, xup_same, upd_n _ _ (by decide), xup_same, upd_n _ _ (by decide), xup_same, upd_s, xuc_ne _ _ _ (by decide), e59]
      show nI ab = nI (0 ||| ab)
      rw [Nat.zero_or]
    · rw [r2 71 (by decide) (by decide), ← hz, xup_same, upd_n _ _ (by decide), xup_same, upd_s]; rfl
    · rw [r2 71 (by decide) (by decide), ← hz, xup_same, upd_s]; rfl
    · rw [r4 h hh, if_pos (Nat.zero_le _), if_neg (by omega)]
    · rw [r3 c (by omega), if_pos (Nat.zero_le _)]; rfl
  obtain ⟨u', p1, p2, p3, p4⟩ := s_livesL hY hR.tabB hn hab hwn hN N 0 2000 y (by omega) (by omega) My (by rw [r2 71 (by decide) (by decide), zj 58 (by omega)]; exact e58) (by rw [r2 71 (by decide) (by decide), zj 59 (by omega)]; exact e59) D0
  refine ⟨u', fun K => ?_, p2, FrL.tr ⟨fun q a b c d e f => by rw [r2 q e f, zq q a d], fun j hj => by rw [r2 71 (by decide) (by decide), zj j (by omega)]⟩ p3, p4⟩
  unfold f_X11_lives
  rw [t1, xbind_some, hz]
  rw [nI_0] at r1 p1
  rw [r1, p1, xbind_some]
