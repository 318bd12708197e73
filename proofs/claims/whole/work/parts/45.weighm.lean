-- ===== the model's weighing =====
theorem bsum_split (f : Nat → Nat) (p q : Nat → Bool) : ∀ m k, bsum f (fun c => p c && q c) m k + bsum f (fun c => p c && !q c) m k = bsum f p m k := by
  intro m
  induction m with
  | zero => intro k; rfl
  | succ m ih =>
    intro k
    have e := ih (k + 1)
    show ((if (p k && q k) = true then f k else 0) + bsum f (fun c => p c && q c) m (k + 1)) + ((if (p k && !q k) = true then f k else 0) + bsum f (fun c => p c && !q c) m (k + 1)) = (if p k = true then f k else 0) + bsum f p m (k + 1)
    rw [← e]
    cases h1 : p k <;> cases h2 : q k <;> simp <;> omega
theorem s_madeM {γ : Type} {w u : xI} (h95 : ∀ d, d < 1000 → u 95 d = w 4 d) (x : Int32) (K : Int32 → xI → Option γ) : xbind (f_X11_madeBy x u) K = K (mdU (w 4) x) u := by
  unfold f_X11_madeBy mdU
  rw [s_in]
  by_cases c1 : x < 0
  · rw [if_neg (fun z => absurd c1 (Int32.not_lt.mpr z.1)), if_pos c1, if_pos rfl, xbind_some]
  · rw [if_neg c1]
    by_cases c2 : 999 < x
    · rw [if_neg (fun z => absurd c2 (Int32.not_lt.mpr z.2)), if_pos c2, if_pos rfl, xbind_some]
    · have g := And.intro (Int32.not_lt.mp c1) (Int32.not_lt.mp c2)
      obtain ⟨j, hj, rfl⟩ := nI_bd (n := 999) (by decide) g.1 g.2
      rw [if_pos g, if_neg (by decide), if_neg c2, xin_nI (by omega) (by decide), xchk_true, xbind_some, nI_clamp (by omega), h95 j (by omega)]
theorem s_fewM {γ : Type} (a b : Int32) (u : xI) (K : Int32 → xI → Option γ) : xbind (f_X11_fewer a b u) K = K (fewU a b) u := by
  unfold f_X11_fewer fewU
  by_cases c1 : a = -1
  · rw [if_pos c1, if_pos c1, xbind_some]
  · rw [if_neg c1, if_neg c1]
    by_cases c2 : b = -1
    · rw [if_pos c2, if_pos c2, xbind_some]
    · rw [if_neg c2, if_neg c2]
      by_cases c3 : b ≤ a
      · rw [if_pos c3, if_pos c3, xbind_some]
      · rw [if_neg c3, if_neg c3, xbind_some]
/-- the model's cells, ready to weigh -/
def Mx (w : xI) (cm : Nat → Int32) (t : Nat) (u : xI) : Prop := MxY w cm u ∧ u 71 15 = nI t ∧ TxB w t u ∧ (∀ j, j < 3 → u 72 j = w 2 j) ∧ ∀ d, d < 1000 → u 95 d = w 4 d
/-- only the model's weighing has changed -/
def FrW (u u' : xI) : Prop := (∀ q, q ≠ 71 → q ≠ 93 → q ≠ 94 → u' q = u q) ∧ ∀ j, j < 40 ∨ 45 < j → u' 71 j = u 71 j
theorem FrW.rfl' (u : xI) : FrW u u := ⟨fun _ _ _ _ => rfl, fun _ _ => rfl⟩
theorem FrW.tr {u v z : xI} (h1 : FrW u v) (h2 : FrW v z) : FrW u z := ⟨fun q a b c => (h2.1 q a b c).trans (h1.1 q a b c), fun j hj => (h2.2 j hj).trans (h1.2 j hj)⟩
theorem FrW.up {u : xI} {j : Nat} {x : Int32} (h1 : 40 ≤ j) (h2 : j ≤ 45) : FrW u (xup u 71 j x) := ⟨fun q a _ _ => xup_ne _ _ _ a, fun i hi => by rw [xup_same, upd_n _ _ (by omega)]⟩
theorem FrW.uc {u : xI} {S T : Nat → Int32} : FrW u (xuc (xuc u 94 S) 93 T) := ⟨fun q a b c => by rw [xuc_ne _ _ _ b, xuc_ne _ _ _ c], fun j hj => by rw [xuc_ne _ _ _ (by decide), xuc_ne _ _ _ (by decide)]⟩
theorem Mx.cg {w : xI} {cm : Nat → Int32} {t : Nat} {u u' : xI} (h : Mx w cm t u) (hf : FrW u u') : Mx w cm t u' := by
  obtain ⟨⟨a1, a2⟩, b, c, d, e⟩ := h
  obtain ⟨f1, f2⟩ := hf
  have ht := c.1
  refine ⟨⟨by rw [f2 3 (by decide), f1 5 (by decide) (by decide) (by decide) |> fun _ => a1], fun i hi => ?_⟩, by rw [f2 15 (by decide)]; exact b, c.cg (f1 _ (by omega) (by omega) (by omega)) (f1 _ (by omega) (by omega) (by omega)) (f1 _ (by omega) (by omega) (by omega)) (f1 _ (by omega) (by omega) (by omega)), by rw [f1 72 (by decide) (by decide) (by decide)]; exact d, by rw [f1 95 (by decide) (by decide) (by decide)]; exact e⟩
  rw [f1 74 (by decide) (by decide) (by decide), f1 75 (by decide) (by decide) (by decide), f1 76 (by decide) (by decide) (by decide), f1 77 (by decide) (by decide) (by decide), f1 78 (by decide) (by decide) (by decide), f1 79 (by decide) (by decide) (by decide)]
  exact a2 i hi
/-- what stands there when the model has weighed S -/
def Wm (w : xI) (cm : Nat → Int32) (t h n S : Nat) (u : xI) : Prop := u 71 40 = nI (inS w cm h n S) ∧ u 71 41 = nI (outS w cm h n S) ∧ u 71 42 = (ofS w cm h n S).1 ∧ u 71 43 = (ofS w cm h n S).2 ∧ (mbS w cm t h n S → u 71 44 = 1 ∧ u 71 45 = brS w cm t h n S) ∧ (¬ mbS w cm t h n S → u 71 44 = 0 ∧ u 71 45 = 0)
theorem s_w373 {w : xI} {cm : Nat → Int32} {t h n S : Nat} {u : xI} (hM : Mx w cm t u) (e0 : u 71 40 = nI (inS w cm h n S)) (e1 : u 71 41 = nI (outS w cm h n S)) (e2 : u 71 42 = (ofS w cm h n S).1) (e3 : u 71 43 = (ofS w cm h n S).2) (b : Bool) (hb : b = true ↔ mbS w cm t h n S) :
    ∃ u', f_X11_weighing_L373 (nI h) (nI (pop S)) (nI (wthS w cm h n S)) (if b = true then 1 else 0) u = some ((), u') ∧ Wm w cm t h n S u' ∧ FrW u u' := by
  cases b with
  | false =>
    have hn : ¬ mbS w cm t h n S := fun z => absurd (hb.mpr z) (by decide)
    refine ⟨xup (xup u 71 44 0) 71 45 0, rfl, ⟨?_, ?_, ?_, ?_, fun z => absurd z hn, fun _ => ⟨?_, ?_⟩⟩, (FrW.up (by decide) (by decide)).tr (FrW.up (by decide) (by decide))⟩
    · rw [xup_same, upd_n _ _ (by decide), xup_same, upd_n _ _ (by decide), e0]
    · rw [xup_same, upd_n _ _ (by decide), xup_same, upd_n _ _ (by decide), e1]
    · rw [xup_same, upd_n _ _ (by decide), xup_same, upd_n _ _ (by decide), e2]
    · rw [xup_same, upd_n _ _ (by decide), xup_same, upd_n _ _ (by decide), e3]
    · rw [xup_same, upd_n _ _ (by decide), xup_same, upd_s]
    · rw [xup_same, upd_s]
  | true =>
    have hy : mbS w cm t h n S := hb.mp rfl
    have M1 : Mx w cm t (xup u 71 44 1) := hM.cg (FrW.up (by decide) (by decide))
    have ht := hM.2.2.1.1
    have r1 : xup u 71 44 1 71 15 = nI t := M1.2.1
    obtain ⟨A, B, q1⟩ := s_asksOf (γ := Unit × xI) (p := 1) M1.2.2.1.ok ht (by decide) r1 (u 71 40) (u 71 41) (u 71 42) (nI h) (nI (pop S)) (u 71 43)
    generalize hz : xuc (xuc (xup u 71 44 1) 94 A) 93 B = z at q1
    have hzf : FrW (xup u 71 44 1) z := by rw [← hz]; exact FrW.uc
    have z71 : z 71 = xup u 71 44 1 71 := by rw [← hz, xuc_ne _ _ _ (by decide), xuc_ne _ _ _ (by decide)]
    have M2 : Mx w cm t z := M1.cg hzf
    obtain ⟨C, D, q2⟩ := s_asksOf (γ := Unit × xI) (p := 2) M2.2.2.1.ok ht (by decide) M2.2.1 (z 71 40) (z 71 41) (z 71 42) (nI h) (nI (pop S)) (z 71 43)
    generalize hy2 : xuc (xuc z 94 C) 93 D = y at q2
    have hyf : FrW z y := by rw [← hy2]; exact FrW.uc
    have y71 : y 71 = xup u 71 44 1 71 := by rw [← hy2, xuc_ne _ _ _ (by decide), xuc_ne _ _ _ (by decide), z71]
    have k : ∀ j, j ≠ 44 → xup u 71 44 1 71 j = u 71 j := fun j hj => by rw [xup_same, upd_n _ _ hj]
    rw [e0, e1, e2, e3] at q1
    rw [z71, k 40 (by decide), k 41 (by decide), k 42 (by decide), k 43 (by decide), e0, e1, e2, e3] at q2
    have a1 : ∀ (v : xI) (p : Nat), TxB w t v → askV v t p (nm6 (nI (inS w cm h n S)) (nI (outS w cm h n S)) (ofS w cm h n S).1 (nI h) (nI (pop S)) (ofS w cm h n S).2) = askV w t p (nmS w cm h n S) := fun v p hv => askV_w (fun j => by rw [hv.2.2.1]) (fun j => by rw [hv.2.2.2.1]) _
    rw [a1 _ _ M1.2.2.1] at q1
    rw [a1 _ _ M2.2.2.1] at q2
    refine ⟨xup y 71 45 (brS w cm t h n S), ?_, ⟨?_, ?_, ?_, ?_, fun _ => ⟨?_, ?_⟩, fun z => absurd hy z⟩, (FrW.up (by decide) (by decide)).tr (hzf.tr (hyf.tr (FrW.up (by decide) (by decide))))⟩
    · unfold f_X11_weighing_L373
      rw [if_pos rfl, show decide ((1 : Int32) = 0 ∨ (1 : Int32) = 1) = true from rfl, xchk_true, if_neg (by decide), e0, e1, e2, e3, show (1 : Int32) = nI 1 from rfl]
      refine (q1 _).trans ?_
      rw [z71, k 40 (by decide), k 41 (by decide), k 42 (by decide), k 43 (by decide), e0, e1, e2, e3, show (2 : Int32) = nI 2 from rfl]
      exact q2 _
    · rw [xup_same, upd_n _ _ (by decide), y71, k 40 (by decide), e0]
    · rw [xup_same, upd_n _ _ (by decide), y71, k 41 (by decide), e1]
    · rw [xup_same, upd_n _ _ (by decide), y71, k 42 (by decide), e2]
    · rw [xup_same, upd_n _ _ (by decide), y71, k 43 (by decide), e3]
    · rw [xup_same, upd_n _ _ (by decide), y71, xup_same, upd_s]
    · rw [xup_same, upd_s]
theorem s_w330 {w : xI} {cm : Nat → Int32} {t h n S : Nat} {u : xI} (hM : Mx w cm t u) (e0 : u 71 40 = nI (inS w cm h n S)) (e1 : u 71 41 = nI (outS w cm h n S)) (e2 : u 71 42 = (ofS w cm h n S).1) (e3 : u 71 43 = (ofS w cm h n S).2) (b : Bool) (hb : b = true ↔ (1 ≤ miS w n S ∧ miS w n S ≤ 2) ∧ (1 ≤ moS w n S ∧ moS w n S ≤ 2) ∧ acS cm h n S ∧ (ofS w cm h n S).1 ≠ -1) :
    ∃ u', f_X11_weighing_L330 (nI h) (nI (pop S)) (nI (wthS w cm h n S)) (if b = true then 1 else 0) u = some ((), u') ∧ Wm w cm t h n S u' ∧ FrW u u' := by
  cases b with
  | false =>
    have hn : ¬ mbS w cm t h n S := fun z => absurd (hb.mpr ⟨z.1, z.2.1, z.2.2.1, z.2.2.2.1⟩) (by decide)
    have M1 : Mx w cm t (xup u 71 44 0) := hM.cg (FrW.up (by decide) (by decide))
    have k : ∀ j, j ≠ 44 → xup u 71 44 0 71 j = u 71 j := fun j hj => by rw [xup_same, upd_n _ _ hj]
    obtain ⟨u', r1, r2, r3⟩ := s_w373 M1 (by rw [k 40 (by decide), e0]) (by rw [k 41 (by decide), e1]) (by rw [k 42 (by decide), e2]) (by rw [k 43 (by decide), e3]) false ⟨fun z => absurd z (by decide), fun z => absurd z hn⟩
    exact ⟨u', r1, r2, (FrW.up (by decide) (by decide)).tr r3⟩
  | true =>
    have hy := hb.mp rfl
    have M1 : Mx w cm t (xup u 71 44 1) := hM.cg (FrW.up (by decide) (by decide))
    have ht := hM.2.2.1.1
    have k : ∀ j, j ≠ 44 → xup u 71 44 1 71 j = u 71 j := fun j hj => by rw [xup_same, upd_n _ _ hj]
    obtain ⟨A, B, q1⟩ := s_asksOf (γ := Unit × xI) (p := 0) M1.2.2.1.ok ht (by decide) M1.2.1 (u 71 40) (u 71 41) (u 71 42) (nI h) (nI (pop S)) (u 71 43)
    generalize hz : xuc (xuc (xup u 71 44 1) 94 A) 93 B = z at q1
    have hzf : FrW (xup u 71 44 1) z := by rw [← hz]; exact FrW.uc
    have z71 : z 71 = xup u 71 44 1 71 := by rw [← hz, xuc_ne _ _ _ (by decide), xuc_ne _ _ _ (by decide)]
    have M2 : Mx w cm t z := M1.cg hzf
    rw [e0, e1, e2, e3, nI_0] at q1
    have a1 : askV (xup u 71 44 1) t 0 (nm6 (nI (inS w cm h n S)) (nI (outS w cm h n S)) (ofS w cm h n S).1 (nI h) (nI (pop S)) (ofS w cm h n S).2) = askV w t 0 (nmS w cm h n S) := askV_w (fun j => by rw [M1.2.2.1.2.2.1]) (fun j => by rw [M1.2.2.1.2.2.2.1]) _
    rw [a1] at q1
    have go : ∀ b : Bool, (b = true ↔ mbS w cm t h n S) → ∃ u', f_X11_weighing_L373 (nI h) (nI (pop S)) (nI (wthS w cm h n S)) (if b = true then 1 else 0) z = some ((), u') ∧ Wm w cm t h n S u' ∧ FrW z u' := fun b hb => s_w373 M2 (by rw [z71, k 40 (by decide), e0]) (by rw [z71, k 41 (by decide), e1]) (by rw [z71, k 42 (by decide), e2]) (by rw [z71, k 43 (by decide), e3]) b hb
    have pre : f_X11_weighing_L330 (nI h) (nI (pop S)) (nI (wthS w cm h n S)) (if true = true then 1 else 0) u = if askV w t 0 (nmS w cm h n S) = 1 then f_X11_weighing_L373 (nI h) (nI (pop S)) (nI (wthS w cm h n S)) 1 z else f_X11_weighing_L373 (nI h) (nI (pop S)) (nI (wthS w cm h n S)) 0 z := by
      unfold f_X11_weighing_L330
      rw [if_pos rfl, show decide ((1 : Int32) = 0 ∨ (1 : Int32) = 1) = true from rfl, xchk_true, if_neg (by decide), e0, e1, e2, e3]
      exact q1 _
    by_cases c : askV w t 0 (nmS w cm h n S) = 1
    · obtain ⟨u', r1, r2, r3⟩ := go true ⟨fun _ => ⟨hy.1, hy.2.1, hy.2.2.1, hy.2.2.2, c⟩, fun _ => rfl⟩
      refine ⟨u', ?_, r2, (FrW.up (by decide) (by decide)).tr (hzf.tr r3)⟩
      rw [pre, if_pos c]; exact r1
    · obtain ⟨u', r1, r2, r3⟩ := go false ⟨fun z => absurd z (by decide), fun z => absurd z.2.2.2.2 c⟩
      refine ⟨u', ?_, r2, (FrW.up (by decide) (by decide)).tr (hzf.tr r3)⟩
      rw [pre, if_neg c]; exact r1
theorem mimo {w : xI} {n S : Nat} (hn : n ≤ 10) (hS : S < 2 ^ n) : miS w n S + moS w n S = pop S := by
  rw [pop_n hS hn]
  exact bsum_split one1 (fun c => S.testBit c) (inP w) n 0
theorem s_w286 {w : xI} {cm : Nat → Int32} {t h n S : Nat} (hn : n ≤ 10) (hS : S < 2 ^ n) {u : xI} (hM : Mx w cm t u) (e0 : u 71 40 = nI (inS w cm h n S)) (e1 : u 71 41 = nI (outS w cm h n S)) (e2 : u 71 42 = (ofS w cm h n S).1) (b : Bool) (hb : b = true ↔ acS cm h n S) :
    ∃ u', f_X11_weighing_L286 (nI h) (nI (pop S)) (nI (miS w n S)) (nI (wthS w cm h n S)) (if b = true then 1 else 0) (ofS w cm h n S).2 u = some ((), u') ∧ Wm w cm t h n S u' ∧ FrW u u' := by
  have M1 : Mx w cm t (xup u 71 43 (ofS w cm h n S).2) := hM.cg (FrW.up (by decide) (by decide))
  have k : ∀ j, j ≠ 43 → xup u 71 43 (ofS w cm h n S).2 71 j = u 71 j := fun j hj => by rw [xup_same, upd_n _ _ hj]
  have hp := pop_le S
  have hmm := mimo (w := w) hn hS
  have go : ∀ b : Bool, (b = true ↔ (1 ≤ miS w n S ∧ miS w n S ≤ 2) ∧ (1 ≤ moS w n S ∧ moS w n S ≤ 2) ∧ acS cm h n S ∧ (ofS w cm h n S).1 ≠ -1) → ∃ u', f_X11_weighing_L330 (nI h) (nI (pop S)) (nI (wthS w cm h n S)) (if b = true then 1 else 0) (xup u 71 43 (ofS w cm h n S).2) = some ((), u') ∧ Wm w cm t h n S u' ∧ FrW u u' := by
    intro b hb
    obtain ⟨u', r1, r2, r3⟩ := s_w330 M1 (by rw [k 40 (by decide), e0]) (by rw [k 41 (by decide), e1]) (by rw [k 42 (by decide), e2]) (by rw [xup_same, upd_s]) b hb
    exact ⟨u', r1, r2, (FrW.up (by decide) (by decide)).tr r3⟩
  have no : ¬ ((1 ≤ miS w n S ∧ miS w n S ≤ 2) ∧ (1 ≤ moS w n S ∧ moS w n S ≤ 2) ∧ acS cm h n S ∧ (ofS w cm h n S).1 ≠ -1) → ∃ u', f_X11_weighing_L330 (nI h) (nI (pop S)) (nI (wthS w cm h n S)) 0 (xup u 71 43 (ofS w cm h n S).2) = some ((), u') ∧ Wm w cm t h n S u' ∧ FrW u u' := fun hh => go false ⟨fun z => absurd z (by decide), fun z => absurd z hh⟩
  have i1 : ((1 : Int32) ≤ nI (miS w n S) ∧ nI (miS w n S) ≤ 2) ↔ (1 ≤ miS w n S ∧ miS w n S ≤ 2) := and_congr (nI_leI (a := 1) (by omega) (by omega)) (nI_leI (b := 2) (by omega) (by omega))
  have i2 : ((1 : Int32) ≤ nI (moS w n S) ∧ nI (moS w n S) ≤ 2) ↔ (1 ≤ moS w n S ∧ moS w n S ≤ 2) := and_congr (nI_leI (a := 1) (by omega) (by omega)) (nI_leI (b := 2) (by omega) (by omega))
  unfold f_X11_weighing_L286
  cases b with
  | false =>
    rw [if_pos (show (if false = true then (1 : Int32) else 0) = 0 from rfl)]
    exact no (fun z => absurd (hb.mpr z.2.2.1) (by decide))
  | true =>
    rw [if_pos rfl, if_neg (by decide), e2]
    by_cases c1 : (ofS w cm h n S).1 = -1
    · rw [if_pos c1]
      exact no (fun z => z.2.2.2 c1)
    · rw [if_neg c1, s_in]
      by_cases c2 : 1 ≤ miS w n S ∧ miS w n S ≤ 2
      · rw [if_pos (i1.mpr c2), if_neg (by decide), s_in, pk_sub (by omega), show pop S - miS w n S = moS w n S by omega]
        by_cases c3 : 1 ≤ moS w n S ∧ moS w n S ≤ 2
        · rw [if_pos (i2.mpr c3), if_neg (by decide)]
          exact go true ⟨fun _ => ⟨c2, c3, hb.mp rfl, c1⟩, fun _ => rfl⟩
        · rw [if_neg (fun z => c3 (i2.mp z)), if_pos rfl]
          exact no (fun z => c3 z.2.1)
      · rw [if_neg (fun z => c2 (i1.mp z)), if_pos rfl]
        exact no (fun z => c2 z.1)
theorem s_w201 {w : xI} {cm : Nat → Int32} {t d : Nat} {sl : Nat} (hs : sl ≤ 9) (hsl : w 2 2 = nI sl) (v2 v3 v4 v5 v6 : Int32) : ∀ (m o fu : Nat) (u : xI), o + m = sl + 1 → m + 1 < fu → Mx w cm t u → u 71 42 = -1 → ∃ z, f_X11_weighing_L201 fu v2 v3 v4 v5 v6 (nI d) (nI o) u = f_X11_weighing_L286 v2 v3 v4 v5 v6 (offU (w 4) d m o).2 z ∧ z 71 42 = (offU (w 4) d m o).1 ∧ (∀ q, q ≠ 71 → z q = u q) ∧ (∀ j, j ≠ 42 → j ≠ 43 → z 71 j = u 71 j) := by
  intro m
  induction m with
  | zero =>
    intro o fu u h1 h2 hM h42
    obtain ⟨f, rfl⟩ : ∃ f, fu = f + 1 := ⟨fu - 1, by omega⟩
    refine ⟨u, ?_, h42, fun _ _ => rfl, fun _ _ _ => rfl⟩
    rw [f_X11_weighing_L201, hM.2.2.2.1 2 (by decide), hsl, if_pos (nI_lt (by omega) (by omega)), if_pos h42]; rfl
  | succ m ih =>
    intro o fu u h1 h2 hM h42
    obtain ⟨f, rfl⟩ : ∃ f, fu = f + 1 := ⟨fu - 1, by omega⟩
    have e : offU (w 4) d (m + 1) o = if fewU (mdU (w 4) (nI d - nI o)) (mdU (w 4) (nI d + nI o)) = -1 then offU (w 4) d m (o + 1) else (nI o, fewU (mdU (w 4) (nI d - nI o)) (mdU (w 4) (nI d + nI o))) := rfl
    rw [f_X11_weighing_L201, hM.2.2.2.1 2 (by decide), hsl, if_neg (nI_nlt (by omega) (by omega)), if_pos h42, s_madeM hM.2.2.2.2, s_madeM hM.2.2.2.2, s_fewM, e]
    generalize fewU (mdU (w 4) (nI d - nI o)) (mdU (w 4) (nI d + nI o)) = F
    by_cases c : F = -1
    · rw [if_pos c, if_pos c, xlet_eq, nI_1]
      have fr : FrW u (xup (xup u 71 43 F) 71 42 (-1)) := (FrW.up (by decide) (by decide)).tr (FrW.up (by decide) (by decide))
      obtain ⟨z, r1, r2, r3, r4⟩ := ih (o + 1) f (xup (xup u 71 43 F) 71 42 (-1)) (by omega) (by omega) (hM.cg fr) (by rw [xup_same, upd_s])
      exact ⟨z, r1, r2, fun q hq => by rw [r3 q hq, xup_ne _ _ _ hq, xup_ne _ _ _ hq], fun j j1 j2 => by rw [r4 j j1 j2, xup_same, upd_n _ _ j1, xup_same, upd_n _ _ j2]⟩
    · rw [if_neg c, if_neg c, xlet_eq, nI_1]
      obtain ⟨g, rfl⟩ : ∃ g, f = g + 1 := ⟨f - 1, by omega⟩
      have x42 : xup (xup u 71 43 F) 71 42 (nI o) 71 42 = nI o := by rw [xup_same, upd_s]
      have x43 : xup (xup u 71 43 F) 71 42 (nI o) 71 43 = F := by rw [xup_same, upd_n _ _ (by decide), xup_same, upd_s]
      refine ⟨xup (xup u 71 43 F) 71 42 (nI o), ?_, x42, fun q hq => by rw [xup_ne _ _ _ hq, xup_ne _ _ _ hq], fun j j1 j2 => by rw [xup_same, upd_n _ _ j1, xup_same, upd_n _ _ j2]⟩
      rw [f_X11_weighing_L201, x42, x43, if_neg (nI_m1 (by omega)), if_neg (nI_m1 (by omega)), ite_self]
theorem s_apartN {γ : Type} {a b : Nat} (ha : a < 2 ^ 31) (hb : b < 2 ^ 31) (u : xI) (K : Int32 → xI → Option γ) : xbind (f_X11_apart (nI a) (nI b) u) K = K (nI (difN a b)) u := by
  unfold f_X11_apart difN
  by_cases c : b ≤ a
  · rw [if_pos (nI_le c ha), if_pos c, xbind_some, pk_sub c]
  · rw [if_neg (nI_ge (by omega) hb), if_neg c, xbind_some, pk_sub (by omega)]
