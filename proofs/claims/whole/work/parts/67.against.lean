theorem bstep_first {g : Nat → Int × (Nat → Int32)} {ok : Nat → Bool} {a : Nat} {v : Nat → Int} : ∀ (k b : Nat) (s : Int × (Nat → Int32)), bstep g ok a v k b s = s ∨ (s.1 < (bstep g ok a v k b s).1 ∧ ∃ j, b ≤ j ∧ j < b + k ∧ ok j = true ∧ bstep g ok a v k b s = (v j + (g j).1, upd (g j).2 a (nI j)) ∧ ∀ i, b ≤ i → i < j → ok i = true → v i + (g i).1 ≠ (bstep g ok a v k b s).1) := by
  intro k
  induction k with
  | zero => intro b s; exact Or.inl rfl
  | succ k ih =>
    intro b s
    rw [bstep_s]
    by_cases c : ok b = true ∧ s.1 < v b + (g b).1
    · rw [if_pos c]
      rcases ih (b + 1) (v b + (g b).1, upd (g b).2 a (nI b)) with e | ⟨e1, j, j1, j2, j3, j4, j5⟩
      · rw [e]
        exact Or.inr ⟨c.2, b, Nat.le_refl _, by omega, c.1, rfl, fun i i1 i2 => by omega⟩
      · have e1' : v b + (g b).1 < (bstep g ok a v k (b + 1) (v b + (g b).1, upd (g b).2 a (nI b))).1 := e1
        refine Or.inr ⟨by have := c.2; omega, j, by omega, by omega, j3, j4, fun i i1 i2 i3 => ?_⟩
        by_cases e : i = b
        · subst e; omega
        · exact j5 i (by omega) i2 i3
    · rw [if_neg c]
      rcases ih (b + 1) s with e | ⟨e1, j, j1, j2, j3, j4, j5⟩
      · exact Or.inl e
      · refine Or.inr ⟨e1, j, by omega, by omega, j3, j4, fun i i1 i2 i3 => ?_⟩
        by_cases e : i = b
        · subst e
          have : ¬ s.1 < v i + (g i).1 := fun z => c ⟨i3, z⟩
          omega
        · exact j5 i (by omega) i2 i3
theorem TwX.cg {w : xI} {n : Nat} {ok : Nat → Nat → Bool} {u u' : xI} (hU : TwX w n ok u) (h1 : u' 5 = u 5) (h2 : u' 21 = u 21) (h3 : u' 26 = u 26) : TwX w n ok u' := by
  unfold TwX
  rw [h1, h2, h3]; exact hU
/-- the component's first other one -/
theorem s_first {w : xI} {n : Nat} {ok : Nat → Nat → Bool} {v : Nat → Nat → Int} (hn : n ≤ 10) {u : xI} (hU : TwX w n ok u) (hv : ∀ a b, ok a b = true → a < n → b < n → (u 26 (10 * a + b)).toInt = v a b) (hb : ∀ a b, ok a b = true → -198 ≤ v a b ∧ v a b ≤ 1980) {m c U : Nat} (hc : c + (m + 1) = n) (hUn : U < 2 ^ n) :
    (f_X3_firstOther (nI c) (nI U) u = some (-1, u) ∧ (mxC n ok v (m + 1) c U).2 = upd (mxC n ok v m (c + 1) U).2 c (-1)) ∨ ∃ b, b < n ∧ ok c b = true ∧ U.testBit b = false ∧ f_X3_firstOther (nI c) (nI U) u = some (nI b, u) ∧ (mxC n ok v (m + 1) c U).2 = upd (mxC n ok v m (c + 1) (U ||| 2 ^ b)).2 c (nI b) := by
  have hp := pw10 hn
  have hv1 : ∀ a b, ok a b = true → a < n → b < n → (if (1 : Int32) = 0 then (1 : Int32) else u 26 (10 * a + b)).toInt = v a b := fun a b h1 h2 h3 => by rw [if_neg (by decide)]; exact hv a b h1 h2 h3
  obtain ⟨r1, p1, p2⟩ := s_most hn hU 1 hv1 hb (m + 1) c 12 U (by omega) (by omega) hUn
  obtain ⟨r3, p3, p4⟩ := s_most hn hU 1 hv1 hb m (c + 1) 12 U (by omega) (by omega) hUn
  have e : mxC n ok v (m + 1) c U = bstep (fun b => mxC n ok v m (c + 1) (U ||| 2 ^ b)) (fun b => ok c b && !U.testBit b) c (v c) n 0 ((mxC n ok v m (c + 1) U).1, upd (mxC n ok v m (c + 1) U).2 c (-1)) := rfl
  rcases bstep_first (g := fun b => mxC n ok v m (c + 1) (U ||| 2 ^ b)) (ok := fun b => ok c b && !U.testBit b) (a := c) (v := v c) n 0 ((mxC n ok v m (c + 1) U).1, upd (mxC n ok v m (c + 1) U).2 c (-1)) with q | ⟨q1, j, q2, q3, q4, q5, q6⟩
  · rw [← e] at q
    refine Or.inl ⟨?_, by rw [q]⟩
    have er : r3 = r1 := i_eq (by rw [p4, p2, q])
    unfold f_X3_firstOther
    rw [p1, xbind_some, nI_1, p3, xbind_some, if_pos er]
  · rw [← e] at q1 q5 q6
    have q1' : (mxC n ok v m (c + 1) U).1 < (mxC n ok v (m + 1) c U).1 := q1
    have hokj : ok c j = true ∧ U.testBit j = false := by
      have q4' : (ok c j && !U.testBit j) = true := q4
      cases e1 : ok c j
      · rw [e1, Bool.false_and] at q4'; exact absurd q4' (by decide)
      · cases e2 : U.testBit j
        · exact ⟨rfl, rfl⟩
        · rw [e2, Bool.not_true, Bool.and_false] at q4'; exact absurd q4' (by decide)
    refine Or.inr ⟨j, by omega, hokj.1, hokj.2, ?_, by rw [q5]⟩
    have ner : ¬ r3 = r1 := fun z => by rw [z, p2] at p4; omega
    have e10 : (10 : Int32) * nI c = nI (10 * c) := pk_mul 10 c
    have scan : ∀ (k i fu : Nat), i + k = j → k < fu → f_X3_firstOther_L26 fu (nI c) (nI U) r1 (nI i) u = some (nI j, u) := by
      intro k
      induction k with
      | zero =>
        intro i fu h1 h2
        obtain ⟨f, rfl⟩ : ∃ f, fu = f + 1 := ⟨fu - 1, by omega⟩
        have hij : i = j := by omega
        subst hij
        obtain ⟨r4, p5, p6⟩ := s_most hn hU 1 hv1 hb m (c + 1) 12 (U ||| 2 ^ i) (by omega) (by omega) (tk_or hUn (by omega))
        have bd := hb c i hokj.1
        have mb := mxC_bd (fun a b h => (hb a b h).2) m (c + 1) (U ||| 2 ^ i) (n := n) (ok := ok) (v := v)
        have es : u 26 (10 * c + i) + r4 = r1 := i_eq (by
          have q5' : (mxC n ok v (m + 1) c U).1 = v c i + (mxC n ok v m (c + 1) (U ||| 2 ^ i)).1 := congrArg Prod.fst q5
          rw [t_add (hv c i hokj.1 (by omega) (by omega)) p6 (by omega) (by omega), p2, q5'])
        rw [f_X3_firstOther_L26, hU.1, if_neg (nI_ge (by omega) (by omega)), s_fits hn (by omega) (by omega) hUn hU, if_pos q4, if_neg (by decide), e10, nI_add, xin_nI (by omega) (by decide), xchk_true, nI_1, b_tk hn hUn (by omega), p5, xbind_some, nI_clamp (by omega), if_pos es]
      | succ k ih =>
        intro i fu h1 h2
        obtain ⟨f, rfl⟩ : ∃ f, fu = f + 1 := ⟨fu - 1, by omega⟩
        rw [f_X3_firstOther_L26, hU.1, if_neg (nI_ge (by omega) (by omega)), s_fits hn (by omega) (by omega) hUn hU]
        by_cases d : (ok c i && !U.testBit i) = true
        · have hoki : ok c i = true := by
            cases e1 : ok c i
            · rw [e1, Bool.false_and] at d; exact absurd d (by decide)
            · rfl
          obtain ⟨r4, p5, p6⟩ := s_most hn hU 1 hv1 hb m (c + 1) 12 (U ||| 2 ^ i) (by omega) (by omega) (tk_or hUn (by omega))
          have bd := hb c i hoki
          have mb := mxC_bd (fun a b h => (hb a b h).2) m (c + 1) (U ||| 2 ^ i) (n := n) (ok := ok) (v := v)
          have nes : ¬ u 26 (10 * c + i) + r4 = r1 := fun z => by
            have := congrArg Int32.toInt z
            rw [t_add (hv c i hoki (by omega) (by omega)) p6 (by omega) (by omega), p2] at this
            exact q6 i (Nat.zero_le _) (by omega) d this
          rw [if_pos d, if_neg (by decide), e10, nI_add, xin_nI (by omega) (by decide), xchk_true, nI_1, b_tk hn hUn (by omega), p5, xbind_some, nI_clamp (by omega), if_neg nes, xlet_eq, nI_1]
          exact ih (i + 1) f (by omega) (by omega)
        · rw [if_neg d, if_pos rfl, xlet_eq, nI_1]
          exact ih (i + 1) f (by omega) (by omega)
    unfold f_X3_firstOther
    have sc := scan j 0 2000 (by omega) (by omega)
    rw [nI_0] at sc
    rw [p1, xbind_some, nI_1, p3, xbind_some, if_neg ner, sc]
/-- each cart's other one, as the first choice C tells -/
def OthP (w : xI) (n : Nat) (C o : Nat → Int32) : Prop := ∀ i, i < n → (inP w i = true → o i = C i) ∧ (inP w i = false → (∀ a, a < n → C a = nI i → o i = nI a) ∧ ((∀ a, a < n → C a ≠ nI i) → o i = -1))
theorem s_choL {w : xI} {n : Nat} {ok : Nat → Nat → Bool} {v : Nat → Nat → Int} (hn : n ≤ 10) (hb : ∀ a b, ok a b = true → -198 ≤ v a b ∧ v a b ≤ 1980) (T26 : Nat → Int32) (hv : ∀ a b, ok a b = true → a < n → b < n → (T26 (10 * a + b)).toInt = v a b) (C : Nat → Int32) : ∀ (m c fu U : Nat) (u : xI), c + m = n → m < fu → U < 2 ^ n → TwX w n ok u → u 26 = T26 → (∀ i, i < n → inP w i = true → i < c → u 27 i = C i) →
    (∀ i, i < n → inP w i = false → (∀ a, a < c → C a = nI i → u 27 i = nI a) ∧ ((∀ a, a < c → C a ≠ nI i) → u 27 i = -1)) → (∀ a i, a < c → i < n → C a = nI i → U.testBit i = true) → (∀ j, c ≤ j → j < n → (mxC n ok v m c U).2 j = C j) → (∀ i, i < n → inP w i = true → c ≤ i → u 27 i = -1) →
    ∃ u', f_X3_choose_L25 fu (nI U) (nI c) u = some ((), u') ∧ (∀ q, q ≠ 27 → u' q = u q) ∧ OthP w n C (u' 27) := by
  have hp := pw10 hn
  intro m
  induction m with
  | zero =>
    intro c fu U u h1 h2 hUn hU e26 i1 i2 i3 i4 i5
    obtain ⟨f, rfl⟩ : ∃ f, fu = f + 1 := ⟨fu - 1, by omega⟩
    have hc : c = n := by omega
    subst hc
    refine ⟨u, ?_, fun _ _ => rfl, fun i hi => ⟨fun z => i1 i hi z hi, fun z => i2 i hi z⟩⟩
    rw [f_X3_choose_L25, hU.1, if_pos (nI_le (Nat.le_refl _) (by omega))]
  | succ m ih =>
    intro c fu U u h1 h2 hUn hU e26 i1 i2 i3 i4 i5
    obtain ⟨f, rfl⟩ : ∃ f, fu = f + 1 := ⟨fu - 1, by omega⟩
    have hcn : c < n := by omega
    -- nobody for c
    have none' : C c = -1 → (∀ j, c + 1 ≤ j → j < n → (mxC n ok v m (c + 1) U).2 j = C j) → ∃ u', f_X3_choose_L57 (fun v1 v2 w => f_X3_choose_L25 f v1 v2 w) (nI U) (nI c) (-1) u = some ((), u') ∧ (∀ q, q ≠ 27 → u' q = u q) ∧ OthP w n C (u' 27) := by
      intro hC hI4
      unfold f_X3_choose_L57
      rw [if_pos rfl, xlet_eq, nI_1]
      refine ih (c + 1) f U u (by omega) (by omega) hUn hU e26 (fun i hi hin hlt => ?_) (fun i hi hin => ?_) (fun a i ha hi hCa => ?_) hI4 (fun i hi hin hle => i5 i hi hin (by omega))
      · by_cases e : i = c
        · subst e; rw [i5 i hi hin (Nat.le_refl _), hC]
        · exact i1 i hi hin (by omega)
      · obtain ⟨g1, g2⟩ := i2 i hi hin
        refine ⟨fun a ha hCa => ?_, fun hall => g2 (fun a ha => hall a (by omega))⟩
        by_cases e : a = c
        · subst e; rw [hC] at hCa; exact absurd hCa.symm (nI_m1 (by omega))
        · exact g1 a (by omega) hCa
      · by_cases e : a = c
        · subst e; rw [hC] at hCa; exact absurd hCa.symm (nI_m1 (by omega))
        · exact i3 a i (by omega) hi hCa
    rw [f_X3_choose_L25, hU.1, if_neg (nI_ge (by omega) (by omega)), s_inw hn hcn hU.2.1]
    by_cases c1 : inP w c = true
    · rw [if_pos c1, if_neg (by decide)]
      rcases s_first (v := v) hn hU (fun a b x y z => by rw [e26]; exact hv a b x y z) hb (m := m) (c := c) (U := U) h1 hUn with ⟨f1, f2⟩ | ⟨b, hbn, hok, hbit, f1, f2⟩
      · rw [f1, xbind_some]
        refine none' ?_ (fun j j1 j2 => ?_)
        · rw [← i4 c (Nat.le_refl _) hcn, f2, upd_s]
        · rw [← i4 j (by omega) j2, f2, upd_n _ _ (by omega)]
      · have hnb := hU.2.2.2 c b hok
        have bc : b ≠ c := fun z => by rw [z, c1] at hnb; exact absurd hnb.2 (by decide)
        have hCc : C c = nI b := by rw [← i4 c (Nat.le_refl _) hcn, f2, upd_s]
        rw [f1, xbind_some]
        unfold f_X3_choose_L57
        rw [if_neg (nI_m1 (by omega)), xin_nI (by omega) (by decide), xchk_true, xin_nI (by omega) (by decide), xchk_true, b_tk hn hUn hbn, xlet_eq, xlet_eq, nI_1, nI_clamp (by omega), nI_clamp (by omega)]
        generalize hz : xup (xup u 27 c (nI b)) 27 b (nI c) = z
        have zq : ∀ q, q ≠ 27 → z q = u q := fun q hq => by rw [← hz, xup_ne _ _ _ hq, xup_ne _ _ _ hq]
        have z27 : z 27 = upd (upd (u 27) c (nI b)) b (nI c) := by rw [← hz, xup_same, xup_same]
        have hUz : TwX w n ok z := hU.cg (zq 5 (by decide)) (zq 21 (by decide)) (zq 26 (by decide))
        have hbitU : ∀ i, U.testBit i = true → (U ||| 2 ^ b).testBit i = true := fun i hi => by rw [Nat.testBit_or, hi]; rfl
        obtain ⟨u', r1, r2, r3⟩ := ih (c + 1) f (U ||| 2 ^ b) z (by omega) (by omega) (tk_or hUn hbn) hUz (by rw [zq 26 (by decide)]; exact e26) (fun i hi hin hlt => by
          have ib : i ≠ b := fun y => by rw [y, hnb.2] at hin; exact absurd hin (by decide)
          rw [z27, upd_n _ _ ib]
          by_cases e : i = c
          · rw [e, upd_s, hCc]
          · rw [upd_n _ _ e]; exact i1 i hi hin (by omega)) (fun i hi hin => by
          obtain ⟨g1, g2⟩ := i2 i hi hin
          have ic : i ≠ c := fun y => by rw [y, c1] at hin; exact absurd hin (by decide)
          rw [z27]
          by_cases e : i = b
          · subst e
            rw [upd_s]
            refine ⟨fun a ha hCa => ?_, fun hall => absurd hCc (hall c (by omega))⟩
            by_cases e2 : a = c
            · rw [e2]
            · have := i3 a i (by omega) hi hCa
              rw [hbit] at this; exact absurd this (by decide)
          · rw [upd_n _ _ e, upd_n _ _ ic]
            refine ⟨fun a ha hCa => ?_, fun hall => g2 (fun a ha => hall a (by omega))⟩
            by_cases e2 : a = c
            · rw [e2, hCc] at hCa
              exact absurd ((nI_eq (by omega) (by omega)).mp hCa).symm e
            · exact g1 a (by omega) hCa) (fun a i ha hi hCa => by
          by_cases e2 : a = c
          · rw [e2, hCc] at hCa
            have := (nI_eq (by omega) (by omega)).mp hCa
            rw [← this, Nat.testBit_or, Nat.testBit_two_pow_self]; simp
          · exact hbitU i (i3 a i (by omega) hi hCa)) (fun j j1 j2 => by rw [← i4 j (by omega) j2, f2, upd_n _ _ (by omega)]) (fun i hi hin hle => by
          have ib : i ≠ b := fun y => by rw [y, hnb.2] at hin; exact absurd hin (by decide)
          rw [z27, upd_n _ _ ib, upd_n _ _ (by omega)]; exact i5 i hi hin (by omega))
        exact ⟨u', r1, fun q hq => by rw [r2 q hq, zq q hq], r3⟩
    · rw [if_neg c1, if_pos rfl]
      have e : mxC n ok v (m + 1) c U = bstep (fun b => mxC n ok v m (c + 1) (U ||| 2 ^ b)) (fun b => ok c b && !U.testBit b) c (v c) n 0 ((mxC n ok v m (c + 1) U).1, upd (mxC n ok v m (c + 1) U).2 c (-1)) := rfl
      have e2 : mxC n ok v (m + 1) c U = ((mxC n ok v m (c + 1) U).1, upd (mxC n ok v m (c + 1) U).2 c (-1)) := by
        rw [e, bstep_no]
        intro i _ _
        cases d : ok c i
        · rfl
        · exact absurd (hU.2.2.2 c i d).1 c1
      refine none' ?_ (fun j j1 j2 => ?_)
      · rw [← i4 c (Nat.le_refl _) hcn, e2]; exact upd_s _ _ _
      · rw [← i4 j (by omega) j2, e2]; exact (upd_n _ _ (by omega)).symm
theorem s_choI : ∀ (m c fu : Nat) (u : xI), c + m = 10 → m < fu → ∃ z, f_X3_choose_L2 fu (nI c) u = f_X3_choose_L25 2000 0 0 z ∧ (∀ q, q ≠ 27 → z q = u q) ∧ ∀ i, i < 10 → z 27 i = if c ≤ i then -1 else u 27 i := by
  intro m
  induction m with
  | zero =>
    intro c fu u h1 h2
    obtain ⟨f, rfl⟩ : ∃ f, fu = f + 1 := ⟨fu - 1, by omega⟩
    refine ⟨u, ?_, fun _ _ => rfl, fun i hi => by rw [if_neg (by omega)]⟩
    rw [f_X3_choose_L2, if_pos (show (10 : Int32) ≤ nI c from nI_le (a := 10) (by omega) (by omega))]
  | succ m ih =>
    intro c fu u h1 h2
    obtain ⟨f, rfl⟩ : ∃ f, fu = f + 1 := ⟨fu - 1, by omega⟩
    obtain ⟨z, r1, r2, r3⟩ := ih (c + 1) f (xup u 27 c (-1)) (by omega) (by omega)
    refine ⟨z, ?_, fun q hq => by rw [r2 q hq, xup_ne _ _ _ hq], fun i hi => ?_⟩
    · rw [f_X3_choose_L2, if_neg (show ¬ (10 : Int32) ≤ nI c from nI_ge (b := 10) (by omega) (by omega)), xin_nI (by omega) (by decide), xchk_true, xlet_eq, nI_1, nI_clamp (by omega)]
      exact r1
    · rw [r3 i hi, xup_same]
      by_cases e : i = c
      · rw [e, upd_s, if_neg (by omega), if_pos (Nat.le_refl _)]
      · rw [upd_n _ _ e]
        by_cases g : c ≤ i
        · rw [if_pos g, if_pos (by omega)]
        · rw [if_neg g, if_neg (by omega)]
/-- the component's table of twos is made -/
theorem s_pairX {γ : Type} {w : xI} (hR : Rel w) {t h n : Nat} (hh : h ≤ 9) (hn : n ≤ 10) (en : w 5 2 = nI n) (hX : TxB w t w) : ∃ u', (∀ (K : Unit → xI → Option γ), xbind (f_X3_prepare (nI h) (39 + 4 * t) w) K = K () u') ∧ FrX w u' ∧ TwX w n (okE w t h n) u' ∧ ∀ a b, okE w t h n a b = true → a < n → b < n → (u' 26 (10 * a + b)).toInt = vP w t h n a b := by
  have ht := hX.1
  obtain ⟨u1, p1, P1, f1, f1'⟩ := s_prepare (γ := Unit × xI) hR.ydB hn en (h := h) (by omega) (o2 := 7) (by decide) (Rel.cxY (w := w))
  have k1 : ∀ q, ¬ (21 ≤ q ∧ q ≤ 24) → u1 q = w q := fun q hq => f1 q (by omega) (by omega) (by omega) (by omega)
  obtain ⟨u2, q1, P2, f2, tab⟩ := s_ppA hR (t := t) (h := h) (by omega) hn n 0 2000 u1 (by omega) (by omega) P1 (k1 2 (by decide)) (k1 4 (by decide)) (hX.cg (k1 _ (by omega)) (k1 _ (by omega)) (k1 _ (by omega)) (k1 _ (by omega))) (fun x y hx => absurd hx (Nat.not_lt_zero x))
  rw [nI_0] at q1
  refine ⟨u2, fun K => ?_, fun k hk => by rw [f2 k (by omega) (by omega) (by omega) (by omega), k1 k (by omega)], ⟨P2.1, P2.2.2.2.1, fun a b ha hb => ?_, fun a b hok => ⟨(okE_iff.mp hok).1, (okE_iff.mp hok).2.1⟩⟩, fun a b hok ha hb => ?_⟩
  · have e : f_X3_prepare (nI h) (39 + 4 * t) w = some ((), u2) := by
      unfold f_X3_prepare
      refine (p1 _).trans ?_
      exact q1
    rw [e, xbind_some]
  · rw [tab a b ha hb]
    unfold pvX
    by_cases c : okE w t h n a b = true
    · rw [if_pos c]
      refine ⟨fun _ => c, fun _ z => ?_⟩
      have := (vP_bd hR (t := t) (h := h) (by omega) hn a b).1
      unfold vP at this
      rw [z] at this
      exact absurd this (by decide)
    · rw [if_neg c]
      exact ⟨fun z => absurd rfl z, fun z => absurd z c⟩
  · rw [tab a b ha hb]
    unfold pvX
    rw [if_pos hok]; rfl
/-- the model finds its pairs -/
theorem s_pairM {γ : Type} {w w1 : xI} (hR : Rel w) (hf : FrX w w1) {t h n : Nat} (hh : h ≤ 9) (hn : n ≤ 10) (en : w 5 2 = nI n) (ht : t < 6) (e15 : w 71 15 = nI t) (hX : TxB w t w) : ∃ w2, (∀ (K : Unit → xI → Option γ), xbind (f_X11_findsPairs (nI h) w1) K = K () w2) ∧ Rel w2 ∧ (w2 71 49).toInt = (mxC n (okE w t h n) v1 n 0 0).1 ∧ (w2 71 50).toInt = (mxC n (okE w t h n) (vP w t h n) n 0 0).1 ∧ (∀ c, c < n → w2 98 c = (mxC n (okE w t h n) (vP w t h n) n 0 0).2 c) ∧ (∀ c, c < 10 → w2 74 c = w (8 + c) 0) ∧ w2 71 3 = nI n := by
  obtain ⟨u, s1, s2, s3⟩ := s_startM (γ := Unit × xI) hR hf ht e15 hX
  obtain ⟨u2, q1, q2, q3, q4, q5⟩ := s_twoM hR (t := t) (h := h) (by omega) hn en 100 0 2000 u (by omega) (by omega) s2 (fun x y hxy => absurd hxy (Nat.not_lt_zero _))
  generalize hz : xup (xup u2 71 49 0) 71 50 (-100000) = z
  have zq : ∀ q, q ≠ 71 → z q = u2 q := fun q hq => by rw [← hz, xup_ne _ _ _ hq, xup_ne _ _ _ hq]
  have zj : ∀ j, j ≠ 49 → j ≠ 50 → z 71 j = u2 71 j := fun j j1 j2 => by rw [← hz, xup_same, upd_n _ _ j2, xup_same, upd_n _ _ j1]
  have Uz : TwM w t h n z := ⟨by rw [zj 3 (by decide) (by decide)]; exact q2.1.1.trans en, fun a ha => by rw [zq 74 (by decide)]; exact (q2.1.2 a ha).1, fun a b ha hb => by rw [zq 96 (by decide)]; exact q5 a b ha hb⟩
  obtain ⟨w2, p1, p2, p3, p4, p5, p6, p7, p8⟩ := s_pf hR (t := t) (h := h) (by omega) hn n 0 12 0 0 0 z (by omega) (by omega) (Nat.two_pow_pos n) Uz ⟨by decide, by decide⟩ ⟨by decide, by decide⟩
  rw [nI_0] at q1 p1
  have b1 := mxC_bd (v := v1) (fun a b _ => by unfold v1; omega) n 0 0 (n := n) (ok := okE w t h n)
  have bP := mxC_bd (v := vP w t h n) (fun a b _ => (vP_bd hR (t := t) (h := h) (by omega) hn a b).2) n 0 0 (n := n) (ok := okE w t h n)
  have z49 : (z 71 49).toInt = 0 := by rw [← hz, xup_same, upd_n _ _ (by decide), xup_same, upd_s]; rfl
  have z50 : (z 71 50).toInt = -100000 := by rw [← hz, xup_same, upd_s]; rfl
  have t0 : (0 : Int32).toInt = 0 := rfl
  rw [z49, t0] at p4
  rw [z50, t0] at p5 p7
  refine ⟨w2, fun K => ?_, hR.fr (fun k hk h71 => ?_) (fun j hj => ?_), ?_, ?_, fun c hc => ?_, fun c hc => ?_, ?_⟩
  · have e : f_X11_findsPairs (nI h) w1 = some ((), w2) := by
      have e1 : f_X11_findsTwos (nI h) w1 = some ((), u2) := by
        unfold f_X11_findsTwos
        refine (s1 _).trans ?_
        exact q1
      unfold f_X11_findsPairs
      rw [e1, xbind_some, hz, p1, xbind_some]
    rw [e, xbind_some]
  · unfold scrN at hk
    rw [p2 k h71 (by omega) (by omega), zq k h71, q3 k h71 (by omega) (by omega) (by omega), s3 k (by omega), hf k (by omega)]
  · rw [p3 j (by omega) (by omega), zj j (by omega) (by omega), q4 j (by omega), s3 71 (by decide), hf 71 (by omega)]
  · rw [p4]; unfold mxI; split <;> omega
  · rw [p5]; unfold mxI; split <;> omega
  · rw [p7 (by omega) c hc, if_neg (Nat.not_lt_zero c)]
  · rw [p2 74 (by decide) (by decide) (by decide)]; exact Uz.2.1 c hc
  · rw [p3 3 (by decide) (by decide)]; exact Uz.1
theorem op_pairs (a1 : Int32) (a2 : Int32) : OpI (f_X10_pairs a1 a2) (f_X11_pairs a1 a2) := by
  intro w hR
  obtain ⟨n, hn, en, em⟩ := hR.n
  obtain ⟨t, ht, e4, e15, hX⟩ := hR.law
  by_cases h1 : 0 ≤ a1 ∧ a1 ≤ 9
  · by_cases h2 : 0 ≤ a2 ∧ a2 ≤ 1
    · obtain ⟨h, hh, rfl⟩ := nI_bd (n := 9) (by decide) h1.1 h1.2
      obtain ⟨w1, x1, x2, x3, x4⟩ := s_pairX (γ := Int32 × xI) hR hh hn en hX
      obtain ⟨w2, y1, y2, y3, y4, y5, y6, y7⟩ := s_pairM (γ := Int32 × xI) hR x2 hh hn en ht e15 hX
      have pre : f_X10_pairs (nI h) a2 w = if a2 = 0 then xbind (f_X3_mostPairs w1) (fun r13 w14 => some (r13, w14)) else xbind (f_X3_mostBrought w1) (fun r11 w12 => some (r11, w12)) := by
        rw [f_X10_pairs, s_hourX, if_pos h1, if_neg (by decide), s_within, if_pos h2, if_neg (by decide), s_law ht e4, isTxt ht, xchk_true]
        exact x1 _
      have mod : f_X11_pairs (nI h) a2 w1 = if a2 = 0 then some (w2 71 49, w2) else some (w2 71 50, w2) := by
        rw [f_X11_pairs, s_hourM, if_pos h1, if_neg (by decide), s_in, if_pos h2, if_neg (by decide)]
        exact y1 _
      by_cases c : a2 = 0
      · obtain ⟨r, r1, r2⟩ := s_most (v := v1) hn x3 0 (fun a b _ _ _ => by rw [if_pos rfl]; rfl) (fun a b _ => by unfold v1; omega) n 0 12 0 (by omega) (by omega) (Nat.two_pow_pos n)
        rw [nI_0] at r1
        refine OpI.q r w1 w2 ?_ ?_ y2
        · rw [pre, if_pos c]; unfold f_X3_mostPairs; rw [r1]; rfl
        · rw [mod, if_pos c, show w2 71 49 = r from i_eq (y3.trans r2.symm)]
      · obtain ⟨r, r1, r2⟩ := s_most (v := vP w t h n) hn x3 1 (fun a b hok ha hb => by rw [if_neg (by decide)]; exact x4 a b hok ha hb) (fun a b _ => vP_bd hR (by omega) hn a b) n 0 12 0 (by omega) (by omega) (Nat.two_pow_pos n)
        rw [nI_0] at r1
        refine OpI.q r w1 w2 ?_ ?_ y2
        · rw [pre, if_neg c]; unfold f_X3_mostBrought; rw [r1]; rfl
        · rw [mod, if_neg c, show w2 71 50 = r from i_eq (y4.trans r2.symm)]
    · exact OpI.q (-7) w w (by rw [f_X10_pairs, s_hourX, if_pos h1, if_neg (by decide), s_within, if_neg h2, if_pos rfl]) (by rw [f_X11_pairs, s_hourM, if_pos h1, if_neg (by decide), s_in, if_neg h2, if_pos rfl]) hR
  · exact OpI.q (-5) w w (by rw [f_X10_pairs, s_hourX, if_neg h1, if_pos rfl]) (by rw [f_X11_pairs, s_hourM, if_neg h1, if_pos rfl]) hR
theorem s_srchM {n c0 : Nat} (hn : n ≤ 10) (hc : c0 < n) {C : Nat → Int32} {u : xI} (h3 : u 71 3 = nI n) (h98 : ∀ a, a < n → u 98 a = C a) : ∀ (m a fu : Nat), a + m = n → m < fu → (∀ x, x < a → C x ≠ nI c0) → ((∀ x, x < n → C x ≠ nI c0) ∧ f_X11_against_L42 fu (nI c0) (nI a) u = some (-1, u)) ∨ ∃ x, x < n ∧ C x = nI c0 ∧ f_X11_against_L42 fu (nI c0) (nI a) u = some (nI x, u) := by
  intro m
  induction m with
  | zero =>
    intro a fu h1 h2 hno
    obtain ⟨f, rfl⟩ : ∃ f, fu = f + 1 := ⟨fu - 1, by omega⟩
    refine Or.inl ⟨fun x hx => hno x (by omega), ?_⟩
    rw [f_X11_against_L42, h3, if_pos (nI_le (by omega) (by omega))]
  | succ m ih =>
    intro a fu h1 h2 hno
    obtain ⟨f, rfl⟩ : ∃ f, fu = f + 1 := ⟨fu - 1, by omega⟩
    rw [f_X11_against_L42, h3, if_neg (nI_ge (by omega) (by omega)), xin_nI (by omega) (by decide), xchk_true, nI_clamp (n := a) (by omega), h98 a (by omega)]
    by_cases c : C a = nI c0
    · rw [if_pos c]; exact Or.inr ⟨a, by omega, c, rfl⟩
    · rw [if_neg c, xlet_eq, nI_1]
      exact ih (a + 1) f (by omega) (by omega) (fun x hx => by
        by_cases e : x = a
        · rw [e]; exact c
        · exact hno x (by omega))
theorem op_against (a1 : Int32) (a2 : Int32) : OpI (f_X10_against a1 a2) (f_X11_against a1 a2) := by
  intro w hR
  obtain ⟨n, hn, en, em⟩ := hR.n
  obtain ⟨t, ht, e4, e15, hX⟩ := hR.law
  by_cases h1 : 0 ≤ a1 ∧ a1 ≤ 9
  · by_cases h2 : 0 ≤ a2 ∧ a2 < w 5 2
    · obtain ⟨h, hh, rfl⟩ := nI_bd (n := 9) (by decide) h1.1 h1.2
      obtain ⟨c, hc, rfl, e1, e2, hlt⟩ := cart_ix hR h2
      rw [en] at hlt
      have hcn : c < n := (nI_ltI (by omega) (by omega)).mp hlt
      obtain ⟨u1, x1, x2, x3, x4⟩ := s_pairX (γ := Int32 × xI) hR hh hn en hX
      obtain ⟨z, z1, z2, z3⟩ := s_choI 10 0 2000 u1 (by omega) (by omega)
      have x3z : TwX w n (okE w t h n) z := x3.cg (z2 5 (by decide)) (z2 21 (by decide)) (z2 26 (by decide))
      obtain ⟨w1, g1, g2, g3⟩ := s_choL (v := vP w t h n) hn (fun a b _ => vP_bd hR (by omega) hn a b) (u1 26) (fun a b hok ha hb => x4 a b hok ha hb) (mxC n (okE w t h n) (vP w t h n) n 0 0).2 n 0 2000 0 z (by omega) (by omega) (Nat.two_pow_pos n) x3z (z2 26 (by decide)) (fun i _ _ hi => absurd hi (Nat.not_lt_zero i)) (fun i hi _ => ⟨fun a ha => absurd ha (Nat.not_lt_zero a), fun _ => by rw [z3 i (by omega), if_pos (Nat.zero_le _)]⟩) (fun a i ha => absurd ha (Nat.not_lt_zero a)) (fun j _ _ => rfl) (fun i hi _ _ => by rw [z3 i (by omega), if_pos (Nat.zero_le _)])
      rw [nI_0] at z1 g1
      have fx : FrX w w1 := fun k hk => by rw [g2 k (by omega), z2 k (by omega)]; exact x2 k hk
      obtain ⟨w2, y1, y2, y3, y4, y5, y6, y7⟩ := s_pairM (γ := Int32 × xI) hR fx hh hn en ht e15 hX
      have h2m : 0 ≤ nI c ∧ nI c < w1 71 3 := by rw [fx 71 (by omega), hR.yd.1]; exact h2
      have pre : f_X10_against (nI h) (nI c) w = some (w1 27 c, w1) := by
        rw [f_X10_against, s_hourX, if_pos h1, if_neg (by decide), s_has, if_pos h2, if_neg (by decide), s_law ht e4, isTxt ht, xchk_true]
        refine (x1 _).trans ?_
        unfold f_X3_choose
        rw [z1, g1, xbind_some, e1, xchk_true, e2]
      have mod : f_X11_against (nI h) (nI c) w1 = if w (8 + c) 0 = 1 then some (w2 98 c, w2) else f_X11_against_L42 2000 (nI c) 0 w2 := by
        rw [f_X11_against, s_hourM, if_pos h1, if_neg (by decide), s_isCart _ _ (by rw [fx 71 (by omega)]; exact em) hn, if_pos h2m, if_neg (by decide)]
        refine (y1 _).trans ?_
        rw [e1, xchk_true, e2, y6 c hc, xchk_true]
      obtain ⟨o1, o2⟩ := g3 c hcn
      by_cases d : w (8 + c) 0 = 1
      · have ip : inP w c = true := decide_eq_true d
        exact OpI.q (w1 27 c) w1 w2 pre (by rw [mod, if_pos d, y5 c hcn, o1 ip]) y2
      · have ip : inP w c = false := decide_eq_false d
        obtain ⟨o3, o4⟩ := o2 ip
        rcases s_srchM hn hcn y7 y5 n 0 2000 (by omega) (by omega) (fun x hx => absurd hx (Nat.not_lt_zero x)) with ⟨k1, k2⟩ | ⟨x, k1, k2, k3⟩
        · rw [nI_0] at k2
          exact OpI.q (w1 27 c) w1 w2 pre (by rw [mod, if_neg d, k2, o4 k1]) y2
        · rw [nI_0] at k3
          exact OpI.q (w1 27 c) w1 w2 pre (by rw [mod, if_neg d, k3, o3 x k1 k2]) y2
    · have h2m : ¬ (0 ≤ a2 ∧ a2 < w 71 3) := by rw [hR.yd.1]; exact h2
      exact OpI.q (-5) w w (by rw [f_X10_against, s_hourX, if_pos h1, if_neg (by decide), s_has, if_neg h2, if_pos rfl]) (by rw [f_X11_against, s_hourM, if_pos h1, if_neg (by decide), s_isCart _ _ em hn, if_neg h2m, if_pos rfl]) hR
  · exact OpI.q (-5) w w (by rw [f_X10_against, s_hourX, if_neg h1, if_pos rfl]) (by rw [f_X11_against, s_hourM, if_neg h1, if_pos rfl]) hR
