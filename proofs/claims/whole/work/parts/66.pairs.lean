def mxI (x y : Int) : Int := if x < y then y else x
/-- the model's table of twos, ready to be gone through -/
def TwM (w : xI) (t h n : Nat) (u : xI) : Prop := u 71 3 = nI n ∧ (∀ a, a < 10 → u 74 a = w (8 + a) 0) ∧ ∀ a b, a < n → b < n → u 96 (10 * a + b) = pvM w t h n a b
theorem TwM.cg {w : xI} {t h n : Nat} {u u' : xI} (hU : TwM w t h n u) (h1 : u' 71 3 = u 71 3) (h2 : u' 74 = u 74) (h3 : u' 96 = u 96) : TwM w t h n u' := by
  unfold TwM
  rw [h1, h2, h3]; exact hU
theorem s_cp46 (rec : Int32 → Int32 → Int32 → Int32 → xI → Option (Unit × xI)) : ∀ (m c fu : Nat) (u : xI), c + m = 10 → m < fu → ∃ z, f_X11_pairsFrom_L46 rec fu (nI c) u = some ((), z) ∧ (∀ q, q ≠ 98 → z q = u q) ∧ ∀ i, i < 10 → z 98 i = if c ≤ i then u 97 i else u 98 i := by
  intro m
  induction m with
  | zero =>
    intro c fu u h1 h2
    obtain ⟨f, rfl⟩ : ∃ f, fu = f + 1 := ⟨fu - 1, by omega⟩
    refine ⟨u, ?_, fun _ _ => rfl, fun i hi => by rw [if_neg (by omega)]⟩
    rw [f_X11_pairsFrom_L46, if_pos (show (10 : Int32) ≤ nI c from nI_le (a := 10) (by omega) (by omega))]
  | succ m ih =>
    intro c fu u h1 h2
    obtain ⟨f, rfl⟩ : ∃ f, fu = f + 1 := ⟨fu - 1, by omega⟩
    obtain ⟨z, r1, r2, r3⟩ := ih (c + 1) f (xup u 98 c (u 97 c)) (by omega) (by omega)
    refine ⟨z, ?_, fun q hq => by rw [r2 q hq, xup_ne _ _ _ hq], fun i hi => ?_⟩
    · rw [f_X11_pairsFrom_L46, if_neg (show ¬ (10 : Int32) ≤ nI c from nI_ge (b := 10) (by omega) (by omega)), xin_nI (by omega) (by decide), xchk_true, xchk_true, xlet_eq, nI_1, nI_clamp (by omega)]
      exact r1
    · rw [r3 i hi, xup_ne _ _ _ (by decide), xup_same]
      by_cases e : i = c
      · rw [e, upd_s, if_neg (by omega), if_pos (Nat.le_refl _)]
      · rw [upd_n _ _ e]
        by_cases g : c ≤ i
        · rw [if_pos g, if_pos (by omega)]
        · rw [if_neg g, if_neg (by omega)]
noncomputable def vP (w : xI) (t h n : Nat) : Nat → Nat → Int := fun a b => (pbE w t h n a b).toInt
def v1 : Nat → Nat → Int := fun _ _ => 1
theorem vP_bd {w : xI} (hR : Rel w) {t h n : Nat} (hh : h ≤ 10) (hn : n ≤ 10) (a b : Nat) : -198 ≤ vP w t h n a b ∧ vP w t h n a b ≤ 1980 := by
  have := brS_bd hR.ydB (t := t) (h := h) (n := n) (S := 2 ^ a ||| 2 ^ b) hh hn
  exact ⟨this.2.1, this.2.2⟩
/-- what all ways from a on leave: the counts, the sums, the first that bring most -/
def PfP (w : xI) (t h n m a tk : Nat) (many sum : Int32) (u u' : xI) : Prop := (∀ q, q ≠ 71 → q ≠ 97 → q ≠ 98 → u' q = u q) ∧ (∀ j, j ≠ 49 → j ≠ 50 → u' 71 j = u 71 j) ∧ (u' 71 49).toInt = mxI (u 71 49).toInt (many.toInt + (mxC n (okE w t h n) v1 m a tk).1) ∧ (u' 71 50).toInt = mxI (u 71 50).toInt (sum.toInt + (mxC n (okE w t h n) (vP w t h n) m a tk).1) ∧ (∀ i, i < a → u' 97 i = u 97 i) ∧
  ((u 71 50).toInt < sum.toInt + (mxC n (okE w t h n) (vP w t h n) m a tk).1 → ∀ c, c < n → u' 98 c = if c < a then u 97 c else (mxC n (okE w t h n) (vP w t h n) m a tk).2 c) ∧ (¬ (u 71 50).toInt < sum.toInt + (mxC n (okE w t h n) (vP w t h n) m a tk).1 → ∀ c, c < n → u' 98 c = u 98 c)
theorem s_pfL {w : xI} (hR : Rel w) {t h n : Nat} (hh : h ≤ 10) (hn : n ≤ 10) {m a tk : Nat} (ham : a + (m + 1) = n) (htk : tk < 2 ^ n) (rec : Int32 → Int32 → Int32 → Int32 → xI → Option (Unit × xI)) {many sum : Int32} (hm0 : 0 ≤ many.toInt ∧ many.toInt ≤ a) (hs0 : -1980 * a ≤ sum.toInt ∧ sum.toInt ≤ 1980 * a)
    (hrec : ∀ (tk2 : Nat) (many2 sum2 : Int32) (z : xI), tk2 < 2 ^ n → TwM w t h n z → (0 ≤ many2.toInt ∧ many2.toInt ≤ (a + 1 : Nat)) → (-1980 * (a + 1 : Nat) ≤ sum2.toInt ∧ sum2.toInt ≤ 1980 * (a + 1 : Nat)) → ∃ z', rec (nI (a + 1)) (nI tk2) many2 sum2 z = some ((), z') ∧ PfP w t h n m (a + 1) tk2 many2 sum2 z z') (hi : w (8 + a) 0 = 1) (M0 B0 : Int) (P0 Q0 : Nat → Int32) :
    ∀ (k b fu : Nat) (s s1 : Int × (Nat → Int32)) (u : xI), b + k = n → k < fu → TwM w t h n u → (u 71 49).toInt = mxI M0 (many.toInt + s1.1) → (u 71 50).toInt = mxI B0 (sum.toInt + s.1) → (∀ i, i < a → u 97 i = P0 i) → (B0 < sum.toInt + s.1 → ∀ c, c < n → u 98 c = if c < a then P0 c else s.2 c) → (¬ B0 < sum.toInt + s.1 → ∀ c, c < n → u 98 c = Q0 c) →
    ∃ u', f_X11_pairsFrom_L95 rec fu (nI a) (nI tk) many sum (nI b) u = some ((), u') ∧ (∀ q, q ≠ 71 → q ≠ 97 → q ≠ 98 → u' q = u q) ∧ (∀ j, j ≠ 49 → j ≠ 50 → u' 71 j = u 71 j) ∧ (u' 71 49).toInt = mxI M0 (many.toInt + (bstep (fun b => mxC n (okE w t h n) v1 m (a + 1) (tk ||| 2 ^ b)) (fun b => okE w t h n a b && !tk.testBit b) a (v1 a) k b s1).1) ∧ (u' 71 50).toInt = mxI B0 (sum.toInt + (bstep (fun b => mxC n (okE w t h n) (vP w t h n) m (a + 1) (tk ||| 2 ^ b)) (fun b => okE w t h n a b && !tk.testBit b) a (vP w t h n a) k b s).1) ∧ (∀ i, i < a → u' 97 i = P0 i) ∧
      (B0 < sum.toInt + (bstep (fun b => mxC n (okE w t h n) (vP w t h n) m (a + 1) (tk ||| 2 ^ b)) (fun b => okE w t h n a b && !tk.testBit b) a (vP w t h n a) k b s).1 → ∀ c, c < n → u' 98 c = if c < a then P0 c else (bstep (fun b => mxC n (okE w t h n) (vP w t h n) m (a + 1) (tk ||| 2 ^ b)) (fun b => okE w t h n a b && !tk.testBit b) a (vP w t h n a) k b s).2 c) ∧ (¬ B0 < sum.toInt + (bstep (fun b => mxC n (okE w t h n) (vP w t h n) m (a + 1) (tk ||| 2 ^ b)) (fun b => okE w t h n a b && !tk.testBit b) a (vP w t h n a) k b s).1 → ∀ c, c < n → u' 98 c = Q0 c) := by
  have hp := pw10 hn
  intro k
  induction k with
  | zero =>
    intro b fu s s1 u h1 h2 hU e49 e50 e97 eq1 eq2
    obtain ⟨f, rfl⟩ : ∃ f, fu = f + 1 := ⟨fu - 1, by omega⟩
    refine ⟨xup u 97 a (-1), ?_, fun q a b c => xup_ne _ _ _ b, fun j _ _ => by rw [xup_ne _ _ _ (by decide)], by rw [xup_ne _ _ _ (by decide)]; exact e49, by rw [xup_ne _ _ _ (by decide)]; exact e50, fun i hi => by rw [xup_same, upd_n _ _ (by omega)]; exact e97 i hi, by rw [xup_ne _ _ _ (by decide)]; exact eq1, by rw [xup_ne _ _ _ (by decide)]; exact eq2⟩
    rw [f_X11_pairsFrom_L95, hU.1, if_pos (nI_le (by omega) (by omega)), xin_nI (by omega) (by decide), xchk_true, nI_clamp (by omega)]
  | succ k ih =>
    intro b fu s s1 u h1 h2 hU e49 e50 e97 eq1 eq2
    obtain ⟨f, rfl⟩ : ∃ f, fu = f + 1 := ⟨fu - 1, by omega⟩
    have hbn : b < n := by omega
    have e10 : (10 : Int32) * nI a = nI (10 * a) := pk_mul 10 a
    have htab := hU.2.2 a b (by omega) hbn
    rw [f_X11_pairsFrom_L95, hU.1, if_neg (nI_ge (by omega) (by omega)), xin_nI (n := 10) (by omega) (by decide), xchk_true, nI_clamp (n := a) (by omega), hU.2.1 a (by omega), if_pos hi, e10, nI_add, xin_nI (by omega) (by decide), xchk_true, nI_clamp (by omega), htab, nI_1, bstep_s, bstep_s]
    simp only [xlet_eq]
    have vb := vP_bd hR (t := t) hh hn a b
    have bdP := mxC_bd (fun x y _ => (vP_bd hR (t := t) hh hn x y).2) m (a + 1) (tk ||| 2 ^ b) (n := n) (ok := okE w t h n) (v := vP w t h n)
    by_cases c1 : okE w t h n a b = true
    · have ep : pvM w t h n a b = pbE w t h n a b := if_pos c1
      have np : ¬ pbE w t h n a b = -100000 := fun z => by
        have q : vP w t h n a b = -100000 := by unfold vP; rw [z]; rfl
        omega
      rw [ep, if_neg np]
      cases c2 : tk.testBit b
      · rw [if_pos ((b_off (by omega) (by omega)).mpr c2), xchk_true, xchk_true, b_tk hn htk hbn]
        have hcond : (okE w t h n a b && !false) = true := by rw [c1]; rfl
        have hm1 : (many + 1).toInt = many.toInt + 1 := t_add rfl rfl (by omega) (by omega)
        have hs1 : (sum + pbE w t h n a b).toInt = sum.toInt + vP w t h n a b := t_add (q := vP w t h n a b) rfl rfl (by omega) (by omega)
        have hz : TwM w t h n (xup u 97 a (nI b)) := hU.cg (by rw [xup_ne _ _ _ (by decide)]) (xup_ne _ _ _ (by decide)) (xup_ne _ _ _ (by decide))
        obtain ⟨z, p1, q1, q2, q3, q4, q5, q6, q7⟩ := hrec (tk ||| 2 ^ b) (many + 1) (sum + pbE w t h n a b) (xup u 97 a (nI b)) (tk_or htk hbn) hz (by rw [hm1]; omega) (by rw [hs1]; omega)
        rw [hm1] at q3
        rw [hs1] at q4 q6 q7
        have k71 : ∀ j, xup u 97 a (nI b) 71 j = u 71 j := fun j => by rw [xup_ne _ _ _ (by decide)]
        rw [k71] at q3 q4 q6 q7
        rw [e50] at q4 q6 q7
        rw [e49] at q3
        have Uz : TwM w t h n z := hz.cg (by rw [q2 3 (by decide) (by decide)]) (q1 74 (by decide) (by decide) (by decide)) (q1 96 (by decide) (by decide) (by decide))
        rw [nI_1 a, p1, xbind_some]
        obtain ⟨u', r1, r2, r3, r4⟩ := ih (b + 1) f
          (if (okE w t h n a b && !false) = true ∧ s.1 < vP w t h n a b + (mxC n (okE w t h n) (vP w t h n) m (a + 1) (tk ||| 2 ^ b)).1 then (vP w t h n a b + (mxC n (okE w t h n) (vP w t h n) m (a + 1) (tk ||| 2 ^ b)).1, upd (mxC n (okE w t h n) (vP w t h n) m (a + 1) (tk ||| 2 ^ b)).2 a (nI b)) else s)
          (if (okE w t h n a b && !false) = true ∧ s1.1 < v1 a b + (mxC n (okE w t h n) v1 m (a + 1) (tk ||| 2 ^ b)).1 then (v1 a b + (mxC n (okE w t h n) v1 m (a + 1) (tk ||| 2 ^ b)).1, upd (mxC n (okE w t h n) v1 m (a + 1) (tk ||| 2 ^ b)).2 a (nI b)) else s1)
          z (by omega) (by omega) Uz (by
            rw [q3]
            show mxI (mxI M0 (many.toInt + s1.1)) (many.toInt + 1 + (mxC n (okE w t h n) v1 m (a + 1) (tk ||| 2 ^ b)).1) = _
            have ev : v1 a b = 1 := rfl
            rw [ev]
            generalize (mxC n (okE w t h n) v1 m (a + 1) (tk ||| 2 ^ b)) = G
            by_cases d : s1.1 < 1 + G.1
            · rw [if_pos ⟨hcond, d⟩]
              show mxI (mxI M0 (many.toInt + s1.1)) (many.toInt + 1 + G.1) = mxI M0 (many.toInt + (1 + G.1))
              unfold mxI
              split <;> split <;> split <;> omega
            · rw [if_neg (fun y => d y.2)]
              unfold mxI
              split <;> split <;> (try split) <;> omega) (by
            rw [q4]
            generalize (mxC n (okE w t h n) (vP w t h n) m (a + 1) (tk ||| 2 ^ b)) = G
            by_cases d : s.1 < vP w t h n a b + G.1
            · rw [if_pos ⟨hcond, d⟩]
              show mxI (mxI B0 (sum.toInt + s.1)) (sum.toInt + vP w t h n a b + G.1) = mxI B0 (sum.toInt + (vP w t h n a b + G.1))
              unfold mxI
              split <;> split <;> split <;> omega
            · rw [if_neg (fun y => d y.2)]
              unfold mxI
              split <;> split <;> (try split) <;> omega) (fun i hi => by rw [q5 i (by omega), xup_same, upd_n _ _ (by omega)]; exact e97 i hi) (by
            by_cases d : s.1 < vP w t h n a b + (mxC n (okE w t h n) (vP w t h n) m (a + 1) (tk ||| 2 ^ b)).1
            · rw [if_pos ⟨hcond, d⟩]
              intro hlt c hc
              have hlt2 : B0 < sum.toInt + (vP w t h n a b + (mxC n (okE w t h n) (vP w t h n) m (a + 1) (tk ||| 2 ^ b)).1) := hlt
              rw [q6 (by unfold mxI; split <;> omega) c hc]
              show _ = if c < a then P0 c else upd (mxC n (okE w t h n) (vP w t h n) m (a + 1) (tk ||| 2 ^ b)).2 a (nI b) c
              rw [xup_same]
              by_cases e : c < a
              · rw [if_pos (by omega), if_pos e, upd_n _ _ (by omega), e97 c e]
              · rw [if_neg e]
                by_cases e2 : c = a
                · rw [e2, if_pos (by omega), upd_s, upd_s]
                · rw [if_neg (by omega), upd_n _ _ e2]
            · rw [if_neg (fun y => d y.2)]
              intro hlt c hc
              rw [q7 (by unfold mxI; split <;> omega) c hc, xup_ne _ _ _ (by decide)]
              exact eq1 hlt c hc) (by
            by_cases d : s.1 < vP w t h n a b + (mxC n (okE w t h n) (vP w t h n) m (a + 1) (tk ||| 2 ^ b)).1
            · rw [if_pos ⟨hcond, d⟩]
              intro hlt c hc
              have hlt2 : ¬ B0 < sum.toInt + (vP w t h n a b + (mxC n (okE w t h n) (vP w t h n) m (a + 1) (tk ||| 2 ^ b)).1) := hlt
              rw [q7 (by unfold mxI; split <;> omega) c hc, xup_ne _ _ _ (by decide)]
              exact eq2 (by omega) c hc
            · rw [if_neg (fun y => d y.2)]
              intro hlt c hc
              rw [q7 (by unfold mxI; split <;> omega) c hc, xup_ne _ _ _ (by decide)]
              exact eq2 hlt c hc)
        exact ⟨u', r1, fun q a b c => by rw [r2 q a b c, q1 q a b c, xup_ne _ _ _ b], fun j a b => by rw [r3 j a b, q2 j a b, k71], r4⟩
      · rw [if_neg (fun z => by have := (b_off (by omega) (by omega)).mp z; rw [c2] at this; exact absurd this (by decide)), Bool.not_true, Bool.and_false, if_neg (fun y => absurd y.1 (by decide)), if_neg (fun y => absurd y.1 (by decide))]
        exact ih (b + 1) f s s1 u (by omega) (by omega) hU e49 e50 e97 eq1 eq2
    · have ep : pvM w t h n a b = -100000 := if_neg c1
      have cf : okE w t h n a b = false := by simpa using c1
      rw [ep, if_pos rfl, cf, Bool.false_and, if_neg (fun y => absurd y.1 (by decide)), if_neg (fun y => absurd y.1 (by decide))]
      exact ih (b + 1) f s s1 u (by omega) (by omega) hU e49 e50 e97 eq1 eq2
theorem s_pf {w : xI} (hR : Rel w) {t h n : Nat} (hh : h ≤ 10) (hn : n ≤ 10) : ∀ (m a fu tk : Nat) (many sum : Int32) (u : xI), a + m = n → m < fu → tk < 2 ^ n → TwM w t h n u → (0 ≤ many.toInt ∧ many.toInt ≤ a) → (-1980 * a ≤ sum.toInt ∧ sum.toInt ≤ 1980 * a) → ∃ u', f_X11_pairsFrom fu (nI a) (nI tk) many sum u = some ((), u') ∧ PfP w t h n m a tk many sum u u' := by
  intro m
  induction m with
  | zero =>
    intro a fu tk many sum u h1 h2 htk hU hm hs
    obtain ⟨f, rfl⟩ : ∃ f, fu = f + 1 := ⟨fu - 1, by omega⟩
    have ha : a = n := by omega
    subst ha
    rw [f_X11_pairsFrom, f_X11_pairsFrom_o, hU.1, if_pos rfl]
    -- with the counts settled as v
    have go : ∀ v : Int32, v.toInt = mxI (u 71 49).toInt many.toInt → ∃ u', (if sum ≤ u 71 50 then some ((), xup u 71 49 v) else f_X11_pairsFrom_L46 (f_X11_pairsFrom f) 2000 0 (xup (xup u 71 49 v) 71 50 sum)) = some ((), u') ∧ PfP w t h a 0 a tk many sum u u' := by
      intro v hv
      by_cases c : sum ≤ u 71 50
      · rw [if_pos c]
        have c' := i_le.mp c
        refine ⟨_, rfl, fun q a b d => xup_ne _ _ _ a, fun j j1 j2 => by rw [xup_same, upd_n _ _ j1], ?_, ?_, fun i _ => by rw [xup_ne _ _ _ (by decide)], fun hlt => ?_, fun _ c hc => by rw [xup_ne _ _ _ (by decide)]⟩
        · rw [xup_same, upd_s, hv]; show _ = mxI _ (many.toInt + 0); rw [Int.add_zero]
        · rw [xup_same, upd_n _ _ (by decide)]; show _ = mxI _ (sum.toInt + 0); unfold mxI; rw [if_neg (by omega)]
        · have hlt2 : (u 71 50).toInt < sum.toInt + 0 := hlt
          omega
      · rw [if_neg c]
        have c' : (u 71 50).toInt < sum.toInt := i_lt.mp (Int32.not_le.mp c)
        obtain ⟨z, z1, z2, z3⟩ := s_cp46 (f_X11_pairsFrom f) 10 0 2000 (xup (xup u 71 49 v) 71 50 sum) (by omega) (by omega)
        rw [nI_0] at z1
        refine ⟨z, z1, fun q a b d => by rw [z2 q d, xup_ne _ _ _ a, xup_ne _ _ _ a], fun j j1 j2 => by rw [z2 71 (by decide), xup_same, upd_n _ _ j2, xup_same, upd_n _ _ j1], ?_, ?_, fun i _ => by rw [z2 97 (by decide), xup_ne _ _ _ (by decide), xup_ne _ _ _ (by decide)], fun hlt c hc => ?_, fun hlt => ?_⟩
        · rw [z2 71 (by decide), xup_same, upd_n _ _ (by decide), xup_same, upd_s, hv]; show _ = mxI _ (many.toInt + 0); rw [Int.add_zero]
        · rw [z2 71 (by decide), xup_same, upd_s]; show _ = mxI _ (sum.toInt + 0); unfold mxI; rw [if_pos (by omega)]; omega
        · rw [z3 c (by omega), if_pos (Nat.zero_le _), if_pos hc, xup_ne _ _ _ (by decide), xup_ne _ _ _ (by decide)]
        · have hlt2 : ¬ (u 71 50).toInt < sum.toInt + 0 := hlt
          omega
    by_cases c : many ≤ u 71 49
    · rw [if_pos c]
      exact go _ (by have := i_le.mp c; unfold mxI; rw [if_neg (by omega)])
    · rw [if_neg c]
      exact go _ (by have := i_lt.mp (Int32.not_le.mp c); unfold mxI; rw [if_pos this])
  | succ m ih =>
    intro a fu tk many sum u h1 h2 htk hU hm hs
    obtain ⟨f, rfl⟩ : ∃ f, fu = f + 1 := ⟨fu - 1, by omega⟩
    have hU1 : TwM w t h n (xup u 97 a (-1)) := hU.cg (by rw [xup_ne _ _ _ (by decide)]) (xup_ne _ _ _ (by decide)) (xup_ne _ _ _ (by decide))
    obtain ⟨z, p1, q1, q2, q3, q4, q5, q6, q7⟩ := ih (a + 1) f tk many sum (xup u 97 a (-1)) (by omega) (by omega) htk hU1 (by omega) (by omega)
    have k71 : ∀ j, xup u 97 a (-1) 71 j = u 71 j := fun j => by rw [xup_ne _ _ _ (by decide)]
    rw [k71] at q3 q4 q6 q7
    have Uz : TwM w t h n z := hU1.cg (by rw [q2 3 (by decide) (by decide)]) (q1 74 (by decide) (by decide) (by decide)) (q1 96 (by decide) (by decide) (by decide))
    have hne : ¬ nI a = nI n := fun y => absurd ((nI_eq (by omega) (by omega)).mp y) (by omega)
    rw [f_X11_pairsFrom, f_X11_pairsFrom_o, hU.1, if_neg hne, xin_nI (by omega) (by decide), xchk_true, nI_1, nI_clamp (by omega), p1, xbind_some]
    have eP : mxC n (okE w t h n) (vP w t h n) (m + 1) a tk = bstep (fun b => mxC n (okE w t h n) (vP w t h n) m (a + 1) (tk ||| 2 ^ b)) (fun b => okE w t h n a b && !tk.testBit b) a (vP w t h n a) n 0 ((mxC n (okE w t h n) (vP w t h n) m (a + 1) tk).1, upd (mxC n (okE w t h n) (vP w t h n) m (a + 1) tk).2 a (-1)) := rfl
    have e1 : mxC n (okE w t h n) v1 (m + 1) a tk = bstep (fun b => mxC n (okE w t h n) v1 m (a + 1) (tk ||| 2 ^ b)) (fun b => okE w t h n a b && !tk.testBit b) a (v1 a) n 0 ((mxC n (okE w t h n) v1 m (a + 1) tk).1, upd (mxC n (okE w t h n) v1 m (a + 1) tk).2 a (-1)) := rfl
    have Qz : (u 71 50).toInt < sum.toInt + (mxC n (okE w t h n) (vP w t h n) m (a + 1) tk).1 → ∀ c, c < n → z 98 c = if c < a then u 97 c else upd (mxC n (okE w t h n) (vP w t h n) m (a + 1) tk).2 a (-1) c := by
      intro hlt c hc
      rw [q6 hlt c hc, xup_same]
      by_cases e : c < a
      · rw [if_pos (by omega), if_pos e, upd_n _ _ (by omega)]
      · rw [if_neg e]
        by_cases e2 : c = a
        · rw [e2, if_pos (by omega), upd_s, upd_s]
        · rw [if_neg (by omega), upd_n _ _ e2]
    have Qn : ¬ (u 71 50).toInt < sum.toInt + (mxC n (okE w t h n) (vP w t h n) m (a + 1) tk).1 → ∀ c, c < n → z 98 c = u 98 c := fun hlt c hc => by rw [q7 hlt c hc, xup_ne _ _ _ (by decide)]
    have z97 : ∀ i, i < a → z 97 i = u 97 i := fun i hi => by rw [q5 i (by omega), xup_same, upd_n _ _ (by omega)]
    by_cases c : w (8 + a) 0 = 1
    · obtain ⟨u', r1, r2, r3, r4, r5, r6, r7, r8⟩ := s_pfL hR hh hn (m := m) (a := a) h1 htk (f_X11_pairsFrom f) hm hs (fun tk2 many2 sum2 y g1 g2 g3 g4 => ih (a + 1) f tk2 many2 sum2 y (by omega) (by omega) g1 g2 g3 g4) c (u 71 49).toInt (u 71 50).toInt (u 97) (u 98) n 0 2000 ((mxC n (okE w t h n) (vP w t h n) m (a + 1) tk).1, upd (mxC n (okE w t h n) (vP w t h n) m (a + 1) tk).2 a (-1)) ((mxC n (okE w t h n) v1 m (a + 1) tk).1, upd (mxC n (okE w t h n) v1 m (a + 1) tk).2 a (-1)) z (by omega) (by omega) Uz q3 q4 z97 Qz Qn
      rw [nI_0] at r1
      refine ⟨u', r1, fun q a b d => by rw [r2 q a b d, q1 q a b d, xup_ne _ _ _ b], fun j j1 j2 => by rw [r3 j j1 j2, q2 j j1 j2, k71], ?_, ?_, r6, ?_, ?_⟩
      · rw [e1]; exact r4
      · rw [eP]; exact r5
      · rw [eP]; exact r7
      · rw [eP]; exact r8
    · have no : ∀ (tk : Nat) (i : Nat), (okE w t h n a i && !tk.testBit i) = false := by
        intro tk i
        cases e : okE w t h n a i
        · rfl
        · exact absurd (of_decide_eq_true (okE_iff.mp e).1) c
      refine ⟨xup z 97 a (-1), ?_, fun q a b d => by rw [xup_ne _ _ _ b, q1 q a b d, xup_ne _ _ _ b], fun j j1 j2 => by rw [xup_ne _ _ _ (by decide), q2 j j1 j2, k71], ?_, ?_, fun i hi => by rw [xup_same, upd_n _ _ (by omega)]; exact z97 i hi, ?_, ?_⟩
      · rw [f_X11_pairsFrom_L95, Uz.1, if_neg (show ¬ nI n ≤ 0 from nI_nle (by omega) (by omega)), xin_nI (by omega) (by decide), xchk_true, nI_clamp (by omega), Uz.2.1 a (by omega), if_neg c, xchk_true]
      · rw [xup_ne _ _ _ (by decide), e1, bstep_no n 0 _ (fun i _ _ => no tk i)]; exact q3
      · rw [xup_ne _ _ _ (by decide), eP, bstep_no n 0 _ (fun i _ _ => no tk i)]; exact q4
      · rw [eP, bstep_no n 0 _ (fun i _ _ => no tk i), xup_ne _ _ _ (by decide)]; exact Qz
      · rw [eP, bstep_no n 0 _ (fun i _ _ => no tk i), xup_ne _ _ _ (by decide)]; exact Qn
