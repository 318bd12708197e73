-- ===== the component reads downwards: what rd says =====
theorem rb_none {x : Nat × Option (List Int32)} {k : Nat → List Int32 → Nat × Option (List Int32)} {f : Nat} (h : rb x k = (f, none)) : x = (f, none) ∨ ∃ p c, x = (p, some c) ∧ k p c = (f, none) := by
  obtain ⟨x1, x2⟩ := x
  cases x2 with
  | none => exact Or.inl h
  | some c => exact Or.inr ⟨x1, c, rfl, h⟩
theorem lpT_fb {T : Nat → Int32} {z : Nat} {rec : Nat → Nat × Option (List Int32)} {L : Nat} (hrec : ∀ p p' c, p ≤ z → rec p = (p', some c) → p' ≤ z) (hf : ∀ p f, p ≤ z → rec p = (f, none) → f ≤ z) : ∀ (k p : Nat) (c : List Int32) (f : Nat), p ≤ z → lpT T z rec L k p c = (f, none) → f ≤ z := by
  intro k
  induction k with
  | zero => intro p c f hp h; exact absurd (congrArg Prod.snd h) (by simp [lpT])
  | succ k ih =>
    intro p c f hp h
    have h' : (if jnT L (lxT T z p) = true then rb (rec (lxR T z p)) (fun p2 c2 => lpT T z rec L k p2 (c ++ c2 ++ [lxT T z p])) else (p, some c)) = (f, none) := h
    by_cases j : jnT L (lxT T z p) = true
    · rw [if_pos j] at h'
      have lt := lx_lt hp (jn_tok j).2
      rcases rb_none h' with g | ⟨p2, c2, h1, h2⟩
      · exact hf _ _ lt.2.1 g
      · exact ih p2 _ f (hrec _ _ _ lt.2.1 h1) h2
    · rw [if_neg j] at h'
      exact absurd (congrArg Prod.snd h') (by simp)
theorem rd_fb {T : Nat → Int32} {z : Nat} : ∀ (fu L op p f : Nat), p ≤ z → rd T z fu L op p = (f, none) → f ≤ z := by
  intro fu
  induction fu with
  | zero => intro L op p f _ h; have : 0 = f := congrArg Prod.fst h; omega
  | succ fu ih =>
    intro L op p f hp h
    have b := lx_bd (T := T) hp
    have here : (lxQ T z p, (none : Option (List Int32))) = (f, none) → f ≤ z := fun e => by have : lxQ T z p = f := congrArg Prod.fst e; omega
    rw [rd] at h
    by_cases c5 : L = 5
    · rw [if_pos c5] at h
      by_cases t1 : -6 ≤ lxT T z p
      · rw [if_pos t1] at h
        exact absurd (congrArg Prod.snd h) (by simp)
      · rw [if_neg t1] at h
        by_cases t2 : lxT T z p = -13
        · rw [if_pos t2] at h
          have lt := lx_lt hp (by rw [t2]; decide)
          by_cases o : op < 5
          · rw [if_pos o] at h
            rcases rb_none h with g | ⟨p1, c1, h1, h2⟩
            · exact ih _ _ _ _ lt.2.1 g
            · exact absurd (congrArg Prod.snd h2) (by simp)
          · rw [if_neg o] at h; exact here h
        · rw [if_neg t2] at h
          by_cases t3 : lxT T z p = -16
          · rw [if_pos t3] at h
            have lt := lx_lt hp (by rw [t3]; decide)
            by_cases o : op < 5
            · rw [if_pos o] at h
              rcases rb_none h with g | ⟨p1, c1, h1, h2⟩
              · exact ih _ _ _ _ lt.2.1 g
              · have g2 := (rd_bd _ _ _ _ _ _ lt.2.1 h1).2.1
                by_cases t4 : lxT T z p1 = -17
                · rw [if_pos t4] at h2; exact absurd (congrArg Prod.snd h2) (by simp)
                · rw [if_neg t4] at h2
                  have e : lxQ T z p1 = f := congrArg Prod.fst h2
                  have := lx_bd (T := T) g2
                  omega
            · rw [if_neg o] at h; exact here h
          · rw [if_neg t3] at h; exact here h
    · rw [if_neg c5] at h
      by_cases c2 : L = 2 ∧ lxT T z p = -9
      · rw [if_pos c2] at h
        have lt := lx_lt hp (by rw [c2.2]; decide)
        by_cases o : op < 5
        · rw [if_pos o] at h
          rcases rb_none h with g | ⟨p1, c1, h1, h2⟩
          · exact ih _ _ _ _ lt.2.1 g
          · exact absurd (congrArg Prod.snd h2) (by simp)
        · rw [if_neg o] at h; exact here h
      · rw [if_neg c2] at h
        rcases rb_none h with g | ⟨p1, c1, h1, h2⟩
        · exact ih _ _ _ _ hp g
        · exact lpT_fb (fun x x' cc hx hh => (rd_bd _ _ _ _ _ _ hx hh).2.1) (fun x x' hx hh => ih _ _ _ _ hx hh) _ _ _ _ (rd_bd _ _ _ _ _ _ hp h1).2.1 h2
theorem xup_id' {u : xI} {k j : Nat} {x : Int32} (h : u k j = x) : xup u k j x = u := by
  funext q
  by_cases c : q = k
  · rw [c, xup_same, upd_id _ _ h]
  · exact xup_ne _ _ _ c
theorem s_failB {u : xI} {f : Nat} (hf : f < 2 ^ 31) (h4 : u 19 4 = -23) (h6 : u 19 6 = nI f) : f_X4_fail u = some ((), u) := by
  unfold f_X4_fail
  rw [if_neg (by rw [h6]; exact nI_m1 hf), xup_id' h4]
/-- what readLevel does of a level whose part is the next level's -/
def rdl_n (rec : Int32 → xI → Option (Unit × xI)) (v1 : Int32) (w : xI) : Option (Unit × xI) := xbind (rec (v1 + (1 : Int32)) w) fun _ w2 => if v1 = (2 : Int32) then (f_X4_readLevel_L76 rec 2000 v1 (1 : Int32) (0 : Int32) w2) else (f_X4_readLevel_L76 rec 2000 v1 (160 : Int32) (0 : Int32) w2)
theorem rdl_o (rec : Int32 → xI → Option (Unit × xI)) (a : Int32) (w : xI) : f_X4_readLevel_o rec a w = if a = (5 : Int32) then (if (w 19 4) = (-13 : Int32) then (xbind (f_X4_readBehind rec (5 : Int32) (-15 : Int32) w) fun _ w2 => some ((), w2)) else (xbind (f_X4_readOne rec w) fun _ w2 => some ((), w2))) else (if a = (2 : Int32) then (if (w 19 4) = (-9 : Int32) then (xbind (f_X4_readBehind rec (2 : Int32) (-9 : Int32) w) fun _ w2 => some ((), w2)) else rdl_n rec a w) else rdl_n rec a w) := by
  unfold f_X4_readLevel_o f_X4_readLevel_L44 rdl_n
  by_cases c5 : a = 5
  · rw [c5, if_neg (by decide), if_pos rfl, if_pos rfl, if_pos rfl]
  · rw [if_neg c5, if_neg c5, if_neg c5]
    by_cases c2 : a = 2
    · rw [c2]
    · rw [if_neg c2, if_neg c2]
theorem s_lpB {rec : Int32 → xI → Option (Unit × xI)} {L : Nat} (hL : L ≤ 4) (m i : Int32) {u : xI} (h4 : u 19 4 = -23) (fu : Nat) : f_X4_readLevel_L76 rec (fu + 1) (nI L) m i u = some ((), u) := by
  rw [f_X4_readLevel_L76]
  by_cases c : m ≤ i
  · rw [if_pos c]
  · rw [if_neg c, s_joins hL, h4, if_neg (by rw [jn_23]; decide), if_pos rfl]
theorem s_rdB {f : Nat} (hf : f < 2 ^ 31) {u : xI} (h4 : u 19 4 = -23) (h6 : u 19 6 = nI f) : ∀ (fu L : Nat), L ≤ 5 → 6 - L ≤ fu → f_X4_readLevel fu (nI L) u = some ((), u) := by
  intro fu
  induction fu with
  | zero => intro L h1 h2; omega
  | succ fu ih =>
    intro L h1 h2
    have go : L ≤ 4 → rdl_n (f_X4_readLevel fu) (nI L) u = some ((), u) := fun h4' => by
      unfold rdl_n
      rw [nI_1, ih (L + 1) (by omega) (by omega), xbind_some]
      by_cases c : nI L = 2
      · rw [if_pos c]; exact s_lpB h4' _ _ h4 _
      · rw [if_neg c]; exact s_lpB h4' _ _ h4 _
    rw [f_X4_readLevel]
    rw [rdl_o]
    by_cases c5 : nI L = 5
    · rw [if_pos c5, h4, if_neg (by decide)]
      unfold f_X4_readOne
      rw [h4, if_pos (by decide), if_neg (by decide), s_failB hf h4 h6, xbind_some, xbind_some]
    · rw [if_neg c5]
      have hL : L ≤ 4 := by
        by_cases e : L = 5
        · exact absurd (by rw [e]; rfl) c5
        · omega
      by_cases c2 : nI L = 2
      · rw [if_pos c2, if_neg (by rw [h4]; decide)]; exact go hL
      · rw [if_neg c2]; exact go hL
theorem s_lp {T : Nat → Int32} {z t op : Nat} (ht : t < 6) (hz : z ≤ 160) {rec : Int32 → xI → Option (Unit × xI)} {rd' : Nat → Nat × Option (List Int32)} {L : Nat} (hL : L ≤ 4) (hrec : ∀ p s u, s ≤ p → p ≤ z → Rs T z t p op s u → ∃ u', rec (nI (L + 1)) u = some ((), u') ∧ RdP T z t op s u (rd' p) u') (hbd : ∀ p p' c, p ≤ z → rd' p = (p', some c) → p < p' ∧ p' ≤ z ∧ c.length ≤ p' - p) {most : Nat} (hm : most ≤ 160) : ∀ (k i fu p s : Nat) (u : xI), k + i = most → k < fu → s ≤ p → p ≤ z → Rs T z t p op s u → ∀ (c0 : List Int32) (s0 : Nat) (u0 : xI), s = s0 + c0.length → Cd t u0 s0 c0 u → FrA t u0 u → ∃ u', f_X4_readLevel_L76 rec fu (nI L) (nI most) (nI i) u = some ((), u') ∧ RdP T z t op s0 u0 (lpT T z rd' L k p c0) u' := by
  intro k
  induction k with
  | zero =>
    intro i fu p s u e hf hs hp h c0 s0 u0 es hc hfr
    obtain ⟨fu, rfl⟩ : ∃ g, fu = g + 1 := ⟨fu - 1, by omega⟩
    refine ⟨u, ?_, hfr, fun c q => ?_, fun q => absurd q (by simp [lpT])⟩
    · rw [f_X4_readLevel_L76, if_pos (show nI most ≤ nI i from nI_le (by omega) (by omega))]
    · have e1 : c0 = c := Option.some.inj q
      rw [← e1]
      exact ⟨es ▸ h, hc⟩
  | succ k ih =>
    intro i fu p s u e hf hs hp h c0 s0 u0 es hc hfr
    obtain ⟨fu, rfl⟩ : ∃ g, fu = g + 1 := ⟨fu - 1, by omega⟩
    have e0 : f_X4_readLevel_L76 rec (fu + 1) (nI L) (nI most) (nI i) u = if jnT L (lxT T z p) = true then (xlet (u 19 4) fun x54003 => xbind (f_X4_advance u) fun r54004 w54005 => xbind (rec (nI L + (1 : Int32)) w54005) fun r54006 w54007 => xchk (isTx (w54007 19 7)) (xlet (w54007 19 7).toNatClampNeg fun o54009 => xbind (f_X7_add o54009 x54003 w54007) fun r54012 w54013 => xlet (nI i + (1 : Int32)) fun x54014 => f_X4_readLevel_L76 rec fu (nI L) (nI most) x54014 w54013)) else some ((), u) := by
      rw [f_X4_readLevel_L76, if_neg (show ¬ nI most ≤ nI i from nI_ge (by omega) (by omega)), s_joins hL, h.2.2.2.2.1]
      by_cases c : jnT L (lxT T z p) = true
      · rw [if_pos c, if_pos c, if_neg (by decide)]
      · rw [if_neg c, if_neg c, if_pos rfl]
    have e1 : lpT T z rd' L (k + 1) p c0 = if jnT L (lxT T z p) = true then rb (rd' (lxR T z p)) (fun p2 c2 => lpT T z rd' L k p2 (c0 ++ c2 ++ [lxT T z p])) else (p, some c0) := rfl
    rw [e0, e1]
    by_cases c : jnT L (lxT T z p) = true
    · rw [if_pos c, if_pos c]
      have lt := lx_lt hp (jn_tok c).2
      obtain ⟨u1, r1, r2, r3, r4⟩ := Rs.next (γ := Unit × xI) ht hz lt.2.1 h
      obtain ⟨u2, q1, q2⟩ := hrec (lxR T z p) s u1 (by omega) lt.2.1 r2
      have e7 : u2 19 7 = Int32.ofNat (39 + 4 * t) := by rw [q2.1.2.1 7 (by decide)]; exact r2.2.2.2.2.2.2.2.1
      simp only [xlet_eq]
      rw [r1, nI_1, q1, xbind_some, e7, (txI ht).1, xchk_true, (txI ht).2, h.2.2.2.2.1, nI_1]
      rcases hR : rd' (lxR T z p) with ⟨p2, oc⟩
      rw [hR] at q2
      cases oc with
      | none =>
        obtain ⟨b1, b2, s', b3, b4⟩ := q2.2.2 rfl
        obtain ⟨u3, v1, v2, v3, v4⟩ := s_addB (γ := Unit × xI) ht b3 (lxT T z p) b4
        rw [v1]
        obtain ⟨fu, rfl⟩ : ∃ g, fu = g + 1 := ⟨fu - 1, by omega⟩
        refine ⟨u3, s_lpB hL _ _ (by rw [v4]; exact b1) _, ((hfr.tr r3).tr q2.1).tr v2, fun c q => absurd q (by simp [rb]), fun _ => ⟨by rw [v4]; exact b1, by rw [v4]; exact b2, v3⟩⟩
      | some c2 =>
        obtain ⟨d1, d2, d3⟩ := hbd _ _ _ lt.2.1 hR
        obtain ⟨b1, b2⟩ := q2.2.1 c2 rfl
        obtain ⟨u3, v1, v2, v3, v4, v5, v6⟩ := s_add (γ := Unit × xI) (s := s + c2.length) ht (by omega) (lxT T z p) b1.2.2.2.2.2.2.2.2
        rw [v1]
        have b1' : Rs T z t p2 op (s + c2.length + 1) u3 := by
          obtain ⟨a1, a2, a3, a4, a5, a6, a7, a8, a9⟩ := b1
          exact ⟨by rw [v6]; exact a1, by rw [v5]; exact a2, by rw [v5]; exact a3, by rw [v5]; exact a4, by rw [v5]; exact a5, by rw [v5]; exact a6, by rw [v5]; exact a7, by rw [v5]; exact a8, v4⟩
        have cd : Cd t u0 s0 (c0 ++ c2 ++ [lxT T z p]) u3 := by
          refine Cd.app (u1 := u2) (Cd.app (u1 := u) hc ?_) ?_
          · rw [← es]; exact b2.from' r4
          · rw [List.length_append, ← Nat.add_assoc, ← es]; exact v3
        exact ih (i + 1) fu p2 _ u3 (by omega) (by omega) (by omega) d2 b1' _ s0 u0 (by rw [List.length_append, List.length_append, List.length_singleton]; omega) cd (((hfr.tr r3).tr q2.1).tr v2)
    · rw [if_neg c, if_neg c]
      refine ⟨u, rfl, hfr, fun c q => ?_, fun q => absurd q (by simp)⟩
      have e1 : c0 = c := Option.some.inj q
      rw [← e1]
      exact ⟨es ▸ h, hc⟩
/-- the state with one open less -/
theorem Rs.cl {T : Nat → Int32} {z t p op s : Nat} (ht : t < 6) {u : xI} (h : Rs T z t p (op + 1) s u) : Rs T z t p op s (xup u 19 5 (u 19 5 - 1)) := by
  obtain ⟨a1, a2, a3, a4, a5, a6, a7, a8, a9⟩ := h
  have j5 : ∀ j, j ≠ 5 → xup u 19 5 (u 19 5 - 1) 19 j = u 19 j := fun j hj => by rw [xup_same, upd_n _ _ hj]
  exact ⟨by rw [xup_ne _ _ _ (by decide)]; exact a1, by rw [j5 1 (by decide)]; exact a2, by rw [j5 2 (by decide)]; exact a3, by rw [j5 3 (by decide)]; exact a4, by rw [j5 4 (by decide)]; exact a5, by rw [xup_same, upd_s, a6, nI_pred], by rw [j5 6 (by decide)]; exact a7, by rw [j5 7 (by decide)]; exact a8, by rw [xup_ne _ _ _ (by omega)]; exact a9⟩
theorem s_behind {T : Nat → Int32} {z t op p s : Nat} (ht : t < 6) (hz : z ≤ 160) {rec : Int32 → xI → Option (Unit × xI)} {u : xI} (hr : lxR T z p ≤ z) (hs : s ≤ p) (hlt : p < lxR T z p) (h : Rs T z t p op s u) (ho : op ≤ 5) (a x : Int32) {rd' : Nat × Option (List Int32)} (hrec : op < 5 → ∀ u1, Rs T z t (lxR T z p) (op + 1) s u1 → ∃ u', rec a u1 = some ((), u') ∧ RdP T z t (op + 1) s u1 rd' u') (hbd : op < 5 → ∀ p' c, rd' = (p', some c) → lxR T z p < p' ∧ p' ≤ z ∧ c.length ≤ p' - lxR T z p) : ∃ u', f_X4_readBehind rec a x u = some ((), u') ∧ RdP T z t op s u (if op < 5 then rb rd' (fun p' c => (p', some (c ++ [x]))) else (lxQ T z p, none)) u' := by
  unfold f_X4_readBehind
  by_cases c : op < 5
  · obtain ⟨u1, r1, r2, r3, r4⟩ := s_opens (γ := Unit × xI) ht hz hr h c
    obtain ⟨u2, q1, q2⟩ := hrec c u1 r2
    have e7 : u2 19 7 = Int32.ofNat (39 + 4 * t) := by rw [q2.1.2.1 7 (by decide)]; exact r2.2.2.2.2.2.2.2.1
    rw [if_pos c, r1, if_neg (by decide), q1, xbind_some, e7, (txI ht).1, xchk_true]
    simp only [xlet_eq]
    rw [(txI ht).2]
    have f5 : FrA t u2 (xup u2 19 5 (u2 19 5 - 1)) := FrA.up ht (by decide)
    rcases rd' with ⟨p2, oc⟩
    cases oc with
    | none =>
      obtain ⟨b1, b2, s', b3, b4⟩ := q2.2.2 rfl
      obtain ⟨u3, v1, v2, v3, v4⟩ := s_addB (γ := Unit × xI) (u := xup u2 19 5 (u2 19 5 - 1)) ht b3 x (by rw [xup_ne _ _ _ (by omega)]; exact b4)
      rw [v1]
      refine ⟨u3, rfl, ((r3.tr q2.1).tr f5).tr v2, fun c q => absurd q (by simp [rb]), fun _ => ⟨?_, ?_, v3⟩⟩
      · rw [v4, xup_same, upd_n _ _ (by decide)]; exact b1
      · rw [v4, xup_same, upd_n _ _ (by decide)]; exact b2
    | some c2 =>
      obtain ⟨d1, d2, d3⟩ := hbd c _ _ rfl
      obtain ⟨b1, b2⟩ := q2.2.1 c2 rfl
      have bc := Rs.cl ht b1
      obtain ⟨u3, v1, v2, v3, v4, v5, v6⟩ := s_add (γ := Unit × xI) (s := s + c2.length) ht (by omega) x bc.2.2.2.2.2.2.2.2
      rw [v1]
      refine ⟨u3, rfl, ((r3.tr q2.1).tr f5).tr v2, fun c q => ?_, fun q => absurd q (by simp [rb])⟩
      have e1 : c2 ++ [x] = c := Option.some.inj q
      rw [← e1]
      obtain ⟨a1, a2, a3, a4, a5, a6, a7, a8, a9⟩ := bc
      refine ⟨⟨by rw [v6]; exact a1, by rw [v5]; exact a2, by rw [v5]; exact a3, by rw [v5]; exact a4, by rw [v5]; exact a5, by rw [v5]; exact a6, by rw [v5]; exact a7, by rw [v5]; exact a8, by rw [v4, List.length_append, List.length_singleton, Nat.add_assoc]⟩, Cd.app (u1 := u2) (b2.from' r4) (v3.from' (xup_ne _ _ _ (by omega)))⟩
  · obtain ⟨u1, r1, r2⟩ := s_opensN (γ := Unit × xI) ht h c ho (by have := hlt; omega)
    rw [if_neg c, r1, if_pos rfl]
    exact ⟨u1, rfl, r2⟩
theorem s_rd {T : Nat → Int32} {z t : Nat} (ht : t < 6) (hz : z ≤ 160) : ∀ (fu L op p s : Nat) (u : xI), L ≤ 5 → op ≤ 5 → (6 - L) + 6 * (5 - op) ≤ fu → s ≤ p → p ≤ z → Rs T z t p op s u → ∃ u', f_X4_readLevel fu (nI L) u = some ((), u') ∧ RdP T z t op s u (rd T z fu L op p) u' := by
  intro fu
  induction fu with
  | zero => intro L op p s u h1 h2 h3; omega
  | succ fu ih =>
    intro L op p s u hL ho hf hs hp h
    have bd : ∀ L' op' p0 p' c, p0 ≤ z → rd T z fu L' op' p0 = (p', some c) → p0 < p' ∧ p' ≤ z ∧ c.length ≤ p' - p0 := fun L' op' p0 p' c a b => by
      have := rd_bd fu L' op' p0 p' c a b
      exact ⟨this.1, this.2.1, this.2.2.1⟩
    have go : L ≤ 4 → ∃ u', rdl_n (f_X4_readLevel fu) (nI L) u = some ((), u') ∧ RdP T z t op s u (rb (rd T z fu (L + 1) op p) (fun p1 c1 => lpT T z (fun x => rd T z fu (L + 1) op x) L (if L = 2 then 1 else 160) p1 c1)) u' := fun hL4 => by
      obtain ⟨u1, r1, r2⟩ := ih (L + 1) op p s u (by omega) ho (by omega) hs hp h
      have eL : nI L = 2 ↔ L = 2 := nI_eq (b := 2) (by omega) (by decide)
      have lp := fun (m : Nat) (hm : m ≤ 160) (p1 : Nat) (c1 : List Int32) (hR : rd T z fu (L + 1) op p = (p1, some c1)) => s_lp (T := T) (z := z) (t := t) (op := op) ht hz hL4 (fun p s u a b cc => ih (L + 1) op p s u (by omega) ho (by omega) a b cc) (fun p p' c a b => bd (L + 1) op p p' c a b) hm m 0 2000 p1 (s + c1.length) u1 (by omega) (by omega) (by have := bd _ _ _ _ _ hp hR; omega) (bd _ _ _ _ _ hp hR).2.1 ((hR ▸ r2).2.1 c1 rfl).1 c1 s u rfl ((hR ▸ r2).2.1 c1 rfl).2 r2.1
      unfold rdl_n
      rw [nI_1, r1, xbind_some]
      rcases hR : rd T z fu (L + 1) op p with ⟨p1, oc⟩
      cases oc with
      | none =>
        rw [hR] at r2
        refine ⟨u1, ?_, r2⟩
        by_cases c : nI L = 2
        · rw [if_pos c]; exact s_lpB hL4 _ _ (r2.2.2 rfl).1 _
        · rw [if_neg c]; exact s_lpB hL4 _ _ (r2.2.2 rfl).1 _
      | some c1 =>
        show ∃ u', _ ∧ RdP T z t op s u (lpT T z (fun x => rd T z fu (L + 1) op x) L (if L = 2 then 1 else 160) p1 c1) u'
        by_cases c : L = 2
        · rw [if_pos (eL.mpr c), if_pos c]
          exact lp 1 (by omega) p1 c1 hR
        · rw [if_neg (fun y => c (eL.mp y)), if_neg c]
          exact lp 160 (by omega) p1 c1 hR
    rw [f_X4_readLevel, rdl_o]
    have e5 : nI L = 5 ↔ L = 5 := nI_eq (b := 5) (by omega) (by decide)
    have e2 : nI L = 2 ↔ L = 2 := nI_eq (b := 2) (by omega) (by decide)
    rw [rd]
    by_cases c5 : L = 5
    · rw [if_pos (e5.mpr c5), if_pos c5, h.2.2.2.2.1]
      by_cases t1 : -6 ≤ lxT T z p
      · have lt := lx_lt hp (fun y => by rw [y] at t1; exact absurd t1 (by decide))
        rw [if_neg (show lxT T z p ≠ -13 from fun y => by rw [y] at t1; exact absurd t1 (by decide))]
        unfold f_X4_readOne
        rw [h.2.2.2.2.1, if_neg (Int32.not_lt.mpr t1), if_pos t1, h.2.2.2.2.2.2.2.1, (txI ht).1, xchk_true]
        simp only [xlet_eq]
        rw [(txI ht).2]
        obtain ⟨u3, v1, v2, v3, v4, v5, v6⟩ := s_add (γ := Unit × xI) (s := s) ht (by omega) (lxT T z p) h.2.2.2.2.2.2.2.2
        obtain ⟨a1, a2, a3, a4, a5, a6, a7, a8, a9⟩ := h
        obtain ⟨u4, r1, r2, r3, r4⟩ := Rs.next (γ := Unit × xI) (T := T) (z := z) (t := t) (p := p) (op := op) (s := s + 1) (u := u3) ht hz lt.2.1 ⟨by rw [v6]; exact a1, by rw [v5]; exact a2, by rw [v5]; exact a3, by rw [v5]; exact a4, by rw [v5]; exact a5, by rw [v5]; exact a6, by rw [v5]; exact a7, by rw [v5]; exact a8, v4⟩
        rw [v1, r1, xbind_some]
        refine ⟨u4, rfl, v2.tr r3, fun c q => ?_, fun q => absurd q (by simp)⟩
        have e1 : [lxT T z p] = c := Option.some.inj q
        rw [← e1]
        exact ⟨r2, v3.same r4⟩
      · by_cases t2 : lxT T z p = -13
        · have lt := lx_lt hp (by rw [t2]; decide)
          obtain ⟨u', w1, w2⟩ := s_behind (rec := f_X4_readLevel fu) ht hz lt.2.1 hs lt.1 h ho 5 (-15) (rd' := rd T z fu 5 (op + 1) (lxR T z p)) (fun o5 u1 hu => ih 5 (op + 1) (lxR T z p) s u1 (by omega) (by omega) (by omega) (by omega) lt.2.1 hu) (fun o5 p' c e => bd _ _ _ _ _ lt.2.1 e)
          rw [if_pos t2, if_neg t1, if_pos t2, w1, xbind_some]
          exact ⟨u', rfl, w2⟩
        · rw [if_neg t2]
          unfold f_X4_readOne
          rw [h.2.2.2.2.1, if_pos (Int32.not_le.mp t1), if_neg t1, if_neg t2]
          by_cases t3 : lxT T z p = -16
          · have lt := lx_lt hp (by rw [t3]; decide)
            rw [if_pos t3, if_pos t3]
            by_cases c : op < 5
            · obtain ⟨u1, r1, r2, r3, r4⟩ := s_opens (γ := Unit × xI) ht hz lt.2.1 h c
              obtain ⟨u2, q1, q2⟩ := ih 0 (op + 1) (lxR T z p) s u1 (by omega) (by omega) (by omega) (by omega) lt.2.1 r2
              have q1' : f_X4_readLevel fu 0 u1 = some ((), u2) := q1
              have f5 : FrA t u2 (xup u2 19 5 (u2 19 5 - 1)) := FrA.up ht (by decide)
              rw [r1, if_neg (by decide), q1', xbind_some, if_pos c]
              unfold f_X4_expect
              have e4 : xup u2 19 5 (u2 19 5 - 1) 19 4 = u2 19 4 := by rw [xup_same, upd_n _ _ (by decide)]
              rw [e4]
              rcases hR : rd T z fu 0 (op + 1) (lxR T z p) with ⟨p2, oc⟩
              rw [hR] at q2
              cases oc with
              | none =>
                obtain ⟨b1, b2, s', b3, b4⟩ := q2.2.2 rfl
                rw [b1, if_neg (by decide), s_failB (f := p2) (by have := rd_fb _ _ _ _ _ lt.2.1 hR; omega) (by rw [e4]; exact b1) (by rw [xup_same, upd_n _ _ (by decide)]; exact b2), xbind_some, xbind_some, xbind_some]
                refine ⟨_, rfl, (r3.tr q2.1).tr f5, fun c q => absurd q (by simp [rb]), fun _ => ⟨by rw [e4]; exact b1, by rw [xup_same, upd_n _ _ (by decide)]; exact b2, s', b3, by rw [xup_ne _ _ _ (by omega)]; exact b4⟩⟩
              | some c2 =>
                obtain ⟨d1, d2, d3⟩ := bd _ _ _ _ _ lt.2.1 hR
                obtain ⟨b1, b2⟩ := q2.2.1 c2 rfl
                have bc := Rs.cl ht b1
                rw [b1.2.2.2.2.1]
                show ∃ u', _ ∧ RdP T z t op s u (if lxT T z p2 = -17 then (lxR T z p2, some c2) else (lxQ T z p2, none)) u'
                by_cases t4 : lxT T z p2 = -17
                · have lt2 := lx_lt d2 (by rw [t4]; decide)
                  obtain ⟨u4, x1, x2, x3, x4⟩ := Rs.next (γ := Unit × xI) ht hz lt2.2.1 bc
                  rw [if_pos t4, if_pos t4, x1, xbind_some, xbind_some]
                  refine ⟨u4, rfl, ((r3.tr q2.1).tr f5).tr x3, fun c q => ?_, fun q => absurd q (by simp)⟩
                  have e1 : c2 = c := Option.some.inj q
                  rw [← e1]
                  exact ⟨x2, (b2.from' r4).same (by rw [x4, xup_ne _ _ _ (by omega)])⟩
                · obtain ⟨u4, x1, x2⟩ := s_fail1 (γ := Unit × xI) ht bc (by omega)
                  rw [if_neg t4, if_neg t4, x1, xbind_some, xbind_some]
                  exact ⟨u4, rfl, ((r3.tr q2.1).tr f5).tr x2.1, fun c q => absurd q (by simp), fun _ => x2.2.2 rfl⟩
            · obtain ⟨u1, r1, r2⟩ := s_opensN (γ := Unit × xI) ht h c ho (by omega)
              rw [if_neg c, r1, if_pos rfl, xbind_some]
              exact ⟨u1, rfl, r2⟩
          · obtain ⟨u1, r1, r2⟩ := s_fail1 (γ := Unit × xI) ht h (by omega)
            rw [if_neg t3, if_neg t3, r1, xbind_some]
            exact ⟨u1, rfl, r2⟩
    · rw [if_neg (fun y => c5 (e5.mp y)), if_neg c5]
      by_cases c2 : L = 2
      · rw [if_pos (e2.mpr c2), h.2.2.2.2.1]
        by_cases c9 : lxT T z p = -9
        · have lt := lx_lt hp (by rw [c9]; decide)
          obtain ⟨u', w1, w2⟩ := s_behind (rec := f_X4_readLevel fu) ht hz lt.2.1 hs lt.1 h ho 2 (-9) (rd' := rd T z fu 2 (op + 1) (lxR T z p)) (fun o5 u1 hu => ih 2 (op + 1) (lxR T z p) s u1 (by omega) (by omega) (by omega) (by omega) lt.2.1 hu) (fun o5 p' c e => bd _ _ _ _ _ lt.2.1 e)
          rw [if_pos c9, if_pos ⟨c2, c9⟩, w1, xbind_some]
          exact ⟨u', rfl, w2⟩
        · rw [if_neg c9, if_neg (fun y => c9 y.2)]
          exact go (by omega)
      · rw [if_neg (fun y => c2 (e2.mp y)), if_neg (fun y => c2 y.1)]
        exact go (by omega)
