-- ===== a text of three parts, and the component's reading of it =====
noncomputable def tx1 (T : Nat → Int32) (z k p : Nat) : Nat × Option (List Int32) := if lxT T z p = -19 - nI k then rb (rd T z 90 0 0 (lxR T z p)) (fun p' c => if lxT T z p' = -18 then (lxR T z p', some c) else (lxQ T z p', none)) else (lxQ T z p, none)
theorem tk_22 : ∀ k, k < 3 → (-19 : Int32) - nI k ≠ -22 ∧ (-19 : Int32) - nI k ≠ -23 := by decide
theorem run_tx {T : Nat → Int32} {z k p : Nat} (hz : z ≤ 160) (hk : k < 3) (hp : p ≤ z) (h : lxT T z p = -19 - nI k) : Run T z (some true) [] [] (lxR T z p) (tx1 T z k p) := by
  have lt := lx_lt hp (by rw [h]; exact (tk_22 k hk).1)
  have hR := eq_rd (T := T) hz 90 0 0 (lxR T z p) true [] [] (by decide) (by decide) (by decide) lt.2.1 rfl (fun _ x K' y => absurd y (by simp)) (fun _ => rfl) (fun y => by omega)
  unfold tx1
  rw [if_pos h]
  rcases hx : rd T z 90 0 0 (lxR T z p) with ⟨p2, oc⟩
  rw [hx] at hR
  cases oc with
  | none => exact hR.1 p2 rfl
  | some c =>
    have g := hR.2 p2 c rfl
    rw [if_neg (by decide)] at g
    obtain ⟨pend, o', g1, g2, g3, g4⟩ := g
    have eu : unw 1 (pend ++ []) o' = ([], c) := by
      rw [unw_app (r := 1) _ _ _ g2, g1]; rfl
    show Run T z (some true) [] [] (lxR T z p) (if lxT T z p2 = -18 then (lxR T z p2, some c) else (lxQ T z p2, none))
    by_cases t4 : lxT T z p2 = -18
    · rw [if_pos t4]
      refine g4 _ ?_
      have := Run.semi (T := T) (z := z) (K := pend ++ []) (o := o') t4 (by rw [eu])
      rw [eu] at this
      exact this
    · rw [if_neg t4]
      exact g4 _ (end_no g3 (fun y => absurd y t4) (fun _ => by rw [eu]))
theorem tx1_bd {T : Nat → Int32} {z k p p' : Nat} {c : List Int32} (hk : k < 3) (hp : p ≤ z) (h : tx1 T z k p = (p', some c)) : p < p' ∧ p' ≤ z ∧ c.length ≤ p' - p ∧ GoodC c := by
  unfold tx1 at h
  by_cases e : lxT T z p = -19 - nI k
  · rw [if_pos e] at h
    have lt := lx_lt hp (by rw [e]; exact (tk_22 k hk).1)
    obtain ⟨p1, c1, h1, h2⟩ := rb_some h
    obtain ⟨g1, g2, g3, g4⟩ := rd_bd _ _ _ _ _ _ lt.2.1 h1
    by_cases t4 : lxT T z p1 = -18
    · rw [if_pos t4] at h2
      have lt2 := lx_lt g2 (by rw [t4]; decide)
      have e1 : lxR T z p1 = p' := congrArg Prod.fst h2
      have e2 : c1 = c := Option.some.inj (congrArg Prod.snd h2)
      subst e1; subst e2
      exact ⟨by omega, lt2.2.1, by omega, g4⟩
    · rw [if_neg t4] at h2; exact absurd (congrArg Prod.snd h2) (by simp)
  · rw [if_neg e] at h; exact absurd (congrArg Prod.snd h) (by simp)
theorem tx1_fb {T : Nat → Int32} {z k p f : Nat} (hk : k < 3) (hp : p ≤ z) (h : tx1 T z k p = (f, none)) : f ≤ z := by
  unfold tx1 at h
  have b := lx_bd (T := T) hp
  by_cases e : lxT T z p = -19 - nI k
  · rw [if_pos e] at h
    have lt := lx_lt hp (by rw [e]; exact (tk_22 k hk).1)
    rcases rb_none h with g | ⟨p1, c1, h1, h2⟩
    · exact rd_fb _ _ _ _ _ lt.2.1 g
    · have g2 := (rd_bd _ _ _ _ _ _ lt.2.1 h1).2.1
      by_cases t4 : lxT T z p1 = -18
      · rw [if_pos t4] at h2; exact absurd (congrArg Prod.snd h2) (by simp)
      · rw [if_neg t4] at h2
        have e1 : lxQ T z p1 = f := congrArg Prod.fst h2
        have := lx_bd (T := T) g2
        omega
  · rw [if_neg e] at h
    have e1 : lxQ T z p = f := congrArg Prod.fst h
    omega
def TxY (T : Nat → Int32) (z : Nat) (c0 c1 c2 : List Int32) : Prop := ∃ p1 p2 p3, tx1 T z 0 0 = (p1, some c0) ∧ tx1 T z 1 p1 = (p2, some c1) ∧ tx1 T z 2 p2 = (p3, some c2) ∧ lxT T z p3 = -22
def TxN (T : Nat → Int32) (z f : Nat) : Prop := tx1 T z 0 0 = (f, none) ∨ (∃ p1 c0, tx1 T z 0 0 = (p1, some c0) ∧ tx1 T z 1 p1 = (f, none)) ∨ (∃ p1 c0 p2 c1, tx1 T z 0 0 = (p1, some c0) ∧ tx1 T z 1 p1 = (p2, some c1) ∧ tx1 T z 2 p2 = (f, none)) ∨ ∃ p1 c0 p2 c1 p3 c2, tx1 T z 0 0 = (p1, some c0) ∧ tx1 T z 1 p1 = (p2, some c1) ∧ tx1 T z 2 p2 = (p3, some c2) ∧ lxT T z p3 ≠ -22 ∧ f = lxQ T z p3
theorem tx_or (T : Nat → Int32) (z : Nat) : (∃ c0 c1 c2, TxY T z c0 c1 c2) ∨ ∃ f, TxN T z f := by
  rcases h0 : tx1 T z 0 0 with ⟨p1, o0⟩
  cases o0 with
  | none => exact Or.inr ⟨p1, Or.inl h0⟩
  | some c0 =>
    rcases h1 : tx1 T z 1 p1 with ⟨p2, o1⟩
    cases o1 with
    | none => exact Or.inr ⟨p2, Or.inr (Or.inl ⟨p1, c0, h0, h1⟩)⟩
    | some c1 =>
      rcases h2 : tx1 T z 2 p2 with ⟨p3, o2⟩
      cases o2 with
      | none => exact Or.inr ⟨p3, Or.inr (Or.inr (Or.inl ⟨p1, c0, p2, c1, h0, h1, h2⟩))⟩
      | some c2 =>
        by_cases e : lxT T z p3 = -22
        · exact Or.inl ⟨c0, c1, c2, p1, p2, p3, h0, h1, h2, e⟩
        · exact Or.inr ⟨lxQ T z p3, Or.inr (Or.inr (Or.inr ⟨p1, c0, p2, c1, p3, c2, h0, h1, h2, e, rfl⟩))⟩
theorem s_expY {γ : Type} {T : Nat → Int32} {z t p op s : Nat} (ht : t < 6) (hz : z ≤ 160) (hp : p ≤ z) {u : xI} (h : Rs T z t p op s u) {a : Int32} (e : lxT T z p = a) (ha : a ≠ -22) : ∃ u', (∀ K : Unit → xI → Option γ, xbind (f_X4_expect a u) K = K () u') ∧ Rs T z t (lxR T z p) op s u' ∧ FrA t u u' ∧ u' (40 + 4 * t) = u (40 + 4 * t) := by
  have lt := lx_lt hp (by rw [e]; exact ha)
  obtain ⟨u', r1, r2, r3, r4⟩ := Rs.next (γ := Unit × xI) ht hz lt.2.1 h
  refine ⟨u', fun K => ?_, r2, r3, r4⟩
  have e1 : f_X4_expect a u = some ((), u') := by
    unfold f_X4_expect
    rw [h.2.2.2.2.1, if_pos e]; exact r1 _
  rw [e1, xbind_some]
theorem s_expN {γ : Type} {T : Nat → Int32} {z t p op s : Nat} (ht : t < 6) {u : xI} (h : Rs T z t p op s u) {a : Int32} (e : lxT T z p ≠ a) (hs : s ≤ 160) : ∃ u', (∀ K : Unit → xI → Option γ, xbind (f_X4_expect a u) K = K () u') ∧ RdP T z t op s u (lxQ T z p, none) u' := by
  obtain ⟨u', r1, r2⟩ := s_fail1 (γ := Unit × xI) ht h hs
  refine ⟨u', fun K => ?_, r2⟩
  have e1 : f_X4_expect a u = some ((), u') := by
    unfold f_X4_expect
    rw [h.2.2.2.2.1, if_neg e]; exact r1 _
  rw [e1, xbind_some]
theorem s_expB {γ : Type} {u : xI} {f : Nat} (hf : f < 2 ^ 31) (h4 : u 19 4 = -23) (h6 : u 19 6 = nI f) {a : Int32} (ha : a ≠ -23) (K : Unit → xI → Option γ) : xbind (f_X4_expect a u) K = K () u := by
  have e1 : f_X4_expect a u = some ((), u) := by
    unfold f_X4_expect
    rw [h4, if_neg (fun y => ha y.symm), s_failB hf h4 h6, xbind_some]
  rw [e1, xbind_some]
/-- what reading a text may change, its ends too -/
def FrI (t : Nat) (u u' : xI) : Prop := (∀ q, q ≠ 19 → q ≠ 39 + 4 * t → q ≠ 40 + 4 * t → q ≠ 41 + 4 * t → u' q = u q) ∧ (∀ j, j < 2 ∨ 6 < j → u' 19 j = u 19 j)
theorem FrI.tr {t : Nat} {u v w : xI} (h1 : FrI t u v) (h2 : FrI t v w) : FrI t u w := ⟨fun q a b c d => (h2.1 q a b c d).trans (h1.1 q a b c d), fun j hj => (h2.2 j hj).trans (h1.2 j hj)⟩
theorem FrA.P {t : Nat} {u v : xI} (h : FrA t u v) : FrI t u v := ⟨fun q a b c _ => h.1 q a b c, h.2.1⟩
theorem FrI.e {t : Nat} (ht : t < 6) (u : xI) (k : Nat) (x : Int32) : FrI t u (xup u (41 + 4 * t) k x) := ⟨fun q _ _ _ d => xup_ne _ _ _ d, fun j _ => by rw [xup_ne _ _ _ (by omega)]⟩
def Brk (t f : Nat) (u : xI) : Prop := u 19 4 = -23 ∧ u 19 6 = nI f ∧ u 19 7 = Int32.ofNat (39 + 4 * t)
theorem Brk.e {t f : Nat} (ht : t < 6) {u : xI} (h : Brk t f u) (k : Nat) (x : Int32) : Brk t f (xup u (41 + 4 * t) k x) := by
  unfold Brk
  rw [xup_ne _ _ _ (by omega)]; exact h
theorem s_tail {t k : Nat} (ht : t < 6) (hk : k < 3) {o1 fu : Nat} {u : xI} (h7 : u 19 7 = Int32.ofNat (39 + 4 * t)) : (xchk (isTx (u 19 7)) (xlet (u 19 7).toNatClampNeg fun o33010 => xchk (isTx (u 19 7)) (xlet (u 19 7).toNatClampNeg fun o33014 => xchk (xin (nI k) 3) (xlet (nI k + (1 : Int32)) fun x33017 => f_X4_readInto_L33 o1 fu x33017 (xup u (o33010 + 2) (nI k).toNatClampNeg (u o33014 3)))))) = f_X4_readInto_L33 o1 fu (nI (k + 1)) (xup u (41 + 4 * t) k (u (39 + 4 * t) 3)) := by
  rw [h7, (txI ht).1, xin_nI hk (by decide)]
  simp only [xchk_true, xlet_eq]
  rw [(txI ht).2, nI_clamp (by omega), nI_1, show 39 + 4 * t + 2 = 41 + 4 * t by omega]
theorem s_partB {t k f : Nat} (ht : t < 6) (hk : k < 3) (hf : f < 2 ^ 31) (o1 fu : Nat) {u : xI} (h : Brk t f u) : f_X4_readInto_L33 o1 (fu + 1) (nI k) u = f_X4_readInto_L33 o1 fu (nI (k + 1)) (xup u (41 + 4 * t) k (u (39 + 4 * t) 3)) := by
  have rB : f_X4_readLevel 90 0 u = some ((), u) := s_rdB hf h.1 h.2.1 90 0 (by decide) (by decide)
  have n2 : ¬ (2 : Int32) < nI k := (show ¬ nI 2 < nI k from nI_nlt (by omega) (by decide))
  rw [f_X4_readInto_L33, if_neg n2, s_expB hf h.1 h.2.1 (tk_22 k hk).2, rB, xbind_some, s_expB hf h.1 h.2.1 (by decide), s_tail ht hk h.2.2]
theorem s_part {T : Nat → Int32} {z t k p s : Nat} (ht : t < 6) (hz : z ≤ 160) (hk : k < 3) (hp : p ≤ z) (hs : s ≤ p) (o1 fu : Nat) {u : xI} (h : Rs T z t p 0 s u) : ∃ u', f_X4_readInto_L33 o1 (fu + 1) (nI k) u = f_X4_readInto_L33 o1 fu (nI (k + 1)) u' ∧ FrI t u u' ∧ (∀ f, tx1 T z k p = (f, none) → Brk t f u') ∧ ∀ p' c, tx1 T z k p = (p', some c) → Rs T z t p' 0 (s + c.length) u' ∧ Cd t u s c u' ∧ u' (41 + 4 * t) k = nI (s + c.length) ∧ ∀ j, j ≠ k → u' (41 + 4 * t) j = u (41 + 4 * t) j := by
  have n2 : ¬ (2 : Int32) < nI k := (show ¬ nI 2 < nI k from nI_nlt (by omega) (by decide))
  have brk : ∀ v : xI, FrA t u v → v 19 7 = Int32.ofNat (39 + 4 * t) := fun v f => by rw [f.2.1 7 (by decide)]; exact h.2.2.2.2.2.2.2.1
  rw [f_X4_readInto_L33, if_neg n2]
  unfold tx1
  by_cases e : lxT T z p = -19 - nI k
  · rw [if_pos e]
    have lt := lx_lt hp (by rw [e]; exact (tk_22 k hk).1)
    obtain ⟨u1, r1, r2, r3, r4⟩ := s_expY (γ := Int32 × xI) ht hz hp h e (tk_22 k hk).1
    obtain ⟨u2, q1, q2⟩ := s_rd ht hz 90 0 0 (lxR T z p) s u1 (by decide) (by decide) (by decide) (by omega) lt.2.1 r2
    have q1' : f_X4_readLevel 90 0 u1 = some ((), u2) := q1
    rw [r1, q1', xbind_some]
    rcases hx : rd T z 90 0 0 (lxR T z p) with ⟨p2, oc⟩
    rw [hx] at q2
    cases oc with
    | none =>
      obtain ⟨b1, b2, -⟩ := q2.2.2 rfl
      have hf := rd_fb _ _ _ _ _ lt.2.1 hx
      have b : Brk t p2 u2 := ⟨b1, b2, brk _ (r3.tr q2.1)⟩
      rw [s_expB (f := p2) (by omega) b1 b2 (by decide), s_tail ht hk b.2.2]
      refine ⟨_, rfl, (r3.tr q2.1).P.tr (FrI.e ht _ _ _), fun f y => ?_, fun p' c y => absurd (congrArg Prod.snd y) (by simp [rb])⟩
      have ef : p2 = f := congrArg Prod.fst y
      rw [← ef]; exact b.e ht _ _
    | some c =>
      obtain ⟨b1, b2⟩ := q2.2.1 c rfl
      obtain ⟨d1, d2, d3, d4⟩ := rd_bd _ _ _ _ _ _ lt.2.1 hx
      show ∃ u', _ ∧ FrI t u u' ∧ (∀ f, (if lxT T z p2 = -18 then (lxR T z p2, some c) else (lxQ T z p2, none)) = (f, none) → Brk t f u') ∧ ∀ p' c', (if lxT T z p2 = -18 then (lxR T z p2, some c) else (lxQ T z p2, none)) = (p', some c') → _
      by_cases t4 : lxT T z p2 = -18
      · obtain ⟨u3, s1, s2, s3, s4⟩ := s_expY (γ := Int32 × xI) ht hz d2 b1 t4 (by decide)
        rw [if_pos t4, s1, s_tail ht hk (brk _ ((r3.tr q2.1).tr s3))]
        refine ⟨_, rfl, ((r3.tr q2.1).tr s3).P.tr (FrI.e ht _ _ _), fun f y => absurd (congrArg Prod.snd y) (by simp), fun p' c' y => ?_⟩
        have e1 : lxR T z p2 = p' := congrArg Prod.fst y
        have e2 : c = c' := Option.some.inj (congrArg Prod.snd y)
        subst e1; subst e2
        obtain ⟨a1, a2, a3, a4, a5, a6, a7, a8, a9⟩ := s2
        refine ⟨⟨by rw [xup_ne _ _ _ (by omega)]; exact a1, by rw [xup_ne _ _ _ (by omega)]; exact a2, by rw [xup_ne _ _ _ (by omega)]; exact a3, by rw [xup_ne _ _ _ (by omega)]; exact a4, by rw [xup_ne _ _ _ (by omega)]; exact a5, by rw [xup_ne _ _ _ (by omega)]; exact a6, by rw [xup_ne _ _ _ (by omega)]; exact a7, by rw [xup_ne _ _ _ (by omega)]; exact a8, by rw [xup_ne _ _ _ (by omega)]; exact a9⟩, (b2.from' r4).same (by rw [xup_ne _ _ _ (by omega), s4]), by rw [xup_same, upd_s]; exact a9, fun j hj => ?_⟩
        rw [xup_same, upd_n _ _ hj, ((r3.tr q2.1).tr s3).1 _ (by omega) (by omega) (by omega)]
      · obtain ⟨u3, s1, s2⟩ := s_expN (γ := Int32 × xI) ht b1 t4 (by omega)
        obtain ⟨b3, b4, -⟩ := s2.2.2 rfl
        have b : Brk t (lxQ T z p2) u3 := ⟨b3, b4, brk _ ((r3.tr q2.1).tr s2.1)⟩
        rw [if_neg t4, s1, s_tail ht hk b.2.2]
        refine ⟨_, rfl, ((r3.tr q2.1).tr s2.1).P.tr (FrI.e ht _ _ _), fun f y => ?_, fun p' c y => absurd (congrArg Prod.snd y) (by simp)⟩
        have ef : lxQ T z p2 = f := congrArg Prod.fst y
        rw [← ef]; exact b.e ht _ _
  · rw [if_neg e]
    obtain ⟨u1, r1, r2⟩ := s_expN (γ := Int32 × xI) ht h e (by omega)
    obtain ⟨b3, b4, -⟩ := r2.2.2 rfl
    have b : Brk t (lxQ T z p) u1 := ⟨b3, b4, brk _ r2.1⟩
    have hf : lxQ T z p < 2 ^ 31 := by have := lx_bd (T := T) hp; omega
    have rB : f_X4_readLevel 90 0 u1 = some ((), u1) := s_rdB hf b.1 b.2.1 90 0 (by decide) (by decide)
    rw [r1, rB, xbind_some, s_expB hf b.1 b.2.1 (by decide), s_tail ht hk b.2.2]
    refine ⟨_, rfl, r2.1.P.tr (FrI.e ht _ _ _), fun f y => ?_, fun p' c y => absurd (congrArg Prod.snd y) (by simp)⟩
    have ef : lxQ T z p = f := congrArg Prod.fst y
    rw [← ef]; exact b.e ht _ _
theorem s_endB {t f : Nat} (hf : f < 2 ^ 31) (o1 fu : Nat) {u : xI} (h : Brk t f u) : f_X4_readInto_L33 o1 (fu + 1) (nI 3) u = some (nI f, xup u 19 1 0) := by
  rw [f_X4_readInto_L33, if_pos (by decide), if_neg (by rw [h.1]; decide), s_failB hf h.1 h.2.1, xbind_some, h.2.1]
theorem s_into0 {T : Nat → Int32} {z t : Nat} (ht : t < 6) (hz : z ≤ 160) {w : xI} (h20 : w 20 = T) (h1 : w 19 1 = nI z) : ∃ u0, f_X4_readInto (39 + 4 * t) w = f_X4_readInto_L33 (39 + 4 * t) 2000 (nI 0) u0 ∧ Rs T z t 0 0 0 u0 ∧ (∀ q, q ≠ 19 → q ≠ 39 + 4 * t → u0 q = w q) := by
  generalize hv : xup (xup (xup (xup (xup w 19 7 (Int32.ofNat (39 + 4 * t))) (39 + 4 * t) 3 (0 : Int32)) 19 2 (0 : Int32)) 19 5 (0 : Int32)) 19 6 (-1 : Int32) = v
  have vq : ∀ q, q ≠ 19 → q ≠ 39 + 4 * t → v q = w q := fun q a b => by rw [← hv, xup_ne _ _ _ a, xup_ne _ _ _ a, xup_ne _ _ _ a, xup_ne _ _ _ b, xup_ne _ _ _ a]
  have v1 : v 19 1 = nI z := by rw [← hv, xup_same, upd_n _ _ (by decide), xup_same, upd_n _ _ (by decide), xup_same, upd_n _ _ (by decide), xup_ne _ _ _ (by omega), xup_same, upd_n _ _ (by decide)]; exact h1
  have v2 : v 19 2 = nI 0 := by rw [← hv, xup_same, upd_n _ _ (by decide), xup_same, upd_n _ _ (by decide), xup_same, upd_s]; rfl
  have v5 : v 19 5 = nI 0 := by rw [← hv, xup_same, upd_n _ _ (by decide), xup_same, upd_s]; rfl
  have v6 : v 19 6 = -1 := by rw [← hv, xup_same, upd_s]
  have v7 : v 19 7 = Int32.ofNat (39 + 4 * t) := by rw [← hv, xup_same, upd_n _ _ (by decide), xup_same, upd_n _ _ (by decide), xup_same, upd_n _ _ (by decide), xup_ne _ _ _ (by omega), xup_same, upd_s]
  have v3 : v (39 + 4 * t) 3 = nI 0 := by rw [← hv, xup_ne _ _ _ (by omega), xup_ne _ _ _ (by omega), xup_ne _ _ _ (by omega), xup_same, upd_s]; rfl
  have e20 : v 20 = T := by rw [vq 20 (by decide) (by omega)]; exact h20
  refine ⟨adU v (lxQ T z 0) (lxR T z 0) (lxT T z 0), ?_, ⟨?_, ?_, adU_2 _ _ _ _, adU_3 _ _ _ _, adU_4 _ _ _ _, ?_, ?_, ?_, ?_⟩, fun q a b => by rw [adU_q a]; exact vq q a b⟩
  · unfold f_X4_readInto f_X7_clear
    rw [(txI ht).1, xchk_true, xlet_eq, (txI ht).2, xbind_some, hv]
    have := s_adv (γ := Int32 × xI) hz (Nat.zero_le z) v1 v2 (fun r7 w8 => f_X4_readInto_L33 (39 + 4 * t) 2000 (0 : Int32) w8)
    rw [e20] at this
    exact this
  · rw [adU_q (by decide)]; exact e20
  · rw [adU_j (by decide) (by decide) (by decide)]; exact v1
  · rw [adU_j (by decide) (by decide) (by decide)]; exact v5
  · rw [adU_j (by decide) (by decide) (by decide)]; exact v6
  · rw [adU_j (by decide) (by decide) (by decide)]; exact v7
  · rw [adU_q (by omega)]; exact v3
def FrJ (t : Nat) (u u' : xI) : Prop := ∀ q, q ≠ 19 → q ≠ 39 + 4 * t → q ≠ 40 + 4 * t → q ≠ 41 + 4 * t → u' q = u q
theorem FrI.J {t : Nat} {u v : xI} (h : FrI t u v) : FrJ t u v := h.1
theorem FrJ.tr {t : Nat} {u v w : xI} (h1 : FrJ t u v) (h2 : FrJ t v w) : FrJ t u w := fun q a b c d => (h2 q a b c d).trans (h1 q a b c d)
theorem FrJ.z (t : Nat) (u : xI) : FrJ t u (xup u 19 1 0) := fun q a _ _ _ => xup_ne _ _ _ a
theorem s_into {T : Nat → Int32} {z t : Nat} (ht : t < 6) (hz : z ≤ 160) {w : xI} (h20 : w 20 = T) (h1 : w 19 1 = nI z) : (∀ f, TxN T z f → f ≤ z ∧ ∃ u', f_X4_readInto (39 + 4 * t) w = some (nI f, u') ∧ FrJ t w u' ∧ u' 19 1 = 0) ∧ ∀ c0 c1 c2, TxY T z c0 c1 c2 → ∃ u', f_X4_readInto (39 + 4 * t) w = some (-1, u') ∧ FrJ t w u' ∧ u' 19 1 = 0 ∧ u' (41 + 4 * t) 0 = nI c0.length ∧ u' (41 + 4 * t) 1 = nI (c0.length + c1.length) ∧ u' (41 + 4 * t) 2 = nI (c0.length + c1.length + c2.length) ∧ ∀ i, i < (c0 ++ c1 ++ c2).length → u' (40 + 4 * t) i = (c0 ++ c1 ++ c2).getD i 0 := by
  obtain ⟨u0, e0, s0, f0⟩ := s_into0 ht hz h20 h1
  have F0 : FrJ t w u0 := fun q a b _ _ => f0 q a b
  obtain ⟨u1, e1, f1, n1, y1⟩ := s_part (k := 0) ht hz (by decide) (Nat.zero_le z) (Nat.le_refl 0) (39 + 4 * t) 1999 s0
  rw [e0, show f_X4_readInto_L33 (39 + 4 * t) 2000 (nI 0) u0 = _ from e1]
  have F1 := F0.tr f1.J
  have B1 := fun (f : Nat) (hf : f ≤ z) (b : Brk t f u1) => s_partB (k := 1) (f := f) ht (by decide) (by omega) (39 + 4 * t) 1998 b
  -- broken from the second part on
  have two : ∀ (v : xI) (f : Nat), f ≤ z → FrJ t w v → Brk t f v → ∃ u', f_X4_readInto_L33 (39 + 4 * t) 1998 (nI 2) v = some (nI f, u') ∧ FrJ t w u' ∧ u' 19 1 = 0 := fun v f hf F b => by
    have e := s_partB (k := 2) ht (by decide) (by omega) (39 + 4 * t) 1997 b
    refine ⟨xup (xup v (41 + 4 * t) 2 (v (39 + 4 * t) 3)) 19 1 0, e.trans (s_endB (by omega) _ 1996 (b.e ht _ _)), (F.tr (FrI.e ht _ _ _).J).tr (FrJ.z _ _), by rw [xup_same, upd_s]⟩
  have three : ∀ (v : xI) (f : Nat), f ≤ z → FrJ t w v → Brk t f v → ∃ u', f_X4_readInto_L33 (39 + 4 * t) 1997 (nI 3) v = some (nI f, u') ∧ FrJ t w u' ∧ u' 19 1 = 0 := fun v f hf F b => ⟨xup v 19 1 0, s_endB (by omega) _ 1996 b, F.tr (FrJ.z _ _), by rw [xup_same, upd_s]⟩
  have part2 : ∀ p1 c0, tx1 T z 0 0 = (p1, some c0) → ∃ u2, f_X4_readInto_L33 (39 + 4 * t) 1999 (nI 1) u1 = f_X4_readInto_L33 (39 + 4 * t) 1998 (nI 2) u2 ∧ p1 ≤ z ∧ FrI t u1 u2 ∧ (∀ f, tx1 T z 1 p1 = (f, none) → Brk t f u2) ∧ ∀ p' c, tx1 T z 1 p1 = (p', some c) → Rs T z t p' 0 (0 + c0.length + c.length) u2 ∧ Cd t u1 (0 + c0.length) c u2 ∧ u2 (41 + 4 * t) 1 = nI (0 + c0.length + c.length) ∧ ∀ j, j ≠ 1 → u2 (41 + 4 * t) j = u1 (41 + 4 * t) j := fun p1 c0 h => by
    have b := tx1_bd (k := 0) (by decide) (Nat.zero_le z) h
    obtain ⟨u2, e2, f2, n2, y2⟩ := s_part (k := 1) ht hz (by decide) b.2.1 (by have := b.2.2.1; omega) (39 + 4 * t) 1998 (y1 p1 c0 h).1
    exact ⟨u2, e2, b.2.1, f2, n2, y2⟩
  have part3 : ∀ p1 c0 p2 c1, tx1 T z 0 0 = (p1, some c0) → tx1 T z 1 p1 = (p2, some c1) → ∃ u2 u3, f_X4_readInto_L33 (39 + 4 * t) 1999 (nI 1) u1 = f_X4_readInto_L33 (39 + 4 * t) 1997 (nI 3) u3 ∧ p2 ≤ z ∧ FrI t u1 u2 ∧ FrI t u2 u3 ∧ (u2 (41 + 4 * t) 1 = nI (0 + c0.length + c1.length) ∧ (∀ j, j ≠ 1 → u2 (41 + 4 * t) j = u1 (41 + 4 * t) j) ∧ Cd t u1 (0 + c0.length) c1 u2) ∧ (∀ f, tx1 T z 2 p2 = (f, none) → Brk t f u3) ∧ ∀ p' c, tx1 T z 2 p2 = (p', some c) → Rs T z t p' 0 (0 + c0.length + c1.length + c.length) u3 ∧ Cd t u2 (0 + c0.length + c1.length) c u3 ∧ u3 (41 + 4 * t) 2 = nI (0 + c0.length + c1.length + c.length) ∧ ∀ j, j ≠ 2 → u3 (41 + 4 * t) j = u2 (41 + 4 * t) j := fun p1 c0 p2 c1 h g => by
    have b := tx1_bd (k := 0) (by decide) (Nat.zero_le z) h
    obtain ⟨u2, e2, z1, f2, n2, y2⟩ := part2 p1 c0 h
    have b2 := tx1_bd (k := 1) (by decide) z1 g
    obtain ⟨k1, k2, k3, k4⟩ := y2 p2 c1 g
    obtain ⟨u3, e3, f3, n3, y3⟩ := s_part (k := 2) ht hz (by decide) b2.2.1 (by have := b.2.2.1; have := b2.2.2.1; omega) (39 + 4 * t) 1997 k1
    exact ⟨u2, u3, e2.trans e3, b2.2.1, f2, f3, ⟨k3, k4, k2⟩, n3, y3⟩
  refine ⟨fun f h => ?_, fun c0 c1 c2 h => ?_⟩
  · rcases h with h | ⟨p1, c0, h, g⟩ | ⟨p1, c0, p2, c1, h, g, k⟩ | ⟨p1, c0, p2, c1, p3, c2, h, g, k, l, m⟩
    · have hf := tx1_fb (k := 0) (by decide) (Nat.zero_le z) h
      have b := n1 f h
      refine ⟨hf, ?_⟩
      obtain ⟨u', a1, a2, a3⟩ := two _ f hf (F1.tr (FrI.e ht u1 1 (u1 (39 + 4 * t) 3)).J) (b.e ht 1 _)
      exact ⟨u', (B1 f hf b).trans a1, a2, a3⟩
    · obtain ⟨u2, e2, z1, f2, n2, y2⟩ := part2 p1 c0 h
      have hf := tx1_fb (k := 1) (by decide) z1 g
      obtain ⟨u', a1, a2, a3⟩ := two u2 f hf (F1.tr f2.J) (n2 f g)
      exact ⟨hf, u', e2.trans a1, a2, a3⟩
    · obtain ⟨u2, u3, e3, z2, f2, f3, -, n3, -⟩ := part3 p1 c0 p2 c1 h g
      have hf := tx1_fb (k := 2) (by decide) z2 k
      obtain ⟨u', a1, a2, a3⟩ := three u3 f hf ((F1.tr f2.J).tr f3.J) (n3 f k)
      exact ⟨hf, u', e3.trans a1, a2, a3⟩
    · obtain ⟨u2, u3, e3, z2, f2, f3, -, -, y3⟩ := part3 p1 c0 p2 c1 h g
      have b3 := tx1_bd (k := 2) (by decide) z2 k
      have q := (y3 p3 c2 k).1
      have hf := (lx_bd (T := T) b3.2.1)
      obtain ⟨u4, r1, r2⟩ := s_fail1 (γ := Int32 × xI) (s := 0 + c0.length + c1.length + c2.length) ht q (by
        have b := tx1_bd (k := 0) (by decide) (Nat.zero_le z) h
        have b1 := tx1_bd (k := 1) (by decide) b.2.1 g
        have := b.2.2.1
        have := b1.2.2.1
        have := b3.2.2.1
        omega)
      refine ⟨by omega, xup u4 19 1 0, e3.trans ?_, ((F1.tr f2.J).tr f3.J).tr (r2.1.P.J.tr (FrJ.z _ _)), by rw [xup_same, upd_s]⟩
      rw [show f_X4_readInto_L33 (39 + 4 * t) 1997 (nI 3) u3 = f_X4_readInto_L33 (39 + 4 * t) (1996 + 1) (nI 3) u3 from rfl, f_X4_readInto_L33, if_pos (by decide), if_neg (by rw [q.2.2.2.2.1]; exact l), r1, (r2.2.2 rfl).2.1, m]
  · obtain ⟨p1, p2, p3, h, g, k, l⟩ := h
    obtain ⟨u2, u3, e3, z2, f2, f3, ⟨k3, k4, k2⟩, -, y3⟩ := part3 p1 c0 p2 c1 h g
    obtain ⟨q1, q2, q3, q4⟩ := y3 p3 c2 k
    obtain ⟨x1, x2, x3, x4⟩ := y1 p1 c0 h
    refine ⟨xup u3 19 1 0, e3.trans ?_, ((F1.tr f2.J).tr f3.J).tr (FrJ.z _ _), by rw [xup_same, upd_s], ?_, ?_, ?_, fun i hi => ?_⟩
    · rw [show f_X4_readInto_L33 (39 + 4 * t) 1997 (nI 3) u3 = f_X4_readInto_L33 (39 + 4 * t) (1996 + 1) (nI 3) u3 from rfl, f_X4_readInto_L33, if_pos (by decide), if_pos (by rw [q1.2.2.2.2.1]; exact l), q1.2.2.2.2.2.2.1]
    · rw [xup_ne _ _ _ (by omega), q4 0 (by decide), k4 0 (by decide), x3, Nat.zero_add]
    · rw [xup_ne _ _ _ (by omega), q4 1 (by decide), k3, Nat.zero_add]
    · rw [xup_ne _ _ _ (by omega), q3, Nat.zero_add]
    · rw [xup_ne _ _ _ (by omega)]
      have cd := Cd.app (Cd.app x2 k2) (by rw [List.length_append, ← Nat.add_assoc]; exact q2)
      have := cd.2 i hi
      rw [Nat.zero_add] at this
      exact this
