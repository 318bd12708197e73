-- ===== the model's reading of a text =====
def FrM (t e : Nat) (u u' : xI) : Prop := (∀ q, q ≠ 71 → q ≠ 81 → q ≠ 82 → q ≠ 92 → u' q = u q) ∧ (∀ j, j < 28 ∨ (j = 32 ∨ j = 33) ∨ 36 < j → u' 71 j = u 71 j) ∧ (∀ j, j < 200 * t + e → u' 81 j = u 81 j) ∧ ∀ j, j < 4 * t → u' 82 j = u 82 j
theorem FrM.tr {t e : Nat} {u v w : xI} (h1 : FrM t e u v) (h2 : FrM t e v w) : FrM t e u w := ⟨fun q a b c d => (h2.1 q a b c d).trans (h1.1 q a b c d), fun j a => (h2.2.1 j a).trans (h1.2.1 j a), fun j hj => (h2.2.2.1 j hj).trans (h1.2.2.1 j hj), fun j hj => (h2.2.2.2 j hj).trans (h1.2.2.2 j hj)⟩
theorem FrM.mono {t e e' : Nat} {u v : xI} (h : FrM t e u v) (he : e' ≤ e) : FrM t e' u v := ⟨h.1, h.2.1, fun j hj => h.2.2.1 j (by omega), h.2.2.2⟩
theorem FrE.M {t e : Nat} {u v : xI} (h : FrE t e u v) : FrM t e u v := ⟨fun q a b _ d => h.1 q a b d, h.2.1, h.2.2, fun j _ => by rw [h.1 82 (by decide) (by decide) (by decide)]⟩
theorem FrM.e {t : Nat} (e : Nat) (u : xI) (k : Nat) (x : Int32) : FrM t e u (xup u 82 (4 * t + k) x) := ⟨fun q _ _ c _ => xup_ne _ _ _ c, fun j _ => by rw [xup_ne _ _ _ (by decide)], fun j _ => by rw [xup_ne _ _ _ (by decide)], fun j hj => by rw [xup_same, upd_n _ _ (by omega)]⟩
theorem Bm.frM {T : Nat → Int32} {z t e : Nat} {u v : xI} (h : Bm T z t u) (f : FrM t e u v) : Bm T z t v := ⟨by rw [f.2.1 11 (Or.inl (by decide))]; exact h.1, fun j hj => by rw [f.1 80 (by decide) (by decide) (by decide) (by decide)]; exact h.2.1 j hj, fun j hj => by rw [f.1 91 (by decide) (by decide) (by decide) (by decide)]; exact h.2.2.1 j hj, by rw [f.2.1 14 (Or.inl (by decide))]; exact h.2.2.2⟩
theorem Ou.app {t e : Nat} {a b : List Int32} {u : xI} (h1 : Ou t e a u) (h2 : Ou t (e + a.length) b u) : Ou t e (a ++ b) u := fun i hi => by
  rw [List.length_append] at hi
  by_cases g : i < a.length
  · rw [gd_lt _ _ _ g]; exact h1 i g
  · have := h2 (i - a.length) (by omega)
    rw [show 200 * t + (e + a.length) + (i - a.length) = 200 * t + e + i by omega] at this
    rw [this]
    have e := gd_ge a b (i - a.length)
    rw [show a.length + (i - a.length) = i by omega] at e
    rw [e]
theorem Ou.frM {t e e2 : Nat} {o : List Int32} {u v : xI} (h : Ou t e o u) (f : FrM t e2 u v) (he : e + o.length ≤ e2) : Ou t e o v := fun i hi => by rw [f.2.2.1 _ (by omega)]; exact h i hi
theorem kw_tab : ∀ k, k < 3 → (vM (-19) = nI k ↔ (-19 : Int32) = -19 - nI k) ∧ (vM (-20) = nI k ↔ (-20 : Int32) = -19 - nI k) ∧ (vM (-21) = nI k ↔ (-21 : Int32) = -19 - nI k) := by decide
theorem tk_3 : ∀ k, k < 3 → tM (-19 - nI k) = 3 ∧ vM (-19 - nI k) = nI k ∧ (-21 : Int32) ≤ -19 - nI k ∧ (-19 : Int32) - nI k ≤ -19 := by decide
theorem in_3 {t : Int32} (h : -21 ≤ t ∧ t ≤ -19) : t = -19 ∨ t = -20 ∨ t = -21 := by
  have h1 := i_le.mp h.1
  have h2 := i_le.mp h.2
  rw [show (-21 : Int32).toInt = -21 by decide] at h1
  rw [show (-19 : Int32).toInt = -19 by decide] at h2
  have h3 : t.toInt = -19 ∨ t.toInt = -20 ∨ t.toInt = -21 := by omega
  rcases h3 with h3 | h3 | h3
  · exact Or.inl (i_eq (by rw [h3]; decide))
  · exact Or.inr (Or.inl (i_eq (by rw [h3]; decide)))
  · exact Or.inr (Or.inr (i_eq (by rw [h3]; decide)))
theorem s_26N (fu : Nat) (v2 : Int32) (u : xI) : f_X11_text_L26 (fu + 1) 0 v2 u = f_X11_text_L122 0 u := by
  rw [f_X11_text_L26]
  by_cases c : (3 : Int32) ≤ v2
  · rw [if_pos c, if_pos rfl]
  · rw [if_neg c, if_pos rfl, if_pos rfl]
theorem s_60 {t k e : Nat} (ht : t < 6) (hk : k < 4) (K26 : Int32 → Int32 → xI → Option (Int32 × xI)) {u : xI} (h14 : u 71 14 = nI t) (h36 : u 71 36 = nI e) : f_X11_text_L60 K26 (nI k) 0 u = K26 0 (nI (k + 1)) (xup u 82 (4 * t + k) (nI e)) ∧ f_X11_text_L60 K26 (nI k) 1 u = xbind (f_X11_eRead (xup u 82 (4 * t + k) (nI e))) fun r w => if r = 0 then K26 0 (nI (k + 1)) w else K26 1 (nI (k + 1)) w := by
  have em : (4 : Int32) * nI t + nI k = nI (4 * t + k) := by rw [show (4 : Int32) * nI t = nI (4 * t) from pk_mul 4 t]; exact nI_add (4 * t) k
  constructor
  · unfold f_X11_text_L60
    rw [h14, em, xin_nI (by omega) (by decide), xchk_true, if_pos rfl, nI_clamp (by omega), h36, xlet_eq, nI_1]
  · unfold f_X11_text_L60
    rw [h14, em, xin_nI (by omega) (by decide), xchk_true, if_neg (by decide), nI_clamp (by omega), h36]
    simp only [xlet_eq, nI_1]
theorem s_mpart {T : Nat → Int32} {z t k p e : Nat} (ht : t < 6) (hz : z ≤ 160) (hk : k < 3) (hp : p ≤ z) (he : e ≤ p) (fu : Nat) {u : xI} (hB : Bm T z t u) (h28 : u 71 28 = nI p) (h36 : u 71 36 = nI e) : ∃ u', f_X11_text_L26 (fu + 1) 1 (nI k) u = f_X11_text_L26 fu (okI (tx1 T z k p).2) (nI (k + 1)) u' ∧ FrM t e u u' ∧ u' 82 (4 * t + k) = nI e ∧ (∀ j, j ≠ 4 * t + k → u' 82 j = u 82 j) ∧ ((tx1 T z k p).2 = none → u' 71 29 = nI (tx1 T z k p).1) ∧ ∀ c, (tx1 T z k p).2 = some c → u' 71 28 = nI (tx1 T z k p).1 ∧ u' 71 36 = nI (e + c.length) ∧ Ou t e c u' := by
  obtain ⟨u1, r1, r2, r3, ⟨r4, r5⟩, r6⟩ := s_next (γ := Int32 × xI) hz hp hB.1 h28 hB.2.1 hB.2.2.1
  have f1 : FrE t e u u1 := FrT.E t e r6
  have B1 := hB.fr f1
  have h36' : u1 71 36 = nI e := by rw [r6.2 36 (by decide) (by decide) (by decide) (by decide)]; exact h36
  have n3 : ¬ (3 : Int32) ≤ nI k := (show ¬ nI 3 ≤ nI k from nI_ge (by omega) (by decide))
  have e82 : ∀ j, u1 82 j = u 82 j := fun j => by rw [f1.1 82 (by decide) (by decide) (by decide)]
  obtain ⟨s60, s61⟩ := s_60 (e := e) ht (show k < 4 by omega) (fun v1 v2 w => f_X11_text_L26 fu v1 v2 w) B1.2.2.2 h36'
  rw [f_X11_text_L26, if_neg n3, if_neg (by decide), r1]
  by_cases c : lxT T z p = -19 - nI k
  · obtain ⟨t1, t2, t3, t4⟩ := tk_3 k hk
    have e30 : u1 71 30 = 3 := by rw [r4, c, t1]
    have e31 : u1 71 31 = nI k := by rw [r5 (Or.inr (by rw [c]; exact ⟨t3, t4⟩)), c, t2]
    have lt := lx_lt hp (by rw [c]; exact (tk_22 k hk).1)
    rw [if_pos e30, if_pos e31, s61]
    obtain ⟨n, hn⟩ := run_tx hz hk hp c
    generalize tx1 T z k p = r at *
    have f2 : FrM t e u1 (xup u1 82 (4 * t + k) (nI e)) := FrM.e e u1 k _
    generalize hv : xup u1 82 (4 * t + k) (nI e) = v at *
    have fv : FrM t e v (xup (xup v 71 34 0) 71 35 0) := ((FrS.up v 0 (by decide)).tr (FrS.up _ 0 (by decide))).E.M
    have B2 : Bm T z t (xup (xup v 71 34 0) 71 35 0) := (B1.frM f2).frM fv
    have j71 : ∀ j, v 71 j = u1 71 j := fun j => by rw [← hv, xup_ne _ _ _ (by decide)]
    obtain ⟨u2, q1, q2, q3, q4⟩ := s_run ht hz n (some true) [] [] (lxR T z p) r hn 2000 (xup (xup v 71 34 0) 71 35 0) 1 lt.2.1 (by omega) B2 (by rw [xup_same, upd_n _ _ (by decide), xup_same, upd_n _ _ (by decide), j71]; exact r2) ⟨by rw [xup_same, upd_n _ _ (by decide), xup_same, upd_s]; rfl, by rw [xup_same, upd_s]; rfl, by rw [xup_same, upd_n _ _ (by decide), xup_same, upd_n _ _ (by decide), j71]; exact h36', trivial, fun i hi => absurd hi (Nat.not_lt_zero i)⟩ (by show e + 0 + 0 ≤ lxR T z p; omega) (fun x hx => absurd hx (by simp)) (by decide) (fun m y => by rw [← Option.some.inj y]; rfl)
    have q1' : f_X11_eRead v = some (okI r.2, u2) := q1
    have F : FrM t e u u2 := (f1.M.tr f2).tr (fv.tr q2.M)
    have x82 : ∀ j, u2 82 j = v 82 j := fun j => by rw [q2.1 82 (by decide) (by decide) (by decide), xup_ne _ _ _ (by decide), xup_ne _ _ _ (by decide)]
    rw [q1', xbind_some]
    refine ⟨u2, ?_, F, by rw [x82, ← hv, xup_same, upd_s], fun j hj => by rw [x82, ← hv, xup_same, upd_n _ _ hj, e82], q3, fun cc y => ?_⟩
    · cases hr : r.2 with
      | none => rw [show okI none = 0 from rfl, if_pos rfl]
      | some cc => rw [show okI (some cc) = 1 from rfl, if_neg (by decide)]
    · obtain ⟨a1, a2, a3, -⟩ := q4 cc y
      exact ⟨a1, a2, a3⟩
  · have er : tx1 T z k p = (lxQ T z p, none) := by unfold tx1; rw [if_neg c]
    rw [er]
    refine ⟨xup u1 82 (4 * t + k) (nI e), ?_, f1.M.tr (FrM.e e u1 k _), by rw [xup_same, upd_s], fun j hj => by rw [xup_same, upd_n _ _ hj, e82], fun _ => by rw [xup_ne _ _ _ (by decide)]; exact r3, fun cc y => absurd y (by simp)⟩
    by_cases d : tM (lxT T z p) = 3
    · have i3 := (tM_is (lxT T z p)).2.2.2.2.2.2.2.1 d
      have e30 : u1 71 30 = 3 := by rw [r4, d]
      have e31 : u1 71 31 = vM (lxT T z p) := r5 (Or.inr i3)
      have ne : ¬ u1 71 31 = nI k := by
        rw [e31]
        obtain ⟨k1, k2, k3⟩ := kw_tab k hk
        rcases in_3 i3 with g | g | g
        · rw [g] at c ⊢; exact fun y => c (k1.mp y)
        · rw [g] at c ⊢; exact fun y => c (k2.mp y)
        · rw [g] at c ⊢; exact fun y => c (k3.mp y)
      rw [if_pos e30, if_neg ne]
      exact s60
    · rw [if_neg (by rw [r4]; exact d)]
      exact s60
/-- what the model's reading of a text leaves as it was -/
def FrN (t : Nat) (u u' : xI) : Prop := (∀ q, q ≠ 71 → q ≠ 81 → q ≠ 82 → q ≠ 92 → u' q = u q) ∧ (∀ j, j ≠ 11 → j ≠ 14 → j < 28 ∨ (j = 32 ∨ j = 33) ∨ 36 < j → u' 71 j = u 71 j) ∧ (∀ j, j < 200 * t → u' 81 j = u 81 j) ∧ ∀ j, j < 4 * t → u' 82 j = u 82 j
theorem FrM.N {t e : Nat} {u v : xI} (h : FrM t e u v) : FrN t u v := ⟨h.1, fun j _ _ a => h.2.1 j a, fun j hj => h.2.2.1 j (by omega), h.2.2.2⟩
theorem FrN.tr {t : Nat} {u v w : xI} (h1 : FrN t u v) (h2 : FrN t v w) : FrN t u w := ⟨fun q a b c d => (h2.1 q a b c d).trans (h1.1 q a b c d), fun j a b c => (h2.2.1 j a b c).trans (h1.2.1 j a b c), fun j hj => (h2.2.2.1 j hj).trans (h1.2.2.1 j hj), fun j hj => (h2.2.2.2 j hj).trans (h1.2.2.2 j hj)⟩
theorem FrN.up {t : Nat} (u : xI) {j : Nat} (x : Int32) (h : j = 11 ∨ j = 14) : FrN t u (xup u 71 j x) := ⟨fun q a _ _ _ => xup_ne _ _ _ a, fun i a b c => by rw [xup_same, upd_n _ _ (by omega)], fun i _ => by rw [xup_ne _ _ _ (by decide)], fun i _ => by rw [xup_ne _ _ _ (by decide)]⟩
theorem s_122 {t : Nat} (ht : t < 6) {u : xI} (h14 : u 71 14 = nI t) : f_X11_text_L122 0 u = some (-100 - u 71 29, xup (xup u 82 (4 * t + 3) (u 71 36)) 71 11 0) ∧ f_X11_text_L122 1 u = some (nI t, xup (xup (xup u 82 (4 * t + 3) (u 71 36)) 71 11 0) 71 14 (nI (t + 1))) := by
  have em : (4 : Int32) * nI t + 3 = nI (4 * t + 3) := by rw [show (4 : Int32) * nI t = nI (4 * t) from pk_mul 4 t]; exact nI_add (4 * t) 3
  constructor
  · unfold f_X11_text_L122
    rw [h14, em, xin_nI (by omega) (by decide), xchk_true, if_pos rfl, nI_clamp (by omega)]
  · unfold f_X11_text_L122
    rw [h14, em, xin_nI (by omega) (by decide), xchk_true, if_neg (by decide), nI_clamp (by omega), nI_1, nI_pred]
theorem s_mtext {T : Nat → Int32} {z t : Nat} (ht : t < 6) (hz : z ≤ 160) {w : xI} (hB : Bm T z t w) : (∀ f, TxN T z f → ∃ u', f_X11_text w = some (-100 - nI f, u') ∧ FrN t w u' ∧ u' 71 11 = 0 ∧ u' 71 14 = nI t) ∧ ∀ c0 c1 c2, TxY T z c0 c1 c2 → ∃ u', f_X11_text w = some (nI t, u') ∧ FrN t w u' ∧ u' 71 11 = 0 ∧ u' 71 14 = nI (t + 1) ∧ (u' 82 (4 * t) = 0 ∧ u' 82 (4 * t + 1) = nI c0.length ∧ u' 82 (4 * t + 2) = nI (c0.length + c1.length) ∧ u' 82 (4 * t + 3) = nI (c0.length + c1.length + c2.length)) ∧ ∀ i, i < (c0 ++ c1 ++ c2).length → u' 81 (200 * t + i) = mTok ((c0 ++ c1 ++ c2).getD i 0) := by
  have n6 : ¬ w 71 14 = 6 := by
    rw [hB.2.2.2]
    exact fun y => by have := (nI_eq (b := 6) (by omega) (by decide)).mp y; omega
  have fv : FrM t 0 w (xup (xup w 71 28 0) 71 36 0) := ⟨fun q a _ _ _ => by rw [xup_ne _ _ _ a, xup_ne _ _ _ a], fun j a => by rw [xup_same, upd_n _ _ (by omega), xup_same, upd_n _ _ (by omega)], fun j _ => by rw [xup_ne _ _ _ (by decide), xup_ne _ _ _ (by decide)], fun j _ => by rw [xup_ne _ _ _ (by decide), xup_ne _ _ _ (by decide)]⟩
  have e0 : f_X11_text w = f_X11_text_L26 (1999 + 1) 1 (nI 0) (xup (xup w 71 28 0) 71 36 0) := by
    unfold f_X11_text
    rw [if_neg n6]; rfl
  have v28 : xup (xup w 71 28 0) 71 36 0 71 28 = nI 0 := by rw [xup_same, upd_n _ _ (by decide), xup_same, upd_s]; rfl
  have v36 : xup (xup w 71 28 0) 71 36 0 71 36 = nI 0 := by rw [xup_same, upd_s]; rfl
  generalize xup (xup w 71 28 0) 71 36 0 = v at *
  have Bv := hB.frM fv
  obtain ⟨u1, e1, f1, a1, b1, n1, y1⟩ := s_mpart (k := 0) ht hz (by decide) (Nat.zero_le z) (Nat.le_refl 0) 1999 Bv v28 v36
  have F1 := fv.tr f1
  -- broken: the end
  have brk : ∀ (fu : Nat) (v2 : Int32) (u : xI) (f : Nat), FrM t 0 w u → u 71 29 = nI f → ∃ u', f_X11_text_L26 (fu + 1) 0 v2 u = some (-100 - nI f, u') ∧ FrN t w u' ∧ u' 71 11 = 0 ∧ u' 71 14 = nI t := fun fu v2 u f F h29 => by
    have h14 := (hB.frM F).2.2.2
    refine ⟨_, (s_26N fu v2 u).trans (by rw [(s_122 ht h14).1, h29]), F.N.tr ((FrM.e 0 u 3 _).N.tr (FrN.up _ _ (Or.inl rfl))), by rw [xup_same, upd_s], by rw [xup_same, upd_n _ _ (by decide), xup_ne _ _ _ (by decide)]; exact h14⟩
  have part2 : ∀ p1 c0, tx1 T z 0 0 = (p1, some c0) → p1 ≤ z ∧ c0.length ≤ p1 ∧ ∃ u2, f_X11_text w = f_X11_text_L26 1998 (okI (tx1 T z 1 p1).2) (nI 2) u2 ∧ FrM t c0.length u1 u2 ∧ Ou t 0 c0 u1 ∧ u2 82 (4 * t + 1) = nI c0.length ∧ (∀ j, j ≠ 4 * t + 1 → u2 82 j = u1 82 j) ∧ ((tx1 T z 1 p1).2 = none → u2 71 29 = nI (tx1 T z 1 p1).1) ∧ ∀ c, (tx1 T z 1 p1).2 = some c → u2 71 28 = nI (tx1 T z 1 p1).1 ∧ u2 71 36 = nI (c0.length + c.length) ∧ Ou t c0.length c u2 := fun p1 c0 h => by
    have b := tx1_bd (k := 0) (by decide) (Nat.zero_le z) h
    have y := y1 c0 (by rw [h])
    rw [h] at y e1
    obtain ⟨g1, g2, g3⟩ := y
    rw [Nat.zero_add] at g2
    obtain ⟨u2, e2, f2, a2, b2', n2, y2⟩ := s_mpart (k := 1) (e := c0.length) ht hz (by decide) b.2.1 (by have := b.2.2.1; omega) 1998 (Bv.frM f1) g1 g2
    exact ⟨b.2.1, by have := b.2.2.1; omega, u2, e0.trans (e1.trans e2), f2, g3, a2, b2', n2, y2⟩
  have part3 : ∀ p1 c0 p2 c1, tx1 T z 0 0 = (p1, some c0) → tx1 T z 1 p1 = (p2, some c1) → p2 ≤ z ∧ c0.length + c1.length ≤ p2 ∧ ∃ u2 u3, f_X11_text w = f_X11_text_L26 1997 (okI (tx1 T z 2 p2).2) (nI 3) u3 ∧ FrM t c0.length u1 u2 ∧ FrM t (c0.length + c1.length) u2 u3 ∧ Ou t 0 c0 u1 ∧ Ou t c0.length c1 u2 ∧ u2 82 (4 * t + 1) = nI c0.length ∧ (∀ j, j ≠ 4 * t + 1 → u2 82 j = u1 82 j) ∧ u3 82 (4 * t + 2) = nI (c0.length + c1.length) ∧ (∀ j, j ≠ 4 * t + 2 → u3 82 j = u2 82 j) ∧ ((tx1 T z 2 p2).2 = none → u3 71 29 = nI (tx1 T z 2 p2).1) ∧ ∀ c, (tx1 T z 2 p2).2 = some c → u3 71 28 = nI (tx1 T z 2 p2).1 ∧ u3 71 36 = nI (c0.length + c1.length + c.length) ∧ Ou t (c0.length + c1.length) c u3 := fun p1 c0 p2 c1 h g => by
    obtain ⟨z1, l1, u2, e2, f2, o1, a2, b2, n2, y2⟩ := part2 p1 c0 h
    have b := tx1_bd (k := 1) (by decide) z1 g
    have y := y2 c1 (by rw [g])
    rw [g] at y e2
    obtain ⟨g1, g2, g3⟩ := y
    have l2 := b.2.2.1
    obtain ⟨u3, e3, f3, a3, b3, n3, y3⟩ := s_mpart (k := 2) (e := c0.length + c1.length) ht hz (by decide) b.2.1 (by omega) 1997 ((Bv.frM f1).frM f2) g1 g2
    exact ⟨b.2.1, by omega, u2, u3, e2.trans e3, f2, f3, o1, g3, a2, b2, a3, b3, n3, y3⟩
  -- the end of the tape, behind three parts
  have last : ∀ (u : xI) (p : Nat), FrM t 0 w u → u 71 28 = nI p → p ≤ z → ∃ v, f_X11_text_L26 1997 1 (nI 3) u = (if tM (lxT T z p) = 0 then f_X11_text_L122 1 v else f_X11_text_L122 0 v) ∧ FrT u v ∧ v 71 29 = nI (lxQ T z p) := fun u p F h28 hp => by
    have B := hB.frM F
    obtain ⟨v, r1, r2, r3, ⟨r4, r5⟩, r6⟩ := s_next (γ := Int32 × xI) hz hp B.1 h28 B.2.1 B.2.2.1
    refine ⟨v, ?_, r6, r3⟩
    rw [show f_X11_text_L26 1997 1 (nI 3) u = f_X11_text_L26 (1996 + 1) 1 (nI 3) u from rfl, f_X11_text_L26, if_pos (by decide), if_neg (by decide), r1, r4]
  refine ⟨fun f h => ?_, fun c0 c1 c2 h => ?_⟩
  · rcases h with h | ⟨p1, c0, h, g⟩ | ⟨p1, c0, p2, c1, h, g, k⟩ | ⟨p1, c0, p2, c1, p3, c2, h, g, k, l, m⟩
    · rw [h] at e1 n1
      rw [e0, e1]
      exact brk 1998 _ u1 f F1 (n1 rfl)
    · obtain ⟨z1, l1, u2, e2, f2, o1, a2, b2, n2, y2⟩ := part2 p1 c0 h
      rw [g] at e2 n2
      rw [e2]
      exact brk 1997 _ u2 f (F1.tr (f2.mono (Nat.zero_le _))) (n2 rfl)
    · obtain ⟨z2, l2, u2, u3, e3, f2, f3, o1, o2, a2, b2, a3, b3, n3, y3⟩ := part3 p1 c0 p2 c1 h g
      rw [k] at e3 n3
      rw [e3]
      exact brk 1996 _ u3 f ((F1.tr (f2.mono (Nat.zero_le _))).tr (f3.mono (Nat.zero_le _))) (n3 rfl)
    · obtain ⟨z2, l2, u2, u3, e3, f2, f3, o1, o2, a2, b2, a3, b3, n3, y3⟩ := part3 p1 c0 p2 c1 h g
      have b := tx1_bd (k := 2) (by decide) z2 k
      have y := y3 c2 (by rw [k])
      rw [k] at e3 y
      have F3 := (F1.tr (f2.mono (Nat.zero_le _))).tr (f3.mono (Nat.zero_le _))
      obtain ⟨v', s1, s2, s3⟩ := last u3 p3 F3 y.1 b.2.1
      have Fv : FrM t 0 w v' := F3.tr (FrT.E t 0 s2).M
      have h14 := (hB.frM Fv).2.2.2
      have e4 : f_X11_text w = f_X11_text_L26 1997 1 (nI 3) u3 := e3
      rw [e4, s1, if_neg (fun q => l ((tM_is (lxT T z p3)).2.2.2.2.2.2.2.2 q)), (s_122 ht h14).1, s3, m]
      refine ⟨_, rfl, Fv.N.tr ((FrM.e 0 v' 3 _).N.tr (FrN.up _ _ (Or.inl rfl))), by rw [xup_same, upd_s], by rw [xup_same, upd_n _ _ (by decide), xup_ne _ _ _ (by decide)]; exact h14⟩
  · obtain ⟨p1, p2, p3, h, g, k, l⟩ := h
    obtain ⟨z2, l2, u2, u3, e3, f2, f3, o1, o2, a2, b2, a3, b3, n3, y3⟩ := part3 p1 c0 p2 c1 h g
    have b := tx1_bd (k := 2) (by decide) z2 k
    have y := y3 c2 (by rw [k])
    rw [k] at e3 y
    have F3 := (F1.tr (f2.mono (Nat.zero_le _))).tr (f3.mono (Nat.zero_le _))
    obtain ⟨v', s1, s2, s3⟩ := last u3 p3 F3 y.1 b.2.1
    have Fv : FrM t 0 w v' := F3.tr (FrT.E t 0 s2).M
    have h14 := (hB.frM Fv).2.2.2
    have e4 : f_X11_text w = f_X11_text_L26 1997 1 (nI 3) u3 := e3
    rw [e4, s1, if_pos (by rw [l]; decide), (s_122 ht h14).2]
    have e82 : ∀ j, v' 82 j = u3 82 j := fun j => by rw [s2.1 82 (by decide)]
    have a1' : u1 82 (4 * t) = 0 := by have := a1; rw [Nat.add_zero] at this; rw [this]; rfl
    refine ⟨_, rfl, Fv.N.tr ((FrM.e 0 v' 3 _).N.tr ((FrN.up _ _ (Or.inl rfl)).tr (FrN.up _ _ (Or.inr rfl)))), by rw [xup_same, upd_n _ _ (by decide), xup_same, upd_s], by rw [xup_same, upd_s], ⟨?_, ?_, ?_, ?_⟩, fun i hi => ?_⟩
    · rw [xup_ne _ _ _ (by decide), xup_ne _ _ _ (by decide), xup_same, upd_n _ _ (by omega), e82, b3 _ (by omega), b2 _ (by omega), a1']
    · rw [xup_ne _ _ _ (by decide), xup_ne _ _ _ (by decide), xup_same, upd_n _ _ (by omega), e82, b3 _ (by omega), a2]
    · rw [xup_ne _ _ _ (by decide), xup_ne _ _ _ (by decide), xup_same, upd_n _ _ (by omega), e82, a3]
    · rw [xup_ne _ _ _ (by decide), xup_ne _ _ _ (by decide), xup_same, upd_s, s2.2 36 (by decide) (by decide) (by decide) (by decide)]
      exact y.2.1
    · have O : Ou t 0 (c0 ++ c1 ++ c2) u3 := Ou.app (Ou.app ((o1.frM f2 (by omega)).frM f3 (by omega)) (by rw [Nat.zero_add]; exact o2.frM f3 (Nat.le_refl _))) (by rw [Nat.zero_add, List.length_append]; exact y.2.2)
      rw [xup_ne _ _ _ (by decide), xup_ne _ _ _ (by decide), xup_ne _ _ _ (by decide), s2.1 81 (by decide)]
      have := O i hi
      rw [Nat.add_zero] at this
      exact this
