-- ===== the model reads one part =====
def wv (w : Option Bool) : Int32 := match w with
  | none => 0
  | some _ => 1
def okI (o : Option (List Int32)) : Int32 := match o with
  | none => 0
  | some _ => 1
def FrE (t e : Nat) (u u' : xI) : Prop := (∀ q, q ≠ 71 → q ≠ 81 → q ≠ 92 → u' q = u q) ∧ (∀ j, j < 28 ∨ (j = 32 ∨ j = 33) ∨ 36 < j → u' 71 j = u 71 j) ∧ ∀ j, j < 200 * t + e → u' 81 j = u 81 j
theorem FrE.tr {t e : Nat} {u v w : xI} (h1 : FrE t e u v) (h2 : FrE t e v w) : FrE t e u w := ⟨fun q a b c => (h2.1 q a b c).trans (h1.1 q a b c), fun j a => (h2.2.1 j a).trans (h1.2.1 j a), fun j hj => (h2.2.2 j hj).trans (h1.2.2 j hj)⟩
theorem FrS.E {t e : Nat} {u v : xI} (h : FrS t e u v) : FrE t e u v := ⟨h.1, fun j a => h.2.1 j (by omega) (by omega) (by omega), h.2.2⟩
theorem FrT.E {u v : xI} (t e : Nat) (h : FrT u v) : FrE t e u v := ⟨fun q a _ _ => h.1 q a, fun j a => h.2 j (by omega) (by omega) (by omega) (by omega), fun j _ => by rw [h.1 81 (by decide)]⟩
def Bm (T : Nat → Int32) (z t : Nat) (u : xI) : Prop := u 71 11 = nI z ∧ (∀ j, j < z → u 80 j = T j) ∧ (∀ j, j < 96 → u 91 j = xWords.getD j 0) ∧ u 71 14 = nI t
theorem Bm.fr {T : Nat → Int32} {z t e : Nat} {u v : xI} (h : Bm T z t u) (f : FrE t e u v) : Bm T z t v := ⟨by rw [f.2.1 11 (Or.inl (by decide))]; exact h.1, fun j hj => by rw [f.1 80 (by decide) (by decide) (by decide)]; exact h.2.1 j hj, fun j hj => by rw [f.1 91 (by decide) (by decide) (by decide)]; exact h.2.2.1 j hj, by rw [f.2.1 14 (Or.inl (by decide))]; exact h.2.2.2⟩
theorem St.nx {t e : Nat} {K o : List Int32} {u v : xI} (f : FrT u v) (h : St t e K o u) : St t e K o v := by
  obtain ⟨a1, a2, a3, a4, a5⟩ := h
  exact ⟨by rw [f.2 34 (by decide) (by decide) (by decide) (by decide)]; exact a1, by rw [f.2 35 (by decide) (by decide) (by decide) (by decide)]; exact a2, by rw [f.2 36 (by decide) (by decide) (by decide) (by decide)]; exact a3, Hd.cg K (fun j _ => by rw [f.1 92 (by decide)]) a4, a5.cg (f.1 81 (by decide))⟩
theorem unw_hd (r : Nat) : ∀ (K o : List Int32) (x : Int32) (K' : List Int32), (unw r K o).1 = x :: K' → rkT x < r := by
  intro K
  induction K with
  | nil => intro o x K' h; exact absurd h (by simp [unw])
  | cons y K ih =>
    intro o x K' h
    rw [unw_cons] at h
    by_cases c : rkT y < r
    · rw [if_pos c] at h
      have : y = x := (List.cons.inj h).1
      rw [← this]; exact c
    · rw [if_neg c] at h
      exact ih _ _ _ h
theorem op_16 : ∀ x, x ∈ opL → rkT x < 1 → x = -16 := by decide
theorem s_open1 {γ : Type} {t e : Nat} {o K : List Int32} {u : xI} {x : Int32} (hx : x = -9 ∨ x = -15 ∨ x = -16) (hn : K.length < 200) (h : St t e K o u) (hc : ocn K < 5) : ∃ u', (∀ Kk : Int32 → xI → Option γ, xbind (f_X11_opensOne (kM x) u) Kk = Kk 1 u') ∧ St t e (x :: K) o u' ∧ FrS t e u u' := by
  obtain ⟨a1, a2, a3, a4, a5⟩ := h
  have f0 : FrS t e u (xup u 71 35 (nI (ocn K + 1))) := FrS.up u _ (by decide)
  obtain ⟨u', r1, r2, r3⟩ := s_heldM (γ := Int32 × xI) (t := t) (e := e) (o := o) (K := K) (u := xup u 71 35 (nI (ocn K + 1))) (x := x) hn (by rw [xup_same, upd_n _ _ (by decide)]; exact a1) (by rw [xup_same, upd_s, ocn_cons, if_pos hx, Nat.add_comm]) (by rw [xup_same, upd_n _ _ (by decide)]; exact a3) (Hd.cg K (fun j _ => by rw [xup_ne _ _ _ (by decide)]) a4) (a5.cg (xup_ne _ _ _ (by decide)))
  refine ⟨u', fun Kk => ?_, r2, f0.tr r3⟩
  have e1 : f_X11_opensOne (kM x) u = some (1, u') := by
    unfold f_X11_opensOne
    rw [a2, if_neg (show ¬ nI (ocn K) = 5 from fun y => by have := (nI_eq (b := 5) (by omega) (by decide)).mp y; omega), nI_1]
    exact r1 _
  rw [e1, xbind_some]
theorem s_open1N {γ : Type} {t e : Nat} {o K : List Int32} {u : xI} (x : Int32) (h : St t e K o u) (hc : ocn K = 5) (Kk : Int32 → xI → Option γ) : xbind (f_X11_opensOne x u) Kk = Kk 0 u := by
  have e1 : f_X11_opensOne x u = some (0, u) := by
    unfold f_X11_opensOne
    rw [h.2.1, if_pos (show nI (ocn K) = 5 by rw [hc]; rfl)]
  rw [e1, xbind_some]
theorem al_4 : ∀ L, L ≤ 4 → (nI (alL L) = 4 ↔ L = 2) ∧ (L ≠ 2 → nI (alL L) = nI (unL L)) := by decide
theorem s_btw {γ : Type} {t e L : Nat} (ht : t < 6) (hL : L ≤ 4) {x : Int32} (hj : jnT L x = true) {K o : List Int32} {u : xI} (hn : e + o.length + K.length ≤ 160) (hk : KOk K) (h14 : u 71 14 = nI t) (h : St t e K o u) (h3 : L = 2 → ∀ y K', (unw (unL L) K o).1 = y :: K' → rkT y ≠ 4) : ∃ u', (∀ Kk : Int32 → xI → Option γ, xbind (f_X11_between (kM x) u) Kk = Kk 1 u') ∧ St t e (x :: (unw (unL L) K o).1) (unw (unL L) K o).2 u' ∧ FrS t e u u' := by
  obtain ⟨g1, g2, g3, g4, g5, g6⟩ := sg_jn hL hj
  obtain ⟨j1, j2⟩ := jn_rk hL hj
  obtain ⟨⟨-, -, -, j3⟩, j4⟩ := jn_tok hj
  obtain ⟨t1, -⟩ := op_tab x g2
  obtain ⟨l1, l2⟩ := al_4 L hL
  have u1 : 1 ≤ unL L ∧ unL L ≤ 7 := by
    have : ∀ L, L ≤ 4 → 1 ≤ unL L ∧ unL L ≤ 7 := by decide
    exact this L hL
  obtain ⟨v, q1, q2, q3⟩ := s_unw (γ := Int32 × xI) ht u1.1 u1.2 hn hk h14 h
  have ul := unw_len (unL L) K o
  obtain ⟨b1, b2, b3, b4, b5⟩ := q2
  obtain ⟨w, r1, r2, r3⟩ := s_heldM (γ := Int32 × xI) (x := x) (by omega) b1 (by rw [ocn_cons, if_neg (by intro y; rcases y with y | y | y; exact j3 (Or.inl y); exact j3 (Or.inr y); exact j2 y), Nat.zero_add]; exact b2) b3 b4 b5
  refine ⟨w, fun Kk => ?_, r2, q3.tr r3⟩
  have e1 : f_X11_between (kM x) u = some (1, w) := by
    have e0 : f_X11_between (kM x) u = f_X11_between_L17 (kM x) (nI (unL L)) u := by
      unfold f_X11_between
      rw [s_rank, t1, j1]
      by_cases c : L = 2
      · rw [if_pos (l1.mpr c), c]; rfl
      · rw [if_neg (fun y => c (l1.mp y)), s_rank, t1, j1, l2 c]
    rw [e0]
    unfold f_X11_between_L17
    rw [q1, s_rank, t1, j1]
    by_cases c : L = 2
    · rw [if_pos (l1.mpr c)]
      have h3' := h3 c
      have ok := (unw_ok (unL L) K o hk).1
      generalize (unw (unL L) K o).1 = K1 at *
      cases K1 with
      | nil => rw [b1, if_pos (show nI ([] : List Int32).length ≤ 0 by decide)]; exact r1 _
      | cons y K' =>
        have hy : y ∈ opL := ok y (List.mem_cons_self ..)
        rw [b1, List.length_cons, if_neg (nI_nle (by omega) (by rw [List.length_cons] at ul; omega)), nI_pred, xin_nI (by rw [List.length_cons] at ul; omega) (by decide), xchk_true, nI_clamp (by rw [List.length_cons] at ul; omega), b4.1, s_rank, (op_tab y hy).1, if_neg (show ¬ nI (rkT y) = 4 from fun q => h3' y K' rfl ((nI_eq (b := 4) (by have := (op_tab y hy).2.1; omega) (by decide)).mp q))]
        exact r1 _
    · rw [if_neg (fun y => c (l1.mp y))]
      exact r1 _
  rw [e1, xbind_some]
theorem s_btwN {γ : Type} {t e : Nat} (ht : t < 6) {x : Int32} (hj : jnT 2 x = true) {K o : List Int32} {u : xI} (hn : e + o.length + K.length ≤ 160) (hk : KOk K) (h14 : u 71 14 = nI t) (h : St t e K o u) {y : Int32} {K' : List Int32} (h3 : (unw 5 K o).1 = y :: K') (h4 : rkT y = 4) : ∃ u', (∀ Kk : Int32 → xI → Option γ, xbind (f_X11_between (kM x) u) Kk = Kk 0 u') ∧ FrS t e u u' := by
  obtain ⟨g1, g2, g3, g4, g5, g6⟩ := sg_jn (L := 2) (by decide) hj
  obtain ⟨j1, j2⟩ := jn_rk (L := 2) (by decide) hj
  obtain ⟨t1, -⟩ := op_tab x g2
  obtain ⟨v, q1, q2, q3⟩ := s_unw (γ := Int32 × xI) (r := 5) ht (by decide) (by decide) hn hk h14 h
  have ul := unw_len 5 K o
  have ok := (unw_ok 5 K o hk).1
  obtain ⟨b1, b2, b3, b4, b5⟩ := q2
  refine ⟨v, fun Kk => ?_, q3⟩
  have e1 : f_X11_between (kM x) u = some (0, v) := by
    unfold f_X11_between
    rw [s_rank, t1, j1, if_pos (show nI (alL 2) = 4 by decide)]
    unfold f_X11_between_L17
    have q1' : ∀ Kk : Unit → xI → Option (Int32 × xI), xbind (f_X11_unwinds 5 u) Kk = Kk () v := q1
    rw [q1', s_rank, t1, j1, if_pos (show nI (alL 2) = 4 by decide)]
    rw [h3] at b1 b4 ul ok
    have hy := ok y (List.mem_cons_self ..)
    rw [List.length_cons] at b1 ul
    rw [b1, if_neg (nI_nle (by omega) (by omega)), nI_pred, xin_nI (by omega) (by decide), xchk_true, nI_clamp (by omega), b4.1, s_rank, (op_tab y hy).1, if_pos (show nI (rkT y) = 4 by rw [h4]; rfl)]
  rw [e1, xbind_some]
def Er (z t e : Nat) (u : xI) (r : Nat × Option (List Int32)) (X : Option (Int32 × xI)) : Prop := ∃ u', X = some (okI r.2, u') ∧ FrE t e u u' ∧ (r.2 = none → u' 71 29 = nI r.1) ∧ ∀ c, r.2 = some c → u' 71 28 = nI r.1 ∧ u' 71 36 = nI (e + c.length) ∧ Ou t e c u' ∧ r.1 ≤ z ∧ e + c.length ≤ r.1
theorem Er.from {z t e : Nat} {u v : xI} {r : Nat × Option (List Int32)} {X : Option (Int32 × xI)} (f : FrE t e u v) (h : Er z t e v r X) : Er z t e u r X := by
  obtain ⟨u', h1, h2, h3⟩ := h
  exact ⟨u', h1, f.tr h2, h3⟩
theorem Er.no {z t e : Nat} {u v : xI} {q : Nat} (f : FrE t e u v) (h : v 71 29 = nI q) : Er z t e u (q, none) (some (0, v)) := ⟨v, rfl, f, fun _ => h, fun c y => absurd y (by simp)⟩
