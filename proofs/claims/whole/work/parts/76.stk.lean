-- ===== the model's stack =====
def kM (x : Int32) : Int32 := if x = -16 then 0 else mTok x
def opL : List Int32 := [-7, -8, -9, -10, -11, -12, -13, -14, -15, -16]
def rkI (a : Int32) : Int32 := if a = 0 then 0 else if a = 11 then 1 else if a = 12 then 2 else if a = 13 then 3 else if 15 < a then (if 17 < a then (if a = 18 then 6 else 7) else 5) else 4
theorem s_rank {γ : Type} (a : Int32) (u : xI) (K : Int32 → xI → Option γ) : xbind (f_X11_rank a u) K = K (rkI a) u := by
  have go : f_X11_rank a u = some (rkI a, u) := by
    unfold f_X11_rank rkI
    by_cases c0 : a = 0
    · rw [if_pos c0, if_pos c0]
    rw [if_neg c0, if_neg c0]
    by_cases c1 : a = 11
    · rw [if_pos c1, if_pos c1]
    rw [if_neg c1, if_neg c1]
    by_cases c2 : a = 12
    · rw [if_pos c2, if_pos c2]
    rw [if_neg c2, if_neg c2]
    by_cases c3 : a = 13
    · rw [if_pos c3, if_pos c3]
    rw [if_neg c3, if_neg c3]
    by_cases c4 : 15 < a
    · rw [if_pos c4, if_pos c4]
      by_cases c5 : 17 < a
      · rw [if_pos c5, if_pos c5]
        by_cases c6 : a = 18
        · rw [if_pos c6, if_pos c6]
        · rw [if_neg c6, if_neg c6]
      · rw [if_neg c5, if_neg c5]
    · rw [if_neg c4, if_neg c4]
  rw [go, xbind_some]
theorem tM_is (t : Int32) : (tM t = 59 → t = -18) ∧ (tM t = 41 → t = -17) ∧ (tM t = 1 → 0 ≤ t) ∧ (tM t = 2 → -6 ≤ t) ∧ (tM t = 6 → t = -9) ∧ (tM t = 45 → t = -13) ∧ (tM t = 40 → t = -16) ∧ (tM t = 3 → -21 ≤ t ∧ t ≤ -19) ∧ (tM t = 0 → t = -22) := by
  by_cases c7 : t = -7
  · subst c7; decide
  by_cases c8 : t = -8
  · subst c8; decide
  by_cases c9 : t = -9
  · subst c9; decide
  by_cases c10 : t = -10
  · subst c10; decide
  by_cases c11 : t = -11
  · subst c11; decide
  by_cases c12 : t = -12
  · subst c12; decide
  by_cases c13 : t = -13
  · subst c13; decide
  by_cases c14 : t = -14
  · subst c14; decide
  by_cases c16 : t = -16
  · subst c16; decide
  by_cases c17 : t = -17
  · subst c17; decide
  by_cases c18 : t = -18
  · subst c18; decide
  by_cases c19 : t = -19
  · subst c19; decide
  by_cases c20 : t = -20
  · subst c20; decide
  by_cases c21 : t = -21
  · subst c21; decide
  by_cases c22 : t = -22
  · subst c22; decide
  have e : tM t = if 0 ≤ t then 1 else if -6 ≤ t then 2 else -1 := by
    unfold tM
    rw [if_neg c7, if_neg c8, if_neg c9, if_neg c10, if_neg c11, if_neg c12, if_neg c13, if_neg c14, if_neg c16, if_neg c17, if_neg c18, if_neg c19, if_neg c20, if_neg c21, if_neg c22]
  rw [e]
  by_cases c : 0 ≤ t
  · rw [if_pos c]; exact ⟨fun h => absurd h (by decide), fun h => absurd h (by decide), fun _ => c, fun h => absurd h (by decide), fun h => absurd h (by decide), fun h => absurd h (by decide), fun h => absurd h (by decide), fun h => absurd h (by decide), fun h => absurd h (by decide)⟩
  · rw [if_neg c]
    by_cases d : -6 ≤ t
    · rw [if_pos d]; exact ⟨fun h => absurd h (by decide), fun h => absurd h (by decide), fun h => absurd h (by decide), fun _ => d, fun h => absurd h (by decide), fun h => absurd h (by decide), fun h => absurd h (by decide), fun h => absurd h (by decide), fun h => absurd h (by decide)⟩
    · rw [if_neg d]; exact ⟨fun h => absurd h (by decide), fun h => absurd h (by decide), fun h => absurd h (by decide), fun h => absurd h (by decide), fun h => absurd h (by decide), fun h => absurd h (by decide), fun h => absurd h (by decide), fun h => absurd h (by decide), fun h => absurd h (by decide)⟩
def sgM (k : Int32) : Int32 := if k = 4 then 11 else if k = 5 then 12 else if k = 60 then 14 else if k = 61 then 15 else if k = 43 then 16 else if k = 45 then 17 else if k = 42 then 18 else -1
theorem s_signOf {γ : Type} (u : xI) (K : Int32 → xI → Option γ) : xbind (f_X11_signOf u) K = K (sgM (u 71 30)) u := by
  have go : f_X11_signOf u = some (sgM (u 71 30), u) := by
    unfold f_X11_signOf sgM
    by_cases c4 : u 71 30 = 4
    · rw [if_pos c4, if_pos c4]
    rw [if_neg c4, if_neg c4]
    by_cases c5 : u 71 30 = 5
    · rw [if_pos c5, if_pos c5]
    rw [if_neg c5, if_neg c5]
    by_cases c60 : u 71 30 = 60
    · rw [if_pos c60, if_pos c60]
    rw [if_neg c60, if_neg c60]
    by_cases c61 : u 71 30 = 61
    · rw [if_pos c61, if_pos c61]
    rw [if_neg c61, if_neg c61]
    by_cases c43 : u 71 30 = 43
    · rw [if_pos c43, if_pos c43]
    rw [if_neg c43, if_neg c43]
    by_cases c45 : u 71 30 = 45
    · rw [if_pos c45, if_pos c45]
    rw [if_neg c45, if_neg c45]
    by_cases c42 : u 71 30 = 42
    · rw [if_pos c42, if_pos c42]
    rw [if_neg c42, if_neg c42]
  rw [go, xbind_some]
theorem sg_jn {L : Nat} {t : Int32} (hL : L ≤ 4) (h : jnT L t = true) : sgM (tM t) = kM t ∧ t ∈ opL ∧ kM t ≠ -1 ∧ (¬ 12 < kM t ↔ L ≤ 1) ∧ tM t ≠ 59 ∧ tM t ≠ 41 := by
  unfold jnT at h
  by_cases c0 : L = 0
  · subst c0
    rw [if_pos rfl] at h
    rw [of_decide_eq_true h]; decide
  by_cases c0 : L = 1
  · subst c0
    rw [if_neg (by decide), if_pos rfl] at h
    rw [of_decide_eq_true h]; decide
  by_cases c0 : L = 2
  · subst c0
    rw [if_neg (by decide), if_neg (by decide), if_pos rfl] at h
    rcases of_decide_eq_true h with e | e <;> (rw [e]; decide)
  by_cases c0 : L = 3
  · subst c0
    rw [if_neg (by decide), if_neg (by decide), if_neg (by decide), if_pos rfl] at h
    rcases of_decide_eq_true h with e | e <;> (rw [e]; decide)
  by_cases c0 : L = 4
  · subst c0
    rw [if_neg (by decide), if_neg (by decide), if_neg (by decide), if_neg (by decide), if_pos rfl] at h
    rw [of_decide_eq_true h]; decide
  omega
theorem sg_no {t : Int32} (h : ∀ L, L ≤ 4 → jnT L t = false) : sgM (tM t) = -1 := by
  by_cases c7 : t = -7
  · subst c7; exact absurd (h 0 (by decide)) (by decide)
  by_cases c8 : t = -8
  · subst c8; exact absurd (h 1 (by decide)) (by decide)
  by_cases c10 : t = -10
  · subst c10; exact absurd (h 2 (by decide)) (by decide)
  by_cases c11 : t = -11
  · subst c11; exact absurd (h 2 (by decide)) (by decide)
  by_cases c12 : t = -12
  · subst c12; exact absurd (h 3 (by decide)) (by decide)
  by_cases c13 : t = -13
  · subst c13; exact absurd (h 3 (by decide)) (by decide)
  by_cases c14 : t = -14
  · subst c14; exact absurd (h 4 (by decide)) (by decide)
  by_cases c9 : t = -9
  · subst c9; decide
  by_cases c16 : t = -16
  · subst c16; decide
  by_cases c17 : t = -17
  · subst c17; decide
  by_cases c18 : t = -18
  · subst c18; decide
  by_cases c19 : t = -19
  · subst c19; decide
  by_cases c20 : t = -20
  · subst c20; decide
  by_cases c21 : t = -21
  · subst c21; decide
  by_cases c22 : t = -22
  · subst c22; decide
  have e : tM t = if 0 ≤ t then 1 else if -6 ≤ t then 2 else -1 := by
    unfold tM
    rw [if_neg c7, if_neg c8, if_neg c9, if_neg c10, if_neg c11, if_neg c12, if_neg c13, if_neg c14, if_neg c16, if_neg c17, if_neg c18, if_neg c19, if_neg c20, if_neg c21, if_neg c22]
  rw [e]
  by_cases c : 0 ≤ t
  · rw [if_pos c]; decide
  · rw [if_neg c]
    by_cases d : -6 ≤ t
    · rw [if_pos d]; decide
    · rw [if_neg d]; decide
theorem op_tab : ∀ x, x ∈ opL → rkI (kM x) = nI (rkT x) ∧ rkT x ≤ 7 ∧ (kM x = 13 ↔ x = -9) ∧ (kM x = 19 ↔ x = -15) ∧ (1 ≤ rkT x → kM x = mTok x ∧ x ≠ -16) := by decide
def KOk (K : List Int32) : Prop := ∀ x, x ∈ K → x ∈ opL
def Hd (u : xI) : List Int32 → Prop
  | [] => True
  | x :: K => u 92 K.length = kM x ∧ Hd u K
theorem Hd.cg {u v : xI} : ∀ (K : List Int32), (∀ j, j < K.length → v 92 j = u 92 j) → Hd u K → Hd v K := by
  intro K
  induction K with
  | nil => intro _ _; trivial
  | cons x K ih =>
    intro h g
    exact ⟨by rw [h K.length (by simp)]; exact g.1, ih (fun j hj => h j (by simp; omega)) g.2⟩
def Ou (t e : Nat) (o : List Int32) (u : xI) : Prop := ∀ i, i < o.length → u 81 (200 * t + e + i) = mTok (o.getD i 0)
theorem Ou.cg {t e : Nat} {o : List Int32} {u v : xI} (h : v 81 = u 81) (g : Ou t e o u) : Ou t e o v := fun i hi => by rw [h]; exact g i hi
def St (t e : Nat) (K o : List Int32) (u : xI) : Prop := u 71 34 = nI K.length ∧ u 71 35 = nI (ocn K) ∧ u 71 36 = nI (e + o.length) ∧ Hd u K ∧ Ou t e o u
def FrS (t e : Nat) (u u' : xI) : Prop := (∀ q, q ≠ 71 → q ≠ 81 → q ≠ 92 → u' q = u q) ∧ (∀ j, j ≠ 34 → j ≠ 35 → j ≠ 36 → u' 71 j = u 71 j) ∧ ∀ j, j < 200 * t + e → u' 81 j = u 81 j
theorem FrS.rf (t e : Nat) (u : xI) : FrS t e u u := ⟨fun _ _ _ _ => rfl, fun _ _ _ _ => rfl, fun _ _ => rfl⟩
theorem FrS.tr {t e : Nat} {u v w : xI} (h1 : FrS t e u v) (h2 : FrS t e v w) : FrS t e u w := ⟨fun q a b c => (h2.1 q a b c).trans (h1.1 q a b c), fun j a b c => (h2.2.1 j a b c).trans (h1.2.1 j a b c), fun j hj => (h2.2.2 j hj).trans (h1.2.2 j hj)⟩
theorem FrS.up {t e : Nat} (u : xI) {j : Nat} (x : Int32) (h : 34 ≤ j ∧ j ≤ 36) : FrS t e u (xup u 71 j x) := ⟨fun q a _ _ => xup_ne _ _ _ a, fun i a b c => by rw [xup_same, upd_n _ _ (by omega)], fun i _ => by rw [xup_ne _ _ _ (by decide)]⟩
theorem s_puts {γ : Type} {t e : Nat} (ht : t < 6) {o K : List Int32} {u : xI} {x : Int32} (hn : e + o.length < 200) (h14 : u 71 14 = nI t) (h : St t e K o u) : ∃ u', (∀ Kk : Unit → xI → Option γ, xbind (f_X11_puts (mTok x) u) Kk = Kk () u') ∧ St t e K (o ++ [x]) u' ∧ FrS t e u u' := by
  obtain ⟨a1, a2, a3, a4, a5⟩ := h
  have em : (200 : Int32) * nI t + nI (e + o.length) = nI (200 * t + (e + o.length)) := by rw [show (200 : Int32) = nI 200 from rfl, pk_mul, nI_add]
  refine ⟨xup (xup u 81 (200 * t + (e + o.length)) (mTok x)) 71 36 (nI (e + o.length + 1)), fun Kk => ?_, ⟨?_, ?_, ?_, ?_, fun i hi => ?_⟩, ⟨fun q a b c => by rw [xup_ne _ _ _ a, xup_ne _ _ _ b], fun j a b c => by rw [xup_same, upd_n _ _ c, xup_ne _ _ _ (by decide)], fun j hj => by rw [xup_ne _ _ _ (by decide), xup_same, upd_n _ _ (by omega)]⟩⟩
  · unfold f_X11_puts
    rw [h14, a3, em, xin_nI (by omega) (by decide), xchk_true, xbind_some, nI_clamp (by omega), nI_1]
  · rw [xup_same, upd_n _ _ (by decide), xup_ne _ _ _ (by decide)]; exact a1
  · rw [xup_same, upd_n _ _ (by decide), xup_ne _ _ _ (by decide)]; exact a2
  · rw [xup_same, upd_s, List.length_append, List.length_singleton, Nat.add_assoc]
  · exact Hd.cg K (fun j _ => by rw [xup_ne _ _ _ (by decide), xup_ne _ _ _ (by decide)]) a4
  · rw [List.length_append, List.length_singleton] at hi
    rw [xup_ne _ _ _ (by decide), xup_same]
    by_cases g : i < o.length
    · rw [gd_lt _ _ _ g, upd_n _ _ (by omega)]; exact a5 i g
    · have ei : i = o.length := by omega
      subst ei
      rw [show 200 * t + (e + o.length) = 200 * t + e + o.length by omega, upd_s]
      have := gd_ge o [x] 0
      rw [Nat.add_zero] at this
      rw [this]; rfl
theorem s_heldM {γ : Type} {t e : Nat} {o K : List Int32} {u : xI} {x : Int32} (hn : K.length < 200) (h4 : u 71 34 = nI K.length) (h5 : u 71 35 = nI (ocn (x :: K))) (h6 : u 71 36 = nI (e + o.length)) (hH : Hd u K) (hO : Ou t e o u) : ∃ u', (∀ Kk : Unit → xI → Option γ, xbind (f_X11_holds (kM x) u) Kk = Kk () u') ∧ St t e (x :: K) o u' ∧ FrS t e u u' := by
  refine ⟨xup (xup u 92 K.length (kM x)) 71 34 (nI (K.length + 1)), fun Kk => ?_, ⟨?_, ?_, ?_, ⟨?_, ?_⟩, hO.cg (by rw [xup_ne _ _ _ (by decide), xup_ne _ _ _ (by decide)])⟩, ⟨fun q a b c => by rw [xup_ne _ _ _ a, xup_ne _ _ _ c], fun j a b c => by rw [xup_same, upd_n _ _ a, xup_ne _ _ _ (by decide)], fun j hj => by rw [xup_ne _ _ _ (by decide), xup_ne _ _ _ (by decide)]⟩⟩
  · unfold f_X11_holds
    rw [h4, xin_nI hn (by decide), xchk_true, xbind_some, nI_clamp (by omega), nI_1]
  · rw [xup_same, upd_s]; rfl
  · rw [xup_same, upd_n _ _ (by decide), xup_ne _ _ _ (by decide)]; exact h5
  · rw [xup_same, upd_n _ _ (by decide), xup_ne _ _ _ (by decide)]; exact h6
  · rw [xup_ne _ _ _ (by decide), xup_same, upd_s]
  · exact Hd.cg K (fun j hj => by rw [xup_ne _ _ _ (by decide), xup_same, upd_n _ _ (by omega)]) hH
theorem ocn_cons (x : Int32) (K : List Int32) : ocn (x :: K) = (if x = -9 ∨ x = -15 ∨ x = -16 then 1 else 0) + ocn K := rfl
theorem unw_cons (r : Nat) (x : Int32) (K o : List Int32) : unw r (x :: K) o = if rkT x < r then (x :: K, o) else unw r K (o ++ [x]) := rfl
theorem unw_len (r : Nat) : ∀ K o : List Int32, (unw r K o).1.length + (unw r K o).2.length = K.length + o.length := by
  intro K
  induction K with
  | nil => intro o; rfl
  | cons x K ih =>
    intro o
    rw [unw_cons]
    by_cases c : rkT x < r
    · rw [if_pos c]
    · rw [if_neg c, ih (o ++ [x]), List.length_append, List.length_singleton, List.length_cons]; omega
theorem unw_ok (r : Nat) : ∀ K o : List Int32, KOk K → KOk (unw r K o).1 ∧ ocn (unw r K o).1 ≤ ocn K := by
  intro K
  induction K with
  | nil => intro o h; exact ⟨h, Nat.le_refl _⟩
  | cons x K ih =>
    intro o h
    rw [unw_cons]
    by_cases c : rkT x < r
    · rw [if_pos c]; exact ⟨h, Nat.le_refl _⟩
    · rw [if_neg c]
      obtain ⟨g1, g2⟩ := ih (o ++ [x]) (fun y hy => h y (List.mem_cons_of_mem _ hy))
      exact ⟨g1, Nat.le_trans g2 (by rw [ocn_cons]; omega)⟩
theorem s_unwL {t e : Nat} (ht : t < 6) {r : Nat} (hr : 1 ≤ r) (hr7 : r ≤ 7) : ∀ (K o : List Int32) (fu : Nat) (u : xI), K.length < fu → e + o.length + K.length ≤ 160 → KOk K → u 71 14 = nI t → St t e K o u → ∃ u', f_X11_unwinds_L0 fu (nI r) u = some ((), u') ∧ St t e (unw r K o).1 (unw r K o).2 u' ∧ FrS t e u u' := by
  intro K
  induction K with
  | nil =>
    intro o fu u hf hn hk h14 h
    obtain ⟨fu, rfl⟩ : ∃ g, fu = g + 1 := ⟨fu - 1, by omega⟩
    refine ⟨u, ?_, h, FrS.rf t e u⟩
    rw [f_X11_unwinds_L0, h.1, if_pos (by decide)]
  | cons x K ih =>
    intro o fu u hf hn hk h14 h
    obtain ⟨fu, rfl⟩ : ∃ g, fu = g + 1 := ⟨fu - 1, by omega⟩
    obtain ⟨a1, a2, a3, ⟨a4, a4'⟩, a5⟩ := h
    rw [List.length_cons] at hf hn a1
    obtain ⟨t1, t2, t3, t4, t5⟩ := op_tab x (hk x (List.mem_cons_self ..))
    have nz : ¬ nI (K.length + 1) ≤ 0 := nI_nle (by omega) (by omega)
    rw [f_X11_unwinds_L0, a1, if_neg nz, nI_pred, xin_nI (by omega) (by decide), xchk_true, nI_clamp (by omega), a4, s_rank, t1, unw_cons]
    by_cases c : rkT x < r
    · rw [if_pos (nI_lt c (by omega)), if_pos c]
      exact ⟨u, rfl, ⟨by rw [a1]; rfl, a2, a3, ⟨a4, a4'⟩, a5⟩, FrS.rf t e u⟩
    · rw [if_neg (show ¬ nI (rkT x) < nI r from nI_nlt (by omega) (by omega)), if_neg c, a1, nI_pred, xin_nI (by omega) (by decide), xchk_true, nI_clamp (by omega), xlet_eq, a4]
      obtain ⟨t6, t7⟩ := t5 (by omega)
      have go : ∀ d : Int32, u 71 35 - d = nI (ocn K) → ∃ u', (xbind (f_X11_puts (kM x) (xup (xup u 71 34 (nI K.length)) 71 35 (u 71 35 - d))) fun r4 w5 => f_X11_unwinds_L0 fu (nI r) w5) = some ((), u') ∧ St t e (unw r K (o ++ [x])).1 (unw r K (o ++ [x])).2 u' ∧ FrS t e u u' := fun d ed => by
        have f0 : FrS t e u (xup (xup u 71 34 (nI K.length)) 71 35 (u 71 35 - d)) := (FrS.up u _ (by decide)).tr (FrS.up _ _ (by decide))
        have s0 : St t e K o (xup (xup u 71 34 (nI K.length)) 71 35 (u 71 35 - d)) := ⟨by rw [xup_same, upd_n _ _ (by decide), xup_same, upd_s], by rw [xup_same, upd_s, ed], by rw [xup_same, upd_n _ _ (by decide), xup_same, upd_n _ _ (by decide)]; exact a3, Hd.cg K (fun j _ => by rw [xup_ne _ _ _ (by decide), xup_ne _ _ _ (by decide)]) a4', a5.cg (by rw [xup_ne _ _ _ (by decide), xup_ne _ _ _ (by decide)])⟩
        have e14 : xup (xup u 71 34 (nI K.length)) 71 35 (u 71 35 - d) 71 14 = nI t := by rw [f0.2.1 14 (by decide) (by decide) (by decide), h14]
        obtain ⟨u1, r1, r2, r3⟩ := s_puts (γ := Unit × xI) (x := x) ht (by omega) e14 s0
        rw [t6, r1]
        obtain ⟨u2, q1, q2, q3⟩ := ih (o ++ [x]) fu u1 (by omega) (by rw [List.length_append, List.length_singleton]; omega) (fun y hy => hk y (List.mem_cons_of_mem _ hy)) (by rw [r3.2.1 14 (by decide) (by decide) (by decide), e14]) r2
        exact ⟨u2, q1, q2, (f0.tr r3).tr q3⟩
      have oc := ocn_cons x K
      by_cases c9 : x = -9
      · rw [if_pos (t3.mpr c9)]
        exact go 1 (by rw [a2, oc, if_pos (Or.inl c9), Nat.add_comm, nI_pred])
      · rw [if_neg (fun y => c9 (t3.mp y))]
        by_cases c15 : x = -15
        · rw [if_pos (t4.mpr c15)]
          exact go 1 (by rw [a2, oc, if_pos (Or.inr (Or.inl c15)), Nat.add_comm, nI_pred])
        · rw [if_neg (fun y => c15 (t4.mp y))]
          exact go 0 (by rw [a2, oc, if_neg (by intro y; rcases y with y | y | y; exact c9 y; exact c15 y; exact t7 y), Nat.zero_add, Int32.sub_zero])
theorem s_unw {γ : Type} {t e : Nat} (ht : t < 6) {r : Nat} (hr : 1 ≤ r) (hr7 : r ≤ 7) {K o : List Int32} {u : xI} (hn : e + o.length + K.length ≤ 160) (hk : KOk K) (h14 : u 71 14 = nI t) (h : St t e K o u) : ∃ u', (∀ Kk : Unit → xI → Option γ, xbind (f_X11_unwinds (nI r) u) Kk = Kk () u') ∧ St t e (unw r K o).1 (unw r K o).2 u' ∧ FrS t e u u' := by
  obtain ⟨u', q1, q2, q3⟩ := s_unwL ht hr hr7 K o 2000 u (by omega) hn hk h14 h
  refine ⟨u', fun Kk => ?_, q2, q3⟩
  unfold f_X11_unwinds
  rw [q1, xbind_some]
