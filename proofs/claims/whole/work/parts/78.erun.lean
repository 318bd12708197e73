-- ===== the model reads one part: what Run says =====
theorem s_run {T : Nat → Int32} {z t e : Nat} (ht : t < 6) (hz : z ≤ 160) : ∀ (n : Nat) (w : Option Bool) (K o : List Int32) (p : Nat) (r : Nat × Option (List Int32)), RunN T z n w K o p r → ∀ (fu : Nat) (u : xI) (v2 : Int32), p ≤ z → z - p < fu → Bm T z t u → u 71 28 = nI p → St t e K o u → e + o.length + K.length ≤ p → KOk K → ocn K ≤ 5 → (∀ m, w = some m → v2 = if m = true then 1 else 0) → Er z t e u r (f_X11_eRead_L14 fu (wv w) v2 u) := by
  intro n
  induction n with
  | zero => intro w K o p r h; exact h.elim
  | succ n ih =>
    intro w K o p r h fu u v2 hp hf hB h28 hS hn hk hoc hv
    obtain ⟨fu, rfl⟩ : ∃ g, fu = g + 1 := ⟨fu - 1, by omega⟩
    obtain ⟨u1, r1, r2, r3, ⟨r4, r5⟩, r6⟩ := s_next (γ := Int32 × xI) hz hp hB.1 h28 hB.2.1 hB.2.2.1
    have f1 : FrE t e u u1 := FrT.E t e r6
    have B1 := hB.fr f1
    have S1 := hS.nx r6
    have bq := lx_bd (T := T) hp
    have isq := tM_is (lxT T z p)
    -- on with the loop
    have on : ∀ (w' : Option Bool) (K' o' : List Int32) (u2 : xI) (v2' : Int32), lxT T z p ≠ -22 → RunN T z n w' K' o' (lxR T z p) r → FrS t e u1 u2 → St t e K' o' u2 → e + o'.length + K'.length ≤ p + 1 → KOk K' → ocn K' ≤ 5 → (∀ m, w' = some m → v2' = if m = true then 1 else 0) → Er z t e u r (f_X11_eRead_L14 fu (wv w') v2' u2) := fun w' K' o' u2 v2' a1 a2 a3 a4 a5 a6 a7 a8 => by
      have lt := lx_lt hp a1
      exact Er.from (f1.tr a3.E) (ih w' K' o' (lxR T z p) r a2 fu u2 v2' lt.2.1 (by omega) (B1.fr a3.E) (by rw [a3.2.1 28 (by decide) (by decide) (by decide)]; exact r2) a4 (by omega) a6 a7 a8)
    have no : ∀ v : xI, FrS t e u1 v → Er z t e u (lxQ T z p, none) (some (0, v)) := fun v f => Er.no (f1.tr f.E) (by rw [f.2.1 29 (by decide) (by decide) (by decide)]; exact r3)
    rcases h with h | h | h | h | h | h | h | h | h | h | h | h | h
    · obtain ⟨rfl, h1, h2, rfl⟩ := h
      obtain ⟨u2, q1, q2, q3⟩ := s_unw (γ := Int32 × xI) (r := 1) ht (by decide) (by decide) (by omega) hk B1.2.2.2 S1
      have q1' : ∀ Kk : Unit → xI → Option (Int32 × xI), xbind (f_X11_unwinds 1 u1) Kk = Kk () u2 := q1
      have ul := unw_len 1 K o
      obtain ⟨b1, b2, b3, b4, b5⟩ := q2
      rw [h2] at b1 ul
      have lt := lx_lt hp (by rw [h1]; decide)
      rw [show wv none = 0 from rfl, f_X11_eRead_L14, r1, if_pos rfl, r4, h1, if_pos (by decide), q1', b1, if_pos (by decide)]
      refine ⟨u2, rfl, f1.tr q3.E, fun y => absurd y (by simp), fun c y => ?_⟩
      have ec : (unw 1 K o).2 = c := Option.some.inj y
      rw [← ec]
      refine ⟨by rw [q3.2.1 28 (by decide) (by decide) (by decide)]; exact r2, b3, b5, bq.2.2.1, ?_⟩
      rw [List.length_nil] at ul
      have := lt.1
      show e + (unw 1 K o).2.length ≤ lxR T z p
      omega
    · obtain ⟨rfl, h1, h2, rfl⟩ := h
      obtain ⟨u2, q1, q2, q3⟩ := s_unw (γ := Int32 × xI) (r := 1) ht (by decide) (by decide) (by omega) hk B1.2.2.2 S1
      have q1' : ∀ Kk : Unit → xI → Option (Int32 × xI), xbind (f_X11_unwinds 1 u1) Kk = Kk () u2 := q1
      have ul := unw_len 1 K o
      have nz : ¬ nI (unw 1 K o).1.length = 0 := nI_ne0 (by
        cases hc : (unw 1 K o).1 with
        | nil => exact absurd hc h2
        | cons x K' => rw [List.length_cons]; omega) (by omega)
      rw [show wv none = 0 from rfl, f_X11_eRead_L14, r1, if_pos rfl, r4, h1, if_pos (by decide), q1', q2.1, if_neg nz]
      exact no u2 q3
    · obtain ⟨rfl, h1, x, K', h2, h3⟩ := h
      obtain ⟨u2, q1, q2, q3⟩ := s_unw (γ := Int32 × xI) (r := 1) ht (by decide) (by decide) (by omega) hk B1.2.2.2 S1
      have q1' : ∀ Kk : Unit → xI → Option (Int32 × xI), xbind (f_X11_unwinds 1 u1) Kk = Kk () u2 := q1
      have ul := unw_len 1 K o
      obtain ⟨ok, oc⟩ := unw_ok 1 K o hk
      have hd := unw_hd 1 K o x K' h2
      obtain ⟨b1, b2, b3, b4, b5⟩ := q2
      rw [h2] at b1 b2 b4 ul ok oc
      have hx := op_16 x (ok x (List.mem_cons_self ..)) hd
      rw [List.length_cons] at b1 ul
      rw [ocn_cons, if_pos (Or.inr (Or.inr hx))] at b2 oc
      have f3 : FrS t e u2 (xup (xup u2 71 34 (u2 71 34 - 1)) 71 35 (u2 71 35 - 1)) := (FrS.up u2 _ (by decide)).tr (FrS.up _ _ (by decide))
      have S3 : St t e K' (unw 1 K o).2 (xup (xup u2 71 34 (u2 71 34 - 1)) 71 35 (u2 71 35 - 1)) := ⟨by rw [xup_same, upd_n _ _ (by decide), xup_same, upd_s, b1, nI_pred], by rw [xup_same, upd_s, b2, Nat.add_comm, nI_pred], by rw [xup_same, upd_n _ _ (by decide), xup_same, upd_n _ _ (by decide)]; exact b3, Hd.cg K' (fun j _ => by rw [xup_ne _ _ _ (by decide), xup_ne _ _ _ (by decide)]) b4.2, b5.cg (by rw [xup_ne _ _ _ (by decide), xup_ne _ _ _ (by decide)])⟩
      have ok' : KOk K' := fun y hy => ok y (List.mem_cons_of_mem _ hy)
      obtain ⟨u4, s1, s2, s3⟩ := s_unw (γ := Int32 × xI) (r := 7) ht (by decide) (by decide) (by omega) ok' (by rw [(q3.tr f3).2.1 14 (by decide) (by decide) (by decide)]; exact B1.2.2.2) S3
      have s1' : ∀ Kk : Unit → xI → Option (Int32 × xI), xbind (f_X11_unwinds 7 (xup (xup u2 71 34 (u2 71 34 - 1)) 71 35 (u2 71 35 - 1))) Kk = Kk () u4 := s1
      have ul7 := unw_len 7 K' (unw 1 K o).2
      obtain ⟨ok7, oc7⟩ := unw_ok 7 K' (unw 1 K o).2 ok'
      have nz : ¬ u2 71 34 = 0 := by rw [b1]; exact nI_ne0 (by omega) (by omega)
      rw [show wv none = 0 from rfl, f_X11_eRead_L14, r1, if_pos rfl, r4, h1, if_neg (by decide), if_pos (by decide), q1', if_neg nz, s1']
      exact on none _ _ u4 v2 (by rw [h1]; decide) h3 ((q3.tr f3).tr s3) s2 (by omega) ok7 (by omega) (fun m y => absurd y (by simp))
    · obtain ⟨rfl, h1, h2, rfl⟩ := h
      obtain ⟨u2, q1, q2, q3⟩ := s_unw (γ := Int32 × xI) (r := 1) ht (by decide) (by decide) (by omega) hk B1.2.2.2 S1
      have q1' : ∀ Kk : Unit → xI → Option (Int32 × xI), xbind (f_X11_unwinds 1 u1) Kk = Kk () u2 := q1
      have b1 := q2.1
      rw [h2] at b1
      rw [show wv none = 0 from rfl, f_X11_eRead_L14, r1, if_pos rfl, r4, h1, if_neg (by decide), if_pos (by decide), q1', b1, if_pos (by decide)]
      exact no u2 q3
    · obtain ⟨rfl, L, h1, h2, h3, h4⟩ := h
      obtain ⟨g1, g2, g3, g4, g5, g6⟩ := sg_jn h1 h2
      obtain ⟨⟨-, -, -, j3⟩, j4⟩ := jn_tok h2
      obtain ⟨u2, q1, q2, q3⟩ := s_btw (γ := Int32 × xI) ht h1 h2 (by omega) hk B1.2.2.2 S1 h3
      have ul := unw_len (unL L) K o
      obtain ⟨ok, oc⟩ := unw_ok (unL L) K o hk
      have on' := fun v2' hv' => on (some (decide (L ≤ 1))) _ _ u2 v2' j4 h4 q3 q2 (by rw [List.length_cons]; omega) (fun y hy => by
        rcases List.mem_cons.mp hy with c | c
        · rw [c]; exact g2
        · exact ok y c) (by rw [ocn_cons, if_neg (by intro y; rcases y with y | y | y; exact j3 (Or.inl y); exact j3 (Or.inr y); exact (jn_rk h1 h2).2 y), Nat.zero_add]; omega) hv'
      rw [show wv none = 0 from rfl, f_X11_eRead_L14, r1, if_pos rfl, r4, if_neg g5, if_neg g6, s_signOf, r4, g1, if_neg g3, q1, if_neg (by decide)]
      by_cases c : L ≤ 1
      · rw [if_neg (g4.mpr c)]
        exact on' 1 (fun m y => by
          have : decide (L ≤ 1) = m := Option.some.inj y
          rw [← this, if_pos (decide_eq_true c)])
      · rw [if_pos (Decidable.of_not_not (fun y => c (g4.mp y)))]
        exact on' 0 (fun m y => by
          have : decide (L ≤ 1) = m := Option.some.inj y
          rw [← this, if_neg (by simpa using c)])
    · obtain ⟨rfl, h1, ⟨x, K', h2, h3⟩, rfl⟩ := h
      obtain ⟨g1, g2, g3, g4, g5, g6⟩ := sg_jn (L := 2) (by decide) h1
      obtain ⟨u2, q1, q2⟩ := s_btwN (γ := Int32 × xI) ht h1 (by omega) hk B1.2.2.2 S1 h2 h3
      rw [show wv none = 0 from rfl, f_X11_eRead_L14, r1, if_pos rfl, r4, if_neg g5, if_neg g6, s_signOf, r4, g1, if_neg g3, q1, if_pos rfl]
      exact no u2 q2
    · obtain ⟨rfl, h1, h2, h3, rfl⟩ := h
      rw [show wv none = 0 from rfl, f_X11_eRead_L14, r1, if_pos rfl, r4, if_neg (fun y => h1 (isq.1 y)), if_neg (fun y => h2 (isq.2.1 y)), s_signOf, r4, sg_no h3, if_pos rfl]
      exact no u1 (FrS.rf t e u1)
    · obtain ⟨⟨m, rfl⟩, h1, h2⟩ := h
      have tne : lxT T z p ≠ -22 := fun y => by rw [y] at h1; exact absurd h1 (by decide)
      obtain ⟨u2, q1, q2, q3⟩ := s_puts (γ := Int32 × xI) (x := lxT T z p) ht (by omega) B1.2.2.2 S1
      obtain ⟨u3, s1, s2, s3⟩ := s_unw (γ := Int32 × xI) (r := 7) ht (by decide) (by decide) (by rw [List.length_append, List.length_singleton]; have := (lx_lt hp tne); omega) hk (by rw [q3.2.1 14 (by decide) (by decide) (by decide)]; exact B1.2.2.2) q2
      have s1' : ∀ Kk : Unit → xI → Option (Int32 × xI), xbind (f_X11_unwinds 7 u2) Kk = Kk () u3 := s1
      have ul := unw_len 7 K (o ++ [lxT T z p])
      rw [List.length_append, List.length_singleton] at ul
      obtain ⟨ok, oc⟩ := unw_ok 7 K (o ++ [lxT T z p]) hk
      have fin := on none _ _ u3 v2 tne h2 (q3.tr s3) s2 (by omega) ok (by omega) (fun m y => absurd y (by simp))
      have e31 := r5 (Or.inl h1)
      have em : mTok (lxT T z p) = if 0 ≤ lxT T z p then 100000 + lxT T z p else -1 - lxT T z p := by
        unfold mTok
        by_cases c : 0 ≤ lxT T z p
        · rw [if_pos c, if_pos c]
        · rw [if_neg c, if_neg c, if_pos h1]
      have ev : vM (lxT T z p) = if 0 ≤ lxT T z p then lxT T z p else -1 - lxT T z p := by
        unfold vM
        by_cases c : 0 ≤ lxT T z p
        · rw [if_pos c, if_pos c]
        · rw [if_neg c, if_neg c, if_pos h1]
      have et : tM (lxT T z p) = if 0 ≤ lxT T z p then 1 else 2 := by
        unfold tM
        by_cases c : 0 ≤ lxT T z p
        · rw [if_pos c, if_pos c]
        · rw [if_neg c, if_neg c, if_pos h1]
      rw [show wv (some m) = 1 from rfl, f_X11_eRead_L14, r1, if_neg (by decide)]
      by_cases c : 0 ≤ lxT T z p
      · rw [if_pos c] at em ev et
        rw [em] at q1
        rw [r4, et, if_pos rfl]
        unfold f_X11_eRead_L38
        rw [r4, et, if_pos rfl, e31, ev, q1, s1']
        exact fin
      · rw [if_neg c] at em ev et
        rw [em] at q1
        rw [r4, et, if_neg (by decide), if_pos rfl]
        unfold f_X11_eRead_L38
        rw [r4, et, if_neg (by decide), e31, ev, q1, s1']
        exact fin
    · obtain ⟨rfl, h1, h2, h3⟩ := h
      have e2 : v2 = 1 := hv true rfl
      subst e2
      obtain ⟨u2, q1, q2, q3⟩ := s_open1 (γ := Int32 × xI) (x := -9) (Or.inl rfl) (by omega) S1 h2
      have q1' : ∀ Kk : Int32 → xI → Option (Int32 × xI), xbind (f_X11_opensOne 13 u1) Kk = Kk 1 u2 := q1
      rw [show wv (some true) = 1 from rfl, f_X11_eRead_L14, r1, if_neg (by decide), r4, h1, if_neg (by decide), if_neg (by decide), if_pos (by decide), if_neg (by decide), q1', if_neg (by decide)]
      exact on (some true) _ _ u2 1 (by rw [h1]; decide) h3 q3 q2 (by rw [List.length_cons]; omega) (fun y hy => by
        rcases List.mem_cons.mp hy with c | c
        · rw [c]; decide
        · exact hk y c) (by rw [ocn_cons, if_pos (Or.inl rfl)]; omega) (fun m y => by rw [← Option.some.inj y]; rfl)
    · obtain ⟨⟨m, rfl⟩, h1, h2, h3⟩ := h
      obtain ⟨u2, q1, q2, q3⟩ := s_open1 (γ := Int32 × xI) (x := -15) (Or.inr (Or.inl rfl)) (by omega) S1 h2
      have q1' : ∀ Kk : Int32 → xI → Option (Int32 × xI), xbind (f_X11_opensOne 19 u1) Kk = Kk 1 u2 := q1
      rw [show wv (some m) = 1 from rfl, f_X11_eRead_L14, r1, if_neg (by decide), r4, h1, if_neg (by decide), if_neg (by decide), if_neg (by decide)]
      unfold f_X11_eRead_L99
      rw [r4, h1, if_pos (by decide), q1', if_neg (by decide)]
      exact on (some false) _ _ u2 0 (by rw [h1]; decide) h3 q3 q2 (by rw [List.length_cons]; omega) (fun y hy => by
        rcases List.mem_cons.mp hy with c | c
        · rw [c]; decide
        · exact hk y c) (by rw [ocn_cons, if_pos (Or.inr (Or.inl rfl))]; omega) (fun m y => by rw [← Option.some.inj y]; rfl)
    · obtain ⟨⟨m, rfl⟩, h1, h2, h3⟩ := h
      obtain ⟨u2, q1, q2, q3⟩ := s_open1 (γ := Int32 × xI) (x := -16) (Or.inr (Or.inr rfl)) (by omega) S1 h2
      have q1' : ∀ Kk : Int32 → xI → Option (Int32 × xI), xbind (f_X11_opensOne 0 u1) Kk = Kk 1 u2 := q1
      rw [show wv (some m) = 1 from rfl, f_X11_eRead_L14, r1, if_neg (by decide), r4, h1, if_neg (by decide), if_neg (by decide), if_neg (by decide)]
      unfold f_X11_eRead_L99
      rw [r4, h1, if_neg (by decide), if_pos (by decide), q1', if_neg (by decide)]
      exact on (some true) _ _ u2 1 (by rw [h1]; decide) h3 q3 q2 (by rw [List.length_cons]; omega) (fun y hy => by
        rcases List.mem_cons.mp hy with c | c
        · rw [c]; decide
        · exact hk y c) (by rw [ocn_cons, if_pos (Or.inr (Or.inr rfl))]; omega) (fun m y => by rw [← Option.some.inj y]; rfl)
    · obtain ⟨⟨m, rfl, h1⟩, h2, rfl⟩ := h
      have ho : ocn K = 5 := by omega
      rw [show wv (some m) = 1 from rfl, f_X11_eRead_L14, r1, if_neg (by decide), r4]
      rcases h1 with ⟨h1, h3⟩ | h1 | h1
      · have e2 : v2 = 1 := by rw [hv m rfl, if_pos h3]
        subst e2
        rw [h1, if_neg (by decide), if_neg (by decide), if_pos (by decide), if_neg (by decide), s_open1N 13 S1 ho, if_pos rfl]
        exact no u1 (FrS.rf t e u1)
      · rw [h1, if_neg (by decide), if_neg (by decide), if_neg (by decide)]
        unfold f_X11_eRead_L99
        rw [r4, h1, if_pos (by decide), s_open1N 19 S1 ho, if_pos rfl]
        exact no u1 (FrS.rf t e u1)
      · rw [h1, if_neg (by decide), if_neg (by decide), if_neg (by decide)]
        unfold f_X11_eRead_L99
        rw [r4, h1, if_neg (by decide), if_pos (by decide), s_open1N 0 S1 ho, if_pos rfl]
        exact no u1 (FrS.rf t e u1)
    · obtain ⟨⟨m, rfl, h4⟩, h1, h2, h3, rfl⟩ := h
      rw [show wv (some m) = 1 from rfl, f_X11_eRead_L14, r1, if_neg (by decide), r4, if_neg (fun y => h1 (Int32.le_trans (by decide) (isq.2.2.1 y))), if_neg (fun y => h1 (isq.2.2.2.1 y))]
      have e99 : ∀ Kk : Int32 → Int32 → xI → Option (Int32 × xI), f_X11_eRead_L99 Kk 1 u1 = some (0, u1) := fun Kk => by
        unfold f_X11_eRead_L99
        rw [r4, if_neg (fun y => h2 (isq.2.2.2.2.2.1 y)), if_neg (fun y => h3 (isq.2.2.2.2.2.2.1 y))]
      by_cases c : tM (lxT T z p) = 6
      · have e2 : v2 = 0 := by rw [hv m rfl, h4 (isq.2.2.2.2.1 c)]; rfl
        rw [if_pos c, if_pos e2, e99]
        exact no u1 (FrS.rf t e u1)
      · rw [if_neg c, e99]
        exact no u1 (FrS.rf t e u1)
