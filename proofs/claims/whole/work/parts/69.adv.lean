theorem s_word39 {q r : Nat} (hr : r ≤ 160) {u : xI} (e2 : u 19 2 = nI r) (e3 : u 19 3 = nI q) (hqr : q ≤ r) : f_X4_nextWord_L39 u = some (wdT (u 20) q r 12 0, u) := by
  unfold f_X4_nextWord_L39
  rcases s_spells (γ := Int32 × xI) (k := 0) (by decide) hr e2 e3 hqr with ⟨a, b⟩ | ⟨a, b⟩
  · rw [wdT_pos a, b, if_neg (by decide)]; rfl
  rw [wdT_neg a, b, if_pos rfl]
  rcases s_spells (γ := Int32 × xI) (k := 1) (by decide) hr e2 e3 hqr with ⟨a, b⟩ | ⟨a, b⟩
  · rw [wdT_pos a, b, if_neg (by decide)]; rfl
  rw [wdT_neg a, b, if_pos rfl]
  rcases s_spells (γ := Int32 × xI) (k := 2) (by decide) hr e2 e3 hqr with ⟨a, b⟩ | ⟨a, b⟩
  · rw [wdT_pos a, b, if_neg (by decide)]; rfl
  rw [wdT_neg a, b, if_pos rfl]
  rcases s_spells (γ := Int32 × xI) (k := 3) (by decide) hr e2 e3 hqr with ⟨a, b⟩ | ⟨a, b⟩
  · rw [wdT_pos a, b, if_neg (by decide)]; rfl
  rw [wdT_neg a, b, if_pos rfl]
  rcases s_spells (γ := Int32 × xI) (k := 4) (by decide) hr e2 e3 hqr with ⟨a, b⟩ | ⟨a, b⟩
  · rw [wdT_pos a, b, if_neg (by decide)]; rfl
  rw [wdT_neg a, b, if_pos rfl]
  rcases s_spells (γ := Int32 × xI) (k := 5) (by decide) hr e2 e3 hqr with ⟨a, b⟩ | ⟨a, b⟩
  · rw [wdT_pos a, b, if_neg (by decide)]; rfl
  rw [wdT_neg a, b, if_pos rfl]
  rcases s_spells (γ := Int32 × xI) (k := 6) (by decide) hr e2 e3 hqr with ⟨a, b⟩ | ⟨a, b⟩
  · rw [wdT_pos a, b, if_neg (by decide)]; rfl
  rw [wdT_neg a, b, if_pos rfl]
  rcases s_spells (γ := Int32 × xI) (k := 7) (by decide) hr e2 e3 hqr with ⟨a, b⟩ | ⟨a, b⟩
  · rw [wdT_pos a, b, if_neg (by decide)]; rfl
  rw [wdT_neg a, b, if_pos rfl]
  rcases s_spells (γ := Int32 × xI) (k := 8) (by decide) hr e2 e3 hqr with ⟨a, b⟩ | ⟨a, b⟩
  · rw [wdT_pos a, b, if_neg (by decide)]; rfl
  rw [wdT_neg a, b, if_pos rfl]
  rcases s_spells (γ := Int32 × xI) (k := 9) (by decide) hr e2 e3 hqr with ⟨a, b⟩ | ⟨a, b⟩
  · rw [wdT_pos a, b, if_neg (by decide)]; rfl
  rw [wdT_neg a, b, if_pos rfl]
  rcases s_spells (γ := Int32 × xI) (k := 10) (by decide) hr e2 e3 hqr with ⟨a, b⟩ | ⟨a, b⟩
  · rw [wdT_pos a, b, if_neg (by decide)]; rfl
  rw [wdT_neg a, b, if_pos rfl]
  rcases s_spells (γ := Int32 × xI) (k := 11) (by decide) hr e2 e3 hqr with ⟨a, b⟩ | ⟨a, b⟩
  · rw [wdT_pos a, b, if_neg (by decide)]; rfl
  rw [wdT_neg a, b, if_pos rfl]
  rfl
/-- the reader's cell behind a token -/
def adU (u : xI) (q r : Nat) (t : Int32) : xI := xuc u 19 (upd (upd (upd (u 19) 2 (nI r)) 3 (nI q)) 4 t)
theorem adU_q {u : xI} {q r : Nat} {t : Int32} {k : Nat} (h : k ≠ 19) : adU u q r t k = u k := xuc_ne _ _ _ h
theorem adU_j {u : xI} {q r : Nat} {t : Int32} {j : Nat} (h2 : j ≠ 2) (h3 : j ≠ 3) (h4 : j ≠ 4) : adU u q r t 19 j = u 19 j := by unfold adU; rw [xuc_same, upd_n _ _ h4, upd_n _ _ h3, upd_n _ _ h2]
theorem adU_2 (u : xI) (q r : Nat) (t : Int32) : adU u q r t 19 2 = nI r := by unfold adU; rw [xuc_same, upd_n _ _ (by decide), upd_n _ _ (by decide), upd_s]
theorem adU_3 (u : xI) (q r : Nat) (t : Int32) : adU u q r t 19 3 = nI q := by unfold adU; rw [xuc_same, upd_n _ _ (by decide), upd_s]
theorem adU_4 (u : xI) (q r : Nat) (t : Int32) : adU u q r t 19 4 = t := by unfold adU; rw [xuc_same, upd_s]
theorem adU_eq {u v : xI} {q r : Nat} {t : Int32} (h : ∀ k, k ≠ 19 → v k = u k) (h2 : v 19 2 = nI r) (h3 : v 19 3 = nI q) (h4 : v 19 4 = t) (hj : ∀ j, j ≠ 2 → j ≠ 3 → j ≠ 4 → v 19 j = u 19 j) : v = adU u q r t := by
  funext k
  by_cases e : k = 19
  · subst e
    funext j
    by_cases e4 : j = 4
    · rw [e4, adU_4, h4]
    · by_cases e3 : j = 3
      · rw [e3, adU_3, h3]
      · by_cases e2 : j = 2
        · rw [e2, adU_2, h2]
        · rw [adU_j e2 e3 e4, hj j e2 e3 e4]
  · rw [adU_q e, h k e]
theorem s_adv {γ : Type} {z p : Nat} (hz : z ≤ 160) (hp : p ≤ z) {u : xI} (e1 : u 19 1 = nI z) (e2 : u 19 2 = nI p) (K : Unit → xI → Option γ) : xbind (f_X4_advance u) K = K () (adU u (lxQ (u 20) z p) (lxR (u 20) z p) (lxT (u 20) z p)) := by
  have bq := lx_bd (T := u 20) hp
  have hsk := s_skB hz (z - p) p 2000 u (by omega) (by omega) e1 e2
  have hq : skp isBl (u 20) (z - p) p = lxQ (u 20) z p := rfl
  rw [hq] at hsk
  have er : lxR (u 20) z p = if z ≤ lxQ (u 20) z p then lxQ (u 20) z p else if isLe (u 20 (lxQ (u 20) z p)) = true then skp isLe (u 20) (z - lxQ (u 20) z p) (lxQ (u 20) z p) else if isDi (u 20 (lxQ (u 20) z p)) = true then skp isDi (u 20) (z - lxQ (u 20) z p) (lxQ (u 20) z p) else lxQ (u 20) z p + 1 := rfl
  have et : lxT (u 20) z p = if z ≤ lxQ (u 20) z p then -22 else if isLe (u 20 (lxQ (u 20) z p)) = true then wdT (u 20) (lxQ (u 20) z p) (lxR (u 20) z p) 12 0 else if isDi (u 20 (lxQ (u 20) z p)) = true then (if lxR (u 20) z p - lxQ (u 20) z p ≤ 4 then numV (u 20) (lxR (u 20) z p - lxQ (u 20) z p) (lxQ (u 20) z p) 0 else -23) else sgT (u 20 (lxQ (u 20) z p)) := rfl
  generalize lxQ (u 20) z p = q at *
  generalize lxR (u 20) z p = r at *
  generalize lxT (u 20) z p = t at *
  have go : f_X4_advance u = some ((), adU u q r t) := by
    unfold f_X4_advance
    rw [hsk]
    unfold f_X4_advance_L39
    rw [rdU_2, rdU_j _ _ (by decide), e1, rdU_20]
    by_cases c0 : z ≤ q
    · rw [if_pos c0] at er et
      rw [if_neg (nI_nlt c0 (by omega))]
      refine congrArg (fun z => some ((), z)) (adU_eq (fun k hk => ?_) ?_ ?_ ?_ (fun j j2 j3 j4 => ?_))
      · rw [xup_ne _ _ _ hk, xup_ne _ _ _ hk]; exact xup_ne _ _ _ hk
      · rw [xup_same, upd_n _ _ (by decide), xup_same, upd_n _ _ (by decide), rdU_2, er]
      · rw [xup_same, upd_n _ _ (by decide), xup_same, upd_s]
      · rw [xup_same, upd_s, et]
      · rw [xup_same, upd_n _ _ j4, xup_same, upd_n _ _ j3, rdU_j _ _ j2]
    · rw [if_neg c0] at er et
      generalize hv : xup (rdU u q) 19 3 (nI q) = v
      have vq : ∀ k, k ≠ 19 → v k = u k := fun k hk => by rw [← hv, xup_ne _ _ _ hk]; exact xup_ne _ _ _ hk
      have v1 : v 19 1 = nI z := by rw [← hv, xup_same, upd_n _ _ (by decide), rdU_j _ _ (by decide), e1]
      have v2 : v 19 2 = nI q := by rw [← hv, xup_same, upd_n _ _ (by decide), rdU_2]
      have v3 : v 19 3 = nI q := by rw [← hv, xup_same, upd_s]
      have vj : ∀ j, j ≠ 2 → j ≠ 3 → v 19 j = u 19 j := fun j j2 j3 => by rw [← hv, xup_same, upd_n _ _ j3, rdU_j _ _ j2]
      have v20 : v 20 = u 20 := vq 20 (by decide)
      -- a token t' read up to r'
      have fin : ∀ r' t', r' = r → t' = t → xup (rdU v r') 19 4 t' = adU u q r t := by
        intro r' t' h1 h2
        refine adU_eq (fun k hk => ?_) ?_ ?_ ?_ (fun j j2 j3 j4 => ?_)
        · rw [xup_ne _ _ _ hk]; exact (xup_ne _ _ _ hk).trans (vq k hk)
        · rw [xup_same, upd_n _ _ (by decide), rdU_2, h1]
        · rw [xup_same, upd_n _ _ (by decide), rdU_j _ _ (by decide), v3]
        · rw [xup_same, upd_s, h2]
        · rw [xup_same, upd_n _ _ j4, rdU_j _ _ j2, vj j j2 j3]
      rw [if_pos (nI_lt (by omega) (by omega)), xin_nI (by omega) (by decide), xchk_true, nI_clamp (by omega), s_leX]
      by_cases c1 : isLe (u 20 q) = true
      · rw [if_pos c1] at er et
        rw [if_pos c1, if_neg (by decide)]
        unfold f_X4_nextWord
        rw [s_skW hz (z - q) q 2000 v (by omega) (by omega) v1 v2, v20, ← er, s_word39 (q := q) (r := r) (by omega) (rdU_2 _ _) (by rw [rdU_j _ _ (by decide)]; exact v3) (by omega), xbind_some, rdU_20, v20, ← et, fin r t rfl rfl]
      · rw [if_neg c1] at er et
        rw [if_neg c1, if_pos rfl, v2, xin_nI (by omega) (by decide), xchk_true, nI_clamp (by omega), v20, s_diX]
        by_cases c2 : isDi (u 20 q) = true
        · rw [if_pos c2] at er et
          rw [if_pos c2, if_neg (by decide)]
          unfold f_X4_nextNumber
          rw [s_skN (q := q) hz (z - q) q 2000 0 v (by omega) (by omega) (Nat.le_refl _) v1 v2 v3, v20, ← er, xbind_some, ← et, fin r t rfl rfl]
        · rw [if_neg c2] at er et
          rw [if_neg c2, if_pos rfl, v2, xin_nI (by omega) (by decide), xchk_true, nI_clamp (by omega), v20, s_sgX, v2, nI_1]
          refine congrArg (fun z => some ((), z)) (adU_eq (fun k hk => ?_) ?_ ?_ ?_ (fun j j2 j3 j4 => ?_))
          · rw [xup_ne _ _ _ hk, xup_ne _ _ _ hk, vq k hk]
          · rw [xup_same, upd_s, er]
          · rw [xup_same, upd_n _ _ (by decide), xup_same, upd_n _ _ (by decide), v3]
          · rw [xup_same, upd_n _ _ (by decide), xup_same, upd_s, et]
          · rw [xup_same, upd_n _ _ j2, xup_same, upd_n _ _ j4, vj j j2 j3]
  rw [go, xbind_some]
