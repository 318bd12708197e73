theorem upd_id (f : Nat → Int32) (c : Nat) {x : Int32} (h : f c = x) : upd f c x = f := by
  funext j
  unfold upd
  by_cases hj : j = c
  · rw [if_pos hj, hj, h]
  · rw [if_neg hj]
theorem Rel_set {w w' : xI} (hR : Rel w) {c : Nat} (hc : c < 10) {p q : Int32} (hp : 0 ≤ p ∧ p ≤ 9) (hq : 0 ≤ q ∧ q ≤ 1) (e7 : w' 7 = upd (w 7) c p) (e79 : w' 79 = upd (w 79) c p) (e74 : w' 74 = upd (w 74) c q) (e8 : ∀ i, i < 10 → w' (8 + i) = if i = c then upd (w (8 + c)) 0 q else w (8 + i))
    (ho : ∀ k, k ≠ 7 → ¬ (8 ≤ k ∧ k ≤ 17) → k ≠ 74 → k ≠ 79 → w' k = w k) : Rel w' := by
  obtain ⟨y1, y2, y3, y4⟩ := hR.yd
  have h8 : ∀ i, i < 10 → ∀ j, j ≠ 0 → w' (8 + i) j = w (8 + i) j := by
    intro i hi j hj
    rw [e8 i hi]
    by_cases h : i = c
    · rw [if_pos h, h]; exact if_neg hj
    · rw [if_neg h]
  have h80 : ∀ i, i < 10 → w' (8 + i) 0 = if i = c then q else w (8 + i) 0 := by
    intro i hi
    rw [e8 i hi]
    by_cases h : i = c
    · rw [if_pos h, if_pos h]; exact if_pos rfl
    · rw [if_neg h, if_neg h]
  refine hR.yard (fun k h1 h2 h3 h4 h5 => ho k h1 h2 (by omega) (by omega)) (fun j hj => by rw [ho 71 (by decide) (by decide) (by decide) (by decide)]) ⟨?_, ?_, fun i hi => ?_, fun i hi => ?_⟩
  · rw [ho 71 (by decide) (by decide) (by decide) (by decide), ho 5 (by decide) (by decide) (by decide) (by decide)]; exact y1
  · rw [ho 5 (by decide) (by decide) (by decide) (by decide)]; exact y2
  · obtain ⟨z0, z1, z2, z3, z4, z5⟩ := y3 i hi
    rw [e74, e79, e7, h80 i hi, h8 i hi 1 (by decide), h8 i hi 2 (by decide), h8 i hi 3 (by decide), h8 i hi 4 (by decide), ho 75 (by decide) (by decide) (by decide) (by decide), ho 76 (by decide) (by decide) (by decide) (by decide), ho 77 (by decide) (by decide) (by decide) (by decide), ho 78 (by decide) (by decide) (by decide) (by decide)]
    unfold upd
    refine ⟨?_, z1, z2, z3, z4, ?_⟩
    · by_cases h : i = c
      · rw [if_pos h, if_pos h]
      · rw [if_neg h, if_neg h]; exact z0
    · by_cases h : i = c
      · rw [if_pos h, if_pos h]
      · rw [if_neg h, if_neg h]; exact z5
  · obtain ⟨z0, z1, z2, z3, z4, z5⟩ := y4 i hi
    rw [e7, h80 i hi, h8 i hi 1 (by decide), h8 i hi 2 (by decide), h8 i hi 3 (by decide), h8 i hi 4 (by decide)]
    unfold upd
    refine ⟨?_, z1, z2, z3, z4, ?_⟩
    · by_cases h : i = c
      · rw [if_pos h]; exact hq
      · rw [if_neg h]; exact z0
    · by_cases h : i = c
      · rw [if_pos h]; exact hp
      · rw [if_neg h]; exact z5
theorem s_mayTurn {γ : Type} (o : Nat) (w : xI) (K : Int32 → xI → Option γ) : xbind (f_X0_mayTurn o w) K = if w o 1 = 4 then K 1 w else K 0 w := by
  unfold f_X0_mayTurn
  by_cases h : w o 1 = 4
  · rw [if_pos h, if_pos h]; rfl
  · rw [if_neg h, if_neg h]; rfl
theorem op_set (a1 : Int32) (a2 : Int32) (a3 : Int32) : OpI (f_X10_set a1 a2 a3) (f_X11_set a1 a2 a3) := by
  intro w hR
  obtain ⟨n, hn, en, em⟩ := hR.n
  by_cases h1 : 0 ≤ a1 ∧ a1 < w 5 2
  · have h1m : 0 ≤ a1 ∧ a1 < w 71 3 := by rw [hR.yd.1]; exact h1
    obtain ⟨c, hc, -, e1, e2, -⟩ := cart_ix hR h1
    obtain ⟨y0, y1, y2, y3, y4, y5⟩ := hR.yd.2.2.1 c hc
    obtain ⟨b0, b1, b2, b3, b4, b5⟩ := hR.yd.2.2.2 c hc
    by_cases c0 : a2 = 0
    · by_cases h2 : 0 ≤ a3 ∧ a3 ≤ 9
      · have k1 : ∀ x, xup w 7 c x 71 3 = nI n := fun x => em
        have k2 : xup w 7 c a3 79 c = w 7 c := by rw [xup_ne _ _ _ (by decide)]; exact y5
        have k3 : xup w 7 c a3 74 c = w (8 + c) 0 := by rw [xup_ne _ _ _ (by decide)]; exact y0
        have h1k : 0 ≤ a1 ∧ a1 < xup w 7 c a3 71 3 := h1m
        refine OpI.q (w 7 c) (xup w 7 c a3) (xup (xup (xup w 7 c a3) 79 c a3) 74 c (w (8 + c) 0)) (by simp [f_X10_set, s_has, h1, c0, s_hourX, h2, f_X10_set_L44, e1, e2, xchk, xlet]) (by simp [f_X11_set, s_isCart _ _ (k1 a3) hn, h1k, c0, s_in, f_X11_set_L32, h2, f_X11_set_L59, f_X11_set_L99, e1, e2, xchk, xlet, k2, k3]) (Rel_set hR hc h2 b0 ?_ ?_ ?_ (fun i hi => ?_) (fun k q1 q2 q3 q4 => ?_))
        · rw [xup_ne _ _ _ (by decide), xup_ne _ _ _ (by decide), xup_same]
        · rw [xup_ne _ _ _ (by decide), xup_same, xup_ne _ _ _ (by decide)]
        · rw [xup_same, xup_ne _ _ _ (by decide), xup_ne _ _ _ (by decide)]
        · rw [xup_ne _ _ _ (by omega), xup_ne _ _ _ (by omega), xup_ne _ _ _ (by omega)]
          by_cases h : i = c
          · rw [if_pos h, upd_id _ _ rfl, h]
          · rw [if_neg h]
        · rw [xup_ne _ _ _ (by omega), xup_ne _ _ _ (by omega), xup_ne _ _ _ (by omega)]
      · exact OpI.q (-7) w w (by simp [f_X10_set, s_has, h1, c0, s_hourX, h2, f_X10_set_L44]) (by simp [f_X11_set, s_isCart _ _ em hn, h1m, c0, s_in, f_X11_set_L32, h2]) hR
    by_cases c1 : a2 = 1
    · by_cases h2 : 0 ≤ a3 ∧ a3 ≤ 1
      · by_cases h4 : w (8 + c) 1 = 4
        · have k1 : xup w (8 + c) 0 a3 71 3 = nI n := by rw [xup_ne _ _ _ (by omega)]; exact em
          have h1k : 0 ≤ a1 ∧ a1 < xup w (8 + c) 0 a3 71 3 := by rw [xup_ne _ _ _ (by omega)]; exact h1m
          have k2 : xup w (8 + c) 0 a3 79 c = w 7 c := by rw [xup_ne _ _ _ (by omega)]; exact y5
          have k3 : xup w (8 + c) 0 a3 74 c = w (8 + c) 0 := by rw [xup_ne _ _ _ (by omega)]; exact y0
          have k4 : xup w (8 + c) 0 a3 75 c = 4 := by rw [xup_ne _ _ _ (by omega)]; exact y1.trans h4
          refine OpI.q (w (8 + c) 0) (xup w (8 + c) 0 a3) (xup (xup (xup w (8 + c) 0 a3) 79 c (w 7 c)) 74 c a3) (by simp [f_X10_set, s_has, h1, c1, s_within, h2, f_X10_set_L44, s_mayTurn, h4, e1, e2, xchk, xlet]) (by simp [f_X11_set, s_isCart _ _ k1 hn, h1k, c1, s_in, f_X11_set_L32, h2, f_X11_set_L59, f_X11_set_L99, e1, e2, xchk, xlet, k2, k3, k4]) (Rel_set hR hc b5 h2 ?_ ?_ ?_ (fun i hi => ?_) (fun k q1 q2 q3 q4 => ?_))
          · rw [xup_ne _ _ _ (by decide), xup_ne _ _ _ (by decide), xup_ne _ _ _ (by omega), upd_id _ _ rfl]
          · rw [xup_ne _ _ _ (by decide), xup_same, xup_ne _ _ _ (by omega)]
          · rw [xup_same, xup_ne _ _ _ (by decide), xup_ne _ _ _ (by omega)]
          · rw [xup_ne _ _ _ (by omega), xup_ne _ _ _ (by omega)]
            by_cases h : i = c
            · rw [if_pos h, h, xup_same]
            · rw [if_neg h, xup_ne _ _ _ (by omega)]
          · rw [xup_ne _ _ _ (by omega), xup_ne _ _ _ (by omega), xup_ne _ _ _ (by omega)]
        · have k4 : ¬ w 75 c = 4 := by rw [y1]; exact h4
          exact OpI.q (-3) w w (by simp [f_X10_set, s_has, h1, c1, s_within, h2, f_X10_set_L44, s_mayTurn, h4, e1, e2, xchk, xlet]) (by simp [f_X11_set, s_isCart _ _ em hn, h1m, c1, s_in, f_X11_set_L32, h2, e1, e2, xchk, k4]) hR
      · exact OpI.q (-7) w w (by simp [f_X10_set, s_has, h1, c1, s_within, h2, f_X10_set_L44]) (by simp [f_X11_set, s_isCart _ _ em hn, h1m, c1, s_in, f_X11_set_L32, h2]) hR
    have c2 : ¬ (0 ≤ a2 ∧ a2 ≤ 1) := by
      intro h
      obtain ⟨j, hj, rfl⟩ := nI_bd (n := 1) (by decide) h.1 h.2
      match j, hj with
      | 0, _ => exact c0 rfl
      | 1, _ => exact c1 rfl
      | k + 2, h => omega
    exact OpI.q (-7) w w (by simp [f_X10_set, s_has, h1, c0, c1, f_X10_set_L44]) (by simp [f_X11_set, s_isCart _ _ em hn, h1m, s_in, c2]) hR
  · have h1m : ¬ (0 ≤ a1 ∧ a1 < w 71 3) := by rw [hR.yd.1]; exact h1
    exact OpI.q (-5) w w (by simp [f_X10_set, s_has, h1]) (by simp [f_X11_set, s_isCart _ _ em hn, h1m]) hR
