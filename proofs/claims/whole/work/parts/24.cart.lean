def cartX (w : xI) (n : Nat) (a1 a2 a3 a4 a5 : Int32) : xI := xup (xup (xup (xup (xup (xup (xup w (8 + n) 0 a1) (8 + n) 1 a2) (8 + n) 2 a3) (8 + n) 3 a4) (8 + n) 4 a5) 7 n 0) 5 2 (nI (n + 1))
def cartM (w : xI) (n : Nat) (a1 a2 a3 a4 a5 : Int32) : xI := xup (xup (xup (xup (xup (xup (xup w 74 n a1) 75 n a2) 76 n a3) 77 n a4) 78 n a5) 79 n 0) 71 3 (nI (n + 1))
def cartOk (a1 a2 a3 a4 a5 : Int32) : Prop := (0 ≤ a1 ∧ a1 ≤ 1) ∧ (0 ≤ a2 ∧ a2 ≤ 5) ∧ (1 ≤ a3 ∧ a3 ≤ 99) ∧ (0 ≤ a4 ∧ a4 ≤ 99) ∧ (0 ≤ a5 ∧ a5 ≤ 9)
theorem s_cartX {w : xI} {n : Nat} (hn : w 5 2 = nI n) (h10 : n ≤ 10) (a1 a2 a3 a4 a5 : Int32) : (¬ cartOk a1 a2 a3 a4 a5 → f_X10_cart a1 a2 a3 a4 a5 w = some (-2, w)) ∧ (cartOk a1 a2 a3 a4 a5 → n = 10 → f_X10_cart a1 a2 a3 a4 a5 w = some (-4, w)) ∧ (cartOk a1 a2 a3 a4 a5 → n < 10 → f_X10_cart a1 a2 a3 a4 a5 w = some (nI n, cartX w n a1 a2 a3 a4 a5)) := by
  refine ⟨fun h => ?_, fun h e => ?_, fun h e => ?_⟩
  · by_cases h1 : 0 ≤ a1 ∧ a1 ≤ 1
    · by_cases h2 : 0 ≤ a2 ∧ a2 ≤ 5
      · by_cases h3 : 1 ≤ a3 ∧ a3 ≤ 99
        · by_cases h4 : 0 ≤ a4 ∧ a4 ≤ 99
          · by_cases h5 : 0 ≤ a5 ∧ a5 ≤ 9
            · exact absurd ⟨h1, h2, h3, h4, h5⟩ h
            · simp [f_X10_cart, s_within, h1, h2, h3, h4, h5, f_X10_cart_L55]
          · simp [f_X10_cart, s_within, h1, h2, h3, h4, f_X10_cart_L55]
        · simp [f_X10_cart, s_within, h1, h2, h3, f_X10_cart_L55]
      · simp [f_X10_cart, s_within, h1, h2, f_X10_cart_L55]
    · simp [f_X10_cart, s_within, h1, f_X10_cart_L55]
  · obtain ⟨h1, h2, h3, h4, h5⟩ := h
    subst e
    have q : ¬ nI 10 < (10 : Int32) := by decide
    simp [f_X10_cart, s_within, h1, h2, h3, h4, h5, f_X10_cart_L55, hn, q]
  · obtain ⟨h1, h2, h3, h4, h5⟩ := h
    have q : nI n < (10 : Int32) := nI_lt (b := 10) e (by decide)
    have e1 : xin (nI n) 10 = true := xin_nI e (by decide)
    have e2 : (nI n).toNatClampNeg = n := nI_clamp (by omega)
    simp [f_X10_cart, s_within, h1, h2, h3, h4, h5, f_X10_cart_L55, hn, q, xlet, xchk, e1, e2, cartX, nI_1]
theorem s_cartM {w : xI} {n : Nat} (hn : w 71 3 = nI n) (h10 : n ≤ 10) (a1 a2 a3 a4 a5 : Int32) : (¬ cartOk a1 a2 a3 a4 a5 → f_X11_cart a1 a2 a3 a4 a5 w = some (-2, w)) ∧ (cartOk a1 a2 a3 a4 a5 → n = 10 → f_X11_cart a1 a2 a3 a4 a5 w = some (-4, w)) ∧ (cartOk a1 a2 a3 a4 a5 → n < 10 → f_X11_cart a1 a2 a3 a4 a5 w = some (nI n, cartM w n a1 a2 a3 a4 a5)) := by
  refine ⟨fun h => ?_, fun h e => ?_, fun h e => ?_⟩
  · by_cases h1 : 0 ≤ a1 ∧ a1 ≤ 1
    · by_cases h2 : 0 ≤ a2 ∧ a2 ≤ 5
      · by_cases h3 : 1 ≤ a3 ∧ a3 ≤ 99
        · by_cases h4 : 0 ≤ a4 ∧ a4 ≤ 99
          · by_cases h5 : 0 ≤ a5 ∧ a5 ≤ 9
            · exact absurd ⟨h1, h2, h3, h4, h5⟩ h
            · simp [f_X11_cart, s_in, h1, h2, h3, h4, h5, f_X11_cart_L55]
          · simp [f_X11_cart, s_in, h1, h2, h3, h4, f_X11_cart_L55]
        · simp [f_X11_cart, s_in, h1, h2, h3, f_X11_cart_L55]
      · simp [f_X11_cart, s_in, h1, h2, f_X11_cart_L55]
    · simp [f_X11_cart, s_in, h1, f_X11_cart_L55]
  · obtain ⟨h1, h2, h3, h4, h5⟩ := h
    subst e
    have q : nI 10 = (10 : Int32) := by decide
    simp [f_X11_cart, s_in, h1, h2, h3, h4, h5, f_X11_cart_L55, hn, q]
  · obtain ⟨h1, h2, h3, h4, h5⟩ := h
    have q : ¬ nI n = (10 : Int32) := fun z => absurd ((nI_eq (by omega) (by decide : 10 < 2 ^ 31)).mp z) (by omega)
    have e1 : xin (nI n) 10 = true := xin_nI e (by decide)
    have e2 : (nI n).toNatClampNeg = n := nI_clamp (by omega)
    simp [f_X11_cart, s_in, h1, h2, h3, h4, h5, f_X11_cart_L55, hn, q, xchk, e1, e2, cartM, nI_1, nI_pred]
theorem Rel_cart {w : xI} {n : Nat} {a1 a2 a3 a4 a5 : Int32} (hR : Rel w) (hn : w 5 2 = nI n) (h10 : n < 10) (hok : cartOk a1 a2 a3 a4 a5) : Rel (cartM (cartX w n a1 a2 a3 a4 a5) n a1 a2 a3 a4 a5) := by
  obtain ⟨y1, y2, y3, y4⟩ := hR.yd
  obtain ⟨o1, o2, o3, o4, o5⟩ := hok
  have e8 : ∀ c, c < 10 → ∀ j, (cartM (cartX w n a1 a2 a3 a4 a5) n a1 a2 a3 a4 a5) (8 + c) j = if c = n then (if j = 4 then a5 else if j = 3 then a4 else if j = 2 then a3 else if j = 1 then a2 else if j = 0 then a1 else w (8 + c) j) else w (8 + c) j := by
    intro c hc j
    unfold cartM cartX
    rw [xup_ne _ _ _ (by omega), xup_ne _ _ _ (by omega), xup_ne _ _ _ (by omega), xup_ne _ _ _ (by omega), xup_ne _ _ _ (by omega), xup_ne _ _ _ (by omega), xup_ne _ _ _ (by omega), xup_ne _ _ _ (by omega), xup_ne _ _ _ (by omega)]
    by_cases h : c = n
    · subst h
      rw [if_pos rfl]
      unfold xup
      simp
    · rw [if_neg h, xup_ne _ _ _ (by omega), xup_ne _ _ _ (by omega), xup_ne _ _ _ (by omega), xup_ne _ _ _ (by omega), xup_ne _ _ _ (by omega)]
  have em : ∀ k x, (k = 74 ∧ x = a1) ∨ (k = 75 ∧ x = a2) ∨ (k = 76 ∧ x = a3) ∨ (k = 77 ∧ x = a4) ∨ (k = 78 ∧ x = a5) ∨ (k = 79 ∧ x = 0) → (cartM (cartX w n a1 a2 a3 a4 a5) n a1 a2 a3 a4 a5) k = upd (w k) n x := by
    intro k x h
    have ex : ∀ k, 74 ≤ k → (cartX w n a1 a2 a3 a4 a5) k = w k := fun k hk => by
      unfold cartX
      rw [xup_ne _ _ _ (by omega), xup_ne _ _ _ (by omega), xup_ne _ _ _ (by omega), xup_ne _ _ _ (by omega), xup_ne _ _ _ (by omega), xup_ne _ _ _ (by omega), xup_ne _ _ _ (by omega)]
    unfold cartM
    rcases h with ⟨rfl, rfl⟩ | ⟨rfl, rfl⟩ | ⟨rfl, rfl⟩ | ⟨rfl, rfl⟩ | ⟨rfl, rfl⟩ | ⟨rfl, rfl⟩
    · rw [xup_ne _ _ _ (by decide), xup_ne _ _ _ (by decide), xup_ne _ _ _ (by decide), xup_ne _ _ _ (by decide), xup_ne _ _ _ (by decide), xup_ne _ _ _ (by decide), xup_same, ex _ (by decide)]
    · rw [xup_ne _ _ _ (by decide), xup_ne _ _ _ (by decide), xup_ne _ _ _ (by decide), xup_ne _ _ _ (by decide), xup_ne _ _ _ (by decide), xup_same, xup_ne _ _ _ (by decide), ex _ (by decide)]
    · rw [xup_ne _ _ _ (by decide), xup_ne _ _ _ (by decide), xup_ne _ _ _ (by decide), xup_ne _ _ _ (by decide), xup_same, xup_ne _ _ _ (by decide), xup_ne _ _ _ (by decide), ex _ (by decide)]
    · rw [xup_ne _ _ _ (by decide), xup_ne _ _ _ (by decide), xup_ne _ _ _ (by decide), xup_same, xup_ne _ _ _ (by decide), xup_ne _ _ _ (by decide), xup_ne _ _ _ (by decide), ex _ (by decide)]
    · rw [xup_ne _ _ _ (by decide), xup_ne _ _ _ (by decide), xup_same, xup_ne _ _ _ (by decide), xup_ne _ _ _ (by decide), xup_ne _ _ _ (by decide), xup_ne _ _ _ (by decide), ex _ (by decide)]
    · rw [xup_ne _ _ _ (by decide), xup_same, xup_ne _ _ _ (by decide), xup_ne _ _ _ (by decide), xup_ne _ _ _ (by decide), xup_ne _ _ _ (by decide), xup_ne _ _ _ (by decide), ex _ (by decide)]
  have e7 : (cartM (cartX w n a1 a2 a3 a4 a5) n a1 a2 a3 a4 a5) 7 = upd (w 7) n 0 := by
    unfold cartM cartX
    rw [xup_ne _ _ _ (by decide), xup_ne _ _ _ (by decide), xup_ne _ _ _ (by decide), xup_ne _ _ _ (by decide), xup_ne _ _ _ (by decide), xup_ne _ _ _ (by decide), xup_ne _ _ _ (by decide), xup_ne _ _ _ (by decide), xup_same, xup_ne _ _ _ (by omega), xup_ne _ _ _ (by omega), xup_ne _ _ _ (by omega), xup_ne _ _ _ (by omega), xup_ne _ _ _ (by omega)]
  have e5 : (cartM (cartX w n a1 a2 a3 a4 a5) n a1 a2 a3 a4 a5) 5 2 = nI (n + 1) := by
    unfold cartM cartX
    rw [xup_ne _ _ _ (by decide), xup_ne _ _ _ (by decide), xup_ne _ _ _ (by decide), xup_ne _ _ _ (by decide), xup_ne _ _ _ (by decide), xup_ne _ _ _ (by decide), xup_ne _ _ _ (by decide), xup_same]
    rfl
  refine hR.yard (fun k h1 h2 h3 h4 h5 => ?_) (fun j hj => ?_) ⟨?_, ?_, fun c hc => ?_, fun c hc => ?_⟩
  · unfold cartM cartX
    rw [xup_ne _ _ _ (by omega), xup_ne _ _ _ (by omega), xup_ne _ _ _ (by omega), xup_ne _ _ _ (by omega), xup_ne _ _ _ (by omega), xup_ne _ _ _ (by omega), xup_ne _ _ _ (by omega), xup_ne _ _ _ (by omega), xup_ne _ _ _ (by omega), xup_ne _ _ _ (by omega), xup_ne _ _ _ (by omega), xup_ne _ _ _ (by omega), xup_ne _ _ _ (by omega), xup_ne _ _ _ (by omega)]
  · unfold cartM
    rw [xup_same]
    unfold upd
    rw [if_neg hj, xup_ne _ _ _ (by decide), xup_ne _ _ _ (by decide), xup_ne _ _ _ (by decide), xup_ne _ _ _ (by decide), xup_ne _ _ _ (by decide), xup_ne _ _ _ (by decide)]
    unfold cartX
    rw [xup_ne _ _ _ (by omega), xup_ne _ _ _ (by omega), xup_ne _ _ _ (by omega), xup_ne _ _ _ (by omega), xup_ne _ _ _ (by omega), xup_ne _ _ _ (by omega), xup_ne _ _ _ (by omega)]
  · rw [e5]
    unfold cartM
    rw [xup_same]
    exact if_pos rfl
  · rw [e5]
    exact ⟨nI_pos' (by omega), nI_le (b := 10) (by omega) (by decide)⟩
  · rw [em 74 a1 (by simp), em 75 a2 (by simp), em 76 a3 (by simp), em 77 a4 (by simp), em 78 a5 (by simp), em 79 0 (by simp), e7, e8 c hc, e8 c hc, e8 c hc, e8 c hc, e8 c hc]
    unfold upd
    by_cases h : c = n
    · simp [h]
    · simp [h]
      exact y3 c hc
  · rw [e7, e8 c hc, e8 c hc, e8 c hc, e8 c hc, e8 c hc]
    unfold upd
    by_cases h : c = n
    · simp [h]
      exact ⟨o1, o2, ⟨Int32_01 o3.1, o3.2⟩, o4, o5⟩
    · simp [h]
      exact y4 c hc
theorem op_cart (a1 : Int32) (a2 : Int32) (a3 : Int32) (a4 : Int32) (a5 : Int32) : OpI (f_X10_cart a1 a2 a3 a4 a5) (f_X11_cart a1 a2 a3 a4 a5) := by
  intro w hR
  obtain ⟨n, hn, en, em⟩ := hR.n
  obtain ⟨x1, x2, x3⟩ := s_cartX en hn a1 a2 a3 a4 a5
  by_cases hok : cartOk a1 a2 a3 a4 a5
  · by_cases h : n = 10
    · obtain ⟨m1, m2, m3⟩ := s_cartM em hn a1 a2 a3 a4 a5
      exact OpI.q _ _ _ (x2 hok h) (m2 hok h) hR
    · have hlt : n < 10 := by omega
      have em' : (cartX w n a1 a2 a3 a4 a5) 71 3 = nI n := by
        unfold cartX
        rw [xup_ne _ _ _ (by omega), xup_ne _ _ _ (by omega), xup_ne _ _ _ (by omega), xup_ne _ _ _ (by omega), xup_ne _ _ _ (by omega), xup_ne _ _ _ (by omega), xup_ne _ _ _ (by omega)]
        exact em
      obtain ⟨m1, m2, m3⟩ := s_cartM em' hn a1 a2 a3 a4 a5
      exact OpI.q _ _ _ (x3 hok hlt) (m3 hok hlt) (Rel_cart hR en hlt hok)
  · obtain ⟨m1, m2, m3⟩ := s_cartM em hn a1 a2 a3 a4 a5
    exact OpI.q _ _ _ (x1 hok) (m1 hok) hR
