theorem lc_in {LL i : Nat} (hi : i + 7 ≤ LL) (hL : LL ≤ 3584) (k : Nat) (hk : k < 7) : xin (nI i + nI k) LL = true := by
  rw [nI_add]
  unfold xin
  rw [nI_clamp (by omega)]
  simp only [Bool.and_eq_true, decide_eq_true_eq]
  exact ⟨nI_pos' (by omega), by omega⟩
theorem lc_204 {LL i : Nat} {xs : Nat → Int32} (K : Int32 → xI → Option (Int32 × xI)) (hi : i + 7 ≤ LL) (hL : LL ≤ 3584) (w : xI) (hR : Rel w) : ∃ w2, Rel w2 ∧ f_L_law_L204 LL xs K (nI i) w = K (nI i) w2 := by
  obtain ⟨r, w1, w2, h1, h2, h3⟩ := op_scale (xs (nI i + (1 : Int32)).toNatClampNeg) (xs (nI i + (2 : Int32)).toNatClampNeg) w hR
  refine ⟨w2, h3, ?_⟩
  unfold f_L_law_L204
  have e1 : xin (nI i + (1 : Int32)) LL = true := lc_in hi hL 1 (by decide)
  have e2 : xin (nI i + (2 : Int32)) LL = true := lc_in hi hL 2 (by decide)
  simp only [e1, e2, xchk, h1, xbind, h2]
  simp
theorem lc_237 {LL i : Nat} {xs : Nat → Int32} (K : Int32 → xI → Option (Int32 × xI)) (hi : i + 7 ≤ LL) (hL : LL ≤ 3584) (w : xI) (hR : Rel w) : ∃ w2, Rel w2 ∧ f_L_law_L237 LL xs K (nI i) w = K (nI i) w2 := by
  obtain ⟨r, w1, w2, h1, h2, h3⟩ := op_stone (xs (nI i + (1 : Int32)).toNatClampNeg) w hR
  refine ⟨w2, h3, ?_⟩
  unfold f_L_law_L237
  have e1 : xin (nI i + (1 : Int32)) LL = true := lc_in hi hL 1 (by decide)
  simp only [e1, xchk, h1, xbind, h2]
  simp
theorem lc_260 {LL i : Nat} {xs : Nat → Int32} (K : Int32 → xI → Option (Int32 × xI)) (hi : i + 7 ≤ LL) (hL : LL ≤ 3584) (w : xI) (hR : Rel w) : ∃ w2, Rel w2 ∧ f_L_law_L260 LL xs K (nI i) w = K (nI i) w2 := by
  obtain ⟨r, w1, w2, h1, h2, h3⟩ := op_sell  w hR
  refine ⟨w2, h3, ?_⟩
  unfold f_L_law_L260
  simp only [xchk, h1, xbind, h2]
  simp
theorem lc_273 {LL i : Nat} {xs : Nat → Int32} (K : Int32 → xI → Option (Int32 × xI)) (hi : i + 7 ≤ LL) (hL : LL ≤ 3584) (w : xI) (hR : Rel w) : ∃ w2, Rel w2 ∧ f_L_law_L273 LL xs K (nI i) w = K (nI i) w2 := by
  obtain ⟨r, w1, w2, h1, h2, h3⟩ := op_stoneTold (xs (nI i + (1 : Int32)).toNatClampNeg) w hR
  refine ⟨w2, h3, ?_⟩
  unfold f_L_law_L273
  have e1 : xin (nI i + (1 : Int32)) LL = true := lc_in hi hL 1 (by decide)
  simp only [e1, xchk, h1, xbind, h2]
  simp
theorem lc_296 {LL i : Nat} {xs : Nat → Int32} (K : Int32 → xI → Option (Int32 × xI)) (hi : i + 7 ≤ LL) (hL : LL ≤ 3584) (w : xI) (hR : Rel w) : ∃ w2, Rel w2 ∧ f_L_law_L296 LL xs K (nI i) w = K (nI i) w2 := by
  obtain ⟨r, w1, w2, h1, h2, h3⟩ := op_count (xs (nI i + (1 : Int32)).toNatClampNeg) w hR
  refine ⟨w2, h3, ?_⟩
  unfold f_L_law_L296
  have e1 : xin (nI i + (1 : Int32)) LL = true := lc_in hi hL 1 (by decide)
  simp only [e1, xchk, h1, xbind, h2]
  simp
theorem lc_319 {LL i : Nat} {xs : Nat → Int32} (K : Int32 → xI → Option (Int32 × xI)) (hi : i + 7 ≤ LL) (hL : LL ≤ 3584) (w : xI) (hR : Rel w) : ∃ w2, Rel w2 ∧ f_L_law_L319 LL xs K (nI i) w = K (nI i) w2 := by
  obtain ⟨r, w1, w2, h1, h2, h3⟩ := op_feed (xs (nI i + (1 : Int32)).toNatClampNeg) (xs (nI i + (2 : Int32)).toNatClampNeg) (xs (nI i + (3 : Int32)).toNatClampNeg) (xs (nI i + (4 : Int32)).toNatClampNeg) (xs (nI i + (5 : Int32)).toNatClampNeg) (xs (nI i + (6 : Int32)).toNatClampNeg) w hR
  refine ⟨w2, h3, ?_⟩
  unfold f_L_law_L319
  have e1 : xin (nI i + (1 : Int32)) LL = true := lc_in hi hL 1 (by decide)
  have e2 : xin (nI i + (2 : Int32)) LL = true := lc_in hi hL 2 (by decide)
  have e3 : xin (nI i + (3 : Int32)) LL = true := lc_in hi hL 3 (by decide)
  have e4 : xin (nI i + (4 : Int32)) LL = true := lc_in hi hL 4 (by decide)
  have e5 : xin (nI i + (5 : Int32)) LL = true := lc_in hi hL 5 (by decide)
  have e6 : xin (nI i + (6 : Int32)) LL = true := lc_in hi hL 6 (by decide)
  simp only [e1, e2, e3, e4, e5, e6, xchk, h1, xbind, h2]
  simp
theorem lc_394 {LL i : Nat} {xs : Nat → Int32} (K : Int32 → xI → Option (Int32 × xI)) (hi : i + 7 ≤ LL) (hL : LL ≤ 3584) (w : xI) (hR : Rel w) : ∃ w2, Rel w2 ∧ f_L_law_L394 LL xs K (nI i) w = K (nI i) w2 := by
  obtain ⟨r, w1, w2, h1, h2, h3⟩ := op_text  w hR
  refine ⟨w2, h3, ?_⟩
  unfold f_L_law_L394
  simp only [xchk, h1, xbind, h2]
  simp
theorem lc_407 {LL i : Nat} {xs : Nat → Int32} (K : Int32 → xI → Option (Int32 × xI)) (hi : i + 7 ≤ LL) (hL : LL ≤ 3584) (w : xI) (hR : Rel w) : ∃ w2, Rel w2 ∧ f_L_law_L407 LL xs K (nI i) w = K (nI i) w2 := by
  obtain ⟨r, w1, w2, h1, h2, h3⟩ := op_force (xs (nI i + (1 : Int32)).toNatClampNeg) w hR
  refine ⟨w2, h3, ?_⟩
  unfold f_L_law_L407
  have e1 : xin (nI i + (1 : Int32)) LL = true := lc_in hi hL 1 (by decide)
  simp only [e1, xchk, h1, xbind, h2]
  simp
theorem lc_430 {LL i : Nat} {xs : Nat → Int32} (K : Int32 → xI → Option (Int32 × xI)) (hi : i + 7 ≤ LL) (hL : LL ≤ 3584) (w : xI) (hR : Rel w) : ∃ w2, Rel w2 ∧ f_L_law_L430 LL xs K (nI i) w = K (nI i) w2 := by
  obtain ⟨r, w1, w2, h1, h2, h3⟩ := op_asks (xs (nI i + (1 : Int32)).toNatClampNeg) (xs (nI i + (2 : Int32)).toNatClampNeg) (xs (nI i + (3 : Int32)).toNatClampNeg) (xs (nI i + (4 : Int32)).toNatClampNeg) w hR
  refine ⟨w2, h3, ?_⟩
  unfold f_L_law_L430
  have e1 : xin (nI i + (1 : Int32)) LL = true := lc_in hi hL 1 (by decide)
  have e2 : xin (nI i + (2 : Int32)) LL = true := lc_in hi hL 2 (by decide)
  have e3 : xin (nI i + (3 : Int32)) LL = true := lc_in hi hL 3 (by decide)
  have e4 : xin (nI i + (4 : Int32)) LL = true := lc_in hi hL 4 (by decide)
  simp only [e1, e2, e3, e4, xchk, h1, xbind, h2]
  simp
theorem lc_483 {LL i : Nat} {xs : Nat → Int32} (K : Int32 → xI → Option (Int32 × xI)) (hi : i + 7 ≤ LL) (hL : LL ≤ 3584) (w : xI) (hR : Rel w) : ∃ w2, Rel w2 ∧ f_L_law_L483 LL xs K (nI i) w = K (nI i) w2 := by
  obtain ⟨r, w1, w2, h1, h2, h3⟩ := op_cart (xs (nI i + (1 : Int32)).toNatClampNeg) (xs (nI i + (2 : Int32)).toNatClampNeg) (xs (nI i + (3 : Int32)).toNatClampNeg) (xs (nI i + (4 : Int32)).toNatClampNeg) (xs (nI i + (5 : Int32)).toNatClampNeg) w hR
  refine ⟨w2, h3, ?_⟩
  unfold f_L_law_L483
  have e1 : xin (nI i + (1 : Int32)) LL = true := lc_in hi hL 1 (by decide)
  have e2 : xin (nI i + (2 : Int32)) LL = true := lc_in hi hL 2 (by decide)
  have e3 : xin (nI i + (3 : Int32)) LL = true := lc_in hi hL 3 (by decide)
  have e4 : xin (nI i + (4 : Int32)) LL = true := lc_in hi hL 4 (by decide)
  have e5 : xin (nI i + (5 : Int32)) LL = true := lc_in hi hL 5 (by decide)
  simp only [e1, e2, e3, e4, e5, xchk, h1, xbind, h2]
  simp
theorem lc_546 {LL i : Nat} {xs : Nat → Int32} (K : Int32 → xI → Option (Int32 × xI)) (hi : i + 7 ≤ LL) (hL : LL ≤ 3584) (w : xI) (hR : Rel w) : ∃ w2, Rel w2 ∧ f_L_law_L546 LL xs K (nI i) w = K (nI i) w2 := by
  obtain ⟨r, w1, w2, h1, h2, h3⟩ := op_set (xs (nI i + (1 : Int32)).toNatClampNeg) (xs (nI i + (2 : Int32)).toNatClampNeg) (xs (nI i + (3 : Int32)).toNatClampNeg) w hR
  refine ⟨w2, h3, ?_⟩
  unfold f_L_law_L546
  have e1 : xin (nI i + (1 : Int32)) LL = true := lc_in hi hL 1 (by decide)
  have e2 : xin (nI i + (2 : Int32)) LL = true := lc_in hi hL 2 (by decide)
  have e3 : xin (nI i + (3 : Int32)) LL = true := lc_in hi hL 3 (by decide)
  simp only [e1, e2, e3, xchk, h1, xbind, h2]
  simp
theorem lc_589 {LL i : Nat} {xs : Nat → Int32} (K : Int32 → xI → Option (Int32 × xI)) (hi : i + 7 ≤ LL) (hL : LL ≤ 3584) (w : xI) (hR : Rel w) : ∃ w2, Rel w2 ∧ f_L_law_L589 LL xs K (nI i) w = K (nI i) w2 := by
  obtain ⟨r, w1, w2, h1, h2, h3⟩ := op_cartTold (xs (nI i + (1 : Int32)).toNatClampNeg) (xs (nI i + (2 : Int32)).toNatClampNeg) w hR
  refine ⟨w2, h3, ?_⟩
  unfold f_L_law_L589
  have e1 : xin (nI i + (1 : Int32)) LL = true := lc_in hi hL 1 (by decide)
  have e2 : xin (nI i + (2 : Int32)) LL = true := lc_in hi hL 2 (by decide)
  simp only [e1, e2, xchk, h1, xbind, h2]
  simp
theorem lc_622 {LL i : Nat} {xs : Nat → Int32} (K : Int32 → xI → Option (Int32 × xI)) (hi : i + 7 ≤ LL) (hL : LL ≤ 3584) (w : xI) (hR : Rel w) : ∃ w2, Rel w2 ∧ f_L_law_L622 LL xs K (nI i) w = K (nI i) w2 := by
  obtain ⟨r, w1, w2, h1, h2, h3⟩ := op_at (xs (nI i + (1 : Int32)).toNatClampNeg) (xs (nI i + (2 : Int32)).toNatClampNeg) (xs (nI i + (3 : Int32)).toNatClampNeg) w hR
  refine ⟨w2, h3, ?_⟩
  unfold f_L_law_L622
  have e1 : xin (nI i + (1 : Int32)) LL = true := lc_in hi hL 1 (by decide)
  have e2 : xin (nI i + (2 : Int32)) LL = true := lc_in hi hL 2 (by decide)
  have e3 : xin (nI i + (3 : Int32)) LL = true := lc_in hi hL 3 (by decide)
  simp only [e1, e2, e3, xchk, h1, xbind, h2]
  simp
theorem lc_665 {LL i : Nat} {xs : Nat → Int32} (K : Int32 → xI → Option (Int32 × xI)) (hi : i + 7 ≤ LL) (hL : LL ≤ 3584) (w : xI) (hR : Rel w) : ∃ w2, Rel w2 ∧ f_L_law_L665 LL xs K (nI i) w = K (nI i) w2 := by
  obtain ⟨r, w1, w2, h1, h2, h3⟩ := op_make (xs (nI i + (1 : Int32)).toNatClampNeg) w hR
  refine ⟨w2, h3, ?_⟩
  unfold f_L_law_L665
  have e1 : xin (nI i + (1 : Int32)) LL = true := lc_in hi hL 1 (by decide)
  simp only [e1, xchk, h1, xbind, h2]
  simp
theorem lc_688 {LL i : Nat} {xs : Nat → Int32} (K : Int32 → xI → Option (Int32 × xI)) (hi : i + 7 ≤ LL) (hL : LL ≤ 3584) (w : xI) (hR : Rel w) : ∃ w2, Rel w2 ∧ f_L_law_L688 LL xs K (nI i) w = K (nI i) w2 := by
  obtain ⟨r, w1, w2, h1, h2, h3⟩ := op_makings (xs (nI i + (1 : Int32)).toNatClampNeg) (xs (nI i + (2 : Int32)).toNatClampNeg) w hR
  refine ⟨w2, h3, ?_⟩
  unfold f_L_law_L688
  have e1 : xin (nI i + (1 : Int32)) LL = true := lc_in hi hL 1 (by decide)
  have e2 : xin (nI i + (2 : Int32)) LL = true := lc_in hi hL 2 (by decide)
  simp only [e1, e2, xchk, h1, xbind, h2]
  simp
theorem lc_721 {LL i : Nat} {xs : Nat → Int32} (K : Int32 → xI → Option (Int32 × xI)) (hi : i + 7 ≤ LL) (hL : LL ≤ 3584) (w : xI) (hR : Rel w) : ∃ w2, Rel w2 ∧ f_L_law_L721 LL xs K (nI i) w = K (nI i) w2 := by
  obtain ⟨r, w1, w2, h1, h2, h3⟩ := op_own (xs (nI i + (1 : Int32)).toNatClampNeg) (xs (nI i + (2 : Int32)).toNatClampNeg) w hR
  refine ⟨w2, h3, ?_⟩
  unfold f_L_law_L721
  have e1 : xin (nI i + (1 : Int32)) LL = true := lc_in hi hL 1 (by decide)
  have e2 : xin (nI i + (2 : Int32)) LL = true := lc_in hi hL 2 (by decide)
  simp only [e1, e2, xchk, h1, xbind, h2]
  simp
theorem lc_754 {LL i : Nat} {xs : Nat → Int32} (K : Int32 → xI → Option (Int32 × xI)) (hi : i + 7 ≤ LL) (hL : LL ≤ 3584) (w : xI) (hR : Rel w) : ∃ w2, Rel w2 ∧ f_L_law_L754 LL xs K (nI i) w = K (nI i) w2 := by
  obtain ⟨r, w1, w2, h1, h2, h3⟩ := op_falsely (xs (nI i + (1 : Int32)).toNatClampNeg) w hR
  refine ⟨w2, h3, ?_⟩
  unfold f_L_law_L754
  have e1 : xin (nI i + (1 : Int32)) LL = true := lc_in hi hL 1 (by decide)
  simp only [e1, xchk, h1, xbind, h2]
  simp
theorem lc_777 {LL i : Nat} {xs : Nat → Int32} (K : Int32 → xI → Option (Int32 × xI)) (hi : i + 7 ≤ LL) (hL : LL ≤ 3584) (w : xI) (hR : Rel w) : ∃ w2, Rel w2 ∧ f_L_law_L777 LL xs K (nI i) w = K (nI i) w2 := by
  obtain ⟨r, w1, w2, h1, h2, h3⟩ := op_scales (xs (nI i + (1 : Int32)).toNatClampNeg) (xs (nI i + (2 : Int32)).toNatClampNeg) (xs (nI i + (3 : Int32)).toNatClampNeg) w hR
  refine ⟨w2, h3, ?_⟩
  unfold f_L_law_L777
  have e1 : xin (nI i + (1 : Int32)) LL = true := lc_in hi hL 1 (by decide)
  have e2 : xin (nI i + (2 : Int32)) LL = true := lc_in hi hL 2 (by decide)
  have e3 : xin (nI i + (3 : Int32)) LL = true := lc_in hi hL 3 (by decide)
  simp only [e1, e2, e3, xchk, h1, xbind, h2]
  simp
theorem lc_820 {LL i : Nat} {xs : Nat → Int32} (K : Int32 → xI → Option (Int32 × xI)) (hi : i + 7 ≤ LL) (hL : LL ≤ 3584) (w : xI) (hR : Rel w) : ∃ w2, Rel w2 ∧ f_L_law_L820 LL xs K (nI i) w = K (nI i) w2 := by
  obtain ⟨r, w1, w2, h1, h2, h3⟩ := op_pairs (xs (nI i + (1 : Int32)).toNatClampNeg) (xs (nI i + (2 : Int32)).toNatClampNeg) w hR
  refine ⟨w2, h3, ?_⟩
  unfold f_L_law_L820
  have e1 : xin (nI i + (1 : Int32)) LL = true := lc_in hi hL 1 (by decide)
  have e2 : xin (nI i + (2 : Int32)) LL = true := lc_in hi hL 2 (by decide)
  simp only [e1, e2, xchk, h1, xbind, h2]
  simp
theorem lc_853 {LL i : Nat} {xs : Nat → Int32} (K : Int32 → xI → Option (Int32 × xI)) (hi : i + 7 ≤ LL) (hL : LL ≤ 3584) (w : xI) (hR : Rel w) : ∃ w2, Rel w2 ∧ f_L_law_L853 LL xs K (nI i) w = K (nI i) w2 := by
  obtain ⟨r, w1, w2, h1, h2, h3⟩ := op_against (xs (nI i + (1 : Int32)).toNatClampNeg) (xs (nI i + (2 : Int32)).toNatClampNeg) w hR
  refine ⟨w2, h3, ?_⟩
  unfold f_L_law_L853
  have e1 : xin (nI i + (1 : Int32)) LL = true := lc_in hi hL 1 (by decide)
  have e2 : xin (nI i + (2 : Int32)) LL = true := lc_in hi hL 2 (by decide)
  simp only [e1, e2, xchk, h1, xbind, h2]
  simp
theorem lc_886 {LL i : Nat} {xs : Nat → Int32} (K : Int32 → xI → Option (Int32 × xI)) (hi : i + 7 ≤ LL) (hL : LL ≤ 3584) (w : xI) (hR : Rel w) : ∃ w2, Rel w2 ∧ f_L_law_L886 LL xs K (nI i) w = K (nI i) w2 := by
  obtain ⟨r, w1, w2, h1, h2, h3⟩ := op_best (xs (nI i + (1 : Int32)).toNatClampNeg) (xs (nI i + (2 : Int32)).toNatClampNeg) w hR
  refine ⟨w2, h3, ?_⟩
  unfold f_L_law_L886
  have e1 : xin (nI i + (1 : Int32)) LL = true := lc_in hi hL 1 (by decide)
  have e2 : xin (nI i + (2 : Int32)) LL = true := lc_in hi hL 2 (by decide)
  simp only [e1, e2, xchk, h1, xbind, h2]
  simp
theorem lc_919 {LL i : Nat} {xs : Nat → Int32} (K : Int32 → xI → Option (Int32 × xI)) (hi : i + 7 ≤ LL) (hL : LL ≤ 3584) (w : xI) (hR : Rel w) : ∃ w2, Rel w2 ∧ f_L_law_L919 LL xs K (nI i) w = K (nI i) w2 := by
  obtain ⟨r, w1, w2, h1, h2, h3⟩ := op_dusk (xs (nI i + (1 : Int32)).toNatClampNeg) (xs (nI i + (2 : Int32)).toNatClampNeg) w hR
  refine ⟨w2, h3, ?_⟩
  unfold f_L_law_L919
  have e1 : xin (nI i + (1 : Int32)) LL = true := lc_in hi hL 1 (by decide)
  have e2 : xin (nI i + (2 : Int32)) LL = true := lc_in hi hL 2 (by decide)
  simp only [e1, e2, xchk, h1, xbind, h2]
  simp
theorem lc_952 {LL i : Nat} {xs : Nat → Int32} (K : Int32 → xI → Option (Int32 × xI)) (hi : i + 7 ≤ LL) (hL : LL ≤ 3584) (w : xI) (hR : Rel w) : ∃ w2, Rel w2 ∧ f_L_law_L952 LL xs K (nI i) w = K (nI i) w2 := by
  obtain ⟨r, w1, w2, h1, h2, h3⟩ := op_goes (xs (nI i + (1 : Int32)).toNatClampNeg) (xs (nI i + (2 : Int32)).toNatClampNeg) w hR
  refine ⟨w2, h3, ?_⟩
  unfold f_L_law_L952
  have e1 : xin (nI i + (1 : Int32)) LL = true := lc_in hi hL 1 (by decide)
  have e2 : xin (nI i + (2 : Int32)) LL = true := lc_in hi hL 2 (by decide)
  simp only [e1, e2, xchk, h1, xbind, h2]
  simp
theorem lc_985 {LL i : Nat} {xs : Nat → Int32} (K : Int32 → xI → Option (Int32 × xI)) (hi : i + 7 ≤ LL) (hL : LL ≤ 3584) (w : xI) (hR : Rel w) : ∃ w2, Rel w2 ∧ f_L_law_L985 LL xs K (nI i) w = K (nI i) w2 := by
  obtain ⟨r, w1, w2, h1, h2, h3⟩ := op_hold (xs (nI i + (1 : Int32)).toNatClampNeg) w hR
  refine ⟨w2, h3, ?_⟩
  unfold f_L_law_L985
  have e1 : xin (nI i + (1 : Int32)) LL = true := lc_in hi hL 1 (by decide)
  simp only [e1, xchk, h1, xbind, h2]
  simp
theorem lc_1008 {LL i : Nat} {xs : Nat → Int32} (K : Int32 → xI → Option (Int32 × xI)) (hi : i + 7 ≤ LL) (hL : LL ≤ 3584) (w : xI) (hR : Rel w) : ∃ w2, Rel w2 ∧ f_L_law_L1008 LL xs K (nI i) w = K (nI i) w2 := by
  obtain ⟨r, w1, w2, h1, h2, h3⟩ := op_gain (xs (nI i + (1 : Int32)).toNatClampNeg) w hR
  refine ⟨w2, h3, ?_⟩
  unfold f_L_law_L1008
  have e1 : xin (nI i + (1 : Int32)) LL = true := lc_in hi hL 1 (by decide)
  simp only [e1, xchk, h1, xbind, h2]
  simp
theorem lc_1031 {LL i : Nat} {xs : Nat → Int32} (K : Int32 → xI → Option (Int32 × xI)) (hi : i + 7 ≤ LL) (hL : LL ≤ 3584) (w : xI) (hR : Rel w) : ∃ w2, Rel w2 ∧ f_L_law_L1031 LL xs K (nI i) w = K (nI i) w2 := by
  obtain ⟨r, w1, w2, h1, h2, h3⟩ := op_bring (xs (nI i + (1 : Int32)).toNatClampNeg) (xs (nI i + (2 : Int32)).toNatClampNeg) w hR
  refine ⟨w2, h3, ?_⟩
  unfold f_L_law_L1031
  have e1 : xin (nI i + (1 : Int32)) LL = true := lc_in hi hL 1 (by decide)
  have e2 : xin (nI i + (2 : Int32)) LL = true := lc_in hi hL 2 (by decide)
  simp only [e1, e2, xchk, h1, xbind, h2]
  simp
theorem lc_1064 {LL i : Nat} {xs : Nat → Int32} (K : Int32 → xI → Option (Int32 × xI)) (hi : i + 7 ≤ LL) (hL : LL ≤ 3584) (w : xI) (hR : Rel w) : ∃ w2, Rel w2 ∧ f_L_law_L1064 LL xs K (nI i) w = K (nI i) w2 := by
  obtain ⟨r, w1, w2, h1, h2, h3⟩ := op_judge (xs (nI i + (1 : Int32)).toNatClampNeg) w hR
  refine ⟨w2, h3, ?_⟩
  unfold f_L_law_L1064
  have e1 : xin (nI i + (1 : Int32)) LL = true := lc_in hi hL 1 (by decide)
  simp only [e1, xchk, h1, xbind, h2]
  simp
theorem lc_1087 {LL i : Nat} {xs : Nat → Int32} (K : Int32 → xI → Option (Int32 × xI)) (hi : i + 7 ≤ LL) (hL : LL ≤ 3584) (w : xI) (hR : Rel w) : ∃ w2, Rel w2 ∧ f_L_law_L1087 LL xs K (nI i) w = K (nI i) w2 := by
  obtain ⟨r, w1, w2, h1, h2, h3⟩ := op_laws (xs (nI i + (1 : Int32)).toNatClampNeg) w hR
  refine ⟨w2, h3, ?_⟩
  unfold f_L_law_L1087
  have e1 : xin (nI i + (1 : Int32)) LL = true := lc_in hi hL 1 (by decide)
  simp only [e1, xchk, h1, xbind, h2]
  simp
theorem lc_1110 {LL i : Nat} {xs : Nat → Int32} (K : Int32 → xI → Option (Int32 × xI)) (hi : i + 7 ≤ LL) (hL : LL ≤ 3584) (w : xI) (hR : Rel w) : ∃ w2, Rel w2 ∧ f_L_law_L1110 LL xs K (nI i) w = K (nI i) w2 := by
  obtain ⟨r, w1, w2, h1, h2, h3⟩ := op_film (xs (nI i + (1 : Int32)).toNatClampNeg) w hR
  refine ⟨w2, h3, ?_⟩
  unfold f_L_law_L1110
  have e1 : xin (nI i + (1 : Int32)) LL = true := lc_in hi hL 1 (by decide)
  simp only [e1, xchk, h1, xbind, h2]
  simp
theorem lc_1133 {LL i : Nat} {xs : Nat → Int32} (K : Int32 → xI → Option (Int32 × xI)) (hi : i + 7 ≤ LL) (hL : LL ≤ 3584) (w : xI) (hR : Rel w) : ∃ w2, Rel w2 ∧ f_L_law_L1133 LL xs K (nI i) w = K (nI i) w2 := by
  obtain ⟨r, w1, w2, h1, h2, h3⟩ := op_lost (xs (nI i + (1 : Int32)).toNatClampNeg) (xs (nI i + (2 : Int32)).toNatClampNeg) (xs (nI i + (3 : Int32)).toNatClampNeg) (xs (nI i + (4 : Int32)).toNatClampNeg) w hR
  refine ⟨w2, h3, ?_⟩
  unfold f_L_law_L1133
  have e1 : xin (nI i + (1 : Int32)) LL = true := lc_in hi hL 1 (by decide)
  have e2 : xin (nI i + (2 : Int32)) LL = true := lc_in hi hL 2 (by decide)
  have e3 : xin (nI i + (3 : Int32)) LL = true := lc_in hi hL 3 (by decide)
  have e4 : xin (nI i + (4 : Int32)) LL = true := lc_in hi hL 4 (by decide)
  simp only [e1, e2, e3, e4, xchk, h1, xbind, h2]
  simp
theorem lc_1186 {LL i : Nat} {xs : Nat → Int32} (K : Int32 → xI → Option (Int32 × xI)) (hi : i + 7 ≤ LL) (hL : LL ≤ 3584) (w : xI) (hR : Rel w) : ∃ w2, Rel w2 ∧ f_L_law_L1186 LL xs K (nI i) w = K (nI i) w2 := by
  obtain ⟨r, w1, w2, h1, h2, h3⟩ := op_drawn (xs (nI i + (1 : Int32)).toNatClampNeg) (xs (nI i + (2 : Int32)).toNatClampNeg) w hR
  refine ⟨w2, h3, ?_⟩
  unfold f_L_law_L1186
  have e1 : xin (nI i + (1 : Int32)) LL = true := lc_in hi hL 1 (by decide)
  have e2 : xin (nI i + (2 : Int32)) LL = true := lc_in hi hL 2 (by decide)
  simp only [e1, e2, xchk, h1, xbind, h2]
  simp
theorem lc_1219 {LL i : Nat} {xs : Nat → Int32} (K : Int32 → xI → Option (Int32 × xI)) (hi : i + 7 ≤ LL) (hL : LL ≤ 3584) (w : xI) (hR : Rel w) : ∃ w2, Rel w2 ∧ f_L_law_L1219 LL xs K (nI i) w = K (nI i) w2 := by
  obtain ⟨r, w1, w2, h1, h2, h3⟩ := op_odds (xs (nI i + (1 : Int32)).toNatClampNeg) (xs (nI i + (2 : Int32)).toNatClampNeg) (xs (nI i + (3 : Int32)).toNatClampNeg) (xs (nI i + (4 : Int32)).toNatClampNeg) w hR
  refine ⟨w2, h3, ?_⟩
  unfold f_L_law_L1219
  have e1 : xin (nI i + (1 : Int32)) LL = true := lc_in hi hL 1 (by decide)
  have e2 : xin (nI i + (2 : Int32)) LL = true := lc_in hi hL 2 (by decide)
  have e3 : xin (nI i + (3 : Int32)) LL = true := lc_in hi hL 3 (by decide)
  have e4 : xin (nI i + (4 : Int32)) LL = true := lc_in hi hL 4 (by decide)
  simp only [e1, e2, e3, e4, xchk, h1, xbind, h2]
  simp [lg_cmp]
theorem lc_1273 {LL i : Nat} {xs : Nat → Int32} (K : Int32 → xI → Option (Int32 × xI)) (hi : i + 7 ≤ LL) (hL : LL ≤ 3584) (w : xI) (hR : Rel w) : ∃ w2, Rel w2 ∧ f_L_law_L1273 LL xs K (nI i) w = K (nI i) w2 := by
  obtain ⟨r, w1, w2, h1, h2, h3⟩ := op_image  w hR
  refine ⟨w2, h3, ?_⟩
  unfold f_L_law_L1273
  simp only [xchk, h1, xbind, h2]
  simp
theorem lc_1286 {LL i : Nat} {xs : Nat → Int32} (K : Int32 → xI → Option (Int32 × xI)) (hi : i + 7 ≤ LL) (hL : LL ≤ 3584) (w : xI) (hR : Rel w) : ∃ w2, Rel w2 ∧ f_L_law_L1286 LL xs K (nI i) w = K (nI i) w2 := by
  obtain ⟨r, w1, w2, h1, h2, h3⟩ := op_back  w hR
  refine ⟨w2, h3, ?_⟩
  unfold f_L_law_L1286
  simp only [xchk, h1, xbind, h2]
  simp
theorem lc_1299 {LL i : Nat} {xs : Nat → Int32} (K : Int32 → xI → Option (Int32 × xI)) (hi : i + 7 ≤ LL) (hL : LL ≤ 3584) (w : xI) (hR : Rel w) : ∃ w2, Rel w2 ∧ f_L_law_L1299 LL xs K (nI i) w = K (nI i) w2 := by
  obtain ⟨r, w1, w2, h1, h2, h3⟩ := op_sheet (xs (nI i + (1 : Int32)).toNatClampNeg) (xs (nI i + (2 : Int32)).toNatClampNeg) (xs (nI i + (3 : Int32)).toNatClampNeg) w hR
  refine ⟨w2, h3, ?_⟩
  unfold f_L_law_L1299
  have e1 : xin (nI i + (1 : Int32)) LL = true := lc_in hi hL 1 (by decide)
  have e2 : xin (nI i + (2 : Int32)) LL = true := lc_in hi hL 2 (by decide)
  have e3 : xin (nI i + (3 : Int32)) LL = true := lc_in hi hL 3 (by decide)
  simp only [e1, e2, e3, xchk, h1, xbind, h2]
  simp
theorem lc_1342 {LL i : Nat} {xs : Nat → Int32} (K : Int32 → xI → Option (Int32 × xI)) (hi : i + 7 ≤ LL) (hL : LL ≤ 3584) (w : xI) (hR : Rel w) : ∃ w2, Rel w2 ∧ f_L_law_L1342 LL xs K (nI i) w = K (nI i) w2 := by
  obtain ⟨r, w1, w2, h1, h2, h3⟩ := op_cell (xs (nI i + (1 : Int32)).toNatClampNeg) (xs (nI i + (2 : Int32)).toNatClampNeg) (xs (nI i + (3 : Int32)).toNatClampNeg) w hR
  refine ⟨w2, h3, ?_⟩
  unfold f_L_law_L1342
  have e1 : xin (nI i + (1 : Int32)) LL = true := lc_in hi hL 1 (by decide)
  have e2 : xin (nI i + (2 : Int32)) LL = true := lc_in hi hL 2 (by decide)
  have e3 : xin (nI i + (3 : Int32)) LL = true := lc_in hi hL 3 (by decide)
  simp only [e1, e2, e3, xchk, h1, xbind, h2]
  simp
theorem lc_1385 {LL i : Nat} {xs : Nat → Int32} (K : Int32 → xI → Option (Int32 × xI)) (hi : i + 7 ≤ LL) (hL : LL ≤ 3584) (w : xI) (hR : Rel w) : ∃ w2, Rel w2 ∧ f_L_law_L1385 LL xs K (nI i) w = K (nI i) w2 := by
  obtain ⟨r, w1, w2, h1, h2, h3⟩ := op_copy (xs (nI i + (1 : Int32)).toNatClampNeg) (xs (nI i + (2 : Int32)).toNatClampNeg) (xs (nI i + (3 : Int32)).toNatClampNeg) (xs (nI i + (4 : Int32)).toNatClampNeg) (xs (nI i + (5 : Int32)).toNatClampNeg) w hR
  refine ⟨w2, h3, ?_⟩
  unfold f_L_law_L1385
  have e1 : xin (nI i + (1 : Int32)) LL = true := lc_in hi hL 1 (by decide)
  have e2 : xin (nI i + (2 : Int32)) LL = true := lc_in hi hL 2 (by decide)
  have e3 : xin (nI i + (3 : Int32)) LL = true := lc_in hi hL 3 (by decide)
  have e4 : xin (nI i + (4 : Int32)) LL = true := lc_in hi hL 4 (by decide)
  have e5 : xin (nI i + (5 : Int32)) LL = true := lc_in hi hL 5 (by decide)
  simp only [e1, e2, e3, e4, e5, xchk, h1, xbind, h2]
  simp
theorem lc_1448 {LL i : Nat} {xs : Nat → Int32} (K : Int32 → xI → Option (Int32 × xI)) (hi : i + 7 ≤ LL) (hL : LL ≤ 3584) (w : xI) (hR : Rel w) : ∃ w2, Rel w2 ∧ f_L_law_L1448 LL xs K (nI i) w = K (nI i) w2 := by
  obtain ⟨r, w1, w2, h1, h2, h3⟩ := op_cartsBy (xs (nI i + (1 : Int32)).toNatClampNeg) (xs (nI i + (2 : Int32)).toNatClampNeg) (xs (nI i + (3 : Int32)).toNatClampNeg) (xs (nI i + (4 : Int32)).toNatClampNeg) w hR
  refine ⟨w2, h3, ?_⟩
  unfold f_L_law_L1448
  have e1 : xin (nI i + (1 : Int32)) LL = true := lc_in hi hL 1 (by decide)
  have e2 : xin (nI i + (2 : Int32)) LL = true := lc_in hi hL 2 (by decide)
  have e3 : xin (nI i + (3 : Int32)) LL = true := lc_in hi hL 3 (by decide)
  have e4 : xin (nI i + (4 : Int32)) LL = true := lc_in hi hL 4 (by decide)
  simp only [e1, e2, e3, e4, xchk, h1, xbind, h2]
  simp
theorem lc_1501 {LL i : Nat} {xs : Nat → Int32} (K : Int32 → xI → Option (Int32 × xI)) (hi : i + 7 ≤ LL) (hL : LL ≤ 3584) (w : xI) (hR : Rel w) : ∃ w2, Rel w2 ∧ f_L_law_L1501 LL xs K (nI i) w = K (nI i) w2 := by
  obtain ⟨r, w1, w2, h1, h2, h3⟩ := op_taken (xs (nI i + (1 : Int32)).toNatClampNeg) (xs (nI i + (2 : Int32)).toNatClampNeg) w hR
  refine ⟨w2, h3, ?_⟩
  unfold f_L_law_L1501
  have e1 : xin (nI i + (1 : Int32)) LL = true := lc_in hi hL 1 (by decide)
  have e2 : xin (nI i + (2 : Int32)) LL = true := lc_in hi hL 2 (by decide)
  simp only [e1, e2, xchk, h1, xbind, h2]
  simp
set_option maxRecDepth 20000 in
set_option maxHeartbeats 4000000 in
theorem law_walkM {LL : Nat} {xs : Nat → Int32} (hL : LL ≤ 3584) : ∀ (fu i : Nat) (w : xI), Rel w → i ≤ LL + 7 → LL + 7 < i + 7 * fu → ∃ w9, f_L_law_L18 LL xs fu (nI i) w = some (1, w9) := by
  intro fu
  induction fu with
  | zero => intro i w hR h1 h2; omega
  | succ fu ih =>
    intro i w hR h1 h2
    rw [f_L_law_L18]
    by_cases hi : i + 7 ≤ LL
    · have c1 : ¬ (Int32.ofNat LL - (7 : Int32)) < nI i := by
        rw [show (Int32.ofNat LL - (7 : Int32)) = nI LL - nI 7 from rfl, pk_sub (by omega)]
        exact nI_nlt (by omega) (by omega)
      have c2 : xin (nI i) LL = true := by
        have := lc_in hi hL 0 (by decide)
        rw [nI_add, Nat.add_zero] at this
        exact this
      rw [if_neg c1, c2]
      have nx : ∀ w2 : xI, Rel w2 → ∃ w9, f_L_law_L1534 LL xs (fun v w => f_L_law_L18 LL xs fu v w) (nI i) w2 = some (1, w9) := by
        intro w2 hR2
        unfold f_L_law_L1534 xlet
        rw [show nI i + (7 : Int32) = nI (i + 7) from nI_add i 7]
        exact ih (i + 7) w2 hR2 (by omega) (by omega)
      simp only [xchk]
      generalize (xs (nI i).toNatClampNeg &&& (63 : Int32)) = sel
      by_cases h0 : sel = 0
      · rw [if_pos h0]
        obtain ⟨w2, hR2, e⟩ := lc_204 (xs := xs) (fun v w => f_L_law_L1534 LL xs (fun v w => f_L_law_L18 LL xs fu v w) v w) hi hL w hR
        obtain ⟨w9, h9⟩ := nx w2 hR2
        exact ⟨w9, e.trans h9⟩
      rw [if_neg h0]
      by_cases h1 : sel = 1
      · rw [if_pos h1]
        obtain ⟨w2, hR2, e⟩ := lc_237 (xs := xs) (fun v w => f_L_law_L1534 LL xs (fun v w => f_L_law_L18 LL xs fu v w) v w) hi hL w hR
        obtain ⟨w9, h9⟩ := nx w2 hR2
        exact ⟨w9, e.trans h9⟩
      rw [if_neg h1]
      by_cases h2 : sel = 2
      · rw [if_pos h2]
        obtain ⟨w2, hR2, e⟩ := lc_260 (xs := xs) (fun v w => f_L_law_L1534 LL xs (fun v w => f_L_law_L18 LL xs fu v w) v w) hi hL w hR
        obtain ⟨w9, h9⟩ := nx w2 hR2
        exact ⟨w9, e.trans h9⟩
      rw [if_neg h2]
      by_cases h3 : sel = 3
      · rw [if_pos h3]
        obtain ⟨w2, hR2, e⟩ := lc_273 (xs := xs) (fun v w => f_L_law_L1534 LL xs (fun v w => f_L_law_L18 LL xs fu v w) v w) hi hL w hR
        obtain ⟨w9, h9⟩ := nx w2 hR2
        exact ⟨w9, e.trans h9⟩
      rw [if_neg h3]
      by_cases h4 : sel = 4
      · rw [if_pos h4]
        obtain ⟨w2, hR2, e⟩ := lc_296 (xs := xs) (fun v w => f_L_law_L1534 LL xs (fun v w => f_L_law_L18 LL xs fu v w) v w) hi hL w hR
        obtain ⟨w9, h9⟩ := nx w2 hR2
        exact ⟨w9, e.trans h9⟩
      rw [if_neg h4]
      by_cases h5 : sel = 5
      · rw [if_pos h5]
        obtain ⟨w2, hR2, e⟩ := lc_319 (xs := xs) (fun v w => f_L_law_L1534 LL xs (fun v w => f_L_law_L18 LL xs fu v w) v w) hi hL w hR
        obtain ⟨w9, h9⟩ := nx w2 hR2
        exact ⟨w9, e.trans h9⟩
      rw [if_neg h5]
      by_cases h6 : sel = 6
      · rw [if_pos h6]
        obtain ⟨w2, hR2, e⟩ := lc_394 (xs := xs) (fun v w => f_L_law_L1534 LL xs (fun v w => f_L_law_L18 LL xs fu v w) v w) hi hL w hR
        obtain ⟨w9, h9⟩ := nx w2 hR2
        exact ⟨w9, e.trans h9⟩
      rw [if_neg h6]
      by_cases h7 : sel = 7
      · rw [if_pos h7]
        obtain ⟨w2, hR2, e⟩ := lc_407 (xs := xs) (fun v w => f_L_law_L1534 LL xs (fun v w => f_L_law_L18 LL xs fu v w) v w) hi hL w hR
        obtain ⟨w9, h9⟩ := nx w2 hR2
        exact ⟨w9, e.trans h9⟩
      rw [if_neg h7]
      by_cases h8 : sel = 8
      · rw [if_pos h8]
        obtain ⟨w2, hR2, e⟩ := lc_430 (xs := xs) (fun v w => f_L_law_L1534 LL xs (fun v w => f_L_law_L18 LL xs fu v w) v w) hi hL w hR
        obtain ⟨w9, h9⟩ := nx w2 hR2
        exact ⟨w9, e.trans h9⟩
      rw [if_neg h8]
      by_cases h9 : sel = 9
      · rw [if_pos h9]
        obtain ⟨w2, hR2, e⟩ := lc_483 (xs := xs) (fun v w => f_L_law_L1534 LL xs (fun v w => f_L_law_L18 LL xs fu v w) v w) hi hL w hR
        obtain ⟨w9, h9⟩ := nx w2 hR2
        exact ⟨w9, e.trans h9⟩
      rw [if_neg h9]
      by_cases h10 : sel = 10
      · rw [if_pos h10]
        obtain ⟨w2, hR2, e⟩ := lc_546 (xs := xs) (fun v w => f_L_law_L1534 LL xs (fun v w => f_L_law_L18 LL xs fu v w) v w) hi hL w hR
        obtain ⟨w9, h9⟩ := nx w2 hR2
        exact ⟨w9, e.trans h9⟩
      rw [if_neg h10]
      by_cases h11 : sel = 11
      · rw [if_pos h11]
        obtain ⟨w2, hR2, e⟩ := lc_589 (xs := xs) (fun v w => f_L_law_L1534 LL xs (fun v w => f_L_law_L18 LL xs fu v w) v w) hi hL w hR
        obtain ⟨w9, h9⟩ := nx w2 hR2
        exact ⟨w9, e.trans h9⟩
      rw [if_neg h11]
      by_cases h12 : sel = 12
      · rw [if_pos h12]
        obtain ⟨w2, hR2, e⟩ := lc_622 (xs := xs) (fun v w => f_L_law_L1534 LL xs (fun v w => f_L_law_L18 LL xs fu v w) v w) hi hL w hR
        obtain ⟨w9, h9⟩ := nx w2 hR2
        exact ⟨w9, e.trans h9⟩
      rw [if_neg h12]
      by_cases h13 : sel = 13
      · rw [if_pos h13]
        obtain ⟨w2, hR2, e⟩ := lc_665 (xs := xs) (fun v w => f_L_law_L1534 LL xs (fun v w => f_L_law_L18 LL xs fu v w) v w) hi hL w hR
        obtain ⟨w9, h9⟩ := nx w2 hR2
        exact ⟨w9, e.trans h9⟩
      rw [if_neg h13]
      by_cases h14 : sel = 14
      · rw [if_pos h14]
        obtain ⟨w2, hR2, e⟩ := lc_688 (xs := xs) (fun v w => f_L_law_L1534 LL xs (fun v w => f_L_law_L18 LL xs fu v w) v w) hi hL w hR
        obtain ⟨w9, h9⟩ := nx w2 hR2
        exact ⟨w9, e.trans h9⟩
      rw [if_neg h14]
      by_cases h15 : sel = 15
      · rw [if_pos h15]
        obtain ⟨w2, hR2, e⟩ := lc_721 (xs := xs) (fun v w => f_L_law_L1534 LL xs (fun v w => f_L_law_L18 LL xs fu v w) v w) hi hL w hR
        obtain ⟨w9, h9⟩ := nx w2 hR2
        exact ⟨w9, e.trans h9⟩
      rw [if_neg h15]
      by_cases h16 : sel = 16
      · rw [if_pos h16]
        obtain ⟨w2, hR2, e⟩ := lc_754 (xs := xs) (fun v w => f_L_law_L1534 LL xs (fun v w => f_L_law_L18 LL xs fu v w) v w) hi hL w hR
        obtain ⟨w9, h9⟩ := nx w2 hR2
        exact ⟨w9, e.trans h9⟩
      rw [if_neg h16]
      by_cases h17 : sel = 17
      · rw [if_pos h17]
        obtain ⟨w2, hR2, e⟩ := lc_777 (xs := xs) (fun v w => f_L_law_L1534 LL xs (fun v w => f_L_law_L18 LL xs fu v w) v w) hi hL w hR
        obtain ⟨w9, h9⟩ := nx w2 hR2
        exact ⟨w9, e.trans h9⟩
      rw [if_neg h17]
      by_cases h18 : sel = 18
      · rw [if_pos h18]
        obtain ⟨w2, hR2, e⟩ := lc_820 (xs := xs) (fun v w => f_L_law_L1534 LL xs (fun v w => f_L_law_L18 LL xs fu v w) v w) hi hL w hR
        obtain ⟨w9, h9⟩ := nx w2 hR2
        exact ⟨w9, e.trans h9⟩
      rw [if_neg h18]
      by_cases h19 : sel = 19
      · rw [if_pos h19]
        obtain ⟨w2, hR2, e⟩ := lc_853 (xs := xs) (fun v w => f_L_law_L1534 LL xs (fun v w => f_L_law_L18 LL xs fu v w) v w) hi hL w hR
        obtain ⟨w9, h9⟩ := nx w2 hR2
        exact ⟨w9, e.trans h9⟩
      rw [if_neg h19]
      by_cases h20 : sel = 20
      · rw [if_pos h20]
        obtain ⟨w2, hR2, e⟩ := lc_886 (xs := xs) (fun v w => f_L_law_L1534 LL xs (fun v w => f_L_law_L18 LL xs fu v w) v w) hi hL w hR
        obtain ⟨w9, h9⟩ := nx w2 hR2
        exact ⟨w9, e.trans h9⟩
      rw [if_neg h20]
      by_cases h21 : sel = 21
      · rw [if_pos h21]
        obtain ⟨w2, hR2, e⟩ := lc_919 (xs := xs) (fun v w => f_L_law_L1534 LL xs (fun v w => f_L_law_L18 LL xs fu v w) v w) hi hL w hR
        obtain ⟨w9, h9⟩ := nx w2 hR2
        exact ⟨w9, e.trans h9⟩
      rw [if_neg h21]
      by_cases h22 : sel = 22
      · rw [if_pos h22]
        obtain ⟨w2, hR2, e⟩ := lc_952 (xs := xs) (fun v w => f_L_law_L1534 LL xs (fun v w => f_L_law_L18 LL xs fu v w) v w) hi hL w hR
        obtain ⟨w9, h9⟩ := nx w2 hR2
        exact ⟨w9, e.trans h9⟩
      rw [if_neg h22]
      by_cases h23 : sel = 23
      · rw [if_pos h23]
        obtain ⟨w2, hR2, e⟩ := lc_985 (xs := xs) (fun v w => f_L_law_L1534 LL xs (fun v w => f_L_law_L18 LL xs fu v w) v w) hi hL w hR
        obtain ⟨w9, h9⟩ := nx w2 hR2
        exact ⟨w9, e.trans h9⟩
      rw [if_neg h23]
      by_cases h24 : sel = 24
      · rw [if_pos h24]
        obtain ⟨w2, hR2, e⟩ := lc_1008 (xs := xs) (fun v w => f_L_law_L1534 LL xs (fun v w => f_L_law_L18 LL xs fu v w) v w) hi hL w hR
        obtain ⟨w9, h9⟩ := nx w2 hR2
        exact ⟨w9, e.trans h9⟩
      rw [if_neg h24]
      by_cases h25 : sel = 25
      · rw [if_pos h25]
        obtain ⟨w2, hR2, e⟩ := lc_1031 (xs := xs) (fun v w => f_L_law_L1534 LL xs (fun v w => f_L_law_L18 LL xs fu v w) v w) hi hL w hR
        obtain ⟨w9, h9⟩ := nx w2 hR2
        exact ⟨w9, e.trans h9⟩
      rw [if_neg h25]
      by_cases h26 : sel = 26
      · rw [if_pos h26]
        obtain ⟨w2, hR2, e⟩ := lc_1064 (xs := xs) (fun v w => f_L_law_L1534 LL xs (fun v w => f_L_law_L18 LL xs fu v w) v w) hi hL w hR
        obtain ⟨w9, h9⟩ := nx w2 hR2
        exact ⟨w9, e.trans h9⟩
      rw [if_neg h26]
      by_cases h27 : sel = 27
      · rw [if_pos h27]
        obtain ⟨w2, hR2, e⟩ := lc_1087 (xs := xs) (fun v w => f_L_law_L1534 LL xs (fun v w => f_L_law_L18 LL xs fu v w) v w) hi hL w hR
        obtain ⟨w9, h9⟩ := nx w2 hR2
        exact ⟨w9, e.trans h9⟩
      rw [if_neg h27]
      by_cases h28 : sel = 28
      · rw [if_pos h28]
        obtain ⟨w2, hR2, e⟩ := lc_1110 (xs := xs) (fun v w => f_L_law_L1534 LL xs (fun v w => f_L_law_L18 LL xs fu v w) v w) hi hL w hR
        obtain ⟨w9, h9⟩ := nx w2 hR2
        exact ⟨w9, e.trans h9⟩
      rw [if_neg h28]
      by_cases h29 : sel = 29
      · rw [if_pos h29]
        obtain ⟨w2, hR2, e⟩ := lc_1133 (xs := xs) (fun v w => f_L_law_L1534 LL xs (fun v w => f_L_law_L18 LL xs fu v w) v w) hi hL w hR
        obtain ⟨w9, h9⟩ := nx w2 hR2
        exact ⟨w9, e.trans h9⟩
      rw [if_neg h29]
      by_cases h30 : sel = 30
      · rw [if_pos h30]
        obtain ⟨w2, hR2, e⟩ := lc_1186 (xs := xs) (fun v w => f_L_law_L1534 LL xs (fun v w => f_L_law_L18 LL xs fu v w) v w) hi hL w hR
        obtain ⟨w9, h9⟩ := nx w2 hR2
        exact ⟨w9, e.trans h9⟩
      rw [if_neg h30]
      by_cases h31 : sel = 31
      · rw [if_pos h31]
        obtain ⟨w2, hR2, e⟩ := lc_1219 (xs := xs) (fun v w => f_L_law_L1534 LL xs (fun v w => f_L_law_L18 LL xs fu v w) v w) hi hL w hR
        obtain ⟨w9, h9⟩ := nx w2 hR2
        exact ⟨w9, e.trans h9⟩
      rw [if_neg h31]
      by_cases h32 : sel = 32
      · rw [if_pos h32]
        obtain ⟨w2, hR2, e⟩ := lc_1273 (xs := xs) (fun v w => f_L_law_L1534 LL xs (fun v w => f_L_law_L18 LL xs fu v w) v w) hi hL w hR
        obtain ⟨w9, h9⟩ := nx w2 hR2
        exact ⟨w9, e.trans h9⟩
      rw [if_neg h32]
      by_cases h33 : sel = 33
      · rw [if_pos h33]
        obtain ⟨w2, hR2, e⟩ := lc_1286 (xs := xs) (fun v w => f_L_law_L1534 LL xs (fun v w => f_L_law_L18 LL xs fu v w) v w) hi hL w hR
        obtain ⟨w9, h9⟩ := nx w2 hR2
        exact ⟨w9, e.trans h9⟩
      rw [if_neg h33]
      by_cases h34 : sel = 34
      · rw [if_pos h34]
        obtain ⟨w2, hR2, e⟩ := lc_1299 (xs := xs) (fun v w => f_L_law_L1534 LL xs (fun v w => f_L_law_L18 LL xs fu v w) v w) hi hL w hR
        obtain ⟨w9, h9⟩ := nx w2 hR2
        exact ⟨w9, e.trans h9⟩
      rw [if_neg h34]
      by_cases h35 : sel = 35
      · rw [if_pos h35]
        obtain ⟨w2, hR2, e⟩ := lc_1342 (xs := xs) (fun v w => f_L_law_L1534 LL xs (fun v w => f_L_law_L18 LL xs fu v w) v w) hi hL w hR
        obtain ⟨w9, h9⟩ := nx w2 hR2
        exact ⟨w9, e.trans h9⟩
      rw [if_neg h35]
      by_cases h36 : sel = 36
      · rw [if_pos h36]
        obtain ⟨w2, hR2, e⟩ := lc_1385 (xs := xs) (fun v w => f_L_law_L1534 LL xs (fun v w => f_L_law_L18 LL xs fu v w) v w) hi hL w hR
        obtain ⟨w9, h9⟩ := nx w2 hR2
        exact ⟨w9, e.trans h9⟩
      rw [if_neg h36]
      by_cases h37 : sel = 37
      · rw [if_pos h37]
        obtain ⟨w2, hR2, e⟩ := lc_1448 (xs := xs) (fun v w => f_L_law_L1534 LL xs (fun v w => f_L_law_L18 LL xs fu v w) v w) hi hL w hR
        obtain ⟨w9, h9⟩ := nx w2 hR2
        exact ⟨w9, e.trans h9⟩
      rw [if_neg h37]
      by_cases h38 : sel = 38
      · rw [if_pos h38]
        obtain ⟨w2, hR2, e⟩ := lc_1501 (xs := xs) (fun v w => f_L_law_L1534 LL xs (fun v w => f_L_law_L18 LL xs fu v w) v w) hi hL w hR
        obtain ⟨w9, h9⟩ := nx w2 hR2
        exact ⟨w9, e.trans h9⟩
      rw [if_neg h38]
      exact nx w hR
    · have c1 : (Int32.ofNat LL - (7 : Int32)) < nI i := by
        rw [Int32.lt_iff_toInt_lt, nI_toInt (by omega), show (Int32.ofNat LL - (7 : Int32)) = nI LL - nI 7 from rfl, pk_sub_toInt (by omega) (by omega)]
        omega
      rw [if_pos c1]
      exact ⟨w, rfl⟩
theorem law_math (L : Nat) (xs : Nat → Int32) (hL : L ≤ 3584) : ∃ w9 : xI, f_law L xs = some (1, w9) := by
  obtain ⟨w1, w2, h1, h2, hR⟩ := op_init
  obtain ⟨w9, h9⟩ := law_walkM (xs := xs) hL 2000 0 w2 hR (by omega) (by omega)
  refine ⟨w9, ?_⟩
  rw [nI_0] at h9
  unfold f_law
  rw [h1]
  generalize f_L_law_L18 L xs 2000 0 = ff at h9 ⊢
  simp only [xbind, h2]
  exact h9
