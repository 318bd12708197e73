-- ===== the first law's text =====
def FL : List Int32 := [109, 97, 121, 32, 49, 32, 59, 32, 102, 105, 110, 101, 32, 111, 102, 102, 32, 42, 32, 50, 32, 59, 32, 116, 111, 108, 108, 32, 104, 111, 117, 114, 32, 59]
def TT : Nat → Int32 := fun j => FL.getD j 0
theorem lx_word {q r c : Nat} (h : isWd TT q r c) (hc : c < 12) : wdT TT q r 12 0 = wCod.getD c 0 := wdT_at h 12 0 (Nat.zero_le _) (by omega) (by decide)
theorem fw0 : isWd TT 0 3 6 := by unfold isWd; decide
theorem fw7 : isWd TT 8 12 7 := by unfold isWd; decide
theorem fw12 : isWd TT 13 16 2 := by unfold isWd; decide
theorem fw22 : isWd TT 23 27 8 := by unfold isWd; decide
theorem fw27 : isWd TT 28 32 3 := by unfold isWd; decide
theorem fR0 : lxR TT 34 0 = 3 := by decide
theorem fR3 : lxR TT 34 3 = 5 := by decide
theorem fR5 : lxR TT 34 5 = 7 := by decide
theorem fR7 : lxR TT 34 7 = 12 := by decide
theorem fR12 : lxR TT 34 12 = 16 := by decide
theorem fR16 : lxR TT 34 16 = 18 := by decide
theorem fR18 : lxR TT 34 18 = 20 := by decide
theorem fR20 : lxR TT 34 20 = 22 := by decide
theorem fR22 : lxR TT 34 22 = 27 := by decide
theorem fR27 : lxR TT 34 27 = 32 := by decide
theorem fR32 : lxR TT 34 32 = 34 := by decide
theorem lxT_w {T : Nat → Int32} {z p q r : Nat} (hq : lxQ T z p = q) (hr : lxR T z p = r) (h1 : ¬ z ≤ q) (h2 : isLe (T q) = true) : lxT T z p = wdT T q r 12 0 := by
  unfold lxT
  rw [hq, if_neg h1, if_pos h2, hr]
theorem lxT_d {T : Nat → Int32} {z p q r : Nat} (hq : lxQ T z p = q) (hr : lxR T z p = r) (h1 : ¬ z ≤ q) (h2 : ¬ isLe (T q) = true) (h3 : isDi (T q) = true) (h4 : r - q ≤ 4) : lxT T z p = numV T (r - q) q 0 := by
  unfold lxT
  rw [hq, if_neg h1, if_neg h2, if_pos h3, hr, if_pos h4]
theorem lxT_s {T : Nat → Int32} {z p q : Nat} (hq : lxQ T z p = q) (h1 : ¬ z ≤ q) (h2 : ¬ isLe (T q) = true) (h3 : ¬ isDi (T q) = true) : lxT T z p = sgT (T q) := by
  unfold lxT
  rw [hq, if_neg h1, if_neg h2, if_neg h3]
theorem fT0 : lxT TT 34 0 = -19 := (lxT_w (q := 0) (by decide) fR0 (by decide) (by decide)).trans (lx_word fw0 (by decide))
theorem fT3 : lxT TT 34 3 = 1 := (lxT_d (q := 4) (by decide) fR3 (by decide) (by decide) (by decide) (by decide)).trans (by decide)
theorem fT5 : lxT TT 34 5 = -18 := (lxT_s (q := 6) (by decide) (by decide) (by decide) (by decide)).trans (by decide)
theorem fT7 : lxT TT 34 7 = -20 := (lxT_w (q := 8) (by decide) fR7 (by decide) (by decide)).trans (lx_word fw7 (by decide))
theorem fT12 : lxT TT 34 12 = -3 := (lxT_w (q := 13) (by decide) fR12 (by decide) (by decide)).trans (lx_word fw12 (by decide))
theorem fT16 : lxT TT 34 16 = -14 := (lxT_s (q := 17) (by decide) (by decide) (by decide) (by decide)).trans (by decide)
theorem fT18 : lxT TT 34 18 = 2 := (lxT_d (q := 19) (by decide) fR18 (by decide) (by decide) (by decide) (by decide)).trans (by decide)
theorem fT20 : lxT TT 34 20 = -18 := (lxT_s (q := 21) (by decide) (by decide) (by decide) (by decide)).trans (by decide)
theorem fT22 : lxT TT 34 22 = -21 := (lxT_w (q := 23) (by decide) fR22 (by decide) (by decide)).trans (lx_word fw22 (by decide))
theorem fT27 : lxT TT 34 27 = -4 := (lxT_w (q := 28) (by decide) fR27 (by decide) (by decide)).trans (lx_word fw27 (by decide))
theorem fT32 : lxT TT 34 32 = -18 := (lxT_s (q := 33) (by decide) (by decide) (by decide) (by decide)).trans (by decide)
theorem fT34 : lxT TT 34 34 = -22 := by
  unfold lxT
  rw [if_pos (by decide)]
theorem rd_v {T : Nat → Int32} {z op p : Nat} (fu : Nat) (h : -6 ≤ lxT T z p) : rd T z (fu + 1) 5 op p = (lxR T z p, some [lxT T z p]) := by
  rw [rd, if_pos rfl, if_pos h]
theorem rd_up {T : Nat → Int32} {z op p L : Nat} (fu : Nat) (hL : L ≤ 4) (h9 : lxT T z p ≠ -9) {p1 : Nat} {c : List Int32} (h : rd T z fu (L + 1) op p = (p1, some c)) : rd T z (fu + 1) L op p = lpT T z (fun x => rd T z fu (L + 1) op x) L (if L = 2 then 1 else 160) p1 c := by
  rw [rd, if_neg (by omega), if_neg (fun y => h9 y.2), h]
  rfl
theorem lp_no {T : Nat → Int32} {z L : Nat} {rec : Nat → Nat × Option (List Int32)} (k : Nat) {p : Nat} (c : List Int32) (h : jnT L (lxT T z p) = false) : lpT T z rec L k p c = (p, some c) := by
  cases k with
  | zero => rfl
  | succ k =>
    show (if jnT L (lxT T z p) = true then _ else (p, some c)) = _
    rw [if_neg (by rw [h]; decide)]
theorem rd_up2 {T : Nat → Int32} {z op p L : Nat} (fu : Nat) (hL : L ≤ 4) (h9 : lxT T z p ≠ -9) {p1 : Nat} {c : List Int32} (h : rd T z fu (L + 1) op p = (p1, some c)) (hj : jnT L (lxT T z p1) = false) : rd T z (fu + 1) L op p = (p1, some c) := by
  rw [rd_up fu hL h9 h, lp_no _ _ hj]
theorem rd_four {T : Nat → Int32} {z op p : Nat} (fu : Nat) (h9 : lxT T z p ≠ -9) {p1 : Nat} {c : List Int32} (h : rd T z fu 4 op p = (p1, some c)) (hj : lxT T z p1 = -18) : rd T z (fu + 4) 0 op p = (p1, some c) := by
  have j : ∀ L, L ≤ 4 → jnT L (-18) = false := by decide
  exact rd_up2 (fu + 3) (by decide) h9 (rd_up2 (fu + 2) (by decide) h9 (rd_up2 (fu + 1) (by decide) h9 (rd_up2 fu (by decide) h9 h (by rw [hj]; exact j 3 (by decide))) (by rw [hj]; exact j 2 (by decide))) (by rw [hj]; exact j 1 (by decide))) (by rw [hj]; exact j 0 (by decide))
theorem first_ok : TxY TT 34 [1] [-3, 2, -14] [-4] := by
  have v3 : rd TT 34 85 5 0 3 = (5, some [1]) := by
    have := rd_v (T := TT) (z := 34) (op := 0) (p := 3) 84 (by rw [fT3]; decide)
    rw [fT3, fR3] at this; exact this
  have w3 : rd TT 34 90 0 0 3 = (5, some [1]) := rd_four 86 (by rw [fT3]; decide) (rd_up2 85 (by decide) (by rw [fT3]; decide) v3 (by rw [fT5]; decide)) fT5
  have v27 : rd TT 34 85 5 0 27 = (32, some [-4]) := by
    have := rd_v (T := TT) (z := 34) (op := 0) (p := 27) 84 (by rw [fT27]; decide)
    rw [fT27, fR27] at this; exact this
  have w27 : rd TT 34 90 0 0 27 = (32, some [-4]) := rd_four 86 (by rw [fT27]; decide) (rd_up2 85 (by decide) (by rw [fT27]; decide) v27 (by rw [fT32]; decide)) fT32
  have v12 : rd TT 34 85 5 0 12 = (16, some [-3]) := by
    have := rd_v (T := TT) (z := 34) (op := 0) (p := 12) 84 (by rw [fT12]; decide)
    rw [fT12, fR12] at this; exact this
  have v18 : rd TT 34 85 5 0 18 = (20, some [2]) := by
    have := rd_v (T := TT) (z := 34) (op := 0) (p := 18) 84 (by rw [fT18]; decide)
    rw [fT18, fR18] at this; exact this
  have x12 : rd TT 34 86 4 0 12 = (20, some [-3, 2, -14]) := by
    rw [rd_up 85 (by decide) (by rw [fT12]; decide) v12]
    show (if jnT 4 (lxT TT 34 16) = true then rb (rd TT 34 85 5 0 (lxR TT 34 16)) (fun p2 c2 => lpT TT 34 (fun x => rd TT 34 85 5 0 x) 4 159 p2 ([-3] ++ c2 ++ [lxT TT 34 16])) else (16, some [-3])) = _
    rw [fT16, if_pos (by decide), fR16, v18]
    show lpT TT 34 (fun x => rd TT 34 85 5 0 x) 4 159 20 ([-3] ++ [2] ++ [-14]) = _
    rw [lp_no _ _ (by rw [fT20]; decide)]
    rfl
  have w12 : rd TT 34 90 0 0 12 = (20, some [-3, 2, -14]) := rd_four 86 (by rw [fT12]; decide) x12 fT20
  refine ⟨7, 22, 34, ?_, ?_, ?_, fT34⟩
  · unfold tx1
    rw [fT0, if_pos (by decide), fR0, w3]
    show (if lxT TT 34 5 = -18 then (lxR TT 34 5, some [1]) else (lxQ TT 34 5, none)) = _
    rw [fT5, if_pos rfl, fR5]
  · unfold tx1
    rw [fT7, if_pos (by decide), fR7, w12]
    show (if lxT TT 34 20 = -18 then (lxR TT 34 20, some [-3, 2, -14]) else (lxQ TT 34 20, none)) = _
    rw [fT20, if_pos rfl, fR20]
  · unfold tx1
    rw [fT22, if_pos (by decide), fR22, w27]
    show (if lxT TT 34 32 = -18 then (lxR TT 34 32, some [-4]) else (lxQ TT 34 32, none)) = _
    rw [fT32, if_pos rfl, fR32]
