def tpX (w : xI) (b : Int32) (k : Nat) : xI := xup (xup w 20 k b) 19 1 (nI (k + 1))
def tpM (w : xI) (b : Int32) (k : Nat) : xI := xup (xup w 80 k b) 71 11 (nI (k + 1))
theorem tp_comm (w : xI) (b b' : Int32) (k k' : Nat) : tpM (tpX w b k) b' k' = tpX (tpM w b' k') b k := by
  funext c j
  unfold tpM tpX
  by_cases h1 : c = 71
  · subst h1; simp [xup, upd]
  · by_cases h2 : c = 80
    · subst h2; simp [xup, upd]
    · by_cases h3 : c = 19
      · subst h3; simp [xup, upd]
      · by_cases h4 : c = 20
        · subst h4; simp [xup, upd]
        · simp [xup, h1, h2, h3, h4]
def tpsM (g : Nat → Int32) (k : Nat) : Nat → xI → xI
  | 0, w => w
  | n + 1, w => tpM (tpsM g k n w) (g n) (k + n)
def tpsX (g : Nat → Int32) (k : Nat) : Nat → xI → xI
  | 0, w => w
  | n + 1, w => tpX (tpsX g k n w) (g n) (k + n)
theorem tps_comm (g : Nat → Int32) (k n : Nat) (w : xI) (b : Int32) (q : Nat) : tpsM g k n (tpX w b q) = tpX (tpsM g k n w) b q := by
  induction n with
  | zero => rfl
  | succ n ih => show tpM (tpsM g k n (tpX w b q)) (g n) (k + n) = tpX (tpM (tpsM g k n w) (g n) (k + n)) b q; rw [ih, tp_comm]
theorem Rel_tp {w : xI} {k : Nat} {b : Int32} (hR : Rel w) (hk : w 19 1 = nI k) (hk2 : k < 160) (h0 : 0 ≤ b) (h1 : b ≤ 255) : Rel (tpM (tpX w b k) b k) := by
  refine hR.tape (fun c h1 h2 h3 h4 => ?_) (fun j hj => ?_) ?_
  · unfold tpM tpX; simp [xup, h1, h2, h3, h4]
  · unfold tpM tpX; simp [xup, upd, hj]
  · obtain ⟨-, -, c⟩ := hR.tp
    rw [hk, nI_clamp (by omega)] at c
    have e : tpM (tpX w b k) b k 19 1 = nI (k + 1) := by unfold tpM tpX; simp [xup, upd]
    have e2 : tpM (tpX w b k) b k 71 11 = nI (k + 1) := by unfold tpM tpX; simp [xup, upd]
    refine ⟨by rw [e, e2], ⟨by rw [e]; exact nI_pos' (by omega), by rw [e]; exact (nI_leI (a := k + 1) (b := 160) (by omega) (by omega)).mpr (by omega)⟩, fun j hj => ?_⟩
    rw [e, nI_clamp (by omega)] at hj
    by_cases h : j = k
    · subst h; unfold tpM tpX; simp [xup, upd, h0, h1]
    · have := c j (by omega)
      unfold tpM tpX; simp [xup, upd, h]; exact this
theorem Rel_tps {w : xI} {g : Nat → Int32} {k : Nat} (hR : Rel w) (hk : w 19 1 = nI k) : ∀ n, k + n ≤ 160 → (∀ i, i < n → 0 ≤ g i ∧ g i ≤ 255) → Rel (tpsM g k n (tpsX g k n w)) ∧ (tpsM g k n (tpsX g k n w)) 19 1 = nI (k + n) := by
  intro n
  induction n with
  | zero => intro _ _; exact ⟨hR, hk⟩
  | succ n ih =>
    intro h1 h2
    obtain ⟨a, b⟩ := ih (by omega) (fun i hi => h2 i (by omega))
    have e : tpsM g k (n + 1) (tpsX g k (n + 1) w) = tpM (tpX (tpsM g k n (tpsX g k n w)) (g n) (k + n)) (g n) (k + n) := by
      show tpM (tpsM g k n (tpX (tpsX g k n w) (g n) (k + n))) (g n) (k + n) = _
      rw [tps_comm]
    rw [e]
    refine ⟨Rel_tp a b (by omega) (h2 n (by omega)).1 (h2 n (by omega)).2, ?_⟩
    unfold tpM tpX; simp [xup, upd]; rfl
theorem s_tput {γ : Type} {w : xI} {k : Nat} (b : Int32) (h : w 19 1 = nI k) (hk : k < 160) (K : Unit → xI → Option γ) : xbind (f_X4_put b w) K = K () (tpX w b k) := by
  unfold f_X4_put
  rw [h, if_neg (show ¬ (160 : Int32) ≤ nI k from nI_ge (a := k) (b := 160) hk (by omega)), xin_nI (by omega) (by decide), xchk_true, xbind_some, nI_clamp (by omega), nI_1]
  rfl
theorem tpX_k (w : xI) (b : Int32) (k : Nat) : tpX w b k 19 1 = nI (k + 1) := by unfold tpX; simp [xup, upd]
theorem tpM_k (w : xI) (b : Int32) (k : Nat) : tpM w b k 71 11 = nI (k + 1) := by unfold tpM; simp [xup, upd]
def gOf (b0 b1 b2 b3 b4 : Int32) (i : Nat) : Int32 := if i = 0 then b0 else if i = 1 then b1 else if i = 2 then b2 else if i = 3 then b3 else b4
theorem s_feedL (n k : Nat) (b0 b1 b2 b3 b4 : Int32) (hn : n ≤ 5) (hk : k + n ≤ 160) (w : xI) (hw : w 71 11 = nI k) : ∀ (m i fu : Nat), i + m = n → m < fu → f_X11_feed_L68 fu (nI n) b0 b1 b2 b3 b4 (nI i) (tpsM (gOf b0 b1 b2 b3 b4) k i w) = some (nI (k + n), tpsM (gOf b0 b1 b2 b3 b4) k n w) := by
  have hc : ∀ i, tpsM (gOf b0 b1 b2 b3 b4) k i w 71 11 = nI (k + i) := by
    intro i
    cases i with
    | zero => exact hw
    | succ i => exact tpM_k _ _ _
  intro m
  induction m with
  | zero =>
    intro i fu h1 h2
    obtain ⟨f, rfl⟩ : ∃ f, fu = f + 1 := ⟨fu - 1, by omega⟩
    have : i = n := by omega
    subst this
    rw [f_X11_feed_L68, if_pos (nI_le (Nat.le_refl _) (by omega)), hc]
  | succ m ih =>
    intro i fu h1 h2
    obtain ⟨f, rfl⟩ : ∃ f, fu = f + 1 := ⟨fu - 1, by omega⟩
    have e : xin (nI (k + i)) 160 = true := xin_nI (by omega) (by decide)
    have e2 : (nI (k + i)).toNatClampNeg = k + i := nI_clamp (by omega)
    have go := ih (i + 1) f (by omega) (by omega)
    rw [f_X11_feed_L68, if_neg (nI_ge (a := i) (b := n) (by omega) (by omega)), hc, e, xchk_true, xchk_true, xchk_true, xchk_true, xchk_true, xlet_eq, xlet_eq, xlet_eq, xlet_eq, xlet_eq, e2, nI_1, nI_1]
    have hi : i = 0 ∨ i = 1 ∨ i = 2 ∨ i = 3 ∨ i = 4 := by omega
    rcases hi with rfl | rfl | rfl | rfl | rfl
    · rw [if_pos (by decide)]; exact go
    · rw [if_neg (by decide), if_pos (by decide)]; exact go
    · rw [if_neg (by decide), if_neg (by decide), if_pos (by decide)]; exact go
    · rw [if_neg (by decide), if_neg (by decide), if_neg (by decide), if_pos (by decide)]; exact go
    · rw [if_neg (by decide), if_neg (by decide), if_neg (by decide), if_neg (by decide)]; exact go
theorem s_byteX {γ : Type} (a : Int32) (w : xI) (K : Int32 → xI → Option γ) : xbind (f_X10_isByte a w) K = if 0 ≤ a ∧ a ≤ 255 then K 1 w else K 0 w := by
  unfold f_X10_isByte
  rw [s_within]
  by_cases h : 0 ≤ a ∧ a ≤ 255
  · rw [if_pos h, if_pos h]; rfl
  · rw [if_neg h, if_neg h]; rfl
theorem s_byteM {γ : Type} (a : Int32) (w : xI) (K : Int32 → xI → Option γ) : xbind (f_X11_isByte a w) K = if 0 ≤ a ∧ a ≤ 255 then K 1 w else K 0 w := by
  unfold f_X11_isByte
  rw [s_in]
  by_cases h : 0 ≤ a ∧ a ≤ 255
  · rw [if_pos h, if_pos h]; rfl
  · rw [if_neg h, if_neg h]; rfl
theorem s_feedX (n k : Nat) (b0 b1 b2 b3 b4 : Int32) (hn : 1 ≤ n) (hn5 : n ≤ 5) (hk : k + n ≤ 160) (w : xI) (hw : w 19 1 = nI k) : (xbind (f_X4_put b0 w) fun r13 w14 => if nI n ≤ (1 : Int32) then (f_X10_feed_L89 (nI n) b2 b3 b4 w14) else (xbind (f_X4_put b1 w14) fun r15 w16 => f_X10_feed_L89 (nI n) b2 b3 b4 w16)) = some (nI (k + n), tpsX (gOf b0 b1 b2 b3 b4) k n w) := by
  have hi : n = 1 ∨ n = 2 ∨ n = 3 ∨ n = 4 ∨ n = 5 := by omega
  rw [s_tput b0 hw (by omega)]
  rcases hi with rfl | rfl | rfl | rfl | rfl
  · rw [if_pos (by decide)]
    unfold f_X10_feed_L89 f_X10_feed_L117
    rw [if_pos (by decide), if_pos (by decide), if_pos (by decide), tpX_k]; rfl
  · rw [if_neg (by decide), s_tput b1 (tpX_k _ _ _) (by omega)]
    unfold f_X10_feed_L89 f_X10_feed_L117
    rw [if_pos (by decide), if_pos (by decide), if_pos (by decide), tpX_k]; rfl
  · rw [if_neg (by decide), s_tput b1 (tpX_k _ _ _) (by omega)]
    unfold f_X10_feed_L89 f_X10_feed_L117
    rw [if_neg (by decide), s_tput b2 (tpX_k _ _ _) (by omega), if_pos (by decide), if_pos (by decide), tpX_k]; rfl
  · rw [if_neg (by decide), s_tput b1 (tpX_k _ _ _) (by omega)]
    unfold f_X10_feed_L89 f_X10_feed_L117
    rw [if_neg (by decide), s_tput b2 (tpX_k _ _ _) (by omega), if_neg (by decide), s_tput b3 (tpX_k _ _ _) (by omega), if_pos (by decide), tpX_k]; rfl
  · rw [if_neg (by decide), s_tput b1 (tpX_k _ _ _) (by omega)]
    unfold f_X10_feed_L89 f_X10_feed_L117
    rw [if_neg (by decide), s_tput b2 (tpX_k _ _ _) (by omega), if_neg (by decide), s_tput b3 (tpX_k _ _ _) (by omega), if_neg (by decide), s_tput b4 (tpX_k _ _ _) (by omega), tpX_k]; rfl
theorem tpsX_71 (g : Nat → Int32) (k n : Nat) (w : xI) : tpsX g k n w 71 = w 71 := by
  induction n with
  | zero => rfl
  | succ n ih => show tpX (tpsX g k n w) (g n) (k + n) 71 = _; unfold tpX; rw [xup_ne _ _ _ (by decide), xup_ne _ _ _ (by decide), ih]
theorem op_feed (a1 : Int32) (a2 : Int32) (a3 : Int32) (a4 : Int32) (a5 : Int32) (a6 : Int32) : OpI (f_X10_feed a1 a2 a3 a4 a5 a6) (f_X11_feed a1 a2 a3 a4 a5 a6) := by
  intro w hR
  by_cases h1 : 1 ≤ a1 ∧ a1 ≤ 5
  · by_cases h2 : 0 ≤ a2 ∧ a2 ≤ 255
    · by_cases h3 : 0 ≤ a3 ∧ a3 ≤ 255
      · by_cases h4 : 0 ≤ a4 ∧ a4 ≤ 255
        · by_cases h5 : 0 ≤ a5 ∧ a5 ≤ 255
          · by_cases h6 : 0 ≤ a6 ∧ a6 ≤ 255
            · obtain ⟨t1, t2, -⟩ := hR.tp
              obtain ⟨k, hk, ek⟩ := nI_bd (n := 160) (by decide) t2.1 t2.2
              have em : w 71 11 = nI k := by rw [t1, ek]
              obtain ⟨n, hn, rfl⟩ := nI_bd (n := 5) (x := a1) (by decide) (Int32.le_trans (by decide) h1.1) h1.2
              have hn1 : 1 ≤ n := (nI_leI (a := 1) (b := n) (by omega) (by omega)).mp h1.1
              by_cases h7 : k + n ≤ 160
              · have h7' : nI (k + n) ≤ (160 : Int32) := (nI_leI (a := k + n) (b := 160) (by omega) (by omega)).mpr h7
                refine OpI.q (nI (k + n)) (tpsX (gOf a2 a3 a4 a5 a6) k n w) (tpsM (gOf a2 a3 a4 a5 a6) k n (tpsX (gOf a2 a3 a4 a5 a6) k n w)) ?_ ?_ (Rel_tps hR ek n h7 (fun i _ => ?_)).1
                · rw [f_X10_feed, s_within, if_pos h1, if_neg (by decide), s_byteX, if_pos h2, if_neg (by decide), s_byteX, if_pos h3, if_neg (by decide), s_byteX, if_pos h4, if_neg (by decide), s_byteX, if_pos h5, if_neg (by decide), s_byteX, if_pos h6, if_neg (by decide), ek, nI_add, if_pos h7']
                  exact s_feedX n k a2 a3 a4 a5 a6 hn1 hn h7 w ek
                · have em2 : tpsX (gOf a2 a3 a4 a5 a6) k n w 71 11 = nI k := by rw [tpsX_71, em]
                  rw [f_X11_feed, s_in, if_pos h1, if_neg (by decide), s_byteM, if_pos h2, if_neg (by decide), s_byteM, if_pos h3, if_neg (by decide), s_byteM, if_pos h4, if_neg (by decide), s_byteM, if_pos h5, if_neg (by decide), s_byteM, if_pos h6, if_neg (by decide), em2, nI_add, if_pos h7']
                  exact s_feedL n k a2 a3 a4 a5 a6 hn h7 _ em2 n 0 2000 (by omega) (by omega)
                · unfold gOf
                  by_cases c0 : i = 0
                  · rw [if_pos c0]; exact h2
                  · rw [if_neg c0]
                    by_cases c1 : i = 1
                    · rw [if_pos c1]; exact h3
                    · rw [if_neg c1]
                      by_cases c2 : i = 2
                      · rw [if_pos c2]; exact h4
                      · rw [if_neg c2]
                        by_cases c3 : i = 3
                        · rw [if_pos c3]; exact h5
                        · rw [if_neg c3]; exact h6
              · have h7' : ¬ nI (k + n) ≤ (160 : Int32) := nI_ge (a := 160) (b := k + n) (by omega) (by omega)
                exact OpI.q (-4) w w (by simp [f_X10_feed, s_within, s_byteX, h1, h2, h3, h4, h5, h6, ek, nI_add, h7']) (by simp [f_X11_feed, s_in, s_byteM, h1, h2, h3, h4, h5, h6, em, nI_add, h7']) hR
            · exact OpI.q (-2) w w (by simp [f_X10_feed, s_within, s_byteX, h1, h2, h3, h4, h5, h6]) (by simp [f_X11_feed, s_in, s_byteM, h1, h2, h3, h4, h5, h6]) hR
          · exact OpI.q (-2) w w (by simp [f_X10_feed, s_within, s_byteX, h1, h2, h3, h4, h5]) (by simp [f_X11_feed, s_in, s_byteM, h1, h2, h3, h4, h5]) hR
        · exact OpI.q (-2) w w (by simp [f_X10_feed, s_within, s_byteX, h1, h2, h3, h4]) (by simp [f_X11_feed, s_in, s_byteM, h1, h2, h3, h4]) hR
      · exact OpI.q (-2) w w (by simp [f_X10_feed, s_within, s_byteX, h1, h2, h3]) (by simp [f_X11_feed, s_in, s_byteM, h1, h2, h3]) hR
    · exact OpI.q (-2) w w (by simp [f_X10_feed, s_within, s_byteX, h1, h2]) (by simp [f_X11_feed, s_in, s_byteM, h1, h2]) hR
  · exact OpI.q (-2) w w (by simp [f_X10_feed, s_within, h1]) (by simp [f_X11_feed, s_in, h1]) hR
