-- ===== who must have been weighed =====
def losC (w : xI) (h n : Nat) (a2 a3 : Int32) (S : Nat) : Bool := decide (nI (pop S) = a2) && decide (nI (bsum (wgN w (w 7) h) (fun c => S.testBit c) n 0) = a3)
def losV (w : xI) (h n : Nat) (a2 a3 : Int32) : Nat → Nat → Nat → Int32 → Int32 → Nat × Int32 × Int32
  | 0, _, k, al, an => (k, al, an)
  | m + 1, S, k, al, an => if losC w h n a2 a3 S = true then losV w h n a2 a3 m (S + 1) (k + 1) (al &&& nI S) (an ||| nI S) else losV w h n a2 a3 m (S + 1) k al an
def losR (a4 : Int32) (x : Nat × Int32 × Int32) : Int32 := if a4 = 0 then nI x.1 else if a4 = 1 then (if x.1 = 0 then x.2.2 else x.2.1) else x.2.2
theorem losV_rel {w : xI} {h n : Nat} {a2 a3 : Int32} (hn : n ≤ 10) : ∀ (m S k : Nat) (A B an : Int32), S + m = 2 ^ n → (k = 0 ∧ A = nI (2 ^ n - 1) ∧ B = nI 1023 ∧ an = 0 ∨ k ≠ 0 ∧ A = B) → (losV w h n a2 a3 m S k A an).1 = (losV w h n a2 a3 m S k B an).1 ∧ (losV w h n a2 a3 m S k A an).2.2 = (losV w h n a2 a3 m S k B an).2.2 ∧ ((losV w h n a2 a3 m S k A an).1 = 0 → (losV w h n a2 a3 m S k A an).2.2 = 0) ∧ ((losV w h n a2 a3 m S k A an).1 ≠ 0 → (losV w h n a2 a3 m S k A an).2.1 = (losV w h n a2 a3 m S k B an).2.1) := by
  have hp := pw10 hn
  intro m
  induction m with
  | zero =>
    intro S k A B an h1 h2
    refine ⟨rfl, rfl, fun z => ?_, fun z => ?_⟩
    · rcases h2 with h2 | h2
      · exact h2.2.2.2
      · exact absurd z h2.1
    · rcases h2 with h2 | h2
      · exact absurd h2.1 z
      · exact h2.2
  | succ m ih =>
    intro S k A B an h1 h2
    have e : ∀ A, losV w h n a2 a3 (m + 1) S k A an = if losC w h n a2 a3 S = true then losV w h n a2 a3 m (S + 1) (k + 1) (A &&& nI S) (an ||| nI S) else losV w h n a2 a3 m (S + 1) k A an := fun _ => rfl
    rw [e A, e B]
    by_cases c : losC w h n a2 a3 S = true
    · rw [if_pos c, if_pos c]
      have eq : A &&& nI S = B &&& nI S := by
        rcases h2 with h2 | h2
        · have hS : S < 2 ^ n := by omega
          rw [h2.2.1, h2.2.2.1, b_and (by omega) (by omega), b_and (by decide) (by omega)]
          congr 1
          refine Nat.eq_of_testBit_eq (fun i => ?_)
          rw [Nat.testBit_and, Nat.testBit_and, Nat.testBit_two_pow_sub_one, show (1023 : Nat) = 2 ^ 10 - 1 from rfl, Nat.testBit_two_pow_sub_one]
          by_cases hi : i < n
          · rw [decide_eq_true hi, decide_eq_true (show i < 10 by omega)]
          · rw [bit_ge (n := n) (i := i) hS (by omega), Bool.and_false, Bool.and_false]
        · rw [h2.2]
      rw [eq]
      exact ih (S + 1) (k + 1) _ _ _ (by omega) (Or.inr ⟨by omega, rfl⟩)
    · rw [if_neg c, if_neg c]
      exact ih (S + 1) k A B an (by omega) h2
theorem losV_le {w : xI} {h n : Nat} {a2 a3 : Int32} : ∀ (m S k : Nat) (A an : Int32), (losV w h n a2 a3 m S k A an).1 ≤ k + m := by
  intro m
  induction m with
  | zero => intro S k A an; exact Nat.le_refl _
  | succ m ih =>
    intro S k A an
    have e : losV w h n a2 a3 (m + 1) S k A an = if losC w h n a2 a3 S = true then losV w h n a2 a3 m (S + 1) (k + 1) (A &&& nI S) (an ||| nI S) else losV w h n a2 a3 m (S + 1) k A an := rfl
    rw [e]
    by_cases c : losC w h n a2 a3 S = true
    · rw [if_pos c]; have := ih (S + 1) (k + 1) (A &&& nI S) (an ||| nI S); omega
    · rw [if_neg c]; have := ih (S + 1) k A an; omega
theorem s_losX {w : xI} {h n : Nat} (hn : n ≤ 10) (a2 a3 a4 : Int32) {u : xI} (hP : Prep w (w 7) h n u) : ∀ (m S fu k : Nat) (al an : Int32), S + m = 2 ^ n → m < fu → k ≤ S → f_X10_lost_L77 fu a2 a3 a4 (nI k) al an (nI S) u = some (losR a4 (losV w h n a2 a3 m S k al an), u) := by
  have hp := pw10 hn
  have h0 : 0 < 2 ^ n := Nat.two_pow_pos n
  intro m
  induction m with
  | zero =>
    intro S fu k al an h1 h2 hk
    obtain ⟨f, rfl⟩ : ∃ f, fu = f + 1 := ⟨fu - 1, by omega⟩
    rw [f_X10_lost_L77]
    unfold f_X9_all losR
    rw [hP.1, all_n hn, xbind_some, if_pos (nI_lt (by omega) (by omega))]
    show (if a4 = 0 then _ else _) = some (if a4 = 0 then nI k else if a4 = 1 then (if k = 0 then an else al) else an, u)
    by_cases c0 : a4 = 0
    · rw [if_pos c0, if_pos c0]
    rw [if_neg c0, if_neg c0]
    by_cases c1 : a4 = 1
    · rw [if_pos c1, if_pos c1]
      by_cases ck : k = 0
      · rw [if_pos ck, if_pos (by rw [ck]; decide)]
      · rw [if_neg ck, if_neg (nI_nle (by omega) (by omega))]
    · rw [if_neg c1, if_neg c1]
  | succ m ih =>
    intro S fu k al an h1 h2 hk
    obtain ⟨f, rfl⟩ : ∃ f, fu = f + 1 := ⟨fu - 1, by omega⟩
    have e : losV w h n a2 a3 (m + 1) S k al an = if losC w h n a2 a3 S = true then losV w h n a2 a3 m (S + 1) (k + 1) (al &&& nI S) (an ||| nI S) else losV w h n a2 a3 m (S + 1) k al an := rfl
    rw [f_X10_lost_L77]
    unfold f_X9_all
    rw [hP.1, all_n hn, xbind_some, if_neg (nI_nlt (by omega) (by omega)), s_bits (by omega), s_weightX hn (by omega) hP, nI_1, nI_1, e]
    simp only [xlet_eq]
    unfold losC
    by_cases c1 : nI (pop S) = a2
    · rw [if_pos c1, decide_eq_true c1, Bool.true_and]
      by_cases c2 : nI (bsum (wgN w (w 7) h) (fun c => S.testBit c) n 0) = a3
      · rw [if_pos c2, if_pos (decide_eq_true c2)]
        exact ih (S + 1) f (k + 1) _ _ (by omega) (by omega) (by omega)
      · rw [if_neg c2, if_neg (by simpa using c2)]
        exact ih (S + 1) f k al an (by omega) (by omega) (by omega)
    · rw [if_neg c1, decide_eq_false c1, Bool.false_and, if_neg (by decide)]
      exact ih (S + 1) f k al an (by omega) (by omega) (by omega)
theorem s_losI {w : xI} (hY : YdB w (w 7)) {h n S : Nat} (hh : h ≤ 9) (hn : n ≤ 10) (hwn : w 5 2 = nI n) (hS : S < 2 ^ n) {u : xI} (hM : MxY w (w 7) u) (K : Int32 → Int32 → Int32 → Int32 → Int32 → Int32 → Int32 → Int32 → xI → Option (Int32 × xI)) (a2 a3 a4 v6 v7 : Int32) (k0 : Nat) : ∀ (m c fu a : Nat), c + m = n → m < fu → f_X11_lost_L73 K fu (nI h) a2 a3 a4 (nI k0) v6 v7 (nI S) (nI a) (nI c) u = if (nI (pop S) = a2 ∧ nI (a + bsum (wgN w (w 7) h) (fun c => S.testBit c) m c) = a3) then K (nI h) a2 a3 a4 (nI (k0 + 1)) (v6 &&& nI S) (v7 ||| nI S) (nI (S + 1)) u else K (nI h) a2 a3 a4 (nI k0) v6 v7 (nI (S + 1)) u := by
  have hp := pw10 hn
  intro m
  induction m with
  | zero =>
    intro c fu a h1 h2
    obtain ⟨f, rfl⟩ : ∃ f, fu = f + 1 := ⟨fu - 1, by omega⟩
    rw [f_X11_lost_L73, hM.1, hwn, if_pos (nI_le (by omega) (by omega)), s_ones (by omega), nI_1, nI_1]
    simp only [xlet_eq]
    show _ = if (nI (pop S) = a2 ∧ nI a = a3) then _ else _
    by_cases c1 : nI (pop S) = a2
    · rw [if_pos c1]
      by_cases c2 : nI a = a3
      · rw [if_pos c2, if_pos ⟨c1, c2⟩]
      · rw [if_neg c2, if_neg (fun z => c2 z.2)]
    · rw [if_neg c1, if_neg (fun z => c1 z.1)]
  | succ m ih =>
    intro c fu a h1 h2
    obtain ⟨f, rfl⟩ : ∃ f, fu = f + 1 := ⟨fu - 1, by omega⟩
    have e : bsum (wgN w (w 7) h) (fun c => S.testBit c) (m + 1) c = (if S.testBit c = true then wgN w (w 7) h c else 0) + bsum (wgN w (w 7) h) (fun c => S.testBit c) m (c + 1) := rfl
    rw [f_X11_lost_L73, hM.1, hwn, if_neg (nI_ge (by omega) (by omega)), nI_1, e]
    simp only [xlet_eq]
    by_cases b : S.testBit c = true
    · rw [if_pos ((b_on (by omega) (by omega)).mpr b), s_weighsM hY hM (by omega) (by rw [hwn]; exact nI_lt (by omega) (by omega)) (by omega), nI_add, if_pos b, ← Nat.add_assoc]
      exact ih (c + 1) f _ (by omega) (by omega)
    · rw [if_neg (fun z => b ((b_on (by omega) (by omega)).mp z)), Int32.add_zero, if_neg b, Nat.zero_add]
      exact ih (c + 1) f a (by omega) (by omega)
theorem s_losM {w : xI} (hY : YdB w (w 7)) {h n : Nat} (hh : h ≤ 9) (hn : n ≤ 10) (hwn : w 5 2 = nI n) (a2 a3 a4 : Int32) (h4 : 0 ≤ a4 ∧ a4 ≤ 2) {u : xI} (hM : MxY w (w 7) u) : ∀ (m S fu k : Nat) (al an : Int32), S + m = 2 ^ n → m < fu → k ≤ S → ((losV w h n a2 a3 m S k al an).1 = 0 → (losV w h n a2 a3 m S k al an).2.2 = 0) → f_X11_lost_L58 fu (nI h) a2 a3 a4 (nI k) al an (nI S) u = some (losR a4 (losV w h n a2 a3 m S k al an), u) := by
  have hp := pw10 hn
  have h0 : 0 < 2 ^ n := Nat.two_pow_pos n
  intro m
  induction m with
  | zero =>
    intro S fu k al an h1 h2 hk hz
    obtain ⟨f, rfl⟩ : ∃ f, fu = f + 1 := ⟨fu - 1, by omega⟩
    have hz' : k = 0 → an = 0 := hz
    rw [f_X11_lost_L58, s_allM hn (hM.1.trans hwn), if_pos (nI_lt (by omega) (by omega))]
    unfold losR
    show _ = some (if a4 = 0 then nI k else if a4 = 1 then (if k = 0 then an else al) else an, u)
    obtain ⟨x, hx, ex⟩ := nI_bd (n := 2) (by decide) h4.1 h4.2
    by_cases c0 : a4 = 0
    · rw [if_pos c0, if_pos c0]
    rw [if_neg c0, if_neg c0]
    by_cases c2 : a4 = 2
    · rw [if_pos c2, if_neg (fun z => by rw [c2] at z; exact absurd z (by decide))]
    rw [if_neg c2]
    have c1 : a4 = 1 := by
      rcases (by omega : x = 0 ∨ x = 1 ∨ x = 2) with q | q | q
      · exact absurd (by rw [ex, q]; rfl) c0
      · rw [ex, q]; rfl
      · exact absurd (by rw [ex, q]; rfl) c2
    rw [if_pos c1]
    by_cases ck : k = 0
    · rw [if_pos (by rw [ck]; rfl), if_pos ck, hz' ck]
    · rw [if_neg (nI_ne0 (by omega) (by omega)), if_neg ck]
  | succ m ih =>
    intro S fu k al an h1 h2 hk hz
    obtain ⟨f, rfl⟩ : ∃ f, fu = f + 1 := ⟨fu - 1, by omega⟩
    have e : losV w h n a2 a3 (m + 1) S k al an = if losC w h n a2 a3 S = true then losV w h n a2 a3 m (S + 1) (k + 1) (al &&& nI S) (an ||| nI S) else losV w h n a2 a3 m (S + 1) k al an := rfl
    have g := s_losI hY hh hn hwn (S := S) (by omega) hM (fun v1 v2 v3 v4 v5 v6 v7 v8 w => f_X11_lost_L58 f v1 v2 v3 v4 v5 v6 v7 v8 w) a2 a3 a4 al an k n 0 2000 0 (by omega) (by omega)
    rw [nI_0, Nat.zero_add] at g
    rw [e] at hz ⊢
    rw [f_X11_lost_L58, s_allM hn (hM.1.trans hwn), if_neg (nI_nlt (by omega) (by omega)), g]
    unfold losC at hz ⊢
    by_cases c : nI (pop S) = a2 ∧ nI (bsum (wgN w (w 7) h) (fun c => S.testBit c) n 0) = a3
    · have d : (decide (nI (pop S) = a2) && decide (nI (bsum (wgN w (w 7) h) (fun c => S.testBit c) n 0) = a3)) = true := by rw [decide_eq_true c.1, decide_eq_true c.2]; rfl
      rw [if_pos d] at hz ⊢
      rw [if_pos c]
      exact ih (S + 1) f (k + 1) _ _ (by omega) (by omega) (by omega) hz
    · have d : ¬ (decide (nI (pop S) = a2) && decide (nI (bsum (wgN w (w 7) h) (fun c => S.testBit c) n 0) = a3)) = true := fun z => by simp at z; exact c z
      rw [if_neg d] at hz ⊢
      rw [if_neg c]
      exact ih (S + 1) f k al an (by omega) (by omega) (by omega) hz
theorem op_lost (a1 : Int32) (a2 : Int32) (a3 : Int32) (a4 : Int32) : OpI (f_X10_lost a1 a2 a3 a4) (f_X11_lost a1 a2 a3 a4) := by
  intro w hR
  obtain ⟨n, hn, en, em⟩ := hR.n
  by_cases h1 : 0 ≤ a1 ∧ a1 ≤ 9
  · by_cases h2 : 0 ≤ a2 ∧ a2 ≤ 10
    · by_cases h3 : 0 ≤ a3 ∧ a3 ≤ 9999
      · by_cases h4 : 0 ≤ a4 ∧ a4 ≤ 2
        · obtain ⟨h, hh, rfl⟩ := nI_bd (n := 9) (by decide) h1.1 h1.2
          have hY := hR.ydB
          have hp := pw10 hn
          obtain ⟨u1, p1, P1, f1, f1'⟩ := s_prepare (γ := Int32 × xI) hY hn en (h := h) (by omega) (o2 := 7) (by decide) (Rel.cxY (w := w))
          have fx : FrX w u1 := fun k hk => f1 k (by omega) (by omega) (by omega) (by omega)
          have gx := s_losX hn a2 a3 a4 P1 (2 ^ n) 0 2000 0 (nI (2 ^ n - 1)) 0 (by omega) (by omega) (Nat.le_refl _)
          obtain ⟨q1, q2, q3, q4⟩ := losV_rel (w := w) (h := h) (a2 := a2) (a3 := a3) hn (2 ^ n) 0 0 (nI (2 ^ n - 1)) (nI 1023) 0 (by omega) (Or.inl ⟨rfl, rfl, rfl, rfl⟩)
          obtain ⟨t, ht, e4, e15, hX⟩ := hR.law
          have hM : MxY w (w 7) u1 := (hR.mz fx e15 hX).1
          have gm := s_losM hY hh hn en a2 a3 a4 h4 hM (2 ^ n) 0 2000 0 (nI 1023) 0 (by omega) (by omega) (Nat.le_refl _) (fun z => by rw [← q2]; exact q3 (by rw [q1]; exact z))
          have er : losR a4 (losV w h n a2 a3 (2 ^ n) 0 0 (nI 1023) 0) = losR a4 (losV w h n a2 a3 (2 ^ n) 0 0 (nI (2 ^ n - 1)) 0) := by
            unfold losR
            rw [← q1, ← q2]
            by_cases c0 : a4 = 0
            · rw [if_pos c0, if_pos c0]
            rw [if_neg c0, if_neg c0]
            by_cases c1 : a4 = 1
            · rw [if_pos c1, if_pos c1]
              by_cases ck : (losV w h n a2 a3 (2 ^ n) 0 0 (nI (2 ^ n - 1)) 0).1 = 0
              · rw [if_pos ck, if_pos ck]
              · rw [if_neg ck, if_neg ck, q4 ck]
            · rw [if_neg c1, if_neg c1]
          rw [er, nI_0] at gm
          rw [nI_0] at gx
          refine OpI.q (losR a4 (losV w h n a2 a3 (2 ^ n) 0 0 (nI (2 ^ n - 1)) 0)) u1 u1 ?_ ?_ (fx.rel hR)
          · rw [f_X10_lost, s_hourX, if_pos h1, if_neg (by decide), s_within, if_pos h2, if_neg (by decide), s_within, if_pos h3, if_neg (by decide), s_within, if_pos h4, if_neg (by decide), p1]
            unfold f_X9_all
            rw [P1.1, all_n hn, xbind_some]; exact gx
          · rw [f_X11_lost, s_hourM, if_pos h1, if_neg (by decide), s_in, if_pos h2, if_neg (by decide), s_in, if_pos h3, if_neg (by decide), s_in, if_pos h4, if_neg (by decide)]; exact gm
        · exact OpI.q (-7) w w (by rw [f_X10_lost, s_hourX, if_pos h1, if_neg (by decide), s_within, if_pos h2, if_neg (by decide), s_within, if_pos h3, if_neg (by decide), s_within, if_neg h4, if_pos rfl]) (by rw [f_X11_lost, s_hourM, if_pos h1, if_neg (by decide), s_in, if_pos h2, if_neg (by decide), s_in, if_pos h3, if_neg (by decide), s_in, if_neg h4, if_pos rfl]) hR
      · exact OpI.q (-7) w w (by rw [f_X10_lost, s_hourX, if_pos h1, if_neg (by decide), s_within, if_pos h2, if_neg (by decide), s_within, if_neg h3, if_pos rfl]) (by rw [f_X11_lost, s_hourM, if_pos h1, if_neg (by decide), s_in, if_pos h2, if_neg (by decide), s_in, if_neg h3, if_pos rfl]) hR
    · exact OpI.q (-7) w w (by rw [f_X10_lost, s_hourX, if_pos h1, if_neg (by decide), s_within, if_neg h2, if_pos rfl]) (by rw [f_X11_lost, s_hourM, if_pos h1, if_neg (by decide), s_in, if_neg h2, if_pos rfl]) hR
  · exact OpI.q (-5) w w (by rw [f_X10_lost, s_hourX, if_neg h1, if_pos rfl]) (by rw [f_X11_lost, s_hourM, if_neg h1, if_pos rfl]) hR
