-- ===== the most that pairs bring, and the first pairs that do =====
def bstep (g : Nat → Int × (Nat → Int32)) (ok : Nat → Bool) (a : Nat) (v : Nat → Int) : Nat → Nat → Int × (Nat → Int32) → Int × (Nat → Int32)
  | 0, _, s => s
  | m + 1, b, s => bstep g ok a v m (b + 1) (if ok b = true ∧ s.1 < v b + (g b).1 then (v b + (g b).1, upd (g b).2 a (nI b)) else s)
def mxC (n : Nat) (ok : Nat → Nat → Bool) (v : Nat → Nat → Int) : Nat → Nat → Nat → Int × (Nat → Int32)
  | 0, _, _ => (0, fun _ => -1)
  | m + 1, a, tk => bstep (fun b => mxC n ok v m (a + 1) (tk ||| 2 ^ b)) (fun b => ok a b && !tk.testBit b) a (v a) n 0 ((mxC n ok v m (a + 1) tk).1, upd (mxC n ok v m (a + 1) tk).2 a (-1))
theorem bstep_s (g : Nat → Int × (Nat → Int32)) (ok : Nat → Bool) (a : Nat) (v : Nat → Int) (m b : Nat) (s : Int × (Nat → Int32)) : bstep g ok a v (m + 1) b s = bstep g ok a v m (b + 1) (if ok b = true ∧ s.1 < v b + (g b).1 then (v b + (g b).1, upd (g b).2 a (nI b)) else s) := rfl
theorem bstep_no {g : Nat → Int × (Nat → Int32)} {ok : Nat → Bool} {a : Nat} {v : Nat → Int} : ∀ (m b : Nat) (s : Int × (Nat → Int32)), (∀ i, b ≤ i → i < b + m → ok i = false) → bstep g ok a v m b s = s := by
  intro m
  induction m with
  | zero => intro b s _; rfl
  | succ m ih =>
    intro b s h
    rw [bstep_s, if_neg (fun z => by rw [h b (Nat.le_refl _) (by omega)] at z; exact absurd z.1 (by decide))]
    exact ih (b + 1) s (fun i a b => h i (by omega) (by omega))
theorem bstep_ge {g : Nat → Int × (Nat → Int32)} {ok : Nat → Bool} {a : Nat} {v : Nat → Int} : ∀ (m b : Nat) (s : Int × (Nat → Int32)), s.1 ≤ (bstep g ok a v m b s).1 := by
  intro m
  induction m with
  | zero => intro b s; exact Int.le_refl _
  | succ m ih =>
    intro b s
    rw [bstep_s]
    refine Int.le_trans ?_ (ih (b + 1) _)
    by_cases c : ok b = true ∧ s.1 < v b + (g b).1
    · rw [if_pos c]; exact Int.le_of_lt c.2
    · rw [if_neg c]; exact Int.le_refl _
theorem bstep_le {g : Nat → Int × (Nat → Int32)} {ok : Nat → Bool} {a : Nat} {v : Nat → Int} {B : Int} : ∀ (m b : Nat) (s : Int × (Nat → Int32)), s.1 ≤ B → (∀ i, ok i = true → v i + (g i).1 ≤ B) → (bstep g ok a v m b s).1 ≤ B := by
  intro m
  induction m with
  | zero => intro b s h _; exact h
  | succ m ih =>
    intro b s h hb
    rw [bstep_s]
    refine ih (b + 1) _ ?_ hb
    by_cases c : ok b = true ∧ s.1 < v b + (g b).1
    · rw [if_pos c]; exact hb b c.1
    · rw [if_neg c]; exact h
theorem mxC_bd {n : Nat} {ok : Nat → Nat → Bool} {v : Nat → Nat → Int} (hv : ∀ a b, ok a b = true → v a b ≤ 1980) : ∀ (m a tk : Nat), 0 ≤ (mxC n ok v m a tk).1 ∧ (mxC n ok v m a tk).1 ≤ 1980 * m := by
  intro m
  induction m with
  | zero => intro a tk; exact ⟨Int.le_refl _, Int.le_refl _⟩
  | succ m ih =>
    intro a tk
    refine ⟨Int.le_trans (ih (a + 1) tk).1 (bstep_ge (g := fun b => mxC n ok v m (a + 1) (tk ||| 2 ^ b)) n 0 ((mxC n ok v m (a + 1) tk).1, upd (mxC n ok v m (a + 1) tk).2 a (-1))), bstep_le n 0 _ ?_ (fun i hi => ?_)⟩
    · have := (ih (a + 1) tk).2
      show (mxC n ok v m (a + 1) tk).1 ≤ _
      omega
    · have h1 := (ih (a + 1) (tk ||| 2 ^ i)).2
      have h2 : ok a i = true := by
        cases e : ok a i
        · rw [e, Bool.false_and] at hi; exact absurd hi (by decide)
        · rfl
      have h3 := hv a i h2
      show v a i + (mxC n ok v m (a + 1) (tk ||| 2 ^ i)).1 ≤ _
      omega
/-- a table of twos in cell 26 that says ok and v -/
def TwX (w : xI) (n : Nat) (ok : Nat → Nat → Bool) (u : xI) : Prop := u 5 2 = nI n ∧ u 21 6 = nI (mkM (inP w) n) ∧ (∀ a b, a < n → b < n → (u 26 (10 * a + b) ≠ -1000 ↔ ok a b = true)) ∧ ∀ a b, ok a b = true → inP w a = true ∧ inP w b = false
theorem s_fits {γ : Type} {w : xI} {n : Nat} {ok : Nat → Nat → Bool} {a b tk : Nat} (hn : n ≤ 10) (ha : a < n) (hb : b < n) (htk : tk < 2 ^ n) {u : xI} (hU : TwX w n ok u) (K : Int32 → xI → Option γ) : xbind (f_X3_fits (nI a) (nI b) (nI tk) u) K = if (ok a b && !tk.testBit b) = true then K 1 u else K 0 u := by
  have hp := pw10 hn
  have e10 : (10 : Int32) * nI a = nI (10 * a) := pk_mul 10 a
  unfold f_X3_fits
  rw [e10, nI_add, xin_nI (by omega) (by decide), xchk_true, nI_clamp (by omega)]
  cases c : tk.testBit b
  · rw [if_pos ((b_off (by omega) (by omega)).mpr c), Bool.not_false, Bool.and_true]
    by_cases d : u 26 (10 * a + b) = -1000
    · rw [if_pos d, if_neg (fun z => ((hU.2.2.1 a b ha hb).mpr z) d), xbind_some]
    · rw [if_neg d, if_pos ((hU.2.2.1 a b ha hb).mp d), xbind_some]
  · rw [if_neg (fun z => by have := (b_off (by omega) (by omega)).mp z; rw [c] at this; exact absurd this (by decide)), Bool.not_true, Bool.and_false, if_neg (by decide), xbind_some]
theorem tk_or {n tk b : Nat} (htk : tk < 2 ^ n) (hb : b < n) : tk ||| 2 ^ b < 2 ^ n := Nat.or_lt_two_pow htk (Nat.pow_lt_pow_right (by decide) hb)
theorem b_tk {n tk b : Nat} (hn : n ≤ 10) (htk : tk < 2 ^ n) (hb : b < n) : nI tk ||| ((1 : Int32) <<< (nI b &&& 31)) = nI (tk ||| 2 ^ b) := by
  have hp := pw10 hn
  have h2 : 2 ^ b < 2 ^ n := Nat.pow_lt_pow_right (by decide) hb
  rw [b_shl (by omega), b_or (by omega) (by omega)]
theorem s_mostL {w : xI} {n : Nat} {ok : Nat → Nat → Bool} {v : Nat → Nat → Int} (hn : n ≤ 10) {u : xI} (hU : TwX w n ok u) (pd : Int32) (hv : ∀ a b, ok a b = true → a < n → b < n → (if pd = 0 then (1 : Int32) else u 26 (10 * a + b)).toInt = v a b) (hb : ∀ a b, ok a b = true → -198 ≤ v a b ∧ v a b ≤ 1980) {m a : Nat} (ham : a + (m + 1) = n) (rec : Int32 → Int32 → Int32 → xI → Option (Int32 × xI)) (hrec : ∀ tk, tk < 2 ^ n → ∃ r, rec (nI (a + 1)) (nI tk) pd u = some (r, u) ∧ r.toInt = (mxC n ok v m (a + 1) tk).1) {tk : Nat} (htk : tk < 2 ^ n) (hi : inP w a = true) :
    ∀ (k b fu : Nat) (s : Int × (Nat → Int32)) (acc : Int32), b + k = n → k < fu → acc.toInt = s.1 → 0 ≤ s.1 → s.1 ≤ 1980 * (m + 1) → ∃ r, f_X3_most_L33 rec fu (nI a) (nI tk) pd acc (nI b) u = some (r, u) ∧ r.toInt = (bstep (fun b => mxC n ok v m (a + 1) (tk ||| 2 ^ b)) (fun b => ok a b && !tk.testBit b) a (v a) k b s).1 := by
  have hp := pw10 hn
  intro k
  induction k with
  | zero =>
    intro b fu s acc h1 h2 hs s0 s1
    obtain ⟨f, rfl⟩ : ∃ f, fu = f + 1 := ⟨fu - 1, by omega⟩
    refine ⟨acc, ?_, hs⟩
    rw [f_X3_most_L33, s_inw hn (by omega) hU.2.1, if_pos hi, if_neg (by decide), hU.1, if_pos (nI_le (by omega) (by omega))]
  | succ k ih =>
    intro b fu s acc h1 h2 hs s0 s1
    obtain ⟨f, rfl⟩ : ∃ f, fu = f + 1 := ⟨fu - 1, by omega⟩
    have hbn : b < n := by omega
    have e10 : (10 : Int32) * nI a = nI (10 * a) := pk_mul 10 a
    rw [f_X3_most_L33, s_inw hn (by omega) hU.2.1, if_pos hi, if_neg (by decide), hU.1, if_neg (nI_ge (by omega) (by omega)), s_fits hn (by omega) hbn htk hU, bstep_s]
    by_cases c : (ok a b && !tk.testBit b) = true
    · have hok : ok a b = true := by
        cases e : ok a b
        · rw [e, Bool.false_and] at c; exact absurd c (by decide)
        · rfl
      obtain ⟨r1, p1, p2⟩ := hrec (tk ||| 2 ^ b) (tk_or htk hbn)
      have hvb := hv a b hok (by omega) hbn
      have bd := hb a b hok
      have mb := mxC_bd (fun a b h => (hb a b h).2) m (a + 1) (tk ||| 2 ^ b) (n := n) (ok := ok) (v := v)
      -- one step, for either way of counting
      have step : ∀ s0' : Int32, s0'.toInt = v a b → ∃ r, f_X3_most_L87 rec (fun v1 v2 v3 v4 v5 w => f_X3_most_L33 rec f v1 v2 v3 v4 v5 w) (nI a) (nI tk) pd acc (nI b) s0' u = some (r, u) ∧ r.toInt = (bstep (fun b => mxC n ok v m (a + 1) (tk ||| 2 ^ b)) (fun b => ok a b && !tk.testBit b) a (v a) k (b + 1) (if (ok a b && !tk.testBit b) = true ∧ s.1 < v a b + (mxC n ok v m (a + 1) (tk ||| 2 ^ b)).1 then (v a b + (mxC n ok v m (a + 1) (tk ||| 2 ^ b)).1, upd (mxC n ok v m (a + 1) (tk ||| 2 ^ b)).2 a (nI b)) else s)).1 := by
        intro s0' hs0
        have ex : (s0' + r1).toInt = v a b + (mxC n ok v m (a + 1) (tk ||| 2 ^ b)).1 := by
          rw [t_add hs0 p2 (by omega) (by omega)]
        unfold f_X3_most_L87
        rw [nI_1, b_tk hn htk hbn, p1, xbind_some, xlet_eq, xlet_eq, nI_1]
        by_cases d : s.1 < v a b + (mxC n ok v m (a + 1) (tk ||| 2 ^ b)).1
        · rw [if_pos (show acc < s0' + r1 from i_lt.mpr (by rw [hs, ex]; exact d)), if_pos ⟨c, d⟩]
          exact ih (b + 1) f _ _ (by omega) (by omega) ex (by show 0 ≤ v a b + (mxC n ok v m (a + 1) (tk ||| 2 ^ b)).1; omega) (by show v a b + (mxC n ok v m (a + 1) (tk ||| 2 ^ b)).1 ≤ _; omega)
        · rw [if_neg (show ¬ acc < s0' + r1 from fun z => d (by have := i_lt.mp z; rw [hs, ex] at this; exact this)), if_neg (fun z => d z.2)]
          exact ih (b + 1) f s acc (by omega) (by omega) hs s0 s1
      rw [if_pos c, if_neg (by decide)]
      by_cases d : pd = 0
      · rw [if_pos d] at hvb ⊢
        exact step 1 hvb
      · rw [if_neg d] at hvb ⊢
        rw [e10, nI_add, xin_nI (by omega) (by decide), xchk_true, nI_clamp (by omega)]
        exact step _ hvb
    · rw [if_neg c, if_pos rfl, xlet_eq, nI_1, if_neg (fun z => c z.1)]
      exact ih (b + 1) f s acc (by omega) (by omega) hs s0 s1
/-- the component's search -/
theorem s_most {w : xI} {n : Nat} {ok : Nat → Nat → Bool} {v : Nat → Nat → Int} (hn : n ≤ 10) {u : xI} (hU : TwX w n ok u) (pd : Int32) (hv : ∀ a b, ok a b = true → a < n → b < n → (if pd = 0 then (1 : Int32) else u 26 (10 * a + b)).toInt = v a b) (hb : ∀ a b, ok a b = true → -198 ≤ v a b ∧ v a b ≤ 1980) : ∀ (m a fu tk : Nat), a + m = n → m < fu → tk < 2 ^ n → ∃ r, f_X3_most fu (nI a) (nI tk) pd u = some (r, u) ∧ r.toInt = (mxC n ok v m a tk).1 := by
  intro m
  induction m with
  | zero =>
    intro a fu tk h1 h2 htk
    obtain ⟨f, rfl⟩ : ∃ f, fu = f + 1 := ⟨fu - 1, by omega⟩
    refine ⟨0, ?_, rfl⟩
    rw [f_X3_most, f_X3_most_o, hU.1, if_pos (nI_le (by omega) (by omega))]
  | succ m ih =>
    intro a fu tk h1 h2 htk
    obtain ⟨f, rfl⟩ : ∃ f, fu = f + 1 := ⟨fu - 1, by omega⟩
    obtain ⟨r0, p1, p2⟩ := ih (a + 1) f tk (by omega) (by omega) htk
    have mb := mxC_bd (fun a b h => (hb a b h).2) m (a + 1) tk (n := n) (ok := ok) (v := v)
    have em : mxC n ok v (m + 1) a tk = bstep (fun b => mxC n ok v m (a + 1) (tk ||| 2 ^ b)) (fun b => ok a b && !tk.testBit b) a (v a) n 0 ((mxC n ok v m (a + 1) tk).1, upd (mxC n ok v m (a + 1) tk).2 a (-1)) := rfl
    rw [f_X3_most, f_X3_most_o, hU.1, if_neg (nI_ge (by omega) (by omega)), if_pos (show nI a < (10 : Int32) from nI_lt (b := 10) (by omega) (by omega)), nI_1, p1, xbind_some, em]
    by_cases c : inP w a = true
    · have g := s_mostL hn hU pd hv hb h1 (f_X3_most f) (fun tk2 htk2 => ih (a + 1) f tk2 (by omega) (by omega) htk2) htk c n 0 2000 ((mxC n ok v m (a + 1) tk).1, upd (mxC n ok v m (a + 1) tk).2 a (-1)) r0 (by omega) (by omega) p2 mb.1 (by show (mxC n ok v m (a + 1) tk).1 ≤ _; omega)
      rw [nI_0] at g
      exact g
    · refine ⟨r0, ?_, ?_⟩
      · rw [f_X3_most_L33, s_inw hn (by omega) hU.2.1, if_neg c, if_pos rfl]
      · rw [bstep_no]
        · exact p2
        · intro i _ _
          cases e : ok a i
          · rfl
          · exact absurd (hU.2.2.2 a i e).1 c
