theorem put_cg {T U : Nat → Int32} (h : ∀ d, d < 1000 → T d = U d) {s : Int32} (hs : s.toInt.natAbs < 1000) (u : Int32) : ∀ d, d < 1000 → tabPut T s u d = tabPut U s u d := by
  intro d hd
  have e : (if 0 ≤ s then s else 0 - s).toNatClampNeg = s.toInt.natAbs := by rw [t_abs (by omega), nI_clamp (by omega)]
  show (if T (if 0 ≤ s then s else 0 - s).toNatClampNeg = -1 ∨ u < T (if 0 ≤ s then s else 0 - s).toNatClampNeg then upd T (if 0 ≤ s then s else 0 - s).toNatClampNeg u else T) d = (if U (if 0 ≤ s then s else 0 - s).toNatClampNeg = -1 ∨ u < U (if 0 ≤ s then s else 0 - s).toNatClampNeg then upd U (if 0 ≤ s then s else 0 - s).toNatClampNeg u else U) d
  rw [e, h _ hs]
  by_cases c : U s.toInt.natAbs = -1 ∨ u < U s.toInt.natAbs
  · rw [if_pos c, if_pos c]; unfold upd; by_cases c2 : d = s.toInt.natAbs
    · rw [if_pos c2, if_pos c2]
    · rw [if_neg c2, if_neg c2, h d hd]
  · rw [if_neg c, if_neg c, h d hd]
theorem lay_cg {st st' : Nat → Int32} (hb : bdS st) : ∀ (m k : Nat) (s u : Int32) (T U : Nat → Int32), k + m ≤ 5 → s.toInt.natAbs ≤ 100 * k → (∀ j, j < k + m → st' j = st j) → (∀ d, d < 1000 → T d = U d) → ∀ d, d < 1000 → tabLay st m k s u T d = tabLay st' m k s u U d := by
  intro m
  induction m with
  | zero => intro k s u T U h1 h2 _ h3; exact put_cg h3 (by omega) u
  | succ m ih =>
    intro k s u T U h1 h2 h4 h3
    have hk := hb k (by omega)
    have b1 : (s + st k).toInt.natAbs ≤ 100 * (k + 1) := by rw [t_add rfl rfl (by omega) (by omega)]; omega
    have b2 : (s - st k).toInt.natAbs ≤ 100 * (k + 1) := by rw [t_sub rfl rfl (by omega) (by omega)]; omega
    show ∀ d, d < 1000 → tabLay st m (k + 1) (s - st k) (u + 1) (tabLay st m (k + 1) (s + st k) (u + 1) (tabLay st m (k + 1) s u T)) d = tabLay st' m (k + 1) (s - st' k) (u + 1) (tabLay st' m (k + 1) (s + st' k) (u + 1) (tabLay st' m (k + 1) s u U)) d
    rw [h4 k (by omega)]
    exact ih (k + 1) _ _ _ _ (by omega) b2 (fun j hj => h4 j (by omega)) (ih (k + 1) _ _ _ _ (by omega) b1 (fun j hj => h4 j (by omega)) (ih (k + 1) _ _ _ _ (by omega) (by omega) (fun j hj => h4 j (by omega)) h3))
theorem bd_of {st : Nat → Int32} (h : ∀ j, j < 5 → 0 ≤ st j ∧ st j ≤ 100) : bdS st := by
  intro j hj
  exact ⟨Int32.le_iff_toInt_le.mp (h j hj).1, Int32.le_iff_toInt_le.mp (h j hj).2⟩
theorem bd_of9 {st : Nat → Int32} (h : ∀ j, j < 5 → 0 ≤ st j ∧ st j ≤ 99) : bdS st := bd_of (fun j hj => ⟨(h j hj).1, Int32.le_trans (h j hj).2 (by decide)⟩)
theorem s_layAll {n : Nat} {w : xI} (hn : n ≤ 5) (hw : w 1 2 = nI n) (hb : ∀ j, j < 5 → 0 ≤ w 3 j ∧ w 3 j ≤ 99) : ∃ T, f_X5_layAll w = some ((), xuc w 4 T) ∧ ∀ d, d < 1000 → T d = tabOf (w 3) n d := by
  refine ⟨tabLay (w 3) n 0 0 0 (fillT 0 (w 4)), ?_, ?_⟩
  · have h := s_layAllL hn 1000 0 2000 w (by omega) (by omega) hw (bd_of9 hb)
    rw [nI_0] at h
    exact h
  · refine lay_cg (bd_of9 hb) n 0 0 0 _ _ (by omega) (by decide) (fun _ _ => rfl) (fun d hd => ?_)
    unfold fillT
    rw [if_pos ⟨by omega, hd⟩]
