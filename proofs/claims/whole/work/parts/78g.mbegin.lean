-- ===== how it all begins: the model =====
theorem xu_s {w : xI} {k j : Nat} {x : Int32} {X : Nat → Int32} (h : w k = X) : xup w k j x k = upd X j x := by
  rw [xup_same, h]
theorem xz_s (w : xI) (k : Nat) : xzero w k k = fun _ => 0 := if_pos rfl
theorem g71_eq (w : xI) (hw : ∀ q, 71 ≤ q → w q = fun _ => 0) : ∃ W, g_71 (xzero w 71) = f_X11_init_L1047 2000 (nI 0) W ∧ (∀ q, q < 71 → W q = w q) ∧ W 90 = C90 ∧ W 91 = C91 ∧ W 71 = upd (fun _ => 0) 58 (-1) ∧ W 72 = upd (upd (upd (fun _ => 0) 0 1) 1 1) 2 0 ∧ W 87 = upd (upd (upd (upd (fun _ => 0) 0 (-1)) 1 (-1)) 2 (-1)) 3 (-1) ∧ ∀ q, 73 ≤ q → q ≠ 87 → q ≠ 90 → q ≠ 91 → W q = fun _ => 0 := by
  refine ⟨_, rfl, fun q hq => ?_, ?_, ?_, ?_, ?_, ?_, fun q h1 h2 h3 h4 => ?_⟩
  · refine xz_n (by omega) ?_
    refine xu_n (by omega) ?_
    refine xz_n (by omega) ?_
    refine xz_n (by omega) ?_
    refine xz_n (by omega) ?_
    refine xz_n (by omega) ?_
    refine xz_n (by omega) ?_
    refine xz_n (by omega) ?_
    refine xz_n (by omega) ?_
    refine xz_n (by omega) ?_
    refine xz_n (by omega) ?_
    refine xu_n (by omega) ?_
    refine xu_n (by omega) ?_
    refine xu_n (by omega) ?_
    refine xu_n (by omega) ?_
    refine xu_n (by omega) ?_
    refine xu_n (by omega) ?_
    refine xu_n (by omega) ?_
    refine xu_n (by omega) ?_
    refine xu_n (by omega) ?_
    refine xu_n (by omega) ?_
    refine xu_n (by omega) ?_
    refine xu_n (by omega) ?_
    refine xu_n (by omega) ?_
    refine xu_n (by omega) ?_
    refine xu_n (by omega) ?_
    refine xu_n (by omega) ?_
    refine xu_n (by omega) ?_
    refine xu_n (by omega) ?_
    refine xu_n (by omega) ?_
    refine xu_n (by omega) ?_
    refine xu_n (by omega) ?_
    refine xu_n (by omega) ?_
    refine xu_n (by omega) ?_
    refine xu_n (by omega) ?_
    refine xu_n (by omega) ?_
    refine xu_n (by omega) ?_
    refine xu_n (by omega) ?_
    refine xu_n (by omega) ?_
    refine xu_n (by omega) ?_
    refine xu_n (by omega) ?_
    refine xu_n (by omega) ?_
    refine xu_n (by omega) ?_
    refine xu_n (by omega) ?_
    refine xu_n (by omega) ?_
    refine xu_n (by omega) ?_
    refine xu_n (by omega) ?_
    refine xu_n (by omega) ?_
    refine xu_n (by omega) ?_
    refine xu_n (by omega) ?_
    refine xu_n (by omega) ?_
    refine xu_n (by omega) ?_
    refine xu_n (by omega) ?_
    refine xu_n (by omega) ?_
    refine xu_n (by omega) ?_
    refine xu_n (by omega) ?_
    refine xu_n (by omega) ?_
    refine xu_n (by omega) ?_
    refine xu_n (by omega) ?_
    refine xu_n (by omega) ?_
    refine xu_n (by omega) ?_
    refine xu_n (by omega) ?_
    refine xu_n (by omega) ?_
    refine xu_n (by omega) ?_
    refine xu_n (by omega) ?_
    refine xu_n (by omega) ?_
    refine xu_n (by omega) ?_
    refine xu_n (by omega) ?_
    refine xu_n (by omega) ?_
    refine xu_n (by omega) ?_
    refine xu_n (by omega) ?_
    refine xu_n (by omega) ?_
    refine xu_n (by omega) ?_
    refine xu_n (by omega) ?_
    refine xu_n (by omega) ?_
    refine xu_n (by omega) ?_
    refine xu_n (by omega) ?_
    refine xu_n (by omega) ?_
    refine xu_n (by omega) ?_
    refine xu_n (by omega) ?_
    refine xu_n (by omega) ?_
    refine xu_n (by omega) ?_
    refine xu_n (by omega) ?_
    refine xu_n (by omega) ?_
    refine xu_n (by omega) ?_
    refine xu_n (by omega) ?_
    refine xu_n (by omega) ?_
    refine xu_n (by omega) ?_
    refine xu_n (by omega) ?_
    refine xu_n (by omega) ?_
    refine xu_n (by omega) ?_
    refine xu_n (by omega) ?_
    refine xu_n (by omega) ?_
    refine xu_n (by omega) ?_
    refine xu_n (by omega) ?_
    refine xu_n (by omega) ?_
    refine xu_n (by omega) ?_
    refine xu_n (by omega) ?_
    refine xu_n (by omega) ?_
    refine xu_n (by omega) ?_
    refine xu_n (by omega) ?_
    refine xu_n (by omega) ?_
    refine xu_n (by omega) ?_
    refine xu_n (by omega) ?_
    refine xu_n (by omega) ?_
    refine xu_n (by omega) ?_
    refine xu_n (by omega) ?_
    refine xz_n (by omega) ?_
    refine xu_n (by omega) ?_
    refine xu_n (by omega) ?_
    refine xu_n (by omega) ?_
    refine xu_n (by omega) ?_
    refine xu_n (by omega) ?_
    refine xu_n (by omega) ?_
    refine xu_n (by omega) ?_
    refine xu_n (by omega) ?_
    refine xu_n (by omega) ?_
    refine xu_n (by omega) ?_
    refine xu_n (by omega) ?_
    refine xu_n (by omega) ?_
    refine xu_n (by omega) ?_
    refine xu_n (by omega) ?_
    refine xu_n (by omega) ?_
    refine xu_n (by omega) ?_
    refine xu_n (by omega) ?_
    refine xu_n (by omega) ?_
    refine xu_n (by omega) ?_
    refine xu_n (by omega) ?_
    refine xu_n (by omega) ?_
    refine xu_n (by omega) ?_
    refine xu_n (by omega) ?_
    refine xu_n (by omega) ?_
    refine xu_n (by omega) ?_
    refine xu_n (by omega) ?_
    refine xu_n (by omega) ?_
    refine xu_n (by omega) ?_
    refine xu_n (by omega) ?_
    refine xu_n (by omega) ?_
    refine xu_n (by omega) ?_
    refine xu_n (by omega) ?_
    refine xu_n (by omega) ?_
    refine xu_n (by omega) ?_
    refine xz_n (by omega) ?_
    refine xz_n (by omega) ?_
    refine xz_n (by omega) ?_
    refine xu_n (by omega) ?_
    refine xu_n (by omega) ?_
    refine xu_n (by omega) ?_
    refine xu_n (by omega) ?_
    refine xz_n (by omega) ?_
    refine xz_n (by omega) ?_
    refine xz_n (by omega) ?_
    refine xz_n (by omega) ?_
    refine xz_n (by omega) ?_
    refine xz_n (by omega) ?_
    refine xz_n (by omega) ?_
    refine xz_n (by omega) ?_
    refine xz_n (by omega) ?_
    refine xz_n (by omega) ?_
    refine xz_n (by omega) ?_
    refine xz_n (by omega) ?_
    refine xz_n (by omega) ?_
    refine xz_n (by omega) ?_
    refine xz_n (by omega) ?_
    refine xu_n (by omega) ?_
    refine xu_n (by omega) ?_
    refine xu_n (by omega) ?_
    refine xz_n (by omega) ?_
    exact xz_n (by omega) rfl
  · unfold C90
    refine xz_n (by decide) ?_
    refine xu_n (by decide) ?_
    refine xz_n (by decide) ?_
    refine xz_n (by decide) ?_
    refine xz_n (by decide) ?_
    refine xz_n (by decide) ?_
    refine xz_n (by decide) ?_
    refine xz_n (by decide) ?_
    refine xz_n (by decide) ?_
    refine xz_n (by decide) ?_
    refine xz_n (by decide) ?_
    refine xu_n (by decide) ?_
    refine xu_n (by decide) ?_
    refine xu_n (by decide) ?_
    refine xu_n (by decide) ?_
    refine xu_n (by decide) ?_
    refine xu_n (by decide) ?_
    refine xu_n (by decide) ?_
    refine xu_n (by decide) ?_
    refine xu_n (by decide) ?_
    refine xu_n (by decide) ?_
    refine xu_n (by decide) ?_
    refine xu_n (by decide) ?_
    refine xu_n (by decide) ?_
    refine xu_n (by decide) ?_
    refine xu_n (by decide) ?_
    refine xu_n (by decide) ?_
    refine xu_n (by decide) ?_
    refine xu_n (by decide) ?_
    refine xu_n (by decide) ?_
    refine xu_n (by decide) ?_
    refine xu_n (by decide) ?_
    refine xu_n (by decide) ?_
    refine xu_n (by decide) ?_
    refine xu_n (by decide) ?_
    refine xu_n (by decide) ?_
    refine xu_n (by decide) ?_
    refine xu_n (by decide) ?_
    refine xu_n (by decide) ?_
    refine xu_n (by decide) ?_
    refine xu_n (by decide) ?_
    refine xu_n (by decide) ?_
    refine xu_n (by decide) ?_
    refine xu_n (by decide) ?_
    refine xu_n (by decide) ?_
    refine xu_n (by decide) ?_
    refine xu_n (by decide) ?_
    refine xu_n (by decide) ?_
    refine xu_n (by decide) ?_
    refine xu_n (by decide) ?_
    refine xu_n (by decide) ?_
    refine xu_n (by decide) ?_
    refine xu_n (by decide) ?_
    refine xu_n (by decide) ?_
    refine xu_n (by decide) ?_
    refine xu_n (by decide) ?_
    refine xu_n (by decide) ?_
    refine xu_n (by decide) ?_
    refine xu_n (by decide) ?_
    refine xu_n (by decide) ?_
    refine xu_n (by decide) ?_
    refine xu_n (by decide) ?_
    refine xu_n (by decide) ?_
    refine xu_n (by decide) ?_
    refine xu_n (by decide) ?_
    refine xu_n (by decide) ?_
    refine xu_n (by decide) ?_
    refine xu_n (by decide) ?_
    refine xu_n (by decide) ?_
    refine xu_n (by decide) ?_
    refine xu_n (by decide) ?_
    refine xu_n (by decide) ?_
    refine xu_n (by decide) ?_
    refine xu_n (by decide) ?_
    refine xu_n (by decide) ?_
    refine xu_n (by decide) ?_
    refine xu_n (by decide) ?_
    refine xu_n (by decide) ?_
    refine xu_n (by decide) ?_
    refine xu_n (by decide) ?_
    refine xu_n (by decide) ?_
    refine xu_n (by decide) ?_
    refine xu_n (by decide) ?_
    refine xu_n (by decide) ?_
    refine xu_n (by decide) ?_
    refine xu_n (by decide) ?_
    refine xu_n (by decide) ?_
    refine xu_n (by decide) ?_
    refine xu_n (by decide) ?_
    refine xu_n (by decide) ?_
    refine xu_n (by decide) ?_
    refine xu_n (by decide) ?_
    refine xu_n (by decide) ?_
    refine xu_n (by decide) ?_
    refine xu_n (by decide) ?_
    refine xu_n (by decide) ?_
    refine xu_n (by decide) ?_
    refine xu_n (by decide) ?_
    refine xu_n (by decide) ?_
    refine xu_n (by decide) ?_
    refine xu_n (by decide) ?_
    refine xu_n (by decide) ?_
    refine xu_n (by decide) ?_
    refine xu_n (by decide) ?_
    refine xu_n (by decide) ?_
    refine xu_n (by decide) ?_
    refine xu_n (by decide) ?_
    refine xz_n (by decide) ?_
    refine xu_s ?_
    refine xu_s ?_
    refine xu_s ?_
    refine xu_s ?_
    refine xu_s ?_
    refine xu_s ?_
    refine xu_s ?_
    refine xu_s ?_
    refine xu_s ?_
    refine xu_s ?_
    refine xu_s ?_
    refine xu_s ?_
    refine xu_s ?_
    refine xu_s ?_
    refine xu_s ?_
    refine xu_s ?_
    refine xu_s ?_
    refine xu_s ?_
    refine xu_s ?_
    refine xu_s ?_
    refine xu_s ?_
    refine xu_s ?_
    refine xu_s ?_
    refine xu_s ?_
    refine xu_s ?_
    refine xu_s ?_
    refine xu_s ?_
    refine xu_s ?_
    refine xu_s ?_
    refine xu_s ?_
    refine xu_s ?_
    refine xu_s ?_
    refine xu_s ?_
    refine xu_s ?_
    exact xz_s _ _
  · unfold C91
    refine xz_n (by decide) ?_
    refine xu_n (by decide) ?_
    refine xz_n (by decide) ?_
    refine xz_n (by decide) ?_
    refine xz_n (by decide) ?_
    refine xz_n (by decide) ?_
    refine xz_n (by decide) ?_
    refine xz_n (by decide) ?_
    refine xz_n (by decide) ?_
    refine xz_n (by decide) ?_
    refine xz_n (by decide) ?_
    refine xu_s ?_
    refine xu_s ?_
    refine xu_s ?_
    refine xu_s ?_
    refine xu_s ?_
    refine xu_s ?_
    refine xu_s ?_
    refine xu_s ?_
    refine xu_s ?_
    refine xu_s ?_
    refine xu_s ?_
    refine xu_s ?_
    refine xu_s ?_
    refine xu_s ?_
    refine xu_s ?_
    refine xu_s ?_
    refine xu_s ?_
    refine xu_s ?_
    refine xu_s ?_
    refine xu_s ?_
    refine xu_s ?_
    refine xu_s ?_
    refine xu_s ?_
    refine xu_s ?_
    refine xu_s ?_
    refine xu_s ?_
    refine xu_s ?_
    refine xu_s ?_
    refine xu_s ?_
    refine xu_s ?_
    refine xu_s ?_
    refine xu_s ?_
    refine xu_s ?_
    refine xu_s ?_
    refine xu_s ?_
    refine xu_s ?_
    refine xu_s ?_
    refine xu_s ?_
    refine xu_s ?_
    refine xu_s ?_
    refine xu_s ?_
    refine xu_s ?_
    refine xu_s ?_
    refine xu_s ?_
    refine xu_s ?_
    refine xu_s ?_
    refine xu_s ?_
    refine xu_s ?_
    refine xu_s ?_
    refine xu_s ?_
    refine xu_s ?_
    refine xu_s ?_
    refine xu_s ?_
    refine xu_s ?_
    refine xu_s ?_
    refine xu_s ?_
    refine xu_s ?_
    refine xu_s ?_
    refine xu_s ?_
    refine xu_s ?_
    refine xu_s ?_
    refine xu_s ?_
    refine xu_s ?_
    refine xu_s ?_
    refine xu_s ?_
    refine xu_s ?_
    refine xu_s ?_
    refine xu_s ?_
    refine xu_s ?_
    refine xu_s ?_
    refine xu_s ?_
    refine xu_s ?_
    refine xu_s ?_
    refine xu_s ?_
    refine xu_s ?_
    refine xu_s ?_
    refine xu_s ?_
    refine xu_s ?_
    refine xu_s ?_
    refine xu_s ?_
    refine xu_s ?_
    refine xu_s ?_
    refine xu_s ?_
    refine xu_s ?_
    refine xu_s ?_
    refine xu_s ?_
    refine xu_s ?_
    refine xu_s ?_
    refine xu_s ?_
    refine xu_s ?_
    refine xu_s ?_
    refine xu_s ?_
    refine xu_s ?_
    refine xu_s ?_
    refine xu_s ?_
    refine xu_s ?_
    exact xz_s _ _
  · refine xz_n (by decide) ?_
    refine xu_s ?_
    refine xz_n (by decide) ?_
    refine xz_n (by decide) ?_
    refine xz_n (by decide) ?_
    refine xz_n (by decide) ?_
    refine xz_n (by decide) ?_
    refine xz_n (by decide) ?_
    refine xz_n (by decide) ?_
    refine xz_n (by decide) ?_
    refine xz_n (by decide) ?_
    refine xu_n (by decide) ?_
    refine xu_n (by decide) ?_
    refine xu_n (by decide) ?_
    refine xu_n (by decide) ?_
    refine xu_n (by decide) ?_
    refine xu_n (by decide) ?_
    refine xu_n (by decide) ?_
    refine xu_n (by decide) ?_
    refine xu_n (by decide) ?_
    refine xu_n (by decide) ?_
    refine xu_n (by decide) ?_
    refine xu_n (by decide) ?_
    refine xu_n (by decide) ?_
    refine xu_n (by decide) ?_
    refine xu_n (by decide) ?_
    refine xu_n (by decide) ?_
    refine xu_n (by decide) ?_
    refine xu_n (by decide) ?_
    refine xu_n (by decide) ?_
    refine xu_n (by decide) ?_
    refine xu_n (by decide) ?_
    refine xu_n (by decide) ?_
    refine xu_n (by decide) ?_
    refine xu_n (by decide) ?_
    refine xu_n (by decide) ?_
    refine xu_n (by decide) ?_
    refine xu_n (by decide) ?_
    refine xu_n (by decide) ?_
    refine xu_n (by decide) ?_
    refine xu_n (by decide) ?_
    refine xu_n (by decide) ?_
    refine xu_n (by decide) ?_
    refine xu_n (by decide) ?_
    refine xu_n (by decide) ?_
    refine xu_n (by decide) ?_
    refine xu_n (by decide) ?_
    refine xu_n (by decide) ?_
    refine xu_n (by decide) ?_
    refine xu_n (by decide) ?_
    refine xu_n (by decide) ?_
    refine xu_n (by decide) ?_
    refine xu_n (by decide) ?_
    refine xu_n (by decide) ?_
    refine xu_n (by decide) ?_
    refine xu_n (by decide) ?_
    refine xu_n (by decide) ?_
    refine xu_n (by decide) ?_
    refine xu_n (by decide) ?_
    refine xu_n (by decide) ?_
    refine xu_n (by decide) ?_
    refine xu_n (by decide) ?_
    refine xu_n (by decide) ?_
    refine xu_n (by decide) ?_
    refine xu_n (by decide) ?_
    refine xu_n (by decide) ?_
    refine xu_n (by decide) ?_
    refine xu_n (by decide) ?_
    refine xu_n (by decide) ?_
    refine xu_n (by decide) ?_
    refine xu_n (by decide) ?_
    refine xu_n (by decide) ?_
    refine xu_n (by decide) ?_
    refine xu_n (by decide) ?_
    refine xu_n (by decide) ?_
    refine xu_n (by decide) ?_
    refine xu_n (by decide) ?_
    refine xu_n (by decide) ?_
    refine xu_n (by decide) ?_
    refine xu_n (by decide) ?_
    refine xu_n (by decide) ?_
    refine xu_n (by decide) ?_
    refine xu_n (by decide) ?_
    refine xu_n (by decide) ?_
    refine xu_n (by decide) ?_
    refine xu_n (by decide) ?_
    refine xu_n (by decide) ?_
    refine xu_n (by decide) ?_
    refine xu_n (by decide) ?_
    refine xu_n (by decide) ?_
    refine xu_n (by decide) ?_
    refine xu_n (by decide) ?_
    refine xu_n (by decide) ?_
    refine xu_n (by decide) ?_
    refine xu_n (by decide) ?_
    refine xu_n (by decide) ?_
    refine xu_n (by decide) ?_
    refine xu_n (by decide) ?_
    refine xu_n (by decide) ?_
    refine xu_n (by decide) ?_
    refine xu_n (by decide) ?_
    refine xu_n (by decide) ?_
    refine xu_n (by decide) ?_
    refine xu_n (by decide) ?_
    refine xu_n (by decide) ?_
    refine xu_n (by decide) ?_
    refine xu_n (by decide) ?_
    refine xz_n (by decide) ?_
    refine xu_n (by decide) ?_
    refine xu_n (by decide) ?_
    refine xu_n (by decide) ?_
    refine xu_n (by decide) ?_
    refine xu_n (by decide) ?_
    refine xu_n (by decide) ?_
    refine xu_n (by decide) ?_
    refine xu_n (by decide) ?_
    refine xu_n (by decide) ?_
    refine xu_n (by decide) ?_
    refine xu_n (by decide) ?_
    refine xu_n (by decide) ?_
    refine xu_n (by decide) ?_
    refine xu_n (by decide) ?_
    refine xu_n (by decide) ?_
    refine xu_n (by decide) ?_
    refine xu_n (by decide) ?_
    refine xu_n (by decide) ?_
    refine xu_n (by decide) ?_
    refine xu_n (by decide) ?_
    refine xu_n (by decide) ?_
    refine xu_n (by decide) ?_
    refine xu_n (by decide) ?_
    refine xu_n (by decide) ?_
    refine xu_n (by decide) ?_
    refine xu_n (by decide) ?_
    refine xu_n (by decide) ?_
    refine xu_n (by decide) ?_
    refine xu_n (by decide) ?_
    refine xu_n (by decide) ?_
    refine xu_n (by decide) ?_
    refine xu_n (by decide) ?_
    refine xu_n (by decide) ?_
    refine xu_n (by decide) ?_
    refine xz_n (by decide) ?_
    refine xz_n (by decide) ?_
    refine xz_n (by decide) ?_
    refine xu_n (by decide) ?_
    refine xu_n (by decide) ?_
    refine xu_n (by decide) ?_
    refine xu_n (by decide) ?_
    refine xz_n (by decide) ?_
    refine xz_n (by decide) ?_
    refine xz_n (by decide) ?_
    refine xz_n (by decide) ?_
    refine xz_n (by decide) ?_
    refine xz_n (by decide) ?_
    refine xz_n (by decide) ?_
    refine xz_n (by decide) ?_
    refine xz_n (by decide) ?_
    refine xz_n (by decide) ?_
    refine xz_n (by decide) ?_
    refine xz_n (by decide) ?_
    refine xz_n (by decide) ?_
    refine xz_n (by decide) ?_
    refine xz_n (by decide) ?_
    refine xu_n (by decide) ?_
    refine xu_n (by decide) ?_
    refine xu_n (by decide) ?_
    refine xz_n (by decide) ?_
    exact xz_s _ _
  · refine xz_n (by decide) ?_
    refine xu_n (by decide) ?_
    refine xz_n (by decide) ?_
    refine xz_n (by decide) ?_
    refine xz_n (by decide) ?_
    refine xz_n (by decide) ?_
    refine xz_n (by decide) ?_
    refine xz_n (by decide) ?_
    refine xz_n (by decide) ?_
    refine xz_n (by decide) ?_
    refine xz_n (by decide) ?_
    refine xu_n (by decide) ?_
    refine xu_n (by decide) ?_
    refine xu_n (by decide) ?_
    refine xu_n (by decide) ?_
    refine xu_n (by decide) ?_
    refine xu_n (by decide) ?_
    refine xu_n (by decide) ?_
    refine xu_n (by decide) ?_
    refine xu_n (by decide) ?_
    refine xu_n (by decide) ?_
    refine xu_n (by decide) ?_
    refine xu_n (by decide) ?_
    refine xu_n (by decide) ?_
    refine xu_n (by decide) ?_
    refine xu_n (by decide) ?_
    refine xu_n (by decide) ?_
    refine xu_n (by decide) ?_
    refine xu_n (by decide) ?_
    refine xu_n (by decide) ?_
    refine xu_n (by decide) ?_
    refine xu_n (by decide) ?_
    refine xu_n (by decide) ?_
    refine xu_n (by decide) ?_
    refine xu_n (by decide) ?_
    refine xu_n (by decide) ?_
    refine xu_n (by decide) ?_
    refine xu_n (by decide) ?_
    refine xu_n (by decide) ?_
    refine xu_n (by decide) ?_
    refine xu_n (by decide) ?_
    refine xu_n (by decide) ?_
    refine xu_n (by decide) ?_
    refine xu_n (by decide) ?_
    refine xu_n (by decide) ?_
    refine xu_n (by decide) ?_
    refine xu_n (by decide) ?_
    refine xu_n (by decide) ?_
    refine xu_n (by decide) ?_
    refine xu_n (by decide) ?_
    refine xu_n (by decide) ?_
    refine xu_n (by decide) ?_
    refine xu_n (by decide) ?_
    refine xu_n (by decide) ?_
    refine xu_n (by decide) ?_
    refine xu_n (by decide) ?_
    refine xu_n (by decide) ?_
    refine xu_n (by decide) ?_
    refine xu_n (by decide) ?_
    refine xu_n (by decide) ?_
    refine xu_n (by decide) ?_
    refine xu_n (by decide) ?_
    refine xu_n (by decide) ?_
    refine xu_n (by decide) ?_
    refine xu_n (by decide) ?_
    refine xu_n (by decide) ?_
    refine xu_n (by decide) ?_
    refine xu_n (by decide) ?_
    refine xu_n (by decide) ?_
    refine xu_n (by decide) ?_
    refine xu_n (by decide) ?_
    refine xu_n (by decide) ?_
    refine xu_n (by decide) ?_
    refine xu_n (by decide) ?_
    refine xu_n (by decide) ?_
    refine xu_n (by decide) ?_
    refine xu_n (by decide) ?_
    refine xu_n (by decide) ?_
    refine xu_n (by decide) ?_
    refine xu_n (by decide) ?_
    refine xu_n (by decide) ?_
    refine xu_n (by decide) ?_
    refine xu_n (by decide) ?_
    refine xu_n (by decide) ?_
    refine xu_n (by decide) ?_
    refine xu_n (by decide) ?_
    refine xu_n (by decide) ?_
    refine xu_n (by decide) ?_
    refine xu_n (by decide) ?_
    refine xu_n (by decide) ?_
    refine xu_n (by decide) ?_
    refine xu_n (by decide) ?_
    refine xu_n (by decide) ?_
    refine xu_n (by decide) ?_
    refine xu_n (by decide) ?_
    refine xu_n (by decide) ?_
    refine xu_n (by decide) ?_
    refine xu_n (by decide) ?_
    refine xu_n (by decide) ?_
    refine xu_n (by decide) ?_
    refine xu_n (by decide) ?_
    refine xu_n (by decide) ?_
    refine xu_n (by decide) ?_
    refine xu_n (by decide) ?_
    refine xu_n (by decide) ?_
    refine xu_n (by decide) ?_
    refine xu_n (by decide) ?_
    refine xz_n (by decide) ?_
    refine xu_n (by decide) ?_
    refine xu_n (by decide) ?_
    refine xu_n (by decide) ?_
    refine xu_n (by decide) ?_
    refine xu_n (by decide) ?_
    refine xu_n (by decide) ?_
    refine xu_n (by decide) ?_
    refine xu_n (by decide) ?_
    refine xu_n (by decide) ?_
    refine xu_n (by decide) ?_
    refine xu_n (by decide) ?_
    refine xu_n (by decide) ?_
    refine xu_n (by decide) ?_
    refine xu_n (by decide) ?_
    refine xu_n (by decide) ?_
    refine xu_n (by decide) ?_
    refine xu_n (by decide) ?_
    refine xu_n (by decide) ?_
    refine xu_n (by decide) ?_
    refine xu_n (by decide) ?_
    refine xu_n (by decide) ?_
    refine xu_n (by decide) ?_
    refine xu_n (by decide) ?_
    refine xu_n (by decide) ?_
    refine xu_n (by decide) ?_
    refine xu_n (by decide) ?_
    refine xu_n (by decide) ?_
    refine xu_n (by decide) ?_
    refine xu_n (by decide) ?_
    refine xu_n (by decide) ?_
    refine xu_n (by decide) ?_
    refine xu_n (by decide) ?_
    refine xu_n (by decide) ?_
    refine xu_n (by decide) ?_
    refine xz_n (by decide) ?_
    refine xz_n (by decide) ?_
    refine xz_n (by decide) ?_
    refine xu_n (by decide) ?_
    refine xu_n (by decide) ?_
    refine xu_n (by decide) ?_
    refine xu_n (by decide) ?_
    refine xz_n (by decide) ?_
    refine xz_n (by decide) ?_
    refine xz_n (by decide) ?_
    refine xz_n (by decide) ?_
    refine xz_n (by decide) ?_
    refine xz_n (by decide) ?_
    refine xz_n (by decide) ?_
    refine xz_n (by decide) ?_
    refine xz_n (by decide) ?_
    refine xz_n (by decide) ?_
    refine xz_n (by decide) ?_
    refine xz_n (by decide) ?_
    refine xz_n (by decide) ?_
    refine xz_n (by decide) ?_
    refine xz_n (by decide) ?_
    refine xu_s ?_
    refine xu_s ?_
    refine xu_s ?_
    exact xz_s _ _
  · refine xz_n (by decide) ?_
    refine xu_n (by decide) ?_
    refine xz_n (by decide) ?_
    refine xz_n (by decide) ?_
    refine xz_n (by decide) ?_
    refine xz_n (by decide) ?_
    refine xz_n (by decide) ?_
    refine xz_n (by decide) ?_
    refine xz_n (by decide) ?_
    refine xz_n (by decide) ?_
    refine xz_n (by decide) ?_
    refine xu_n (by decide) ?_
    refine xu_n (by decide) ?_
    refine xu_n (by decide) ?_
    refine xu_n (by decide) ?_
    refine xu_n (by decide) ?_
    refine xu_n (by decide) ?_
    refine xu_n (by decide) ?_
    refine xu_n (by decide) ?_
    refine xu_n (by decide) ?_
    refine xu_n (by decide) ?_
    refine xu_n (by decide) ?_
    refine xu_n (by decide) ?_
    refine xu_n (by decide) ?_
    refine xu_n (by decide) ?_
    refine xu_n (by decide) ?_
    refine xu_n (by decide) ?_
    refine xu_n (by decide) ?_
    refine xu_n (by decide) ?_
    refine xu_n (by decide) ?_
    refine xu_n (by decide) ?_
    refine xu_n (by decide) ?_
    refine xu_n (by decide) ?_
    refine xu_n (by decide) ?_
    refine xu_n (by decide) ?_
    refine xu_n (by decide) ?_
    refine xu_n (by decide) ?_
    refine xu_n (by decide) ?_
    refine xu_n (by decide) ?_
    refine xu_n (by decide) ?_
    refine xu_n (by decide) ?_
    refine xu_n (by decide) ?_
    refine xu_n (by decide) ?_
    refine xu_n (by decide) ?_
    refine xu_n (by decide) ?_
    refine xu_n (by decide) ?_
    refine xu_n (by decide) ?_
    refine xu_n (by decide) ?_
    refine xu_n (by decide) ?_
    refine xu_n (by decide) ?_
    refine xu_n (by decide) ?_
    refine xu_n (by decide) ?_
    refine xu_n (by decide) ?_
    refine xu_n (by decide) ?_
    refine xu_n (by decide) ?_
    refine xu_n (by decide) ?_
    refine xu_n (by decide) ?_
    refine xu_n (by decide) ?_
    refine xu_n (by decide) ?_
    refine xu_n (by decide) ?_
    refine xu_n (by decide) ?_
    refine xu_n (by decide) ?_
    refine xu_n (by decide) ?_
    refine xu_n (by decide) ?_
    refine xu_n (by decide) ?_
    refine xu_n (by decide) ?_
    refine xu_n (by decide) ?_
    refine xu_n (by decide) ?_
    refine xu_n (by decide) ?_
    refine xu_n (by decide) ?_
    refine xu_n (by decide) ?_
    refine xu_n (by decide) ?_
    refine xu_n (by decide) ?_
    refine xu_n (by decide) ?_
    refine xu_n (by decide) ?_
    refine xu_n (by decide) ?_
    refine xu_n (by decide) ?_
    refine xu_n (by decide) ?_
    refine xu_n (by decide) ?_
    refine xu_n (by decide) ?_
    refine xu_n (by decide) ?_
    refine xu_n (by decide) ?_
    refine xu_n (by decide) ?_
    refine xu_n (by decide) ?_
    refine xu_n (by decide) ?_
    refine xu_n (by decide) ?_
    refine xu_n (by decide) ?_
    refine xu_n (by decide) ?_
    refine xu_n (by decide) ?_
    refine xu_n (by decide) ?_
    refine xu_n (by decide) ?_
    refine xu_n (by decide) ?_
    refine xu_n (by decide) ?_
    refine xu_n (by decide) ?_
    refine xu_n (by decide) ?_
    refine xu_n (by decide) ?_
    refine xu_n (by decide) ?_
    refine xu_n (by decide) ?_
    refine xu_n (by decide) ?_
    refine xu_n (by decide) ?_
    refine xu_n (by decide) ?_
    refine xu_n (by decide) ?_
    refine xu_n (by decide) ?_
    refine xu_n (by decide) ?_
    refine xu_n (by decide) ?_
    refine xu_n (by decide) ?_
    refine xu_n (by decide) ?_
    refine xz_n (by decide) ?_
    refine xu_n (by decide) ?_
    refine xu_n (by decide) ?_
    refine xu_n (by decide) ?_
    refine xu_n (by decide) ?_
    refine xu_n (by decide) ?_
    refine xu_n (by decide) ?_
    refine xu_n (by decide) ?_
    refine xu_n (by decide) ?_
    refine xu_n (by decide) ?_
    refine xu_n (by decide) ?_
    refine xu_n (by decide) ?_
    refine xu_n (by decide) ?_
    refine xu_n (by decide) ?_
    refine xu_n (by decide) ?_
    refine xu_n (by decide) ?_
    refine xu_n (by decide) ?_
    refine xu_n (by decide) ?_
    refine xu_n (by decide) ?_
    refine xu_n (by decide) ?_
    refine xu_n (by decide) ?_
    refine xu_n (by decide) ?_
    refine xu_n (by decide) ?_
    refine xu_n (by decide) ?_
    refine xu_n (by decide) ?_
    refine xu_n (by decide) ?_
    refine xu_n (by decide) ?_
    refine xu_n (by decide) ?_
    refine xu_n (by decide) ?_
    refine xu_n (by decide) ?_
    refine xu_n (by decide) ?_
    refine xu_n (by decide) ?_
    refine xu_n (by decide) ?_
    refine xu_n (by decide) ?_
    refine xu_n (by decide) ?_
    refine xz_n (by decide) ?_
    refine xz_n (by decide) ?_
    refine xz_n (by decide) ?_
    refine xu_s ?_
    refine xu_s ?_
    refine xu_s ?_
    refine xu_s ?_
    exact xz_s _ _
  · refine xz_z ?_
    refine xu_n (by omega) ?_
    refine xz_z ?_
    refine xz_z ?_
    refine xz_z ?_
    refine xz_z ?_
    refine xz_z ?_
    refine xz_z ?_
    refine xz_z ?_
    refine xz_z ?_
    refine xz_z ?_
    refine xu_n (by omega) ?_
    refine xu_n (by omega) ?_
    refine xu_n (by omega) ?_
    refine xu_n (by omega) ?_
    refine xu_n (by omega) ?_
    refine xu_n (by omega) ?_
    refine xu_n (by omega) ?_
    refine xu_n (by omega) ?_
    refine xu_n (by omega) ?_
    refine xu_n (by omega) ?_
    refine xu_n (by omega) ?_
    refine xu_n (by omega) ?_
    refine xu_n (by omega) ?_
    refine xu_n (by omega) ?_
    refine xu_n (by omega) ?_
    refine xu_n (by omega) ?_
    refine xu_n (by omega) ?_
    refine xu_n (by omega) ?_
    refine xu_n (by omega) ?_
    refine xu_n (by omega) ?_
    refine xu_n (by omega) ?_
    refine xu_n (by omega) ?_
    refine xu_n (by omega) ?_
    refine xu_n (by omega) ?_
    refine xu_n (by omega) ?_
    refine xu_n (by omega) ?_
    refine xu_n (by omega) ?_
    refine xu_n (by omega) ?_
    refine xu_n (by omega) ?_
    refine xu_n (by omega) ?_
    refine xu_n (by omega) ?_
    refine xu_n (by omega) ?_
    refine xu_n (by omega) ?_
    refine xu_n (by omega) ?_
    refine xu_n (by omega) ?_
    refine xu_n (by omega) ?_
    refine xu_n (by omega) ?_
    refine xu_n (by omega) ?_
    refine xu_n (by omega) ?_
    refine xu_n (by omega) ?_
    refine xu_n (by omega) ?_
    refine xu_n (by omega) ?_
    refine xu_n (by omega) ?_
    refine xu_n (by omega) ?_
    refine xu_n (by omega) ?_
    refine xu_n (by omega) ?_
    refine xu_n (by omega) ?_
    refine xu_n (by omega) ?_
    refine xu_n (by omega) ?_
    refine xu_n (by omega) ?_
    refine xu_n (by omega) ?_
    refine xu_n (by omega) ?_
    refine xu_n (by omega) ?_
    refine xu_n (by omega) ?_
    refine xu_n (by omega) ?_
    refine xu_n (by omega) ?_
    refine xu_n (by omega) ?_
    refine xu_n (by omega) ?_
    refine xu_n (by omega) ?_
    refine xu_n (by omega) ?_
    refine xu_n (by omega) ?_
    refine xu_n (by omega) ?_
    refine xu_n (by omega) ?_
    refine xu_n (by omega) ?_
    refine xu_n (by omega) ?_
    refine xu_n (by omega) ?_
    refine xu_n (by omega) ?_
    refine xu_n (by omega) ?_
    refine xu_n (by omega) ?_
    refine xu_n (by omega) ?_
    refine xu_n (by omega) ?_
    refine xu_n (by omega) ?_
    refine xu_n (by omega) ?_
    refine xu_n (by omega) ?_
    refine xu_n (by omega) ?_
    refine xu_n (by omega) ?_
    refine xu_n (by omega) ?_
    refine xu_n (by omega) ?_
    refine xu_n (by omega) ?_
    refine xu_n (by omega) ?_
    refine xu_n (by omega) ?_
    refine xu_n (by omega) ?_
    refine xu_n (by omega) ?_
    refine xu_n (by omega) ?_
    refine xu_n (by omega) ?_
    refine xu_n (by omega) ?_
    refine xu_n (by omega) ?_
    refine xu_n (by omega) ?_
    refine xu_n (by omega) ?_
    refine xu_n (by omega) ?_
    refine xu_n (by omega) ?_
    refine xu_n (by omega) ?_
    refine xu_n (by omega) ?_
    refine xu_n (by omega) ?_
    refine xu_n (by omega) ?_
    refine xu_n (by omega) ?_
    refine xz_z ?_
    refine xu_n (by omega) ?_
    refine xu_n (by omega) ?_
    refine xu_n (by omega) ?_
    refine xu_n (by omega) ?_
    refine xu_n (by omega) ?_
    refine xu_n (by omega) ?_
    refine xu_n (by omega) ?_
    refine xu_n (by omega) ?_
    refine xu_n (by omega) ?_
    refine xu_n (by omega) ?_
    refine xu_n (by omega) ?_
    refine xu_n (by omega) ?_
    refine xu_n (by omega) ?_
    refine xu_n (by omega) ?_
    refine xu_n (by omega) ?_
    refine xu_n (by omega) ?_
    refine xu_n (by omega) ?_
    refine xu_n (by omega) ?_
    refine xu_n (by omega) ?_
    refine xu_n (by omega) ?_
    refine xu_n (by omega) ?_
    refine xu_n (by omega) ?_
    refine xu_n (by omega) ?_
    refine xu_n (by omega) ?_
    refine xu_n (by omega) ?_
    refine xu_n (by omega) ?_
    refine xu_n (by omega) ?_
    refine xu_n (by omega) ?_
    refine xu_n (by omega) ?_
    refine xu_n (by omega) ?_
    refine xu_n (by omega) ?_
    refine xu_n (by omega) ?_
    refine xu_n (by omega) ?_
    refine xu_n (by omega) ?_
    refine xz_z ?_
    refine xz_z ?_
    refine xz_z ?_
    refine xu_n (by omega) ?_
    refine xu_n (by omega) ?_
    refine xu_n (by omega) ?_
    refine xu_n (by omega) ?_
    refine xz_z ?_
    refine xz_z ?_
    refine xz_z ?_
    refine xz_z ?_
    refine xz_z ?_
    refine xz_z ?_
    refine xz_z ?_
    refine xz_z ?_
    refine xz_z ?_
    refine xz_z ?_
    refine xz_z ?_
    refine xz_z ?_
    refine xz_z ?_
    refine xz_z ?_
    refine xz_z ?_
    refine xu_n (by omega) ?_
    refine xu_n (by omega) ?_
    refine xu_n (by omega) ?_
    refine xz_z ?_
    exact xz_z (hw _ (by omega))
