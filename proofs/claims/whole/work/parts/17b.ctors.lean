section XRc
variable {α : Type} {G : xG} {M : xM} {d pc : Nat} {lv : List (Nat × Value)} {st : List Value} {F : xF} {w : xI} {cv : α → Option Value} {F' : xF} {X : Option (α × xI)}
theorem y_icmp_geT {x y : Int32} {off : Int} {tgt : Nat} (hc : y ≤ x) (hdg : decode M.2.1 pc = .ok (.if_icmp .ge off, 3)) (ht : (pc : Int) + off = (tgt : Int)) (K : xC G M d tgt lv st F w cv F' X) : xC G M d pc lv (.int y :: .int x :: st) F w cv F' X :=
  fun a w' hX => y_icmp_ge (X1 := X) (X2 := none) hdg ht K xC.none a w' (by rw [if_pos hc]; exact hX)
theorem y_icmp_geF {x y : Int32} {off : Int} {tgt : Nat} (hc : ¬ y ≤ x) (hdg : decode M.2.1 pc = .ok (.if_icmp .ge off, 3)) (ht : (pc : Int) + off = (tgt : Int)) (K : xC G M d (pc + 3) lv st F w cv F' X) : xC G M d pc lv (.int y :: .int x :: st) F w cv F' X :=
  fun a w' hX => y_icmp_ge (X1 := none) (X2 := X) hdg ht xC.none K a w' (by rw [if_neg hc]; exact hX)
end XRc
theorem xsw_obj {G : xG} {n t n2 t2 i ci : Nat} {r r2 : Nat → Nat → Int32 → Option Nat} {w : xI} (hsh : xSH i = .inl ci) (h : ∀ j, j < xN ci → r i j (w i j) = r2 i j (w i j)) : xcell G (n, t, xSH, r) w i = xcell G (n2, t2, xSH, r2) w i := by
  rw [xcell_obj (F := (n, t, xSH, r)) hsh, xcell_obj (F := (n2, t2, xSH, r2)) hsh]
  congr 3
  refine List.map_congr_left (fun j hj => ?_)
  show xval G (xTy ci j) (w i j) (r i j (w i j)) = xval G (xTy ci j) (w i j) (r2 i j (w i j))
  rw [h j (List.mem_range.mp hj)]
theorem xsw_int {G : xG} {n t n2 t2 i len : Nat} {r r2 : Nat → Nat → Int32 → Option Nat} {w : xI} (hsh : xSH i = .inr (0, len)) : xcell G (n, t, xSH, r) w i = xcell G (n2, t2, xSH, r2) w i := by
  rw [xcell_int (F := (n, t, xSH, r)) hsh, xcell_int (F := (n2, t2, xSH, r2)) hsh]
theorem xsw_all {G : xG} {n t n2 t2 i : Nat} {r r2 : Nat → Nat → Int32 → Option Nat} {w : xI} (h : r i = r2 i) : xcell G (n, t, xSH, r) w i = xcell G (n2, t2, xSH, r2) w i := by
  unfold xcell
  rw [show (n, t, xSH, r).2.2.2 i = (n2, t2, xSH, r2).2.2.2 i from h]
theorem hdefX0 {G : xG} : ∀ j, j < 5 → defaultValue (xTy 0 j) = xval G (xTy 0 j) 0 none := by
  intro j hj
  match j, hj with
  | 0, _ => rfl | 1, _ => rfl | 2, _ => rfl | 3, _ => rfl | 4, _ => rfl
  | k + 5, h => omega
theorem hdefX1 {G : xG} : ∀ j, j < 10 → defaultValue (xTy 1 j) = xval G (xTy 1 j) 0 none := by
  intro j hj
  match j, hj with
  | 0, _ => rfl | 1, _ => rfl | 2, _ => rfl | 3, _ => rfl | 4, _ => rfl | 5, _ => rfl | 6, _ => rfl | 7, _ => rfl | 8, _ => rfl | 9, _ => rfl
  | k + 10, h => omega
theorem hdefX2 {G : xG} : ∀ j, j < 8 → defaultValue (xTy 2 j) = xval G (xTy 2 j) 0 none := by
  intro j hj
  match j, hj with
  | 0, _ => rfl | 1, _ => rfl | 2, _ => rfl | 3, _ => rfl | 4, _ => rfl | 5, _ => rfl | 6, _ => rfl | 7, _ => rfl
  | k + 8, h => omega
theorem hdefX3 {G : xG} : ∀ j, j < 4 → defaultValue (xTy 3 j) = xval G (xTy 3 j) 0 none := by
  intro j hj
  match j, hj with
  | 0, _ => rfl | 1, _ => rfl | 2, _ => rfl | 3, _ => rfl
  | k + 4, h => omega
theorem hdefX4 {G : xG} : ∀ j, j < 8 → defaultValue (xTy 4 j) = xval G (xTy 4 j) 0 none := by
  intro j hj
  match j, hj with
  | 0, _ => rfl | 1, _ => rfl | 2, _ => rfl | 3, _ => rfl | 4, _ => rfl | 5, _ => rfl | 6, _ => rfl | 7, _ => rfl
  | k + 8, h => omega
theorem hdefX5 {G : xG} : ∀ j, j < 4 → defaultValue (xTy 5 j) = xval G (xTy 5 j) 0 none := by
  intro j hj
  match j, hj with
  | 0, _ => rfl | 1, _ => rfl | 2, _ => rfl | 3, _ => rfl
  | k + 4, h => omega
theorem hdefX6 {G : xG} : ∀ j, j < 3 → defaultValue (xTy 6 j) = xval G (xTy 6 j) 0 none := by
  intro j hj
  match j, hj with
  | 0, _ => rfl | 1, _ => rfl | 2, _ => rfl
  | k + 3, h => omega
theorem hdefX7 {G : xG} : ∀ j, j < 4 → defaultValue (xTy 7 j) = xval G (xTy 7 j) 0 none := by
  intro j hj
  match j, hj with
  | 0, _ => rfl | 1, _ => rfl | 2, _ => rfl | 3, _ => rfl
  | k + 4, h => omega
theorem hdefX8 {G : xG} : ∀ j, j < 15 → defaultValue (xTy 8 j) = xval G (xTy 8 j) 0 none := by
  intro j hj
  match j, hj with
  | 0, _ => rfl | 1, _ => rfl | 2, _ => rfl | 3, _ => rfl | 4, _ => rfl | 5, _ => rfl | 6, _ => rfl | 7, _ => rfl | 8, _ => rfl | 9, _ => rfl | 10, _ => rfl | 11, _ => rfl | 12, _ => rfl | 13, _ => rfl | 14, _ => rfl
  | k + 15, h => omega
theorem hdefX9 {G : xG} : ∀ j, j < 3 → defaultValue (xTy 9 j) = xval G (xTy 9 j) 0 none := by
  intro j hj
  match j, hj with
  | 0, _ => rfl | 1, _ => rfl | 2, _ => rfl
  | k + 3, h => omega
theorem hdefX10 {G : xG} : ∀ j, j < 12 → defaultValue (xTy 10 j) = xval G (xTy 10 j) 0 none := by
  intro j hj
  match j, hj with
  | 0, _ => rfl | 1, _ => rfl | 2, _ => rfl | 3, _ => rfl | 4, _ => rfl | 5, _ => rfl | 6, _ => rfl | 7, _ => rfl | 8, _ => rfl | 9, _ => rfl | 10, _ => rfl | 11, _ => rfl
  | k + 12, h => omega
theorem hdefX11 {G : xG} : ∀ j, j < 61 → defaultValue (xTy 11 j) = xval G (xTy 11 j) 0 none := by
  intro j hj
  match j, hj with
  | 0, _ => rfl | 1, _ => rfl | 2, _ => rfl | 3, _ => rfl | 4, _ => rfl | 5, _ => rfl | 6, _ => rfl | 7, _ => rfl | 8, _ => rfl | 9, _ => rfl | 10, _ => rfl | 11, _ => rfl | 12, _ => rfl | 13, _ => rfl | 14, _ => rfl | 15, _ => rfl | 16, _ => rfl | 17, _ => rfl | 18, _ => rfl | 19, _ => rfl | 20, _ => rfl | 21, _ => rfl | 22, _ => rfl | 23, _ => rfl | 24, _ => rfl | 25, _ => rfl | 26, _ => rfl | 27, _ => rfl | 28, _ => rfl | 29, _ => rfl | 30, _ => rfl | 31, _ => rfl | 32, _ => rfl | 33, _ => rfl | 34, _ => rfl | 35, _ => rfl | 36, _ => rfl | 37, _ => rfl | 38, _ => rfl | 39, _ => rfl | 40, _ => rfl | 41, _ => rfl | 42, _ => rfl | 43, _ => rfl | 44, _ => rfl | 45, _ => rfl | 46, _ => rfl | 47, _ => rfl | 48, _ => rfl | 49, _ => rfl | 50, _ => rfl | 51, _ => rfl | 52, _ => rfl | 53, _ => rfl | 54, _ => rfl | 55, _ => rfl | 56, _ => rfl | 57, _ => rfl | 58, _ => rfl | 59, _ => rfl | 60, _ => rfl
  | k + 61, h => omega
theorem kX10_11 : xLnk RX10 11 m_X5_init 0 2 := ⟨⟨q32, q2, by decide +kernel, by decide⟩, Or.inl q30, ⟨q31, rfl, rfl⟩⟩
theorem kX5_21 : xLnk RX5 21 m_X5_layAll 0 1 := ⟨⟨q37, q2, by decide +kernel, by decide⟩, Or.inl q34, ⟨q35, q36⟩⟩
theorem kX10_18 : xLnk RX10 18 m_X9_init 0 2 := ⟨⟨q70, q4, by decide +kernel, by decide⟩, Or.inl q68, ⟨q69, rfl, rfl⟩⟩
theorem kX9_21 : xLnk RX9 21 m_X0_init 0 2 := ⟨⟨q77, q5, by decide +kernel, by decide⟩, Or.inr (by decide +kernel), ⟨q76, rfl, rfl⟩⟩
theorem kX10_31 : xLnk RX10 31 m_X4_init 0 2 := ⟨⟨q129, q6, by decide +kernel, by decide⟩, Or.inr (by decide +kernel), ⟨q128, rfl, rfl⟩⟩
theorem kX10_38 : xLnk RX10 38 m_X8_init 2 2 := ⟨⟨q161, q7, by decide +kernel, by decide⟩, Or.inl q159, ⟨q160, rfl, rfl⟩⟩
theorem kX10_47 : xLnk RX10 47 m_X3_init 2 2 := ⟨⟨q223, q8, by decide +kernel, by decide⟩, Or.inl q221, ⟨q222, rfl, rfl⟩⟩
theorem kX10_56 : xLnk RX10 56 m_X1_init 2 2 := ⟨⟨q243, q9, by decide +kernel, by decide⟩, Or.inl q241, ⟨q242, rfl, rfl⟩⟩
theorem kX10_69 : xLnk RX10 69 m_X2_init 0 2 := ⟨⟨q290, q10, by decide +kernel, by decide⟩, Or.inr (by decide +kernel), ⟨q289, rfl, rfl⟩⟩
theorem kX10_78 : xLnk RX10 78 m_X7_init 0 2 := ⟨⟨q322, q11, by decide +kernel, by decide⟩, Or.inr (by decide +kernel), ⟨q321, rfl, rfl⟩⟩
theorem kX10_79 : xLnk RX10 79 m_X6_init 0 2 := ⟨⟨q342, q12, by decide +kernel, by decide⟩, Or.inr (by decide +kernel), ⟨q341, rfl, rfl⟩⟩
theorem kX10_82 : xLnk RX10 82 m_J0_length_8abf5 0 1 := ⟨⟨q363, q13, by decide +kernel, by decide⟩, Or.inl q360, ⟨q361, q362⟩⟩
theorem kX10_88 : xLnk RX10 88 m_J0_charAt_5068e 1 1 := ⟨⟨q373, q13, by decide +kernel, by decide⟩, Or.inl q370, ⟨q371, q372⟩⟩
theorem kX11_107 : xLnk RX11 107 m_X11_text 0 1 := ⟨⟨q983, q17, by decide +kernel, by decide⟩, Or.inl q980, ⟨q981, q982⟩⟩
theorem flX9_11 : xFld RX9 11 9 0 true := ⟨RX9, TX9, 3, "WeighedGate$Yard", rfl, rfl, by decide, inX9, q101, rfl, tyX9_ok, nmX9, rfl⟩
theorem flX9_17 : xFld RX9 17 9 1 true := ⟨RX9, TX9, 3, "WeighedGate$Yard", rfl, rfl, by decide, inX9, q105, rfl, tyX9_ok, nmX9, rfl⟩
theorem flX11_64 : xFld RX11 64 11 27 true := ⟨RX11, TX11, 61, "WeighedGateModel", rfl, rfl, by decide, inX11, q1054, rfl, tyX11_ok, nmX11, rfl⟩
theorem xsw_6 (j : Nat) (x : Int32) : xr_76 6 j x = xR0 6 j x := by
  match j with
  | 0 => rfl | 1 => rfl | 2 => rfl | 3 => rfl | 4 => rfl | 5 => rfl | 6 => rfl | 7 => rfl | 8 => rfl | 9 => rfl
  | m + 10 => rfl
theorem xsw_18 (j : Nat) (x : Int32) : xr_76 18 j x = xR0 18 j x := by
  match j with
  | 0 => rfl | 1 => rfl | 2 => rfl | 3 => rfl | 4 => rfl | 5 => rfl
  | m + 6 => rfl
theorem xsw_32 (j : Nat) (x : Int32) : xr_76 32 j x = xR0 32 j x := by
  match j with
  | 0 => rfl | 1 => rfl | 2 => rfl | 3 => rfl
  | m + 4 => rfl
set_option maxRecDepth 20000 in
theorem xswX {G : xG} (w : xI) (hz : w 19 7 = 0) : ∀ i, i < 71 → xcell G (71, 3646, xSH, xr_76) w i = xcell G (xFin 71 3646) w i := by
  intro i hi
  match i, hi with
  | 0, _ => exact xsw_obj (ci := 10) rfl (fun j hj => by
      match j, hj with
      | 0, _ => rfl | 1, _ => rfl | 2, _ => rfl | 3, _ => rfl | 4, _ => rfl | 5, _ => rfl | 6, _ => rfl | 7, _ => rfl | 8, _ => rfl | 9, _ => rfl | 10, _ => rfl | 11, _ => rfl
      | k + 12, h => exact absurd h (by show ¬ k + 12 < 12; omega))
  | 1, _ => exact xsw_obj (ci := 5) rfl (fun j hj => by
      match j, hj with
      | 0, _ => rfl | 1, _ => rfl | 2, _ => rfl | 3, _ => rfl
      | k + 4, h => exact absurd h (by show ¬ k + 4 < 4; omega))
  | 2, _ => exact xsw_int rfl
  | 3, _ => exact xsw_int rfl
  | 4, _ => exact xsw_int rfl
  | 5, _ => exact xsw_obj (ci := 9) rfl (fun j hj => by
      match j, hj with
      | 0, _ => rfl | 1, _ => rfl | 2, _ => rfl
      | k + 3, h => exact absurd h (by show ¬ k + 3 < 3; omega))
  | 6, _ => exact xsw_all (funext fun j => funext fun x => xsw_6 j x)
  | 7, _ => exact xsw_int rfl
  | 8, _ => exact xsw_obj (ci := 0) rfl (fun j hj => by
      match j, hj with
      | 0, _ => rfl | 1, _ => rfl | 2, _ => rfl | 3, _ => rfl | 4, _ => rfl
      | k + 5, h => exact absurd h (by show ¬ k + 5 < 5; omega))
  | 9, _ => exact xsw_obj (ci := 0) rfl (fun j hj => by
      match j, hj with
      | 0, _ => rfl | 1, _ => rfl | 2, _ => rfl | 3, _ => rfl | 4, _ => rfl
      | k + 5, h => exact absurd h (by show ¬ k + 5 < 5; omega))
  | 10, _ => exact xsw_obj (ci := 0) rfl (fun j hj => by
      match j, hj with
      | 0, _ => rfl | 1, _ => rfl | 2, _ => rfl | 3, _ => rfl | 4, _ => rfl
      | k + 5, h => exact absurd h (by show ¬ k + 5 < 5; omega))
  | 11, _ => exact xsw_obj (ci := 0) rfl (fun j hj => by
      match j, hj with
      | 0, _ => rfl | 1, _ => rfl | 2, _ => rfl | 3, _ => rfl | 4, _ => rfl
      | k + 5, h => exact absurd h (by show ¬ k + 5 < 5; omega))
  | 12, _ => exact xsw_obj (ci := 0) rfl (fun j hj => by
      match j, hj with
      | 0, _ => rfl | 1, _ => rfl | 2, _ => rfl | 3, _ => rfl | 4, _ => rfl
      | k + 5, h => exact absurd h (by show ¬ k + 5 < 5; omega))
  | 13, _ => exact xsw_obj (ci := 0) rfl (fun j hj => by
      match j, hj with
      | 0, _ => rfl | 1, _ => rfl | 2, _ => rfl | 3, _ => rfl | 4, _ => rfl
      | k + 5, h => exact absurd h (by show ¬ k + 5 < 5; omega))
  | 14, _ => exact xsw_obj (ci := 0) rfl (fun j hj => by
      match j, hj with
      | 0, _ => rfl | 1, _ => rfl | 2, _ => rfl | 3, _ => rfl | 4, _ => rfl
      | k + 5, h => exact absurd h (by show ¬ k + 5 < 5; omega))
  | 15, _ => exact xsw_obj (ci := 0) rfl (fun j hj => by
      match j, hj with
      | 0, _ => rfl | 1, _ => rfl | 2, _ => rfl | 3, _ => rfl | 4, _ => rfl
      | k + 5, h => exact absurd h (by show ¬ k + 5 < 5; omega))
  | 16, _ => exact xsw_obj (ci := 0) rfl (fun j hj => by
      match j, hj with
      | 0, _ => rfl | 1, _ => rfl | 2, _ => rfl | 3, _ => rfl | 4, _ => rfl
      | k + 5, h => exact absurd h (by show ¬ k + 5 < 5; omega))
  | 17, _ => exact xsw_obj (ci := 0) rfl (fun j hj => by
      match j, hj with
      | 0, _ => rfl | 1, _ => rfl | 2, _ => rfl | 3, _ => rfl | 4, _ => rfl
      | k + 5, h => exact absurd h (by show ¬ k + 5 < 5; omega))
  | 18, _ => exact xsw_all (funext fun j => funext fun x => xsw_18 j x)
  | 19, _ => exact xsw_obj (ci := 4) rfl (fun j hj => by
      match j, hj with
      | 0, _ => rfl | 1, _ => rfl | 2, _ => rfl | 3, _ => rfl | 4, _ => rfl | 5, _ => rfl | 6, _ => rfl
      | 7, _ => (show _ = xR0 19 7 (w 19 7)); rw [hz]; rfl
      | k + 8, h => exact absurd h (by show ¬ k + 8 < 8; omega))
  | 20, _ => exact xsw_int rfl
  | 21, _ => exact xsw_obj (ci := 8) rfl (fun j hj => by
      match j, hj with
      | 0, _ => rfl | 1, _ => rfl | 2, _ => rfl | 3, _ => rfl | 4, _ => rfl | 5, _ => rfl | 6, _ => rfl | 7, _ => rfl | 8, _ => rfl | 9, _ => rfl | 10, _ => rfl | 11, _ => rfl | 12, _ => rfl | 13, _ => rfl | 14, _ => rfl
      | k + 15, h => exact absurd h (by show ¬ k + 15 < 15; omega))
  | 22, _ => exact xsw_int rfl
  | 23, _ => exact xsw_int rfl
  | 24, _ => exact xsw_int rfl
  | 25, _ => exact xsw_obj (ci := 3) rfl (fun j hj => by
      match j, hj with
      | 0, _ => rfl | 1, _ => rfl | 2, _ => rfl | 3, _ => rfl
      | k + 4, h => exact absurd h (by show ¬ k + 4 < 4; omega))
  | 26, _ => exact xsw_int rfl
  | 27, _ => exact xsw_int rfl
  | 28, _ => exact xsw_obj (ci := 1) rfl (fun j hj => by
      match j, hj with
      | 0, _ => rfl | 1, _ => rfl | 2, _ => rfl | 3, _ => rfl | 4, _ => rfl | 5, _ => rfl | 6, _ => rfl | 7, _ => rfl | 8, _ => rfl | 9, _ => rfl
      | k + 10, h => exact absurd h (by show ¬ k + 10 < 10; omega))
  | 29, _ => exact xsw_int rfl
  | 30, _ => exact xsw_int rfl
  | 31, _ => exact xsw_int rfl
  | 32, _ => exact xsw_all (funext fun j => funext fun x => xsw_32 j x)
  | 33, _ => exact xsw_obj (ci := 2) rfl (fun j hj => by
      match j, hj with
      | 0, _ => rfl | 1, _ => rfl | 2, _ => rfl | 3, _ => rfl | 4, _ => rfl | 5, _ => rfl | 6, _ => rfl | 7, _ => rfl
      | k + 8, h => exact absurd h (by show ¬ k + 8 < 8; omega))
  | 34, _ => exact xsw_int rfl
  | 35, _ => exact xsw_int rfl
  | 36, _ => exact xsw_int rfl
  | 37, _ => exact xsw_int rfl
  | 38, _ => exact xsw_int rfl
  | 39, _ => exact xsw_obj (ci := 7) rfl (fun j hj => by
      match j, hj with
      | 0, _ => rfl | 1, _ => rfl | 2, _ => rfl | 3, _ => rfl
      | k + 4, h => exact absurd h (by show ¬ k + 4 < 4; omega))
  | 40, _ => exact xsw_int rfl
  | 41, _ => exact xsw_int rfl
  | 42, _ => exact xsw_int rfl
  | 43, _ => exact xsw_obj (ci := 7) rfl (fun j hj => by
      match j, hj with
      | 0, _ => rfl | 1, _ => rfl | 2, _ => rfl | 3, _ => rfl
      | k + 4, h => exact absurd h (by show ¬ k + 4 < 4; omega))
  | 44, _ => exact xsw_int rfl
  | 45, _ => exact xsw_int rfl
  | 46, _ => exact xsw_int rfl
  | 47, _ => exact xsw_obj (ci := 7) rfl (fun j hj => by
      match j, hj with
      | 0, _ => rfl | 1, _ => rfl | 2, _ => rfl | 3, _ => rfl
      | k + 4, h => exact absurd h (by show ¬ k + 4 < 4; omega))
  | 48, _ => exact xsw_int rfl
  | 49, _ => exact xsw_int rfl
  | 50, _ => exact xsw_int rfl
  | 51, _ => exact xsw_obj (ci := 7) rfl (fun j hj => by
      match j, hj with
      | 0, _ => rfl | 1, _ => rfl | 2, _ => rfl | 3, _ => rfl
      | k + 4, h => exact absurd h (by show ¬ k + 4 < 4; omega))
  | 52, _ => exact xsw_int rfl
  | 53, _ => exact xsw_int rfl
  | 54, _ => exact xsw_int rfl
  | 55, _ => exact xsw_obj (ci := 7) rfl (fun j hj => by
      match j, hj with
      | 0, _ => rfl | 1, _ => rfl | 2, _ => rfl | 3, _ => rfl
      | k + 4, h => exact absurd h (by show ¬ k + 4 < 4; omega))
  | 56, _ => exact xsw_int rfl
  | 57, _ => exact xsw_int rfl
  | 58, _ => exact xsw_int rfl
  | 59, _ => exact xsw_obj (ci := 7) rfl (fun j hj => by
      match j, hj with
      | 0, _ => rfl | 1, _ => rfl | 2, _ => rfl | 3, _ => rfl
      | k + 4, h => exact absurd h (by show ¬ k + 4 < 4; omega))
  | 60, _ => exact xsw_int rfl
  | 61, _ => exact xsw_int rfl
  | 62, _ => exact xsw_int rfl
  | 63, _ => exact xsw_obj (ci := 6) rfl (fun j hj => by
      match j, hj with
      | 0, _ => rfl | 1, _ => rfl | 2, _ => rfl
      | k + 3, h => exact absurd h (by show ¬ k + 3 < 3; omega))
  | 64, _ => exact xsw_int rfl
  | 65, _ => exact xsw_obj (ci := 6) rfl (fun j hj => by
      match j, hj with
      | 0, _ => rfl | 1, _ => rfl | 2, _ => rfl
      | k + 3, h => exact absurd h (by show ¬ k + 3 < 3; omega))
  | 66, _ => exact xsw_int rfl
  | 67, _ => exact xsw_obj (ci := 6) rfl (fun j hj => by
      match j, hj with
      | 0, _ => rfl | 1, _ => rfl | 2, _ => rfl
      | k + 3, h => exact absurd h (by show ¬ k + 3 < 3; omega))
  | 68, _ => exact xsw_int rfl
  | 69, _ => exact xsw_obj (ci := 6) rfl (fun j hj => by
      match j, hj with
      | 0, _ => rfl | 1, _ => rfl | 2, _ => rfl
      | k + 3, h => exact absurd h (by show ¬ k + 3 < 3; omega))
  | 70, _ => exact xsw_int rfl
  | k + 71, h => omega
set_option maxRecDepth 20000 in
theorem xswM {G : xG} (w : xI) : ∀ i, i < 102 → xcell G (102, 7041, xSH, xr_106) w i = xcell G (xFin 102 7041) w i := by
  intro i hi
  match i, hi with
  | 0, _ => exact xsw_all rfl
  | 1, _ => exact xsw_all rfl
  | 2, _ => exact xsw_all rfl
  | 3, _ => exact xsw_all rfl
  | 4, _ => exact xsw_all rfl
  | 5, _ => exact xsw_all rfl
  | 6, _ => exact xsw_all rfl
  | 7, _ => exact xsw_all rfl
  | 8, _ => exact xsw_all rfl
  | 9, _ => exact xsw_all rfl
  | 10, _ => exact xsw_all rfl
  | 11, _ => exact xsw_all rfl
  | 12, _ => exact xsw_all rfl
  | 13, _ => exact xsw_all rfl
  | 14, _ => exact xsw_all rfl
  | 15, _ => exact xsw_all rfl
  | 16, _ => exact xsw_all rfl
  | 17, _ => exact xsw_all rfl
  | 18, _ => exact xsw_all rfl
  | 19, _ => exact xsw_all rfl
  | 20, _ => exact xsw_all rfl
  | 21, _ => exact xsw_all rfl
  | 22, _ => exact xsw_all rfl
  | 23, _ => exact xsw_all rfl
  | 24, _ => exact xsw_all rfl
  | 25, _ => exact xsw_all rfl
  | 26, _ => exact xsw_all rfl
  | 27, _ => exact xsw_all rfl
  | 28, _ => exact xsw_all rfl
  | 29, _ => exact xsw_all rfl
  | 30, _ => exact xsw_all rfl
  | 31, _ => exact xsw_all rfl
  | 32, _ => exact xsw_all rfl
  | 33, _ => exact xsw_all rfl
  | 34, _ => exact xsw_all rfl
  | 35, _ => exact xsw_all rfl
  | 36, _ => exact xsw_all rfl
  | 37, _ => exact xsw_all rfl
  | 38, _ => exact xsw_all rfl
  | 39, _ => exact xsw_all rfl
  | 40, _ => exact xsw_all rfl
  | 41, _ => exact xsw_all rfl
  | 42, _ => exact xsw_all rfl
  | 43, _ => exact xsw_all rfl
  | 44, _ => exact xsw_all rfl
  | 45, _ => exact xsw_all rfl
  | 46, _ => exact xsw_all rfl
  | 47, _ => exact xsw_all rfl
  | 48, _ => exact xsw_all rfl
  | 49, _ => exact xsw_all rfl
  | 50, _ => exact xsw_all rfl
  | 51, _ => exact xsw_all rfl
  | 52, _ => exact xsw_all rfl
  | 53, _ => exact xsw_all rfl
  | 54, _ => exact xsw_all rfl
  | 55, _ => exact xsw_all rfl
  | 56, _ => exact xsw_all rfl
  | 57, _ => exact xsw_all rfl
  | 58, _ => exact xsw_all rfl
  | 59, _ => exact xsw_all rfl
  | 60, _ => exact xsw_all rfl
  | 61, _ => exact xsw_all rfl
  | 62, _ => exact xsw_all rfl
  | 63, _ => exact xsw_all rfl
  | 64, _ => exact xsw_all rfl
  | 65, _ => exact xsw_all rfl
  | 66, _ => exact xsw_all rfl
  | 67, _ => exact xsw_all rfl
  | 68, _ => exact xsw_all rfl
  | 69, _ => exact xsw_all rfl
  | 70, _ => exact xsw_all rfl
  | 71, _ => exact xsw_obj (ci := 11) rfl (fun j hj => by
      match j, hj with
      | 0, _ => rfl | 1, _ => rfl | 2, _ => rfl | 3, _ => rfl | 4, _ => rfl | 5, _ => rfl | 6, _ => rfl | 7, _ => rfl | 8, _ => rfl | 9, _ => rfl | 10, _ => rfl | 11, _ => rfl | 12, _ => rfl | 13, _ => rfl | 14, _ => rfl | 15, _ => rfl | 16, _ => rfl | 17, _ => rfl | 18, _ => rfl | 19, _ => rfl | 20, _ => rfl | 21, _ => rfl | 22, _ => rfl | 23, _ => rfl | 24, _ => rfl | 25, _ => rfl | 26, _ => rfl | 27, _ => rfl | 28, _ => rfl | 29, _ => rfl | 30, _ => rfl | 31, _ => rfl | 32, _ => rfl | 33, _ => rfl | 34, _ => rfl | 35, _ => rfl | 36, _ => rfl | 37, _ => rfl | 38, _ => rfl | 39, _ => rfl | 40, _ => rfl | 41, _ => rfl | 42, _ => rfl | 43, _ => rfl | 44, _ => rfl | 45, _ => rfl | 46, _ => rfl | 47, _ => rfl | 48, _ => rfl | 49, _ => rfl | 50, _ => rfl | 51, _ => rfl | 52, _ => rfl | 53, _ => rfl | 54, _ => rfl | 55, _ => rfl | 56, _ => rfl | 57, _ => rfl | 58, _ => rfl | 59, _ => rfl | 60, _ => rfl
      | k + 61, h => exact absurd h (by show ¬ k + 61 < 61; omega))
  | 72, _ => exact xsw_int rfl
  | 73, _ => exact xsw_int rfl
  | 74, _ => exact xsw_int rfl
  | 75, _ => exact xsw_int rfl
  | 76, _ => exact xsw_int rfl
  | 77, _ => exact xsw_int rfl
  | 78, _ => exact xsw_int rfl
  | 79, _ => exact xsw_int rfl
  | 80, _ => exact xsw_int rfl
  | 81, _ => exact xsw_int rfl
  | 82, _ => exact xsw_int rfl
  | 83, _ => exact xsw_int rfl
  | 84, _ => exact xsw_int rfl
  | 85, _ => exact xsw_int rfl
  | 86, _ => exact xsw_int rfl
  | 87, _ => exact xsw_int rfl
  | 88, _ => exact xsw_int rfl
  | 89, _ => exact xsw_int rfl
  | 90, _ => exact xsw_int rfl
  | 91, _ => exact xsw_int rfl
  | 92, _ => exact xsw_int rfl
  | 93, _ => exact xsw_int rfl
  | 94, _ => exact xsw_int rfl
  | 95, _ => exact xsw_int rfl
  | 96, _ => exact xsw_int rfl
  | 97, _ => exact xsw_int rfl
  | 98, _ => exact xsw_int rfl
  | 99, _ => exact xsw_int rfl
  | 100, _ => exact xsw_int rfl
  | 101, _ => exact xsw_int rfl
  | k + 102, h => omega
set_option maxRecDepth 20000 in
set_option maxHeartbeats 4000000 in
theorem pg_1 {G : xG} {d : Nat} (hd : 40 ≤ d) (w : xI) : xMet G m_X5_init d [.ref 1] (2, 16, xSH, xr_0) w (fun _ : Unit => none) (5, 1024, xSH, xr_3) (g_1 w) := by
  refine xMet.of rfl (Nat.le_of_ble_eq_true rfl) ?_
  unfold g_1
  show xC G m_X5_init d 0 [(0, .ref 1)] [] (2, 16, xSH, xr_0) w _ _ _
  refine y_aload_n dX5_init_0 rfl 0 rfl ?_
  refine y_obj dX5_init_1 q33 (Nat.le_of_ble_eq_true rfl) (by omega) ?_
  refine y_aload_n dX5_init_4 rfl 0 rfl ?_
  refine y_iconst (v := 3) dX5_init_5 (by decide) ?_
  refine y_newa (N := 3) dX5_init_6 q65 (by decide) rfl (by decide) rfl ?_
  show xC G m_X5_init d 8 [(0, .ref 1)] [.ref 2, .ref 1] (3, 19, xSH, xr_0) _ _ _ _
  refine y_dup dX5_init_8 rfl ?_
  refine y_iconst (v := 0) dX5_init_9 (by decide) ?_
  refine y_iconst (v := 1) dX5_init_10 (by decide) ?_
  refine z_iast0 (j := 0) dX5_init_11 (Nat.le_of_ble_eq_true rfl) rfl rfl rfl ?_
  refine y_dup dX5_init_12 rfl ?_
  refine y_iconst (v := 1) dX5_init_13 (by decide) ?_
  refine y_iconst (v := 1) dX5_init_14 (by decide) ?_
  refine z_iast0 (j := 1) dX5_init_15 (Nat.le_of_ble_eq_true rfl) rfl rfl rfl ?_
  refine y_dup dX5_init_16 rfl ?_
  refine y_iconst (v := 2) dX5_init_17 (by decide) ?_
  refine y_iconst (v := 0) dX5_init_18 (by decide) ?_
  refine z_iast0 (j := 2) dX5_init_19 (Nat.le_of_ble_eq_true rfl) rfl rfl rfl ?_
  refine y_putF dX5_init_20 flX5_9 rfl (fun _ _ _ h => by cases h; rfl) (Nat.le_of_ble_eq_true rfl) rfl rfl ?_
  show xC G m_X5_init d 23 [(0, .ref 1)] [] (3, 19, xSH, xr_1) _ _ _ _
  refine y_aload_n dX5_init_23 rfl 0 rfl ?_
  refine y_iconst (v := 5) dX5_init_24 (by decide) ?_
  refine y_newa (N := 5) dX5_init_25 q65 (by decide) rfl (by decide) rfl ?_
  show xC G m_X5_init d 27 [(0, .ref 1)] [.ref 3, .ref 1] (4, 24, xSH, xr_1) _ _ _ _
  refine y_putF dX5_init_27 flX5_15 rfl (fun _ _ _ h => by cases h; rfl) (Nat.le_of_ble_eq_true rfl) rfl rfl ?_
  show xC G m_X5_init d 30 [(0, .ref 1)] [] (4, 24, xSH, xr_2) _ _ _ _
  refine y_aload_n dX5_init_30 rfl 0 rfl ?_
  refine y_sipush (v := 1000) dX5_init_31 (by decide) ?_
  refine y_newa (N := 1000) dX5_init_34 q65 (by decide) rfl (by decide) rfl ?_
  show xC G m_X5_init d 36 [(0, .ref 1)] [.ref 4, .ref 1] (5, 1024, xSH, xr_2) _ _ _ _
  refine y_putF dX5_init_36 flX5_18 rfl (fun _ _ _ h => by cases h; rfl) (Nat.le_of_ble_eq_true rfl) rfl rfl ?_
  show xC G m_X5_init d 39 [(0, .ref 1)] [] (5, 1024, xSH, xr_3) _ _ _ _
  refine y_aload_n dX5_init_39 rfl 0 rfl ?_
  refine y_callV (As := []) (d2 := d - 1) dX5_init_40 kX5_21 (by omega) rfl rfl (Nat.le_of_ble_eq_true rfl) (Nat.le_of_ble_eq_true rfl) rfl rfl (p_X5_layAll (Nat.le_of_ble_eq_true rfl) rfl (fun _ => rfl) (fun _ => rfl) (by omega) _) (fun _ w1 _ => ?_)
  exact y_return dX5_init_43 rfl rfl
set_option maxRecDepth 20000 in
set_option maxHeartbeats 4000000 in
theorem pg_8 {G : xG} {d : Nat} (hd : 1 ≤ d) (w : xI) : xMet G m_X0_init d [.ref 8] (9, 1052, xSH, xr_6) w (fun _ : Unit => none) (9, 1052, xSH, xr_6) (g_8 w) := by
  refine xMet.of rfl (Nat.le_of_ble_eq_true rfl) ?_
  unfold g_8
  show xC G m_X0_init d 0 [(0, .ref 8)] [] (9, 1052, xSH, xr_6) w _ _ _
  refine y_aload_n dX0_init_0 rfl 0 rfl ?_
  refine y_obj dX0_init_1 q78 (Nat.le_of_ble_eq_true rfl) (by omega) ?_
  exact y_return dX0_init_4 rfl rfl
set_option maxRecDepth 20000 in
set_option maxHeartbeats 4000000 in
theorem pg_9 {G : xG} {d : Nat} (hd : 1 ≤ d) (w : xI) : xMet G m_X0_init d [.ref 9] (10, 1057, xSH, xr_7) w (fun _ : Unit => none) (10, 1057, xSH, xr_7) (g_9 w) := by
  refine xMet.of rfl (Nat.le_of_ble_eq_true rfl) ?_
  unfold g_9
  show xC G m_X0_init d 0 [(0, .ref 9)] [] (10, 1057, xSH, xr_7) w _ _ _
  refine y_aload_n dX0_init_0 rfl 0 rfl ?_
  refine y_obj dX0_init_1 q78 (Nat.le_of_ble_eq_true rfl) (by omega) ?_
  exact y_return dX0_init_4 rfl rfl
set_option maxRecDepth 20000 in
set_option maxHeartbeats 4000000 in
theorem pg_10 {G : xG} {d : Nat} (hd : 1 ≤ d) (w : xI) : xMet G m_X0_init d [.ref 10] (11, 1062, xSH, xr_8) w (fun _ : Unit => none) (11, 1062, xSH, xr_8) (g_10 w) := by
  refine xMet.of rfl (Nat.le_of_ble_eq_true rfl) ?_
  unfold g_10
  show xC G m_X0_init d 0 [(0, .ref 10)] [] (11, 1062, xSH, xr_8) w _ _ _
  refine y_aload_n dX0_init_0 rfl 0 rfl ?_
  refine y_obj dX0_init_1 q78 (Nat.le_of_ble_eq_true rfl) (by omega) ?_
  exact y_return dX0_init_4 rfl rfl
set_option maxRecDepth 20000 in
set_option maxHeartbeats 4000000 in
theorem pg_11 {G : xG} {d : Nat} (hd : 1 ≤ d) (w : xI) : xMet G m_X0_init d [.ref 11] (12, 1067, xSH, xr_9) w (fun _ : Unit => none) (12, 1067, xSH, xr_9) (g_11 w) := by
  refine xMet.of rfl (Nat.le_of_ble_eq_true rfl) ?_
  unfold g_11
  show xC G m_X0_init d 0 [(0, .ref 11)] [] (12, 1067, xSH, xr_9) w _ _ _
  refine y_aload_n dX0_init_0 rfl 0 rfl ?_
  refine y_obj dX0_init_1 q78 (Nat.le_of_ble_eq_true rfl) (by omega) ?_
  exact y_return dX0_init_4 rfl rfl
set_option maxRecDepth 20000 in
set_option maxHeartbeats 4000000 in
theorem pg_12 {G : xG} {d : Nat} (hd : 1 ≤ d) (w : xI) : xMet G m_X0_init d [.ref 12] (13, 1072, xSH, xr_10) w (fun _ : Unit => none) (13, 1072, xSH, xr_10) (g_12 w) := by
  refine xMet.of rfl (Nat.le_of_ble_eq_true rfl) ?_
  unfold g_12
  show xC G m_X0_init d 0 [(0, .ref 12)] [] (13, 1072, xSH, xr_10) w _ _ _
  refine y_aload_n dX0_init_0 rfl 0 rfl ?_
  refine y_obj dX0_init_1 q78 (Nat.le_of_ble_eq_true rfl) (by omega) ?_
  exact y_return dX0_init_4 rfl rfl
set_option maxRecDepth 20000 in
set_option maxHeartbeats 4000000 in
theorem pg_13 {G : xG} {d : Nat} (hd : 1 ≤ d) (w : xI) : xMet G m_X0_init d [.ref 13] (14, 1077, xSH, xr_11) w (fun _ : Unit => none) (14, 1077, xSH, xr_11) (g_13 w) := by
  refine xMet.of rfl (Nat.le_of_ble_eq_true rfl) ?_
  unfold g_13
  show xC G m_X0_init d 0 [(0, .ref 13)] [] (14, 1077, xSH, xr_11) w _ _ _
  refine y_aload_n dX0_init_0 rfl 0 rfl ?_
  refine y_obj dX0_init_1 q78 (Nat.le_of_ble_eq_true rfl) (by omega) ?_
  exact y_return dX0_init_4 rfl rfl
set_option maxRecDepth 20000 in
set_option maxHeartbeats 4000000 in
theorem pg_14 {G : xG} {d : Nat} (hd : 1 ≤ d) (w : xI) : xMet G m_X0_init d [.ref 14] (15, 1082, xSH, xr_12) w (fun _ : Unit => none) (15, 1082, xSH, xr_12) (g_14 w) := by
  refine xMet.of rfl (Nat.le_of_ble_eq_true rfl) ?_
  unfold g_14
  show xC G m_X0_init d 0 [(0, .ref 14)] [] (15, 1082, xSH, xr_12) w _ _ _
  refine y_aload_n dX0_init_0 rfl 0 rfl ?_
  refine y_obj dX0_init_1 q78 (Nat.le_of_ble_eq_true rfl) (by omega) ?_
  exact y_return dX0_init_4 rfl rfl
set_option maxRecDepth 20000 in
set_option maxHeartbeats 4000000 in
theorem pg_15 {G : xG} {d : Nat} (hd : 1 ≤ d) (w : xI) : xMet G m_X0_init d [.ref 15] (16, 1087, xSH, xr_13) w (fun _ : Unit => none) (16, 1087, xSH, xr_13) (g_15 w) := by
  refine xMet.of rfl (Nat.le_of_ble_eq_true rfl) ?_
  unfold g_15
  show xC G m_X0_init d 0 [(0, .ref 15)] [] (16, 1087, xSH, xr_13) w _ _ _
  refine y_aload_n dX0_init_0 rfl 0 rfl ?_
  refine y_obj dX0_init_1 q78 (Nat.le_of_ble_eq_true rfl) (by omega) ?_
  exact y_return dX0_init_4 rfl rfl
set_option maxRecDepth 20000 in
set_option maxHeartbeats 4000000 in
theorem pg_16 {G : xG} {d : Nat} (hd : 1 ≤ d) (w : xI) : xMet G m_X0_init d [.ref 16] (17, 1092, xSH, xr_14) w (fun _ : Unit => none) (17, 1092, xSH, xr_14) (g_16 w) := by
  refine xMet.of rfl (Nat.le_of_ble_eq_true rfl) ?_
  unfold g_16
  show xC G m_X0_init d 0 [(0, .ref 16)] [] (17, 1092, xSH, xr_14) w _ _ _
  refine y_aload_n dX0_init_0 rfl 0 rfl ?_
  refine y_obj dX0_init_1 q78 (Nat.le_of_ble_eq_true rfl) (by omega) ?_
  exact y_return dX0_init_4 rfl rfl
set_option maxRecDepth 20000 in
set_option maxHeartbeats 4000000 in
theorem pg_17 {G : xG} {d : Nat} (hd : 1 ≤ d) (w : xI) : xMet G m_X0_init d [.ref 17] (18, 1097, xSH, xr_15) w (fun _ : Unit => none) (18, 1097, xSH, xr_15) (g_17 w) := by
  refine xMet.of rfl (Nat.le_of_ble_eq_true rfl) ?_
  unfold g_17
  show xC G m_X0_init d 0 [(0, .ref 17)] [] (18, 1097, xSH, xr_15) w _ _ _
  refine y_aload_n dX0_init_0 rfl 0 rfl ?_
  refine y_obj dX0_init_1 q78 (Nat.le_of_ble_eq_true rfl) (by omega) ?_
  exact y_return dX0_init_4 rfl rfl
set_option maxRecDepth 20000 in
set_option maxHeartbeats 4000000 in
theorem pg_5 {G : xG} {d : Nat} (hd : 2 ≤ d) (w : xI) : xMet G m_X9_init d [.ref 5] (6, 1027, xSH, xr_4) w (fun _ : Unit => none) (18, 1097, xSH, xr_16) (g_5 w) := by
  refine xMet.of rfl (Nat.le_of_ble_eq_true rfl) ?_
  unfold g_5
  show xC G m_X9_init d 0 [(0, .ref 5)] [] (6, 1027, xSH, xr_4) w _ _ _
  refine y_aload_n dX9_init_0 rfl 0 rfl ?_
  refine y_obj dX9_init_1 q71 (Nat.le_of_ble_eq_true rfl) (by omega) ?_
  refine y_aload_n dX9_init_4 rfl 0 rfl ?_
  refine y_bipush (v := 10) dX9_init_5 (by decide) ?_
  refine y_newq (t := 2) (N := 10) dX9_init_7 q72 (fun G s h => by obtain ⟨-, -, -, -, -, -, -, -, h9, h10, h11⟩ := h; exact h11) rfl (by decide) rfl (by decide) rfl (fun _ _ => rfl) ?_
  show xC G m_X9_init d 10 [(0, .ref 5)] [.ref 6, .ref 5] (7, 1037, xSH, xr_4) _ _ _ _
  refine y_putF dX9_init_10 flX9_11 rfl (fun _ _ _ h => by cases h; rfl) (Nat.le_of_ble_eq_true rfl) rfl rfl ?_
  show xC G m_X9_init d 13 [(0, .ref 5)] [] (7, 1037, xSH, xr_5) _ _ _ _
  refine y_aload_n dX9_init_13 rfl 0 rfl ?_
  refine y_bipush (v := 10) dX9_init_14 (by decide) ?_
  refine y_newa (N := 10) dX9_init_16 q65 (by decide) rfl (by decide) rfl ?_
  show xC G m_X9_init d 18 [(0, .ref 5)] [.ref 7, .ref 5] (8, 1047, xSH, xr_5) _ _ _ _
  refine y_putF dX9_init_18 flX9_17 rfl (fun _ _ _ h => by cases h; rfl) (Nat.le_of_ble_eq_true rfl) rfl rfl ?_
  show xC G m_X9_init d 21 [(0, .ref 5)] [] (8, 1047, xSH, xr_6) _ _ _ _
  refine y_iconst (v := 0) dX9_init_21 (by decide) ?_
  refine y_istore_n (lv' := [(1, .int (0 : Int32)), (0, .ref 5)]) dX9_init_22 rfl (by decide) rfl ?_
  refine y_iload_n dX9_init_23 rfl 0 rfl ?_
  refine y_bipush (v := 10) dX9_init_24 (by decide) ?_
  refine y_icmp_geF (tgt := 48) (by decide) dX9_init_26 (by decide) ?_
  refine y_aload_n dX9_init_29 rfl 1 rfl ?_
  refine y_getr (q := 6) dX9_init_30 flX9_11 (Nat.le_of_ble_eq_true rfl) rfl rfl rfl ?_
  refine y_iload_n dX9_init_33 rfl 0 rfl ?_
  refine y_new (ci := 0) (N := 5) dX9_init_34 q72 q74 q5 rfl inX0 rfl tyX0_ok rfl (fun _ _ => rfl) hdefX0 ?_
  show xC G m_X9_init d 37 [(1, .int (0 : Int32)), (0, .ref 5)] [.ref 8, .int (0 : Int32), .ref 6] (9, 1052, xSH, xr_6) _ _ _ _
  refine y_dup dX9_init_37 rfl ?_
  refine y_callI (As := []) (d2 := d - 1) dX9_init_38 kX9_21 (by omega) rfl rfl (Nat.le_of_ble_eq_true rfl) (Nat.le_of_ble_eq_true rfl) (pg_8 (by omega) _) (fun _ w1 h2 => ?_)
  show xC G m_X9_init d 41 [(1, .int (0 : Int32)), (0, .ref 5)] [.ref 8, .int (0 : Int32), .ref 6] (9, 1052, xSH, xr_6) _ _ _ _
  refine y_aast (t := 2) (ci := 0) dX9_init_41 (Nat.le_of_ble_eq_true rfl) rfl rfl (Nat.le_of_ble_eq_true rfl) rfl rfl rfl ?_
  show xC G m_X9_init d 42 [(1, .int (0 : Int32)), (0, .ref 5)] [] (9, 1052, xSH, xr_7) _ _ _ _
  refine y_iinc (j := 0) (v := 1) (lv' := [(1, .int (1 : Int32)), (0, .ref 5)]) dX9_init_42 (by decide) rfl (by decide) rfl ?_
  refine y_goto (tgt := 23) dX9_init_45 (by decide) ?_
  refine y_iload_n dX9_init_23 rfl 0 rfl ?_
  refine y_bipush (v := 10) dX9_init_24 (by decide) ?_
  refine y_icmp_geF (tgt := 48) (by decide) dX9_init_26 (by decide) ?_
  refine y_aload_n dX9_init_29 rfl 1 rfl ?_
  refine y_getr (q := 6) dX9_init_30 flX9_11 (Nat.le_of_ble_eq_true rfl) rfl rfl rfl ?_
  refine y_iload_n dX9_init_33 rfl 0 rfl ?_
  refine y_new (ci := 0) (N := 5) dX9_init_34 q72 q74 q5 rfl inX0 rfl tyX0_ok rfl (fun _ _ => rfl) hdefX0 ?_
  show xC G m_X9_init d 37 [(1, .int (1 : Int32)), (0, .ref 5)] [.ref 9, .int (1 : Int32), .ref 6] (10, 1057, xSH, xr_7) _ _ _ _
  refine y_dup dX9_init_37 rfl ?_
  refine y_callI (As := []) (d2 := d - 1) dX9_init_38 kX9_21 (by omega) rfl rfl (Nat.le_of_ble_eq_true rfl) (Nat.le_of_ble_eq_true rfl) (pg_9 (by omega) _) (fun _ w3 h4 => ?_)
  show xC G m_X9_init d 41 [(1, .int (1 : Int32)), (0, .ref 5)] [.ref 9, .int (1 : Int32), .ref 6] (10, 1057, xSH, xr_7) _ _ _ _
  refine y_aast (t := 2) (ci := 0) dX9_init_41 (Nat.le_of_ble_eq_true rfl) rfl rfl (Nat.le_of_ble_eq_true rfl) rfl rfl rfl ?_
  show xC G m_X9_init d 42 [(1, .int (1 : Int32)), (0, .ref 5)] [] (10, 1057, xSH, xr_8) _ _ _ _
  refine y_iinc (j := 0) (v := 2) (lv' := [(1, .int (2 : Int32)), (0, .ref 5)]) dX9_init_42 (by decide) rfl (by decide) rfl ?_
  refine y_goto (tgt := 23) dX9_init_45 (by decide) ?_
  refine y_iload_n dX9_init_23 rfl 0 rfl ?_
  refine y_bipush (v := 10) dX9_init_24 (by decide) ?_
  refine y_icmp_geF (tgt := 48) (by decide) dX9_init_26 (by decide) ?_
  refine y_aload_n dX9_init_29 rfl 1 rfl ?_
  refine y_getr (q := 6) dX9_init_30 flX9_11 (Nat.le_of_ble_eq_true rfl) rfl rfl rfl ?_
  refine y_iload_n dX9_init_33 rfl 0 rfl ?_
  refine y_new (ci := 0) (N := 5) dX9_init_34 q72 q74 q5 rfl inX0 rfl tyX0_ok rfl (fun _ _ => rfl) hdefX0 ?_
  show xC G m_X9_init d 37 [(1, .int (2 : Int32)), (0, .ref 5)] [.ref 10, .int (2 : Int32), .ref 6] (11, 1062, xSH, xr_8) _ _ _ _
  refine y_dup dX9_init_37 rfl ?_
  refine y_callI (As := []) (d2 := d - 1) dX9_init_38 kX9_21 (by omega) rfl rfl (Nat.le_of_ble_eq_true rfl) (Nat.le_of_ble_eq_true rfl) (pg_10 (by omega) _) (fun _ w5 h6 => ?_)
  show xC G m_X9_init d 41 [(1, .int (2 : Int32)), (0, .ref 5)] [.ref 10, .int (2 : Int32), .ref 6] (11, 1062, xSH, xr_8) _ _ _ _
  refine y_aast (t := 2) (ci := 0) dX9_init_41 (Nat.le_of_ble_eq_true rfl) rfl rfl (Nat.le_of_ble_eq_true rfl) rfl rfl rfl ?_
  show xC G m_X9_init d 42 [(1, .int (2 : Int32)), (0, .ref 5)] [] (11, 1062, xSH, xr_9) _ _ _ _
  refine y_iinc (j := 0) (v := 3) (lv' := [(1, .int (3 : Int32)), (0, .ref 5)]) dX9_init_42 (by decide) rfl (by decide) rfl ?_
  refine y_goto (tgt := 23) dX9_init_45 (by decide) ?_
  refine y_iload_n dX9_init_23 rfl 0 rfl ?_
  refine y_bipush (v := 10) dX9_init_24 (by decide) ?_
  refine y_icmp_geF (tgt := 48) (by decide) dX9_init_26 (by decide) ?_
  refine y_aload_n dX9_init_29 rfl 1 rfl ?_
  refine y_getr (q := 6) dX9_init_30 flX9_11 (Nat.le_of_ble_eq_true rfl) rfl rfl rfl ?_
  refine y_iload_n dX9_init_33 rfl 0 rfl ?_
  refine y_new (ci := 0) (N := 5) dX9_init_34 q72 q74 q5 rfl inX0 rfl tyX0_ok rfl (fun _ _ => rfl) hdefX0 ?_
  show xC G m_X9_init d 37 [(1, .int (3 : Int32)), (0, .ref 5)] [.ref 11, .int (3 : Int32), .ref 6] (12, 1067, xSH, xr_9) _ _ _ _
  refine y_dup dX9_init_37 rfl ?_
  refine y_callI (As := []) (d2 := d - 1) dX9_init_38 kX9_21 (by omega) rfl rfl (Nat.le_of_ble_eq_true rfl) (Nat.le_of_ble_eq_true rfl) (pg_11 (by omega) _) (fun _ w7 h8 => ?_)
  show xC G m_X9_init d 41 [(1, .int (3 : Int32)), (0, .ref 5)] [.ref 11, .int (3 : Int32), .ref 6] (12, 1067, xSH, xr_9) _ _ _ _
  refine y_aast (t := 2) (ci := 0) dX9_init_41 (Nat.le_of_ble_eq_true rfl) rfl rfl (Nat.le_of_ble_eq_true rfl) rfl rfl rfl ?_
  show xC G m_X9_init d 42 [(1, .int (3 : Int32)), (0, .ref 5)] [] (12, 1067, xSH, xr_10) _ _ _ _
  refine y_iinc (j := 0) (v := 4) (lv' := [(1, .int (4 : Int32)), (0, .ref 5)]) dX9_init_42 (by decide) rfl (by decide) rfl ?_
  refine y_goto (tgt := 23) dX9_init_45 (by decide) ?_
  refine y_iload_n dX9_init_23 rfl 0 rfl ?_
  refine y_bipush (v := 10) dX9_init_24 (by decide) ?_
  refine y_icmp_geF (tgt := 48) (by decide) dX9_init_26 (by decide) ?_
  refine y_aload_n dX9_init_29 rfl 1 rfl ?_
  refine y_getr (q := 6) dX9_init_30 flX9_11 (Nat.le_of_ble_eq_true rfl) rfl rfl rfl ?_
  refine y_iload_n dX9_init_33 rfl 0 rfl ?_
  refine y_new (ci := 0) (N := 5) dX9_init_34 q72 q74 q5 rfl inX0 rfl tyX0_ok rfl (fun _ _ => rfl) hdefX0 ?_
  show xC G m_X9_init d 37 [(1, .int (4 : Int32)), (0, .ref 5)] [.ref 12, .int (4 : Int32), .ref 6] (13, 1072, xSH, xr_10) _ _ _ _
  refine y_dup dX9_init_37 rfl ?_
  refine y_callI (As := []) (d2 := d - 1) dX9_init_38 kX9_21 (by omega) rfl rfl (Nat.le_of_ble_eq_true rfl) (Nat.le_of_ble_eq_true rfl) (pg_12 (by omega) _) (fun _ w9 h10 => ?_)
  show xC G m_X9_init d 41 [(1, .int (4 : Int32)), (0, .ref 5)] [.ref 12, .int (4 : Int32), .ref 6] (13, 1072, xSH, xr_10) _ _ _ _
  refine y_aast (t := 2) (ci := 0) dX9_init_41 (Nat.le_of_ble_eq_true rfl) rfl rfl (Nat.le_of_ble_eq_true rfl) rfl rfl rfl ?_
  show xC G m_X9_init d 42 [(1, .int (4 : Int32)), (0, .ref 5)] [] (13, 1072, xSH, xr_11) _ _ _ _
  refine y_iinc (j := 0) (v := 5) (lv' := [(1, .int (5 : Int32)), (0, .ref 5)]) dX9_init_42 (by decide) rfl (by decide) rfl ?_
  refine y_goto (tgt := 23) dX9_init_45 (by decide) ?_
  refine y_iload_n dX9_init_23 rfl 0 rfl ?_
  refine y_bipush (v := 10) dX9_init_24 (by decide) ?_
  refine y_icmp_geF (tgt := 48) (by decide) dX9_init_26 (by decide) ?_
  refine y_aload_n dX9_init_29 rfl 1 rfl ?_
  refine y_getr (q := 6) dX9_init_30 flX9_11 (Nat.le_of_ble_eq_true rfl) rfl rfl rfl ?_
  refine y_iload_n dX9_init_33 rfl 0 rfl ?_
  refine y_new (ci := 0) (N := 5) dX9_init_34 q72 q74 q5 rfl inX0 rfl tyX0_ok rfl (fun _ _ => rfl) hdefX0 ?_
  show xC G m_X9_init d 37 [(1, .int (5 : Int32)), (0, .ref 5)] [.ref 13, .int (5 : Int32), .ref 6] (14, 1077, xSH, xr_11) _ _ _ _
  refine y_dup dX9_init_37 rfl ?_
  refine y_callI (As := []) (d2 := d - 1) dX9_init_38 kX9_21 (by omega) rfl rfl (Nat.le_of_ble_eq_true rfl) (Nat.le_of_ble_eq_true rfl) (pg_13 (by omega) _) (fun _ w11 h12 => ?_)
  show xC G m_X9_init d 41 [(1, .int (5 : Int32)), (0, .ref 5)] [.ref 13, .int (5 : Int32), .ref 6] (14, 1077, xSH, xr_11) _ _ _ _
  refine y_aast (t := 2) (ci := 0) dX9_init_41 (Nat.le_of_ble_eq_true rfl) rfl rfl (Nat.le_of_ble_eq_true rfl) rfl rfl rfl ?_
  show xC G m_X9_init d 42 [(1, .int (5 : Int32)), (0, .ref 5)] [] (14, 1077, xSH, xr_12) _ _ _ _
  refine y_iinc (j := 0) (v := 6) (lv' := [(1, .int (6 : Int32)), (0, .ref 5)]) dX9_init_42 (by decide) rfl (by decide) rfl ?_
  refine y_goto (tgt := 23) dX9_init_45 (by decide) ?_
  refine y_iload_n dX9_init_23 rfl 0 rfl ?_
  refine y_bipush (v := 10) dX9_init_24 (by decide) ?_
  refine y_icmp_geF (tgt := 48) (by decide) dX9_init_26 (by decide) ?_
  refine y_aload_n dX9_init_29 rfl 1 rfl ?_
  refine y_getr (q := 6) dX9_init_30 flX9_11 (Nat.le_of_ble_eq_true rfl) rfl rfl rfl ?_
  refine y_iload_n dX9_init_33 rfl 0 rfl ?_
  refine y_new (ci := 0) (N := 5) dX9_init_34 q72 q74 q5 rfl inX0 rfl tyX0_ok rfl (fun _ _ => rfl) hdefX0 ?_
  show xC G m_X9_init d 37 [(1, .int (6 : Int32)), (0, .ref 5)] [.ref 14, .int (6 : Int32), .ref 6] (15, 1082, xSH, xr_12) _ _ _ _
  refine y_dup dX9_init_37 rfl ?_
  refine y_callI (As := []) (d2 := d - 1) dX9_init_38 kX9_21 (by omega) rfl rfl (Nat.le_of_ble_eq_true rfl) (Nat.le_of_ble_eq_true rfl) (pg_14 (by omega) _) (fun _ w13 h14 => ?_)
  show xC G m_X9_init d 41 [(1, .int (6 : Int32)), (0, .ref 5)] [.ref 14, .int (6 : Int32), .ref 6] (15, 1082, xSH, xr_12) _ _ _ _
  refine y_aast (t := 2) (ci := 0) dX9_init_41 (Nat.le_of_ble_eq_true rfl) rfl rfl (Nat.le_of_ble_eq_true rfl) rfl rfl rfl ?_
  show xC G m_X9_init d 42 [(1, .int (6 : Int32)), (0, .ref 5)] [] (15, 1082, xSH, xr_13) _ _ _ _
  refine y_iinc (j := 0) (v := 7) (lv' := [(1, .int (7 : Int32)), (0, .ref 5)]) dX9_init_42 (by decide) rfl (by decide) rfl ?_
  refine y_goto (tgt := 23) dX9_init_45 (by decide) ?_
  refine y_iload_n dX9_init_23 rfl 0 rfl ?_
  refine y_bipush (v := 10) dX9_init_24 (by decide) ?_
  refine y_icmp_geF (tgt := 48) (by decide) dX9_init_26 (by decide) ?_
  refine y_aload_n dX9_init_29 rfl 1 rfl ?_
  refine y_getr (q := 6) dX9_init_30 flX9_11 (Nat.le_of_ble_eq_true rfl) rfl rfl rfl ?_
  refine y_iload_n dX9_init_33 rfl 0 rfl ?_
  refine y_new (ci := 0) (N := 5) dX9_init_34 q72 q74 q5 rfl inX0 rfl tyX0_ok rfl (fun _ _ => rfl) hdefX0 ?_
  show xC G m_X9_init d 37 [(1, .int (7 : Int32)), (0, .ref 5)] [.ref 15, .int (7 : Int32), .ref 6] (16, 1087, xSH, xr_13) _ _ _ _
  refine y_dup dX9_init_37 rfl ?_
  refine y_callI (As := []) (d2 := d - 1) dX9_init_38 kX9_21 (by omega) rfl rfl (Nat.le_of_ble_eq_true rfl) (Nat.le_of_ble_eq_true rfl) (pg_15 (by omega) _) (fun _ w15 h16 => ?_)
  show xC G m_X9_init d 41 [(1, .int (7 : Int32)), (0, .ref 5)] [.ref 15, .int (7 : Int32), .ref 6] (16, 1087, xSH, xr_13) _ _ _ _
  refine y_aast (t := 2) (ci := 0) dX9_init_41 (Nat.le_of_ble_eq_true rfl) rfl rfl (Nat.le_of_ble_eq_true rfl) rfl rfl rfl ?_
  show xC G m_X9_init d 42 [(1, .int (7 : Int32)), (0, .ref 5)] [] (16, 1087, xSH, xr_14) _ _ _ _
  refine y_iinc (j := 0) (v := 8) (lv' := [(1, .int (8 : Int32)), (0, .ref 5)]) dX9_init_42 (by decide) rfl (by decide) rfl ?_
  refine y_goto (tgt := 23) dX9_init_45 (by decide) ?_
  refine y_iload_n dX9_init_23 rfl 0 rfl ?_
  refine y_bipush (v := 10) dX9_init_24 (by decide) ?_
  refine y_icmp_geF (tgt := 48) (by decide) dX9_init_26 (by decide) ?_
  refine y_aload_n dX9_init_29 rfl 1 rfl ?_
  refine y_getr (q := 6) dX9_init_30 flX9_11 (Nat.le_of_ble_eq_true rfl) rfl rfl rfl ?_
  refine y_iload_n dX9_init_33 rfl 0 rfl ?_
  refine y_new (ci := 0) (N := 5) dX9_init_34 q72 q74 q5 rfl inX0 rfl tyX0_ok rfl (fun _ _ => rfl) hdefX0 ?_
  show xC G m_X9_init d 37 [(1, .int (8 : Int32)), (0, .ref 5)] [.ref 16, .int (8 : Int32), .ref 6] (17, 1092, xSH, xr_14) _ _ _ _
  refine y_dup dX9_init_37 rfl ?_
  refine y_callI (As := []) (d2 := d - 1) dX9_init_38 kX9_21 (by omega) rfl rfl (Nat.le_of_ble_eq_true rfl) (Nat.le_of_ble_eq_true rfl) (pg_16 (by omega) _) (fun _ w17 h18 => ?_)
  show xC G m_X9_init d 41 [(1, .int (8 : Int32)), (0, .ref 5)] [.ref 16, .int (8 : Int32), .ref 6] (17, 1092, xSH, xr_14) _ _ _ _
  refine y_aast (t := 2) (ci := 0) dX9_init_41 (Nat.le_of_ble_eq_true rfl) rfl rfl (Nat.le_of_ble_eq_true rfl) rfl rfl rfl ?_
  show xC G m_X9_init d 42 [(1, .int (8 : Int32)), (0, .ref 5)] [] (17, 1092, xSH, xr_15) _ _ _ _
  refine y_iinc (j := 0) (v := 9) (lv' := [(1, .int (9 : Int32)), (0, .ref 5)]) dX9_init_42 (by decide) rfl (by decide) rfl ?_
  refine y_goto (tgt := 23) dX9_init_45 (by decide) ?_
  refine y_iload_n dX9_init_23 rfl 0 rfl ?_
  refine y_bipush (v := 10) dX9_init_24 (by decide) ?_
  refine y_icmp_geF (tgt := 48) (by decide) dX9_init_26 (by decide) ?_
  refine y_aload_n dX9_init_29 rfl 1 rfl ?_
  refine y_getr (q := 6) dX9_init_30 flX9_11 (Nat.le_of_ble_eq_true rfl) rfl rfl rfl ?_
  refine y_iload_n dX9_init_33 rfl 0 rfl ?_
  refine y_new (ci := 0) (N := 5) dX9_init_34 q72 q74 q5 rfl inX0 rfl tyX0_ok rfl (fun _ _ => rfl) hdefX0 ?_
  show xC G m_X9_init d 37 [(1, .int (9 : Int32)), (0, .ref 5)] [.ref 17, .int (9 : Int32), .ref 6] (18, 1097, xSH, xr_15) _ _ _ _
  refine y_dup dX9_init_37 rfl ?_
  refine y_callI (As := []) (d2 := d - 1) dX9_init_38 kX9_21 (by omega) rfl rfl (Nat.le_of_ble_eq_true rfl) (Nat.le_of_ble_eq_true rfl) (pg_17 (by omega) _) (fun _ w19 h20 => ?_)
  show xC G m_X9_init d 41 [(1, .int (9 : Int32)), (0, .ref 5)] [.ref 17, .int (9 : Int32), .ref 6] (18, 1097, xSH, xr_15) _ _ _ _
  refine y_aast (t := 2) (ci := 0) dX9_init_41 (Nat.le_of_ble_eq_true rfl) rfl rfl (Nat.le_of_ble_eq_true rfl) rfl rfl rfl ?_
  show xC G m_X9_init d 42 [(1, .int (9 : Int32)), (0, .ref 5)] [] (18, 1097, xSH, xr_16) _ _ _ _
  refine y_iinc (j := 0) (v := 10) (lv' := [(1, .int (10 : Int32)), (0, .ref 5)]) dX9_init_42 (by decide) rfl (by decide) rfl ?_
  refine y_goto (tgt := 23) dX9_init_45 (by decide) ?_
  refine y_iload_n dX9_init_23 rfl 0 rfl ?_
  refine y_bipush (v := 10) dX9_init_24 (by decide) ?_
  refine y_icmp_geT (tgt := 48) (by decide) dX9_init_26 (by decide) ?_
  exact y_return dX9_init_48 rfl rfl
set_option maxRecDepth 20000 in
set_option maxHeartbeats 4000000 in
theorem pg_19 {G : xG} {d : Nat} (hd : 1 ≤ d) (w : xI) : xMet G m_X4_init d [.ref 19] (20, 1111, xSH, xr_18) w (fun _ : Unit => none) (21, 1271, xSH, xr_19) (g_19 w) := by
  refine xMet.of rfl (Nat.le_of_ble_eq_true rfl) ?_
  unfold g_19
  show xC G m_X4_init d 0 [(0, .ref 19)] [] (20, 1111, xSH, xr_18) w _ _ _
  refine y_aload_n dX4_init_0 rfl 0 rfl ?_
  refine y_obj dX4_init_1 q130 (Nat.le_of_ble_eq_true rfl) (by omega) ?_
  refine y_aload_n dX4_init_4 rfl 0 rfl ?_
  refine y_sipush (v := 160) dX4_init_5 (by decide) ?_
  refine y_newa (N := 160) dX4_init_8 q65 (by decide) rfl (by decide) rfl ?_
  show xC G m_X4_init d 10 [(0, .ref 19)] [.ref 20, .ref 19] (21, 1271, xSH, xr_18) _ _ _ _
  refine y_putF dX4_init_10 flX4_9 rfl (fun _ _ _ h => by cases h; rfl) (Nat.le_of_ble_eq_true rfl) rfl rfl ?_
  show xC G m_X4_init d 13 [(0, .ref 19)] [] (21, 1271, xSH, xr_19) _ _ _ _
  exact y_return dX4_init_13 rfl rfl
set_option maxRecDepth 20000 in
set_option maxHeartbeats 4000000 in
theorem pg_21 {G : xG} {d : Nat} (hd : 1 ≤ d) (w : xI) : xMet G m_X8_init d [.ref 21, .ref 1, .ref 5] (22, 1286, xSH, xr_20) w (fun _ : Unit => none) (25, 1312, xSH, xr_25) (g_21 w) := by
  refine xMet.of rfl (Nat.le_of_ble_eq_true rfl) ?_
  unfold g_21
  show xC G m_X8_init d 0 [(0, .ref 21), (1, .ref 1), (2, .ref 5)] [] (22, 1286, xSH, xr_20) w _ _ _
  refine y_aload_n dX8_init_0 rfl 0 rfl ?_
  refine y_obj dX8_init_1 q162 (Nat.le_of_ble_eq_true rfl) (by omega) ?_
  refine y_aload_n dX8_init_4 rfl 0 rfl ?_
  refine y_bipush (v := 10) dX8_init_5 (by decide) ?_
  refine y_newa (N := 10) dX8_init_7 q65 (by decide) rfl (by decide) rfl ?_
  show xC G m_X8_init d 9 [(0, .ref 21), (1, .ref 1), (2, .ref 5)] [.ref 22, .ref 21] (23, 1296, xSH, xr_20) _ _ _ _
  refine y_putF dX8_init_9 flX8_9 rfl (fun _ _ _ h => by cases h; rfl) (Nat.le_of_ble_eq_true rfl) rfl rfl ?_
  show xC G m_X8_init d 12 [(0, .ref 21), (1, .ref 1), (2, .ref 5)] [] (23, 1296, xSH, xr_21) _ _ _ _
  refine y_aload_n dX8_init_12 rfl 0 rfl ?_
  refine y_bipush (v := 10) dX8_init_13 (by decide) ?_
  refine y_newa (N := 10) dX8_init_15 q65 (by decide) rfl (by decide) rfl ?_
  show xC G m_X8_init d 17 [(0, .ref 21), (1, .ref 1), (2, .ref 5)] [.ref 23, .ref 21] (24, 1306, xSH, xr_21) _ _ _ _
  refine y_putF dX8_init_17 flX8_15 rfl (fun _ _ _ h => by cases h; rfl) (Nat.le_of_ble_eq_true rfl) rfl rfl ?_
  show xC G m_X8_init d 20 [(0, .ref 21), (1, .ref 1), (2, .ref 5)] [] (24, 1306, xSH, xr_22) _ _ _ _
  refine y_aload_n dX8_init_20 rfl 0 rfl ?_
  refine y_bipush (v := 6) dX8_init_21 (by decide) ?_
  refine y_newa (N := 6) dX8_init_23 q65 (by decide) rfl (by decide) rfl ?_
  show xC G m_X8_init d 25 [(0, .ref 21), (1, .ref 1), (2, .ref 5)] [.ref 24, .ref 21] (25, 1312, xSH, xr_22) _ _ _ _
  refine y_putF dX8_init_25 flX8_18 rfl (fun _ _ _ h => by cases h; rfl) (Nat.le_of_ble_eq_true rfl) rfl rfl ?_
  show xC G m_X8_init d 28 [(0, .ref 21), (1, .ref 1), (2, .ref 5)] [] (25, 1312, xSH, xr_23) _ _ _ _
  refine y_aload_n dX8_init_28 rfl 0 rfl ?_
  refine y_aload_n dX8_init_29 rfl 1 rfl ?_
  refine y_putF dX8_init_30 flX8_21 rfl (fun _ _ _ h => by cases h; rfl) (Nat.le_of_ble_eq_true rfl) rfl rfl ?_
  show xC G m_X8_init d 33 [(0, .ref 21), (1, .ref 1), (2, .ref 5)] [] (25, 1312, xSH, xr_24) _ _ _ _
  refine y_aload_n dX8_init_33 rfl 0 rfl ?_
  refine y_aload_n dX8_init_34 rfl 2 rfl ?_
  refine y_putF dX8_init_35 flX8_25 rfl (fun _ _ _ h => by cases h; rfl) (Nat.le_of_ble_eq_true rfl) rfl rfl ?_
  show xC G m_X8_init d 38 [(0, .ref 21), (1, .ref 1), (2, .ref 5)] [] (25, 1312, xSH, xr_25) _ _ _ _
  exact y_return dX8_init_38 rfl rfl
set_option maxRecDepth 20000 in
set_option maxHeartbeats 4000000 in
theorem pg_25 {G : xG} {d : Nat} (hd : 1 ≤ d) (w : xI) : xMet G m_X3_init d [.ref 25, .ref 21, .ref 5] (26, 1316, xSH, xr_26) w (fun _ : Unit => none) (28, 1426, xSH, xr_30) (g_25 w) := by
  refine xMet.of rfl (Nat.le_of_ble_eq_true rfl) ?_
  unfold g_25
  show xC G m_X3_init d 0 [(0, .ref 25), (1, .ref 21), (2, .ref 5)] [] (26, 1316, xSH, xr_26) w _ _ _
  refine y_aload_n dX3_init_0 rfl 0 rfl ?_
  refine y_obj dX3_init_1 q224 (Nat.le_of_ble_eq_true rfl) (by omega) ?_
  refine y_aload_n dX3_init_4 rfl 0 rfl ?_
  refine y_bipush (v := 100) dX3_init_5 (by decide) ?_
  refine y_newa (N := 100) dX3_init_7 q65 (by decide) rfl (by decide) rfl ?_
  show xC G m_X3_init d 9 [(0, .ref 25), (1, .ref 21), (2, .ref 5)] [.ref 26, .ref 25] (27, 1416, xSH, xr_26) _ _ _ _
  refine y_putF dX3_init_9 flX3_9 rfl (fun _ _ _ h => by cases h; rfl) (Nat.le_of_ble_eq_true rfl) rfl rfl ?_
  show xC G m_X3_init d 12 [(0, .ref 25), (1, .ref 21), (2, .ref 5)] [] (27, 1416, xSH, xr_27) _ _ _ _
  refine y_aload_n dX3_init_12 rfl 0 rfl ?_
  refine y_bipush (v := 10) dX3_init_13 (by decide) ?_
  refine y_newa (N := 10) dX3_init_15 q65 (by decide) rfl (by decide) rfl ?_
  show xC G m_X3_init d 17 [(0, .ref 25), (1, .ref 21), (2, .ref 5)] [.ref 27, .ref 25] (28, 1426, xSH, xr_27) _ _ _ _
  refine y_putF dX3_init_17 flX3_15 rfl (fun _ _ _ h => by cases h; rfl) (Nat.le_of_ble_eq_true rfl) rfl rfl ?_
  show xC G m_X3_init d 20 [(0, .ref 25), (1, .ref 21), (2, .ref 5)] [] (28, 1426, xSH, xr_28) _ _ _ _
  refine y_aload_n dX3_init_20 rfl 0 rfl ?_
  refine y_aload_n dX3_init_21 rfl 1 rfl ?_
  refine y_putF dX3_init_22 flX3_18 rfl (fun _ _ _ h => by cases h; rfl) (Nat.le_of_ble_eq_true rfl) rfl rfl ?_
  show xC G m_X3_init d 25 [(0, .ref 25), (1, .ref 21), (2, .ref 5)] [] (28, 1426, xSH, xr_29) _ _ _ _
  refine y_aload_n dX3_init_25 rfl 0 rfl ?_
  refine y_aload_n dX3_init_26 rfl 2 rfl ?_
  refine y_putF dX3_init_27 flX3_22 rfl (fun _ _ _ h => by cases h; rfl) (Nat.le_of_ble_eq_true rfl) rfl rfl ?_
  show xC G m_X3_init d 30 [(0, .ref 25), (1, .ref 21), (2, .ref 5)] [] (28, 1426, xSH, xr_30) _ _ _ _
  exact y_return dX3_init_30 rfl rfl
set_option maxRecDepth 20000 in
set_option maxHeartbeats 4000000 in
theorem pg_28 {G : xG} {d : Nat} (hd : 1 ≤ d) (w : xI) : xMet G m_X1_init d [.ref 28, .ref 21, .ref 5] (29, 1436, xSH, xr_31) w (fun _ : Unit => none) (32, 1466, xSH, xr_36) (g_28 w) := by
  refine xMet.of rfl (Nat.le_of_ble_eq_true rfl) ?_
  unfold g_28
  show xC G m_X1_init d 0 [(0, .ref 28), (1, .ref 21), (2, .ref 5)] [] (29, 1436, xSH, xr_31) w _ _ _
  refine y_aload_n dX1_init_0 rfl 0 rfl ?_
  refine y_obj dX1_init_1 q244 (Nat.le_of_ble_eq_true rfl) (by omega) ?_
  refine y_aload_n dX1_init_4 rfl 0 rfl ?_
  refine y_bipush (v := 10) dX1_init_5 (by decide) ?_
  refine y_newa (N := 10) dX1_init_7 q65 (by decide) rfl (by decide) rfl ?_
  show xC G m_X1_init d 9 [(0, .ref 28), (1, .ref 21), (2, .ref 5)] [.ref 29, .ref 28] (30, 1446, xSH, xr_31) _ _ _ _
  refine y_putF dX1_init_9 flX1_9 rfl (fun _ _ _ h => by cases h; rfl) (Nat.le_of_ble_eq_true rfl) rfl rfl ?_
  show xC G m_X1_init d 12 [(0, .ref 28), (1, .ref 21), (2, .ref 5)] [] (30, 1446, xSH, xr_32) _ _ _ _
  refine y_aload_n dX1_init_12 rfl 0 rfl ?_
  refine y_bipush (v := 10) dX1_init_13 (by decide) ?_
  refine y_newa (N := 10) dX1_init_15 q65 (by decide) rfl (by decide) rfl ?_
  show xC G m_X1_init d 17 [(0, .ref 28), (1, .ref 21), (2, .ref 5)] [.ref 30, .ref 28] (31, 1456, xSH, xr_32) _ _ _ _
  refine y_putF dX1_init_17 flX1_15 rfl (fun _ _ _ h => by cases h; rfl) (Nat.le_of_ble_eq_true rfl) rfl rfl ?_
  show xC G m_X1_init d 20 [(0, .ref 28), (1, .ref 21), (2, .ref 5)] [] (31, 1456, xSH, xr_33) _ _ _ _
  refine y_aload_n dX1_init_20 rfl 0 rfl ?_
  refine y_bipush (v := 10) dX1_init_21 (by decide) ?_
  refine y_newa (N := 10) dX1_init_23 q65 (by decide) rfl (by decide) rfl ?_
  show xC G m_X1_init d 25 [(0, .ref 28), (1, .ref 21), (2, .ref 5)] [.ref 31, .ref 28] (32, 1466, xSH, xr_33) _ _ _ _
  refine y_putF dX1_init_25 flX1_18 rfl (fun _ _ _ h => by cases h; rfl) (Nat.le_of_ble_eq_true rfl) rfl rfl ?_
  show xC G m_X1_init d 28 [(0, .ref 28), (1, .ref 21), (2, .ref 5)] [] (32, 1466, xSH, xr_34) _ _ _ _
  refine y_aload_n dX1_init_28 rfl 0 rfl ?_
  refine y_aload_n dX1_init_29 rfl 1 rfl ?_
  refine y_putF dX1_init_30 flX1_21 rfl (fun _ _ _ h => by cases h; rfl) (Nat.le_of_ble_eq_true rfl) rfl rfl ?_
  show xC G m_X1_init d 33 [(0, .ref 28), (1, .ref 21), (2, .ref 5)] [] (32, 1466, xSH, xr_35) _ _ _ _
  refine y_aload_n dX1_init_33 rfl 0 rfl ?_
  refine y_aload_n dX1_init_34 rfl 2 rfl ?_
  refine y_putF dX1_init_35 flX1_25 rfl (fun _ _ _ h => by cases h; rfl) (Nat.le_of_ble_eq_true rfl) rfl rfl ?_
  show xC G m_X1_init d 38 [(0, .ref 28), (1, .ref 21), (2, .ref 5)] [] (32, 1466, xSH, xr_36) _ _ _ _
  exact y_return dX1_init_38 rfl rfl
set_option maxRecDepth 20000 in
set_option maxHeartbeats 4000000 in
theorem pg_33 {G : xG} {d : Nat} (hd : 1 ≤ d) (w : xI) : xMet G m_X2_init d [.ref 33] (34, 1478, xSH, xr_38) w (fun _ : Unit => none) (38, 1506, xSH, xr_42) (g_33 w) := by
  refine xMet.of rfl (Nat.le_of_ble_eq_true rfl) ?_
  unfold g_33
  show xC G m_X2_init d 0 [(0, .ref 33)] [] (34, 1478, xSH, xr_38) w _ _ _
  refine y_aload_n dX2_init_0 rfl 0 rfl ?_
  refine y_obj dX2_init_1 q291 (Nat.le_of_ble_eq_true rfl) (by omega) ?_
  refine y_aload_n dX2_init_4 rfl 0 rfl ?_
  refine y_iconst (v := 3) dX2_init_5 (by decide) ?_
  refine y_newa (N := 3) dX2_init_6 q65 (by decide) rfl (by decide) rfl ?_
  show xC G m_X2_init d 8 [(0, .ref 33)] [.ref 34, .ref 33] (35, 1481, xSH, xr_38) _ _ _ _
  refine y_putF dX2_init_8 flX2_9 rfl (fun _ _ _ h => by cases h; rfl) (Nat.le_of_ble_eq_true rfl) rfl rfl ?_
  show xC G m_X2_init d 11 [(0, .ref 33)] [] (35, 1481, xSH, xr_39) _ _ _ _
  refine y_aload_n dX2_init_11 rfl 0 rfl ?_
  refine y_iconst (v := 5) dX2_init_12 (by decide) ?_
  refine y_newa (N := 5) dX2_init_13 q65 (by decide) rfl (by decide) rfl ?_
  show xC G m_X2_init d 15 [(0, .ref 33)] [.ref 35, .ref 33] (36, 1486, xSH, xr_39) _ _ _ _
  refine y_putF dX2_init_15 flX2_15 rfl (fun _ _ _ h => by cases h; rfl) (Nat.le_of_ble_eq_true rfl) rfl rfl ?_
  show xC G m_X2_init d 18 [(0, .ref 33)] [] (36, 1486, xSH, xr_40) _ _ _ _
  refine y_aload_n dX2_init_18 rfl 0 rfl ?_
  refine y_bipush (v := 10) dX2_init_19 (by decide) ?_
  refine y_newa (N := 10) dX2_init_21 q65 (by decide) rfl (by decide) rfl ?_
  show xC G m_X2_init d 23 [(0, .ref 33)] [.ref 36, .ref 33] (37, 1496, xSH, xr_40) _ _ _ _
  refine y_putF dX2_init_23 flX2_18 rfl (fun _ _ _ h => by cases h; rfl) (Nat.le_of_ble_eq_true rfl) rfl rfl ?_
  show xC G m_X2_init d 26 [(0, .ref 33)] [] (37, 1496, xSH, xr_41) _ _ _ _
  refine y_aload_n dX2_init_26 rfl 0 rfl ?_
  refine y_bipush (v := 10) dX2_init_27 (by decide) ?_
  refine y_newa (N := 10) dX2_init_29 q65 (by decide) rfl (by decide) rfl ?_
  show xC G m_X2_init d 31 [(0, .ref 33)] [.ref 37, .ref 33] (38, 1506, xSH, xr_41) _ _ _ _
  refine y_putF dX2_init_31 flX2_21 rfl (fun _ _ _ h => by cases h; rfl) (Nat.le_of_ble_eq_true rfl) rfl rfl ?_
  show xC G m_X2_init d 34 [(0, .ref 33)] [] (38, 1506, xSH, xr_42) _ _ _ _
  exact y_return dX2_init_34 rfl rfl
set_option maxRecDepth 20000 in
set_option maxHeartbeats 4000000 in
theorem pg_39 {G : xG} {d : Nat} (hd : 1 ≤ d) (w : xI) : xMet G m_X7_init d [.ref 39] (40, 1516, xSH, xr_44) w (fun _ : Unit => none) (43, 1839, xSH, xr_47) (g_39 w) := by
  refine xMet.of rfl (Nat.le_of_ble_eq_true rfl) ?_
  unfold g_39
  show xC G m_X7_init d 0 [(0, .ref 39)] [] (40, 1516, xSH, xr_44) w _ _ _
  refine y_aload_n dX7_init_0 rfl 0 rfl ?_
  refine y_obj dX7_init_1 q323 (Nat.le_of_ble_eq_true rfl) (by omega) ?_
  refine y_aload_n dX7_init_4 rfl 0 rfl ?_
  refine y_sipush (v := 160) dX7_init_5 (by decide) ?_
  refine y_newa (N := 160) dX7_init_8 q65 (by decide) rfl (by decide) rfl ?_
  show xC G m_X7_init d 10 [(0, .ref 39)] [.ref 40, .ref 39] (41, 1676, xSH, xr_44) _ _ _ _
  refine y_putF dX7_init_10 flX7_9 rfl (fun _ _ _ h => by cases h; rfl) (Nat.le_of_ble_eq_true rfl) rfl rfl ?_
  show xC G m_X7_init d 13 [(0, .ref 39)] [] (41, 1676, xSH, xr_45) _ _ _ _
  refine y_aload_n dX7_init_13 rfl 0 rfl ?_
  refine y_iconst (v := 3) dX7_init_14 (by decide) ?_
  refine y_newa (N := 3) dX7_init_15 q65 (by decide) rfl (by decide) rfl ?_
  show xC G m_X7_init d 17 [(0, .ref 39)] [.ref 41, .ref 39] (42, 1679, xSH, xr_45) _ _ _ _
  refine y_putF dX7_init_17 flX7_15 rfl (fun _ _ _ h => by cases h; rfl) (Nat.le_of_ble_eq_true rfl) rfl rfl ?_
  show xC G m_X7_init d 20 [(0, .ref 39)] [] (42, 1679, xSH, xr_46) _ _ _ _
  refine y_aload_n dX7_init_20 rfl 0 rfl ?_
  refine y_sipush (v := 160) dX7_init_21 (by decide) ?_
  refine y_newa (N := 160) dX7_init_24 q65 (by decide) rfl (by decide) rfl ?_
  show xC G m_X7_init d 26 [(0, .ref 39)] [.ref 42, .ref 39] (43, 1839, xSH, xr_46) _ _ _ _
  refine y_putF dX7_init_26 flX7_18 rfl (fun _ _ _ h => by cases h; rfl) (Nat.le_of_ble_eq_true rfl) rfl rfl ?_
  show xC G m_X7_init d 29 [(0, .ref 39)] [] (43, 1839, xSH, xr_47) _ _ _ _
  exact y_return dX7_init_29 rfl rfl
set_option maxRecDepth 20000 in
set_option maxHeartbeats 4000000 in
theorem pg_43 {G : xG} {d : Nat} (hd : 1 ≤ d) (w : xI) : xMet G m_X7_init d [.ref 43] (44, 1843, xSH, xr_48) w (fun _ : Unit => none) (47, 2166, xSH, xr_51) (g_43 w) := by
  refine xMet.of rfl (Nat.le_of_ble_eq_true rfl) ?_
  unfold g_43
  show xC G m_X7_init d 0 [(0, .ref 43)] [] (44, 1843, xSH, xr_48) w _ _ _
  refine y_aload_n dX7_init_0 rfl 0 rfl ?_
  refine y_obj dX7_init_1 q323 (Nat.le_of_ble_eq_true rfl) (by omega) ?_
  refine y_aload_n dX7_init_4 rfl 0 rfl ?_
  refine y_sipush (v := 160) dX7_init_5 (by decide) ?_
  refine y_newa (N := 160) dX7_init_8 q65 (by decide) rfl (by decide) rfl ?_
  show xC G m_X7_init d 10 [(0, .ref 43)] [.ref 44, .ref 43] (45, 2003, xSH, xr_48) _ _ _ _
  refine y_putF dX7_init_10 flX7_9 rfl (fun _ _ _ h => by cases h; rfl) (Nat.le_of_ble_eq_true rfl) rfl rfl ?_
  show xC G m_X7_init d 13 [(0, .ref 43)] [] (45, 2003, xSH, xr_49) _ _ _ _
  refine y_aload_n dX7_init_13 rfl 0 rfl ?_
  refine y_iconst (v := 3) dX7_init_14 (by decide) ?_
  refine y_newa (N := 3) dX7_init_15 q65 (by decide) rfl (by decide) rfl ?_
  show xC G m_X7_init d 17 [(0, .ref 43)] [.ref 45, .ref 43] (46, 2006, xSH, xr_49) _ _ _ _
  refine y_putF dX7_init_17 flX7_15 rfl (fun _ _ _ h => by cases h; rfl) (Nat.le_of_ble_eq_true rfl) rfl rfl ?_
  show xC G m_X7_init d 20 [(0, .ref 43)] [] (46, 2006, xSH, xr_50) _ _ _ _
  refine y_aload_n dX7_init_20 rfl 0 rfl ?_
  refine y_sipush (v := 160) dX7_init_21 (by decide) ?_
  refine y_newa (N := 160) dX7_init_24 q65 (by decide) rfl (by decide) rfl ?_
  show xC G m_X7_init d 26 [(0, .ref 43)] [.ref 46, .ref 43] (47, 2166, xSH, xr_50) _ _ _ _
  refine y_putF dX7_init_26 flX7_18 rfl (fun _ _ _ h => by cases h; rfl) (Nat.le_of_ble_eq_true rfl) rfl rfl ?_
  show xC G m_X7_init d 29 [(0, .ref 43)] [] (47, 2166, xSH, xr_51) _ _ _ _
  exact y_return dX7_init_29 rfl rfl
set_option maxRecDepth 20000 in
set_option maxHeartbeats 4000000 in
theorem pg_47 {G : xG} {d : Nat} (hd : 1 ≤ d) (w : xI) : xMet G m_X7_init d [.ref 47] (48, 2170, xSH, xr_52) w (fun _ : Unit => none) (51, 2493, xSH, xr_55) (g_47 w) := by
  refine xMet.of rfl (Nat.le_of_ble_eq_true rfl) ?_
  unfold g_47
  show xC G m_X7_init d 0 [(0, .ref 47)] [] (48, 2170, xSH, xr_52) w _ _ _
  refine y_aload_n dX7_init_0 rfl 0 rfl ?_
  refine y_obj dX7_init_1 q323 (Nat.le_of_ble_eq_true rfl) (by omega) ?_
  refine y_aload_n dX7_init_4 rfl 0 rfl ?_
  refine y_sipush (v := 160) dX7_init_5 (by decide) ?_
  refine y_newa (N := 160) dX7_init_8 q65 (by decide) rfl (by decide) rfl ?_
  show xC G m_X7_init d 10 [(0, .ref 47)] [.ref 48, .ref 47] (49, 2330, xSH, xr_52) _ _ _ _
  refine y_putF dX7_init_10 flX7_9 rfl (fun _ _ _ h => by cases h; rfl) (Nat.le_of_ble_eq_true rfl) rfl rfl ?_
  show xC G m_X7_init d 13 [(0, .ref 47)] [] (49, 2330, xSH, xr_53) _ _ _ _
  refine y_aload_n dX7_init_13 rfl 0 rfl ?_
  refine y_iconst (v := 3) dX7_init_14 (by decide) ?_
  refine y_newa (N := 3) dX7_init_15 q65 (by decide) rfl (by decide) rfl ?_
  show xC G m_X7_init d 17 [(0, .ref 47)] [.ref 49, .ref 47] (50, 2333, xSH, xr_53) _ _ _ _
  refine y_putF dX7_init_17 flX7_15 rfl (fun _ _ _ h => by cases h; rfl) (Nat.le_of_ble_eq_true rfl) rfl rfl ?_
  show xC G m_X7_init d 20 [(0, .ref 47)] [] (50, 2333, xSH, xr_54) _ _ _ _
  refine y_aload_n dX7_init_20 rfl 0 rfl ?_
  refine y_sipush (v := 160) dX7_init_21 (by decide) ?_
  refine y_newa (N := 160) dX7_init_24 q65 (by decide) rfl (by decide) rfl ?_
  show xC G m_X7_init d 26 [(0, .ref 47)] [.ref 50, .ref 47] (51, 2493, xSH, xr_54) _ _ _ _
  refine y_putF dX7_init_26 flX7_18 rfl (fun _ _ _ h => by cases h; rfl) (Nat.le_of_ble_eq_true rfl) rfl rfl ?_
  show xC G m_X7_init d 29 [(0, .ref 47)] [] (51, 2493, xSH, xr_55) _ _ _ _
  exact y_return dX7_init_29 rfl rfl
set_option maxRecDepth 20000 in
set_option maxHeartbeats 4000000 in
theorem pg_51 {G : xG} {d : Nat} (hd : 1 ≤ d) (w : xI) : xMet G m_X7_init d [.ref 51] (52, 2497, xSH, xr_56) w (fun _ : Unit => none) (55, 2820, xSH, xr_59) (g_51 w) := by
  refine xMet.of rfl (Nat.le_of_ble_eq_true rfl) ?_
  unfold g_51
  show xC G m_X7_init d 0 [(0, .ref 51)] [] (52, 2497, xSH, xr_56) w _ _ _
  refine y_aload_n dX7_init_0 rfl 0 rfl ?_
  refine y_obj dX7_init_1 q323 (Nat.le_of_ble_eq_true rfl) (by omega) ?_
  refine y_aload_n dX7_init_4 rfl 0 rfl ?_
  refine y_sipush (v := 160) dX7_init_5 (by decide) ?_
  refine y_newa (N := 160) dX7_init_8 q65 (by decide) rfl (by decide) rfl ?_
  show xC G m_X7_init d 10 [(0, .ref 51)] [.ref 52, .ref 51] (53, 2657, xSH, xr_56) _ _ _ _
  refine y_putF dX7_init_10 flX7_9 rfl (fun _ _ _ h => by cases h; rfl) (Nat.le_of_ble_eq_true rfl) rfl rfl ?_
  show xC G m_X7_init d 13 [(0, .ref 51)] [] (53, 2657, xSH, xr_57) _ _ _ _
  refine y_aload_n dX7_init_13 rfl 0 rfl ?_
  refine y_iconst (v := 3) dX7_init_14 (by decide) ?_
  refine y_newa (N := 3) dX7_init_15 q65 (by decide) rfl (by decide) rfl ?_
  show xC G m_X7_init d 17 [(0, .ref 51)] [.ref 53, .ref 51] (54, 2660, xSH, xr_57) _ _ _ _
  refine y_putF dX7_init_17 flX7_15 rfl (fun _ _ _ h => by cases h; rfl) (Nat.le_of_ble_eq_true rfl) rfl rfl ?_
  show xC G m_X7_init d 20 [(0, .ref 51)] [] (54, 2660, xSH, xr_58) _ _ _ _
  refine y_aload_n dX7_init_20 rfl 0 rfl ?_
  refine y_sipush (v := 160) dX7_init_21 (by decide) ?_
  refine y_newa (N := 160) dX7_init_24 q65 (by decide) rfl (by decide) rfl ?_
  show xC G m_X7_init d 26 [(0, .ref 51)] [.ref 54, .ref 51] (55, 2820, xSH, xr_58) _ _ _ _
  refine y_putF dX7_init_26 flX7_18 rfl (fun _ _ _ h => by cases h; rfl) (Nat.le_of_ble_eq_true rfl) rfl rfl ?_
  show xC G m_X7_init d 29 [(0, .ref 51)] [] (55, 2820, xSH, xr_59) _ _ _ _
  exact y_return dX7_init_29 rfl rfl
set_option maxRecDepth 20000 in
set_option maxHeartbeats 4000000 in
theorem pg_55 {G : xG} {d : Nat} (hd : 1 ≤ d) (w : xI) : xMet G m_X7_init d [.ref 55] (56, 2824, xSH, xr_60) w (fun _ : Unit => none) (59, 3147, xSH, xr_63) (g_55 w) := by
  refine xMet.of rfl (Nat.le_of_ble_eq_true rfl) ?_
  unfold g_55
  show xC G m_X7_init d 0 [(0, .ref 55)] [] (56, 2824, xSH, xr_60) w _ _ _
  refine y_aload_n dX7_init_0 rfl 0 rfl ?_
  refine y_obj dX7_init_1 q323 (Nat.le_of_ble_eq_true rfl) (by omega) ?_
  refine y_aload_n dX7_init_4 rfl 0 rfl ?_
  refine y_sipush (v := 160) dX7_init_5 (by decide) ?_
  refine y_newa (N := 160) dX7_init_8 q65 (by decide) rfl (by decide) rfl ?_
  show xC G m_X7_init d 10 [(0, .ref 55)] [.ref 56, .ref 55] (57, 2984, xSH, xr_60) _ _ _ _
  refine y_putF dX7_init_10 flX7_9 rfl (fun _ _ _ h => by cases h; rfl) (Nat.le_of_ble_eq_true rfl) rfl rfl ?_
  show xC G m_X7_init d 13 [(0, .ref 55)] [] (57, 2984, xSH, xr_61) _ _ _ _
  refine y_aload_n dX7_init_13 rfl 0 rfl ?_
  refine y_iconst (v := 3) dX7_init_14 (by decide) ?_
  refine y_newa (N := 3) dX7_init_15 q65 (by decide) rfl (by decide) rfl ?_
  show xC G m_X7_init d 17 [(0, .ref 55)] [.ref 57, .ref 55] (58, 2987, xSH, xr_61) _ _ _ _
  refine y_putF dX7_init_17 flX7_15 rfl (fun _ _ _ h => by cases h; rfl) (Nat.le_of_ble_eq_true rfl) rfl rfl ?_
  show xC G m_X7_init d 20 [(0, .ref 55)] [] (58, 2987, xSH, xr_62) _ _ _ _
  refine y_aload_n dX7_init_20 rfl 0 rfl ?_
  refine y_sipush (v := 160) dX7_init_21 (by decide) ?_
  refine y_newa (N := 160) dX7_init_24 q65 (by decide) rfl (by decide) rfl ?_
  show xC G m_X7_init d 26 [(0, .ref 55)] [.ref 58, .ref 55] (59, 3147, xSH, xr_62) _ _ _ _
  refine y_putF dX7_init_26 flX7_18 rfl (fun _ _ _ h => by cases h; rfl) (Nat.le_of_ble_eq_true rfl) rfl rfl ?_
  show xC G m_X7_init d 29 [(0, .ref 55)] [] (59, 3147, xSH, xr_63) _ _ _ _
  exact y_return dX7_init_29 rfl rfl
set_option maxRecDepth 20000 in
set_option maxHeartbeats 4000000 in
theorem pg_59 {G : xG} {d : Nat} (hd : 1 ≤ d) (w : xI) : xMet G m_X7_init d [.ref 59] (60, 3151, xSH, xr_64) w (fun _ : Unit => none) (63, 3474, xSH, xr_67) (g_59 w) := by
  refine xMet.of rfl (Nat.le_of_ble_eq_true rfl) ?_
  unfold g_59
  show xC G m_X7_init d 0 [(0, .ref 59)] [] (60, 3151, xSH, xr_64) w _ _ _
  refine y_aload_n dX7_init_0 rfl 0 rfl ?_
  refine y_obj dX7_init_1 q323 (Nat.le_of_ble_eq_true rfl) (by omega) ?_
  refine y_aload_n dX7_init_4 rfl 0 rfl ?_
  refine y_sipush (v := 160) dX7_init_5 (by decide) ?_
  refine y_newa (N := 160) dX7_init_8 q65 (by decide) rfl (by decide) rfl ?_
  show xC G m_X7_init d 10 [(0, .ref 59)] [.ref 60, .ref 59] (61, 3311, xSH, xr_64) _ _ _ _
  refine y_putF dX7_init_10 flX7_9 rfl (fun _ _ _ h => by cases h; rfl) (Nat.le_of_ble_eq_true rfl) rfl rfl ?_
  show xC G m_X7_init d 13 [(0, .ref 59)] [] (61, 3311, xSH, xr_65) _ _ _ _
  refine y_aload_n dX7_init_13 rfl 0 rfl ?_
  refine y_iconst (v := 3) dX7_init_14 (by decide) ?_
  refine y_newa (N := 3) dX7_init_15 q65 (by decide) rfl (by decide) rfl ?_
  show xC G m_X7_init d 17 [(0, .ref 59)] [.ref 61, .ref 59] (62, 3314, xSH, xr_65) _ _ _ _
  refine y_putF dX7_init_17 flX7_15 rfl (fun _ _ _ h => by cases h; rfl) (Nat.le_of_ble_eq_true rfl) rfl rfl ?_
  show xC G m_X7_init d 20 [(0, .ref 59)] [] (62, 3314, xSH, xr_66) _ _ _ _
  refine y_aload_n dX7_init_20 rfl 0 rfl ?_
  refine y_sipush (v := 160) dX7_init_21 (by decide) ?_
  refine y_newa (N := 160) dX7_init_24 q65 (by decide) rfl (by decide) rfl ?_
  show xC G m_X7_init d 26 [(0, .ref 59)] [.ref 62, .ref 59] (63, 3474, xSH, xr_66) _ _ _ _
  refine y_putF dX7_init_26 flX7_18 rfl (fun _ _ _ h => by cases h; rfl) (Nat.le_of_ble_eq_true rfl) rfl rfl ?_
  show xC G m_X7_init d 29 [(0, .ref 59)] [] (63, 3474, xSH, xr_67) _ _ _ _
  exact y_return dX7_init_29 rfl rfl
set_option maxRecDepth 20000 in
set_option maxHeartbeats 4000000 in
theorem pg_63 {G : xG} {d : Nat} (hd : 1 ≤ d) (w : xI) : xMet G m_X6_init d [.ref 63] (64, 3477, xSH, xr_68) w (fun _ : Unit => none) (65, 3517, xSH, xr_69) (g_63 w) := by
  refine xMet.of rfl (Nat.le_of_ble_eq_true rfl) ?_
  unfold g_63
  show xC G m_X6_init d 0 [(0, .ref 63)] [] (64, 3477, xSH, xr_68) w _ _ _
  refine y_aload_n dX6_init_0 rfl 0 rfl ?_
  refine y_obj dX6_init_1 q343 (Nat.le_of_ble_eq_true rfl) (by omega) ?_
  refine y_aload_n dX6_init_4 rfl 0 rfl ?_
  refine y_iconst (v := (-1)) dX6_init_5 (by decide) ?_
  refine y_puti dX6_init_6 flX6_9 (Nat.le_of_ble_eq_true rfl) rfl rfl ?_
  refine y_aload_n dX6_init_9 rfl 0 rfl ?_
  refine y_bipush (v := 40) dX6_init_10 (by decide) ?_
  refine y_newa (N := 40) dX6_init_12 q65 (by decide) rfl (by decide) rfl ?_
  show xC G m_X6_init d 14 [(0, .ref 63)] [.ref 64, .ref 63] (65, 3517, xSH, xr_68) _ _ _ _
  refine y_putF dX6_init_14 flX6_15 rfl (fun _ _ _ h => by cases h; rfl) (Nat.le_of_ble_eq_true rfl) rfl rfl ?_
  show xC G m_X6_init d 17 [(0, .ref 63)] [] (65, 3517, xSH, xr_69) _ _ _ _
  exact y_return dX6_init_17 rfl rfl
set_option maxRecDepth 20000 in
set_option maxHeartbeats 4000000 in
theorem pg_65 {G : xG} {d : Nat} (hd : 1 ≤ d) (w : xI) : xMet G m_X6_init d [.ref 65] (66, 3520, xSH, xr_70) w (fun _ : Unit => none) (67, 3560, xSH, xr_71) (g_65 w) := by
  refine xMet.of rfl (Nat.le_of_ble_eq_true rfl) ?_
  unfold g_65
  show xC G m_X6_init d 0 [(0, .ref 65)] [] (66, 3520, xSH, xr_70) w _ _ _
  refine y_aload_n dX6_init_0 rfl 0 rfl ?_
  refine y_obj dX6_init_1 q343 (Nat.le_of_ble_eq_true rfl) (by omega) ?_
  refine y_aload_n dX6_init_4 rfl 0 rfl ?_
  refine y_iconst (v := (-1)) dX6_init_5 (by decide) ?_
  refine y_puti dX6_init_6 flX6_9 (Nat.le_of_ble_eq_true rfl) rfl rfl ?_
  refine y_aload_n dX6_init_9 rfl 0 rfl ?_
  refine y_bipush (v := 40) dX6_init_10 (by decide) ?_
  refine y_newa (N := 40) dX6_init_12 q65 (by decide) rfl (by decide) rfl ?_
  show xC G m_X6_init d 14 [(0, .ref 65)] [.ref 66, .ref 65] (67, 3560, xSH, xr_70) _ _ _ _
  refine y_putF dX6_init_14 flX6_15 rfl (fun _ _ _ h => by cases h; rfl) (Nat.le_of_ble_eq_true rfl) rfl rfl ?_
  show xC G m_X6_init d 17 [(0, .ref 65)] [] (67, 3560, xSH, xr_71) _ _ _ _
  exact y_return dX6_init_17 rfl rfl
set_option maxRecDepth 20000 in
set_option maxHeartbeats 4000000 in
theorem pg_67 {G : xG} {d : Nat} (hd : 1 ≤ d) (w : xI) : xMet G m_X6_init d [.ref 67] (68, 3563, xSH, xr_72) w (fun _ : Unit => none) (69, 3603, xSH, xr_73) (g_67 w) := by
  refine xMet.of rfl (Nat.le_of_ble_eq_true rfl) ?_
  unfold g_67
  show xC G m_X6_init d 0 [(0, .ref 67)] [] (68, 3563, xSH, xr_72) w _ _ _
  refine y_aload_n dX6_init_0 rfl 0 rfl ?_
  refine y_obj dX6_init_1 q343 (Nat.le_of_ble_eq_true rfl) (by omega) ?_
  refine y_aload_n dX6_init_4 rfl 0 rfl ?_
  refine y_iconst (v := (-1)) dX6_init_5 (by decide) ?_
  refine y_puti dX6_init_6 flX6_9 (Nat.le_of_ble_eq_true rfl) rfl rfl ?_
  refine y_aload_n dX6_init_9 rfl 0 rfl ?_
  refine y_bipush (v := 40) dX6_init_10 (by decide) ?_
  refine y_newa (N := 40) dX6_init_12 q65 (by decide) rfl (by decide) rfl ?_
  show xC G m_X6_init d 14 [(0, .ref 67)] [.ref 68, .ref 67] (69, 3603, xSH, xr_72) _ _ _ _
  refine y_putF dX6_init_14 flX6_15 rfl (fun _ _ _ h => by cases h; rfl) (Nat.le_of_ble_eq_true rfl) rfl rfl ?_
  show xC G m_X6_init d 17 [(0, .ref 67)] [] (69, 3603, xSH, xr_73) _ _ _ _
  exact y_return dX6_init_17 rfl rfl
set_option maxRecDepth 20000 in
set_option maxHeartbeats 4000000 in
theorem pg_69 {G : xG} {d : Nat} (hd : 1 ≤ d) (w : xI) : xMet G m_X6_init d [.ref 69] (70, 3606, xSH, xr_74) w (fun _ : Unit => none) (71, 3646, xSH, xr_75) (g_69 w) := by
  refine xMet.of rfl (Nat.le_of_ble_eq_true rfl) ?_
  unfold g_69
  show xC G m_X6_init d 0 [(0, .ref 69)] [] (70, 3606, xSH, xr_74) w _ _ _
  refine y_aload_n dX6_init_0 rfl 0 rfl ?_
  refine y_obj dX6_init_1 q343 (Nat.le_of_ble_eq_true rfl) (by omega) ?_
  refine y_aload_n dX6_init_4 rfl 0 rfl ?_
  refine y_iconst (v := (-1)) dX6_init_5 (by decide) ?_
  refine y_puti dX6_init_6 flX6_9 (Nat.le_of_ble_eq_true rfl) rfl rfl ?_
  refine y_aload_n dX6_init_9 rfl 0 rfl ?_
  refine y_bipush (v := 40) dX6_init_10 (by decide) ?_
  refine y_newa (N := 40) dX6_init_12 q65 (by decide) rfl (by decide) rfl ?_
  show xC G m_X6_init d 14 [(0, .ref 69)] [.ref 70, .ref 69] (71, 3646, xSH, xr_74) _ _ _ _
  refine y_putF dX6_init_14 flX6_15 rfl (fun _ _ _ h => by cases h; rfl) (Nat.le_of_ble_eq_true rfl) rfl rfl ?_
  show xC G m_X6_init d 17 [(0, .ref 69)] [] (71, 3646, xSH, xr_75) _ _ _ _
  exact y_return dX6_init_17 rfl rfl
set_option maxRecDepth 20000 in
set_option maxHeartbeats 2000000 in
theorem p_X10_init_L185 {G : xG} {d : Nat} {n t : Nat} (hn : 71 ≤ n) (hd : 288 ≤ d) : ∀ (fu : Nat) (v1 : Int32) (w : xI), xC G m_X10_init d 185 [(0, .ref 0), (1, .int v1)] [] (xFin n t) w (fun _ : Unit => none) (xFin n t) (f_X10_init_L185 fu v1 w) := by
  intro fu
  induction fu with
  | zero => intro v1 w; exact xC.none
  | succ fu ih =>
    intro v1 w
    rw [f_X10_init_L185]
    refine y_iload_n dX10_init_185 rfl 1 rfl ?_
    refine y_str (i := 0) (tx := "may 1 ; fine off * 2 ; toll hour ;") dX10_init_186 (by decide +kernel) (by decide) ?_
    refine y_strlen dX10_init_188 kX10_82 (Nat.le_of_ble_eq_true rfl) (by omega) (by decide) ?_
    refine y_icmp_ge (tgt := 213) dX10_init_191 (by decide) ?_ ?_
    · refine y_aload_n dX10_init_213 rfl 0 rfl ?_
      refine y_getr (q := 19) dX10_init_214 flX10_32 (xlt rfl hn) rfl rfl rfl ?_
      refine y_aload_n dX10_init_217 rfl 0 rfl ?_
      refine y_getr (q := 18) dX10_init_218 flX10_25 (xlt rfl hn) rfl rfl rfl ?_
      refine y_iconst (v := 0) dX10_init_221 (by decide) ?_
      refine y_aaldT dX10_init_222 hn (fun o2 hok4 => ?_)
      refine y_callV (As := [.ref o2]) (d2 := d - 1) dX10_init_223 kX10_96 (by omega) rfl rfl (Nat.le_of_ble_eq_true rfl) (xlt rfl hn) rfl rfl (p_X4_readInto hn (by omega) hok4  _) (fun r5 w6 _ => ?_)
      refine y_pop dX10_init_226 rfl ?_
      refine y_aload_n dX10_init_227 rfl 0 rfl ?_
      refine y_iconst (v := 1) dX10_init_228 (by decide) ?_
      refine y_puti dX10_init_229 flX10_100 (xlt rfl hn) rfl rfl ?_
      exact y_return dX10_init_232 rfl rfl
    · refine y_aload_n dX10_init_194 rfl 0 rfl ?_
      refine y_getr (q := 19) dX10_init_195 flX10_32 (xlt rfl hn) rfl rfl rfl ?_
      refine y_str (i := 0) (tx := "may 1 ; fine off * 2 ; toll hour ;") dX10_init_198 (by decide +kernel) (by decide) ?_
      refine y_iload_n dX10_init_200 rfl 1 rfl ?_
      refine y_strat dX10_init_201 kX10_88 (Nat.le_of_ble_eq_true rfl) (by omega) (by decide) ?_
      refine y_callV (As := [.int ((xByt.getD 0 []).getD v1.toNatClampNeg 0)]) (d2 := d - 1) dX10_init_204 kX10_92 (by omega) rfl rfl (Nat.le_of_ble_eq_true rfl) (xlt rfl hn) rfl rfl (p_X4_put hn (by omega)  _ _) (fun r7 w8 _ => ?_)
      refine z_iinc (j := 1) dX10_init_207 (by decide) rfl (by decide) (fun x9 => ?_)
      refine y_loc (lv' := [(1, .int x9), (0, .ref 0)]) rfl ?_
      refine y_goto (tgt := 185) dX10_init_210 (by decide) ?_
      refine y_sub [(0, .ref 0), (1, .int x9)] [1, 0] rfl ?_
      exact ih x9 w8 
set_option maxRecDepth 20000 in
set_option maxHeartbeats 4000000 in
theorem pg_0 {G : xG} {d : Nat} (hd : 288 ≤ d) (w : xI) : xMet G m_X10_init d [.ref 0] (1, 12, xSH, xr_0) w (fun _ : Unit => none) (xFin 71 3646) (g_0 w) := by
  refine xMet.of rfl (Nat.le_of_ble_eq_true rfl) ?_
  unfold g_0
  show xC G m_X10_init d 0 [(0, .ref 0)] [] (1, 12, xSH, xr_0) w _ _ _
  refine y_aload_n dX10_init_0 rfl 0 rfl ?_
  refine y_obj dX10_init_1 q25 (Nat.le_of_ble_eq_true rfl) (by omega) ?_
  refine y_aload_n dX10_init_4 rfl 0 rfl ?_
  refine y_new (ci := 5) (N := 4) dX10_init_5 q28 q29 q2 rfl inX5 rfl tyX5_ok rfl (fun _ _ => rfl) hdefX5 ?_
  show xC G m_X10_init d 8 [(0, .ref 0)] [.ref 1, .ref 0] (2, 16, xSH, xr_0) _ _ _ _
  refine y_dup dX10_init_8 rfl ?_
  refine y_callI (As := []) (d2 := d - 1) dX10_init_9 kX10_11 (by omega) rfl rfl (Nat.le_of_ble_eq_true rfl) (Nat.le_of_ble_eq_true rfl) (pg_1 (by omega) _) (fun _ w1 h2 => ?_)
  show xC G m_X10_init d 12 [(0, .ref 0)] [.ref 1, .ref 0] (5, 1024, xSH, xr_3) _ _ _ _
  refine y_putF dX10_init_12 flX10_12 rfl (fun _ _ _ h => by cases h; rfl) (Nat.le_of_ble_eq_true rfl) rfl rfl ?_
  show xC G m_X10_init d 15 [(0, .ref 0)] [] (5, 1024, xSH, xr_4) _ _ _ _
  refine y_aload_n dX10_init_15 rfl 0 rfl ?_
  refine y_new (ci := 9) (N := 3) dX10_init_16 q66 q67 q4 rfl inX9 rfl tyX9_ok rfl (fun _ _ => rfl) hdefX9 ?_
  show xC G m_X10_init d 19 [(0, .ref 0)] [.ref 5, .ref 0] (6, 1027, xSH, xr_4) _ _ _ _
  refine y_dup dX10_init_19 rfl ?_
  refine y_callI (As := []) (d2 := d - 1) dX10_init_20 kX10_18 (by omega) rfl rfl (Nat.le_of_ble_eq_true rfl) (Nat.le_of_ble_eq_true rfl) (pg_5 (by omega) _) (fun _ w3 h4 => ?_)
  show xC G m_X10_init d 23 [(0, .ref 0)] [.ref 5, .ref 0] (18, 1097, xSH, xr_16) _ _ _ _
  refine y_putF dX10_init_23 flX10_19 rfl (fun _ _ _ h => by cases h; rfl) (Nat.le_of_ble_eq_true rfl) rfl rfl ?_
  show xC G m_X10_init d 26 [(0, .ref 0)] [] (18, 1097, xSH, xr_17) _ _ _ _
  refine y_aload_n dX10_init_26 rfl 0 rfl ?_
  refine y_bipush (v := 6) dX10_init_27 (by decide) ?_
  refine y_newq (t := 0) (N := 6) dX10_init_29 q123 (fun G s h => by obtain ⟨-, -, -, -, -, -, -, -, h9, h10, h11⟩ := h; exact h9) rfl (by decide) rfl (by decide) rfl (fun _ _ => rfl) ?_
  show xC G m_X10_init d 32 [(0, .ref 0)] [.ref 18, .ref 0] (19, 1103, xSH, xr_17) _ _ _ _
  refine y_putF dX10_init_32 flX10_25 rfl (fun _ _ _ h => by cases h; rfl) (Nat.le_of_ble_eq_true rfl) rfl rfl ?_
  show xC G m_X10_init d 35 [(0, .ref 0)] [] (19, 1103, xSH, xr_18) _ _ _ _
  refine y_aload_n dX10_init_35 rfl 0 rfl ?_
  refine y_new (ci := 4) (N := 8) dX10_init_36 q125 q126 q6 rfl inX4 rfl tyX4_ok rfl (fun _ _ => rfl) hdefX4 ?_
  show xC G m_X10_init d 39 [(0, .ref 0)] [.ref 19, .ref 0] (20, 1111, xSH, xr_18) _ _ _ _
  refine y_dup dX10_init_39 rfl ?_
  refine y_callI (As := []) (d2 := d - 1) dX10_init_40 kX10_31 (by omega) rfl rfl (Nat.le_of_ble_eq_true rfl) (Nat.le_of_ble_eq_true rfl) (pg_19 (by omega) _) (fun _ w5 h6 => ?_)
  show xC G m_X10_init d 43 [(0, .ref 0)] [.ref 19, .ref 0] (21, 1271, xSH, xr_19) _ _ _ _
  have z_w5 : w5 19 7 = 0 := by unfold g_19 at h6; cases h6; rfl
  refine y_putF dX10_init_43 flX10_32 rfl (fun _ _ _ h => by cases h; rfl) (Nat.le_of_ble_eq_true rfl) rfl rfl ?_
  show xC G m_X10_init d 46 [(0, .ref 0)] [] (21, 1271, xSH, xr_20) _ _ _ _
  refine y_aload_n dX10_init_46 rfl 0 rfl ?_
  refine y_new (ci := 8) (N := 15) dX10_init_47 q157 q158 q7 rfl inX8 rfl tyX8_ok rfl (fun _ _ => rfl) hdefX8 ?_
  show xC G m_X10_init d 50 [(0, .ref 0)] [.ref 21, .ref 0] (22, 1286, xSH, xr_20) _ _ _ _
  refine y_dup dX10_init_50 rfl ?_
  refine y_aload_n dX10_init_51 rfl 0 rfl ?_
  refine y_getr (q := 1) dX10_init_52 flX10_12 (Nat.le_of_ble_eq_true rfl) rfl rfl rfl ?_
  refine y_aload_n dX10_init_55 rfl 0 rfl ?_
  refine y_getr (q := 5) dX10_init_56 flX10_19 (Nat.le_of_ble_eq_true rfl) rfl rfl rfl ?_
  refine y_callI (As := [.ref 1, .ref 5]) (d2 := d - 1) dX10_init_59 kX10_38 (by omega) rfl rfl (Nat.le_of_ble_eq_true rfl) (Nat.le_of_ble_eq_true rfl) (pg_21 (by omega) _) (fun _ w7 h8 => ?_)
  show xC G m_X10_init d 62 [(0, .ref 0)] [.ref 21, .ref 0] (25, 1312, xSH, xr_25) _ _ _ _
  have z_w7 : w7 19 7 = 0 := by unfold g_21 at h8; cases h8; exact z_w5
  refine y_putF dX10_init_62 flX10_41 rfl (fun _ _ _ h => by cases h; rfl) (Nat.le_of_ble_eq_true rfl) rfl rfl ?_
  show xC G m_X10_init d 65 [(0, .ref 0)] [] (25, 1312, xSH, xr_26) _ _ _ _
  refine y_aload_n dX10_init_65 rfl 0 rfl ?_
  refine y_new (ci := 3) (N := 4) dX10_init_66 q219 q220 q8 rfl inX3 rfl tyX3_ok rfl (fun _ _ => rfl) hdefX3 ?_
  show xC G m_X10_init d 69 [(0, .ref 0)] [.ref 25, .ref 0] (26, 1316, xSH, xr_26) _ _ _ _
  refine y_dup dX10_init_69 rfl ?_
  refine y_aload_n dX10_init_70 rfl 0 rfl ?_
  refine y_getr (q := 21) dX10_init_71 flX10_41 (Nat.le_of_ble_eq_true rfl) rfl rfl rfl ?_
  refine y_aload_n dX10_init_74 rfl 0 rfl ?_
  refine y_getr (q := 5) dX10_init_75 flX10_19 (Nat.le_of_ble_eq_true rfl) rfl rfl rfl ?_
  refine y_callI (As := [.ref 21, .ref 5]) (d2 := d - 1) dX10_init_78 kX10_47 (by omega) rfl rfl (Nat.le_of_ble_eq_true rfl) (Nat.le_of_ble_eq_true rfl) (pg_25 (by omega) _) (fun _ w9 h10 => ?_)
  show xC G m_X10_init d 81 [(0, .ref 0)] [.ref 25, .ref 0] (28, 1426, xSH, xr_30) _ _ _ _
  have z_w9 : w9 19 7 = 0 := by unfold g_25 at h10; cases h10; exact z_w7
  refine y_putF dX10_init_81 flX10_50 rfl (fun _ _ _ h => by cases h; rfl) (Nat.le_of_ble_eq_true rfl) rfl rfl ?_
  show xC G m_X10_init d 84 [(0, .ref 0)] [] (28, 1426, xSH, xr_31) _ _ _ _
  refine y_aload_n dX10_init_84 rfl 0 rfl ?_
  refine y_new (ci := 1) (N := 10) dX10_init_85 q239 q240 q9 rfl inX1 rfl tyX1_ok rfl (fun _ _ => rfl) hdefX1 ?_
  show xC G m_X10_init d 88 [(0, .ref 0)] [.ref 28, .ref 0] (29, 1436, xSH, xr_31) _ _ _ _
  refine y_dup dX10_init_88 rfl ?_
  refine y_aload_n dX10_init_89 rfl 0 rfl ?_
  refine y_getr (q := 21) dX10_init_90 flX10_41 (Nat.le_of_ble_eq_true rfl) rfl rfl rfl ?_
  refine y_aload_n dX10_init_93 rfl 0 rfl ?_
  refine y_getr (q := 5) dX10_init_94 flX10_19 (Nat.le_of_ble_eq_true rfl) rfl rfl rfl ?_
  refine y_callI (As := [.ref 21, .ref 5]) (d2 := d - 1) dX10_init_97 kX10_56 (by omega) rfl rfl (Nat.le_of_ble_eq_true rfl) (Nat.le_of_ble_eq_true rfl) (pg_28 (by omega) _) (fun _ w11 h12 => ?_)
  show xC G m_X10_init d 100 [(0, .ref 0)] [.ref 28, .ref 0] (32, 1466, xSH, xr_36) _ _ _ _
  have z_w11 : w11 19 7 = 0 := by unfold g_28 at h12; cases h12; exact z_w9
  refine y_putF dX10_init_100 flX10_57 rfl (fun _ _ _ h => by cases h; rfl) (Nat.le_of_ble_eq_true rfl) rfl rfl ?_
  show xC G m_X10_init d 103 [(0, .ref 0)] [] (32, 1466, xSH, xr_37) _ _ _ _
  refine y_aload_n dX10_init_103 rfl 0 rfl ?_
  refine y_iconst (v := 4) dX10_init_104 (by decide) ?_
  refine y_newq (t := 1) (N := 4) dX10_init_105 q284 (fun G s h => by obtain ⟨-, -, -, -, -, -, -, -, h9, h10, h11⟩ := h; exact h10) rfl (by decide) rfl (by decide) rfl (fun _ _ => rfl) ?_
  show xC G m_X10_init d 108 [(0, .ref 0)] [.ref 32, .ref 0] (33, 1470, xSH, xr_37) _ _ _ _
  refine y_putF dX10_init_108 flX10_63 rfl (fun _ _ _ h => by cases h; rfl) (Nat.le_of_ble_eq_true rfl) rfl rfl ?_
  show xC G m_X10_init d 111 [(0, .ref 0)] [] (33, 1470, xSH, xr_38) _ _ _ _
  refine y_aload_n dX10_init_111 rfl 0 rfl ?_
  refine y_new (ci := 2) (N := 8) dX10_init_112 q286 q287 q10 rfl inX2 rfl tyX2_ok rfl (fun _ _ => rfl) hdefX2 ?_
  show xC G m_X10_init d 115 [(0, .ref 0)] [.ref 33, .ref 0] (34, 1478, xSH, xr_38) _ _ _ _
  refine y_dup dX10_init_115 rfl ?_
  refine y_callI (As := []) (d2 := d - 1) dX10_init_116 kX10_69 (by omega) rfl rfl (Nat.le_of_ble_eq_true rfl) (Nat.le_of_ble_eq_true rfl) (pg_33 (by omega) _) (fun _ w13 h14 => ?_)
  show xC G m_X10_init d 119 [(0, .ref 0)] [.ref 33, .ref 0] (38, 1506, xSH, xr_42) _ _ _ _
  have z_w13 : w13 19 7 = 0 := by unfold g_33 at h14; cases h14; exact z_w11
  refine y_putF dX10_init_119 flX10_70 rfl (fun _ _ _ h => by cases h; rfl) (Nat.le_of_ble_eq_true rfl) rfl rfl ?_
  show xC G m_X10_init d 122 [(0, .ref 0)] [] (38, 1506, xSH, xr_43) _ _ _ _
  refine y_aload_n dX10_init_122 rfl 0 rfl ?_
  refine y_bipush (v := 6) dX10_init_123 (by decide) ?_
  refine y_newa (N := 6) dX10_init_125 q65 (by decide) rfl (by decide) rfl ?_
  show xC G m_X10_init d 127 [(0, .ref 0)] [.ref 38, .ref 0] (39, 1512, xSH, xr_43) _ _ _ _
  refine y_putF dX10_init_127 flX10_74 rfl (fun _ _ _ h => by cases h; rfl) (Nat.le_of_ble_eq_true rfl) rfl rfl ?_
  show xC G m_X10_init d 130 [(0, .ref 0)] [] (39, 1512, xSH, xr_44) _ _ _ _
  refine y_iconst (v := 0) dX10_init_130 (by decide) ?_
  refine y_istore_n (lv' := [(1, .int (0 : Int32)), (0, .ref 0)]) dX10_init_131 rfl (by decide) rfl ?_
  refine y_iload_n dX10_init_132 rfl 0 rfl ?_
  refine y_bipush (v := 6) dX10_init_133 (by decide) ?_
  refine y_icmp_geF (tgt := 157) (by decide) dX10_init_135 (by decide) ?_
  refine y_aload_n dX10_init_138 rfl 1 rfl ?_
  refine y_getr (q := 18) dX10_init_139 flX10_25 (Nat.le_of_ble_eq_true rfl) rfl rfl rfl ?_
  refine y_iload_n dX10_init_142 rfl 0 rfl ?_
  refine y_new (ci := 7) (N := 4) dX10_init_143 q123 q319 q11 rfl inX7 rfl tyX7_ok rfl (fun _ _ => rfl) hdefX7 ?_
  show xC G m_X10_init d 146 [(1, .int (0 : Int32)), (0, .ref 0)] [.ref 39, .int (0 : Int32), .ref 18] (40, 1516, xSH, xr_44) _ _ _ _
  refine y_dup dX10_init_146 rfl ?_
  refine y_callI (As := []) (d2 := d - 1) dX10_init_147 kX10_78 (by omega) rfl rfl (Nat.le_of_ble_eq_true rfl) (Nat.le_of_ble_eq_true rfl) (pg_39 (by omega) _) (fun _ w15 h16 => ?_)
  show xC G m_X10_init d 150 [(1, .int (0 : Int32)), (0, .ref 0)] [.ref 39, .int (0 : Int32), .ref 18] (43, 1839, xSH, xr_47) _ _ _ _
  have z_w15 : w15 19 7 = 0 := by unfold g_39 at h16; cases h16; exact z_w13
  refine y_aast (t := 0) (ci := 7) dX10_init_150 (Nat.le_of_ble_eq_true rfl) rfl rfl (Nat.le_of_ble_eq_true rfl) rfl rfl rfl ?_
  show xC G m_X10_init d 151 [(1, .int (0 : Int32)), (0, .ref 0)] [] (43, 1839, xSH, xr_48) _ _ _ _
  refine y_iinc (j := 0) (v := 1) (lv' := [(1, .int (1 : Int32)), (0, .ref 0)]) dX10_init_151 (by decide) rfl (by decide) rfl ?_
  refine y_goto (tgt := 132) dX10_init_154 (by decide) ?_
  refine y_iload_n dX10_init_132 rfl 0 rfl ?_
  refine y_bipush (v := 6) dX10_init_133 (by decide) ?_
  refine y_icmp_geF (tgt := 157) (by decide) dX10_init_135 (by decide) ?_
  refine y_aload_n dX10_init_138 rfl 1 rfl ?_
  refine y_getr (q := 18) dX10_init_139 flX10_25 (Nat.le_of_ble_eq_true rfl) rfl rfl rfl ?_
  refine y_iload_n dX10_init_142 rfl 0 rfl ?_
  refine y_new (ci := 7) (N := 4) dX10_init_143 q123 q319 q11 rfl inX7 rfl tyX7_ok rfl (fun _ _ => rfl) hdefX7 ?_
  show xC G m_X10_init d 146 [(1, .int (1 : Int32)), (0, .ref 0)] [.ref 43, .int (1 : Int32), .ref 18] (44, 1843, xSH, xr_48) _ _ _ _
  refine y_dup dX10_init_146 rfl ?_
  refine y_callI (As := []) (d2 := d - 1) dX10_init_147 kX10_78 (by omega) rfl rfl (Nat.le_of_ble_eq_true rfl) (Nat.le_of_ble_eq_true rfl) (pg_43 (by omega) _) (fun _ w17 h18 => ?_)
  show xC G m_X10_init d 150 [(1, .int (1 : Int32)), (0, .ref 0)] [.ref 43, .int (1 : Int32), .ref 18] (47, 2166, xSH, xr_51) _ _ _ _
  have z_w17 : w17 19 7 = 0 := by unfold g_43 at h18; cases h18; exact z_w15
  refine y_aast (t := 0) (ci := 7) dX10_init_150 (Nat.le_of_ble_eq_true rfl) rfl rfl (Nat.le_of_ble_eq_true rfl) rfl rfl rfl ?_
  show xC G m_X10_init d 151 [(1, .int (1 : Int32)), (0, .ref 0)] [] (47, 2166, xSH, xr_52) _ _ _ _
  refine y_iinc (j := 0) (v := 2) (lv' := [(1, .int (2 : Int32)), (0, .ref 0)]) dX10_init_151 (by decide) rfl (by decide) rfl ?_
  refine y_goto (tgt := 132) dX10_init_154 (by decide) ?_
  refine y_iload_n dX10_init_132 rfl 0 rfl ?_
  refine y_bipush (v := 6) dX10_init_133 (by decide) ?_
  refine y_icmp_geF (tgt := 157) (by decide) dX10_init_135 (by decide) ?_
  refine y_aload_n dX10_init_138 rfl 1 rfl ?_
  refine y_getr (q := 18) dX10_init_139 flX10_25 (Nat.le_of_ble_eq_true rfl) rfl rfl rfl ?_
  refine y_iload_n dX10_init_142 rfl 0 rfl ?_
  refine y_new (ci := 7) (N := 4) dX10_init_143 q123 q319 q11 rfl inX7 rfl tyX7_ok rfl (fun _ _ => rfl) hdefX7 ?_
  show xC G m_X10_init d 146 [(1, .int (2 : Int32)), (0, .ref 0)] [.ref 47, .int (2 : Int32), .ref 18] (48, 2170, xSH, xr_52) _ _ _ _
  refine y_dup dX10_init_146 rfl ?_
  refine y_callI (As := []) (d2 := d - 1) dX10_init_147 kX10_78 (by omega) rfl rfl (Nat.le_of_ble_eq_true rfl) (Nat.le_of_ble_eq_true rfl) (pg_47 (by omega) _) (fun _ w19 h20 => ?_)
  show xC G m_X10_init d 150 [(1, .int (2 : Int32)), (0, .ref 0)] [.ref 47, .int (2 : Int32), .ref 18] (51, 2493, xSH, xr_55) _ _ _ _
  have z_w19 : w19 19 7 = 0 := by unfold g_47 at h20; cases h20; exact z_w17
  refine y_aast (t := 0) (ci := 7) dX10_init_150 (Nat.le_of_ble_eq_true rfl) rfl rfl (Nat.le_of_ble_eq_true rfl) rfl rfl rfl ?_
  show xC G m_X10_init d 151 [(1, .int (2 : Int32)), (0, .ref 0)] [] (51, 2493, xSH, xr_56) _ _ _ _
  refine y_iinc (j := 0) (v := 3) (lv' := [(1, .int (3 : Int32)), (0, .ref 0)]) dX10_init_151 (by decide) rfl (by decide) rfl ?_
  refine y_goto (tgt := 132) dX10_init_154 (by decide) ?_
  refine y_iload_n dX10_init_132 rfl 0 rfl ?_
  refine y_bipush (v := 6) dX10_init_133 (by decide) ?_
  refine y_icmp_geF (tgt := 157) (by decide) dX10_init_135 (by decide) ?_
  refine y_aload_n dX10_init_138 rfl 1 rfl ?_
  refine y_getr (q := 18) dX10_init_139 flX10_25 (Nat.le_of_ble_eq_true rfl) rfl rfl rfl ?_
  refine y_iload_n dX10_init_142 rfl 0 rfl ?_
  refine y_new (ci := 7) (N := 4) dX10_init_143 q123 q319 q11 rfl inX7 rfl tyX7_ok rfl (fun _ _ => rfl) hdefX7 ?_
  show xC G m_X10_init d 146 [(1, .int (3 : Int32)), (0, .ref 0)] [.ref 51, .int (3 : Int32), .ref 18] (52, 2497, xSH, xr_56) _ _ _ _
  refine y_dup dX10_init_146 rfl ?_
  refine y_callI (As := []) (d2 := d - 1) dX10_init_147 kX10_78 (by omega) rfl rfl (Nat.le_of_ble_eq_true rfl) (Nat.le_of_ble_eq_true rfl) (pg_51 (by omega) _) (fun _ w21 h22 => ?_)
  show xC G m_X10_init d 150 [(1, .int (3 : Int32)), (0, .ref 0)] [.ref 51, .int (3 : Int32), .ref 18] (55, 2820, xSH, xr_59) _ _ _ _
  have z_w21 : w21 19 7 = 0 := by unfold g_51 at h22; cases h22; exact z_w19
  refine y_aast (t := 0) (ci := 7) dX10_init_150 (Nat.le_of_ble_eq_true rfl) rfl rfl (Nat.le_of_ble_eq_true rfl) rfl rfl rfl ?_
  show xC G m_X10_init d 151 [(1, .int (3 : Int32)), (0, .ref 0)] [] (55, 2820, xSH, xr_60) _ _ _ _
  refine y_iinc (j := 0) (v := 4) (lv' := [(1, .int (4 : Int32)), (0, .ref 0)]) dX10_init_151 (by decide) rfl (by decide) rfl ?_
  refine y_goto (tgt := 132) dX10_init_154 (by decide) ?_
  refine y_iload_n dX10_init_132 rfl 0 rfl ?_
  refine y_bipush (v := 6) dX10_init_133 (by decide) ?_
  refine y_icmp_geF (tgt := 157) (by decide) dX10_init_135 (by decide) ?_
  refine y_aload_n dX10_init_138 rfl 1 rfl ?_
  refine y_getr (q := 18) dX10_init_139 flX10_25 (Nat.le_of_ble_eq_true rfl) rfl rfl rfl ?_
  refine y_iload_n dX10_init_142 rfl 0 rfl ?_
  refine y_new (ci := 7) (N := 4) dX10_init_143 q123 q319 q11 rfl inX7 rfl tyX7_ok rfl (fun _ _ => rfl) hdefX7 ?_
  show xC G m_X10_init d 146 [(1, .int (4 : Int32)), (0, .ref 0)] [.ref 55, .int (4 : Int32), .ref 18] (56, 2824, xSH, xr_60) _ _ _ _
  refine y_dup dX10_init_146 rfl ?_
  refine y_callI (As := []) (d2 := d - 1) dX10_init_147 kX10_78 (by omega) rfl rfl (Nat.le_of_ble_eq_true rfl) (Nat.le_of_ble_eq_true rfl) (pg_55 (by omega) _) (fun _ w23 h24 => ?_)
  show xC G m_X10_init d 150 [(1, .int (4 : Int32)), (0, .ref 0)] [.ref 55, .int (4 : Int32), .ref 18] (59, 3147, xSH, xr_63) _ _ _ _
  have z_w23 : w23 19 7 = 0 := by unfold g_55 at h24; cases h24; exact z_w21
  refine y_aast (t := 0) (ci := 7) dX10_init_150 (Nat.le_of_ble_eq_true rfl) rfl rfl (Nat.le_of_ble_eq_true rfl) rfl rfl rfl ?_
  show xC G m_X10_init d 151 [(1, .int (4 : Int32)), (0, .ref 0)] [] (59, 3147, xSH, xr_64) _ _ _ _
  refine y_iinc (j := 0) (v := 5) (lv' := [(1, .int (5 : Int32)), (0, .ref 0)]) dX10_init_151 (by decide) rfl (by decide) rfl ?_
  refine y_goto (tgt := 132) dX10_init_154 (by decide) ?_
  refine y_iload_n dX10_init_132 rfl 0 rfl ?_
  refine y_bipush (v := 6) dX10_init_133 (by decide) ?_
  refine y_icmp_geF (tgt := 157) (by decide) dX10_init_135 (by decide) ?_
  refine y_aload_n dX10_init_138 rfl 1 rfl ?_
  refine y_getr (q := 18) dX10_init_139 flX10_25 (Nat.le_of_ble_eq_true rfl) rfl rfl rfl ?_
  refine y_iload_n dX10_init_142 rfl 0 rfl ?_
  refine y_new (ci := 7) (N := 4) dX10_init_143 q123 q319 q11 rfl inX7 rfl tyX7_ok rfl (fun _ _ => rfl) hdefX7 ?_
  show xC G m_X10_init d 146 [(1, .int (5 : Int32)), (0, .ref 0)] [.ref 59, .int (5 : Int32), .ref 18] (60, 3151, xSH, xr_64) _ _ _ _
  refine y_dup dX10_init_146 rfl ?_
  refine y_callI (As := []) (d2 := d - 1) dX10_init_147 kX10_78 (by omega) rfl rfl (Nat.le_of_ble_eq_true rfl) (Nat.le_of_ble_eq_true rfl) (pg_59 (by omega) _) (fun _ w25 h26 => ?_)
  show xC G m_X10_init d 150 [(1, .int (5 : Int32)), (0, .ref 0)] [.ref 59, .int (5 : Int32), .ref 18] (63, 3474, xSH, xr_67) _ _ _ _
  have z_w25 : w25 19 7 = 0 := by unfold g_59 at h26; cases h26; exact z_w23
  refine y_aast (t := 0) (ci := 7) dX10_init_150 (Nat.le_of_ble_eq_true rfl) rfl rfl (Nat.le_of_ble_eq_true rfl) rfl rfl rfl ?_
  show xC G m_X10_init d 151 [(1, .int (5 : Int32)), (0, .ref 0)] [] (63, 3474, xSH, xr_68) _ _ _ _
  refine y_iinc (j := 0) (v := 6) (lv' := [(1, .int (6 : Int32)), (0, .ref 0)]) dX10_init_151 (by decide) rfl (by decide) rfl ?_
  refine y_goto (tgt := 132) dX10_init_154 (by decide) ?_
  refine y_iload_n dX10_init_132 rfl 0 rfl ?_
  refine y_bipush (v := 6) dX10_init_133 (by decide) ?_
  refine y_icmp_geT (tgt := 157) (by decide) dX10_init_135 (by decide) ?_
  refine y_iconst (v := 0) dX10_init_157 (by decide) ?_
  refine y_istore_n (lv' := [(1, .int (0 : Int32)), (0, .ref 0)]) dX10_init_158 rfl (by decide) rfl ?_
  refine y_iload_n dX10_init_159 rfl 0 rfl ?_
  refine y_iconst (v := 4) dX10_init_160 (by decide) ?_
  refine y_icmp_geF (tgt := 183) (by decide) dX10_init_161 (by decide) ?_
  refine y_aload_n dX10_init_164 rfl 1 rfl ?_
  refine y_getr (q := 32) dX10_init_165 flX10_63 (Nat.le_of_ble_eq_true rfl) rfl rfl rfl ?_
  refine y_iload_n dX10_init_168 rfl 0 rfl ?_
  refine y_new (ci := 6) (N := 3) dX10_init_169 q284 q339 q12 rfl inX6 rfl tyX6_ok rfl (fun _ _ => rfl) hdefX6 ?_
  show xC G m_X10_init d 172 [(1, .int (0 : Int32)), (0, .ref 0)] [.ref 63, .int (0 : Int32), .ref 32] (64, 3477, xSH, xr_68) _ _ _ _
  refine y_dup dX10_init_172 rfl ?_
  refine y_callI (As := []) (d2 := d - 1) dX10_init_173 kX10_79 (by omega) rfl rfl (Nat.le_of_ble_eq_true rfl) (Nat.le_of_ble_eq_true rfl) (pg_63 (by omega) _) (fun _ w27 h28 => ?_)
  show xC G m_X10_init d 176 [(1, .int (0 : Int32)), (0, .ref 0)] [.ref 63, .int (0 : Int32), .ref 32] (65, 3517, xSH, xr_69) _ _ _ _
  have z_w27 : w27 19 7 = 0 := by unfold g_63 at h28; cases h28; exact z_w25
  refine y_aast (t := 1) (ci := 6) dX10_init_176 (Nat.le_of_ble_eq_true rfl) rfl rfl (Nat.le_of_ble_eq_true rfl) rfl rfl rfl ?_
  show xC G m_X10_init d 177 [(1, .int (0 : Int32)), (0, .ref 0)] [] (65, 3517, xSH, xr_70) _ _ _ _
  refine y_iinc (j := 0) (v := 1) (lv' := [(1, .int (1 : Int32)), (0, .ref 0)]) dX10_init_177 (by decide) rfl (by decide) rfl ?_
  refine y_goto (tgt := 159) dX10_init_180 (by decide) ?_
  refine y_iload_n dX10_init_159 rfl 0 rfl ?_
  refine y_iconst (v := 4) dX10_init_160 (by decide) ?_
  refine y_icmp_geF (tgt := 183) (by decide) dX10_init_161 (by decide) ?_
  refine y_aload_n dX10_init_164 rfl 1 rfl ?_
  refine y_getr (q := 32) dX10_init_165 flX10_63 (Nat.le_of_ble_eq_true rfl) rfl rfl rfl ?_
  refine y_iload_n dX10_init_168 rfl 0 rfl ?_
  refine y_new (ci := 6) (N := 3) dX10_init_169 q284 q339 q12 rfl inX6 rfl tyX6_ok rfl (fun _ _ => rfl) hdefX6 ?_
  show xC G m_X10_init d 172 [(1, .int (1 : Int32)), (0, .ref 0)] [.ref 65, .int (1 : Int32), .ref 32] (66, 3520, xSH, xr_70) _ _ _ _
  refine y_dup dX10_init_172 rfl ?_
  refine y_callI (As := []) (d2 := d - 1) dX10_init_173 kX10_79 (by omega) rfl rfl (Nat.le_of_ble_eq_true rfl) (Nat.le_of_ble_eq_true rfl) (pg_65 (by omega) _) (fun _ w29 h30 => ?_)
  show xC G m_X10_init d 176 [(1, .int (1 : Int32)), (0, .ref 0)] [.ref 65, .int (1 : Int32), .ref 32] (67, 3560, xSH, xr_71) _ _ _ _
  have z_w29 : w29 19 7 = 0 := by unfold g_65 at h30; cases h30; exact z_w27
  refine y_aast (t := 1) (ci := 6) dX10_init_176 (Nat.le_of_ble_eq_true rfl) rfl rfl (Nat.le_of_ble_eq_true rfl) rfl rfl rfl ?_
  show xC G m_X10_init d 177 [(1, .int (1 : Int32)), (0, .ref 0)] [] (67, 3560, xSH, xr_72) _ _ _ _
  refine y_iinc (j := 0) (v := 2) (lv' := [(1, .int (2 : Int32)), (0, .ref 0)]) dX10_init_177 (by decide) rfl (by decide) rfl ?_
  refine y_goto (tgt := 159) dX10_init_180 (by decide) ?_
  refine y_iload_n dX10_init_159 rfl 0 rfl ?_
  refine y_iconst (v := 4) dX10_init_160 (by decide) ?_
  refine y_icmp_geF (tgt := 183) (by decide) dX10_init_161 (by decide) ?_
  refine y_aload_n dX10_init_164 rfl 1 rfl ?_
  refine y_getr (q := 32) dX10_init_165 flX10_63 (Nat.le_of_ble_eq_true rfl) rfl rfl rfl ?_
  refine y_iload_n dX10_init_168 rfl 0 rfl ?_
  refine y_new (ci := 6) (N := 3) dX10_init_169 q284 q339 q12 rfl inX6 rfl tyX6_ok rfl (fun _ _ => rfl) hdefX6 ?_
  show xC G m_X10_init d 172 [(1, .int (2 : Int32)), (0, .ref 0)] [.ref 67, .int (2 : Int32), .ref 32] (68, 3563, xSH, xr_72) _ _ _ _
  refine y_dup dX10_init_172 rfl ?_
  refine y_callI (As := []) (d2 := d - 1) dX10_init_173 kX10_79 (by omega) rfl rfl (Nat.le_of_ble_eq_true rfl) (Nat.le_of_ble_eq_true rfl) (pg_67 (by omega) _) (fun _ w31 h32 => ?_)
  show xC G m_X10_init d 176 [(1, .int (2 : Int32)), (0, .ref 0)] [.ref 67, .int (2 : Int32), .ref 32] (69, 3603, xSH, xr_73) _ _ _ _
  have z_w31 : w31 19 7 = 0 := by unfold g_67 at h32; cases h32; exact z_w29
  refine y_aast (t := 1) (ci := 6) dX10_init_176 (Nat.le_of_ble_eq_true rfl) rfl rfl (Nat.le_of_ble_eq_true rfl) rfl rfl rfl ?_
  show xC G m_X10_init d 177 [(1, .int (2 : Int32)), (0, .ref 0)] [] (69, 3603, xSH, xr_74) _ _ _ _
  refine y_iinc (j := 0) (v := 3) (lv' := [(1, .int (3 : Int32)), (0, .ref 0)]) dX10_init_177 (by decide) rfl (by decide) rfl ?_
  refine y_goto (tgt := 159) dX10_init_180 (by decide) ?_
  refine y_iload_n dX10_init_159 rfl 0 rfl ?_
  refine y_iconst (v := 4) dX10_init_160 (by decide) ?_
  refine y_icmp_geF (tgt := 183) (by decide) dX10_init_161 (by decide) ?_
  refine y_aload_n dX10_init_164 rfl 1 rfl ?_
  refine y_getr (q := 32) dX10_init_165 flX10_63 (Nat.le_of_ble_eq_true rfl) rfl rfl rfl ?_
  refine y_iload_n dX10_init_168 rfl 0 rfl ?_
  refine y_new (ci := 6) (N := 3) dX10_init_169 q284 q339 q12 rfl inX6 rfl tyX6_ok rfl (fun _ _ => rfl) hdefX6 ?_
  show xC G m_X10_init d 172 [(1, .int (3 : Int32)), (0, .ref 0)] [.ref 69, .int (3 : Int32), .ref 32] (70, 3606, xSH, xr_74) _ _ _ _
  refine y_dup dX10_init_172 rfl ?_
  refine y_callI (As := []) (d2 := d - 1) dX10_init_173 kX10_79 (by omega) rfl rfl (Nat.le_of_ble_eq_true rfl) (Nat.le_of_ble_eq_true rfl) (pg_69 (by omega) _) (fun _ w33 h34 => ?_)
  show xC G m_X10_init d 176 [(1, .int (3 : Int32)), (0, .ref 0)] [.ref 69, .int (3 : Int32), .ref 32] (71, 3646, xSH, xr_75) _ _ _ _
  have z_w33 : w33 19 7 = 0 := by unfold g_69 at h34; cases h34; exact z_w31
  refine y_aast (t := 1) (ci := 6) dX10_init_176 (Nat.le_of_ble_eq_true rfl) rfl rfl (Nat.le_of_ble_eq_true rfl) rfl rfl rfl ?_
  show xC G m_X10_init d 177 [(1, .int (3 : Int32)), (0, .ref 0)] [] (71, 3646, xSH, xr_76) _ _ _ _
  refine y_iinc (j := 0) (v := 4) (lv' := [(1, .int (4 : Int32)), (0, .ref 0)]) dX10_init_177 (by decide) rfl (by decide) rfl ?_
  refine y_goto (tgt := 159) dX10_init_180 (by decide) ?_
  refine y_iload_n dX10_init_159 rfl 0 rfl ?_
  refine y_iconst (v := 4) dX10_init_160 (by decide) ?_
  refine y_icmp_geT (tgt := 183) (by decide) dX10_init_161 (by decide) ?_
  refine y_iconst (v := 0) dX10_init_183 (by decide) ?_
  refine y_istore_n (lv' := [(1, .int (0 : Int32)), (0, .ref 0)]) dX10_init_184 rfl (by decide) rfl ?_
  refine y_sub [(0, .ref 0), (1, .int (0 : Int32))] [1, 0] rfl ?_
  refine xC.swap (F2 := xFin 71 3646) (w2 := w33) rfl rfl (xswX w33 z_w33) ?_
  exact p_X10_init_L185 (by decide) (by omega) 2000 (0 : Int32) _
set_option maxRecDepth 20000 in
set_option maxHeartbeats 2000000 in
theorem p_X11_init_L1047 {G : xG} {d : Nat} {n t : Nat} (hn : 102 ≤ n) (hd : 5 ≤ d) : ∀ (fu : Nat) (v1 : Int32) (w : xI), xC G m_X11_init d 1047 [(0, .ref 71), (1, .int v1)] [] (xFin n t) w (fun _ : Unit => none) (xFin n t) (f_X11_init_L1047 fu v1 w) := by
  intro fu
  induction fu with
  | zero => intro v1 w; exact xC.none
  | succ fu ih =>
    intro v1 w
    rw [f_X11_init_L1047]
    refine y_iload_n dX11_init_1047 rfl 1 rfl ?_
    refine y_bipush (v := 34) dX11_init_1048 (by decide) ?_
    refine y_icmp_ge (tgt := 1071) dX11_init_1050 (by decide) ?_ ?_
    · refine y_aload_n dX11_init_1071 rfl 0 rfl ?_
      refine y_bipush (v := 34) dX11_init_1072 (by decide) ?_
      refine y_puti dX11_init_1074 flX11_104 (xlt rfl hn) rfl rfl ?_
      refine y_aload_n dX11_init_1077 rfl 0 rfl ?_
      refine y_callV (As := []) (d2 := d - 1) dX11_init_1078 kX11_107 (by omega) rfl rfl (Nat.le_of_ble_eq_true rfl) (xlt rfl hn) rfl rfl (p_X11_text hn (by omega)   _) (fun r1 w2 _ => ?_)
      refine y_pop dX11_init_1081 rfl ?_
      exact y_return dX11_init_1082 rfl rfl
    · refine y_aload_n dX11_init_1053 rfl 0 rfl ?_
      refine y_getr (q := 80) dX11_init_1054 flX11_34 (xlt rfl hn) rfl rfl rfl ?_
      refine y_iload_n dX11_init_1057 rfl 1 rfl ?_
      refine y_aload_n dX11_init_1058 rfl 0 rfl ?_
      refine y_getr (q := 90) dX11_init_1059 flX11_64 (xlt rfl hn) rfl rfl rfl ?_
      refine y_iload_n dX11_init_1062 rfl 1 rfl ?_
      refine z_iald (v := (w 90 v1.toNatClampNeg)) dX11_init_1063 (xlt rfl hn) rfl rfl ?_
      refine y_iast dX11_init_1064 (xlt rfl hn) rfl ?_
      refine z_iinc (j := 1) dX11_init_1065 (by decide) rfl (by decide) (fun x3 => ?_)
      refine y_loc (lv' := [(1, .int x3), (0, .ref 71)]) rfl ?_
      refine y_goto (tgt := 1047) dX11_init_1068 (by decide) ?_
      refine y_sub [(0, .ref 71), (1, .int x3)] [1, 0] rfl ?_
      exact ih x3 (xup w 80 v1.toNatClampNeg (w 90 v1.toNatClampNeg)) 
set_option maxRecDepth 20000 in
set_option maxHeartbeats 4000000 in
theorem pg_71 {G : xG} {d : Nat} (hd : 5 ≤ d) (w : xI) : xMet G m_X11_init d [.ref 71] (72, 3707, xSH, xrm_0) w (fun _ : Unit => none) (xFin 102 7041) (g_71 w) := by
  refine xMet.of rfl (Nat.le_of_ble_eq_true rfl) ?_
  unfold g_71
  show xC G m_X11_init d 0 [(0, .ref 71)] [] (72, 3707, xSH, xrm_0) w _ _ _
  refine y_aload_n dX11_init_0 rfl 0 rfl ?_
  refine y_obj dX11_init_1 q979 (Nat.le_of_ble_eq_true rfl) (by omega) ?_
  refine y_aload_n dX11_init_4 rfl 0 rfl ?_
  refine y_iconst (v := 3) dX11_init_5 (by decide) ?_
  refine y_newa (N := 3) dX11_init_6 q65 (by decide) rfl (by decide) rfl ?_
  show xC G m_X11_init d 8 [(0, .ref 71)] [.ref 72, .ref 71] (73, 3710, xSH, xrm_0) _ _ _ _
  refine y_dup dX11_init_8 rfl ?_
  refine y_iconst (v := 0) dX11_init_9 (by decide) ?_
  refine y_iconst (v := 1) dX11_init_10 (by decide) ?_
  refine z_iast0 (j := 0) dX11_init_11 (Nat.le_of_ble_eq_true rfl) rfl rfl rfl ?_
  refine y_dup dX11_init_12 rfl ?_
  refine y_iconst (v := 1) dX11_init_13 (by decide) ?_
  refine y_iconst (v := 1) dX11_init_14 (by decide) ?_
  refine z_iast0 (j := 1) dX11_init_15 (Nat.le_of_ble_eq_true rfl) rfl rfl rfl ?_
  refine y_dup dX11_init_16 rfl ?_
  refine y_iconst (v := 2) dX11_init_17 (by decide) ?_
  refine y_iconst (v := 0) dX11_init_18 (by decide) ?_
  refine z_iast0 (j := 2) dX11_init_19 (Nat.le_of_ble_eq_true rfl) rfl rfl rfl ?_
  refine y_putF dX11_init_20 flX11_7 rfl (fun _ _ _ h => by cases h; rfl) (Nat.le_of_ble_eq_true rfl) rfl rfl ?_
  show xC G m_X11_init d 23 [(0, .ref 71)] [] (73, 3710, xSH, xr_77) _ _ _ _
  refine y_aload_n dX11_init_23 rfl 0 rfl ?_
  refine y_iconst (v := 5) dX11_init_24 (by decide) ?_
  refine y_newa (N := 5) dX11_init_25 q65 (by decide) rfl (by decide) rfl ?_
  show xC G m_X11_init d 27 [(0, .ref 71)] [.ref 73, .ref 71] (74, 3715, xSH, xr_77) _ _ _ _
  refine y_putF dX11_init_27 flX11_13 rfl (fun _ _ _ h => by cases h; rfl) (Nat.le_of_ble_eq_true rfl) rfl rfl ?_
  show xC G m_X11_init d 30 [(0, .ref 71)] [] (74, 3715, xSH, xr_78) _ _ _ _
  refine y_aload_n dX11_init_30 rfl 0 rfl ?_
  refine y_bipush (v := 10) dX11_init_31 (by decide) ?_
  refine y_newa (N := 10) dX11_init_33 q65 (by decide) rfl (by decide) rfl ?_
  show xC G m_X11_init d 35 [(0, .ref 71)] [.ref 74, .ref 71] (75, 3725, xSH, xr_78) _ _ _ _
  refine y_putF dX11_init_35 flX11_16 rfl (fun _ _ _ h => by cases h; rfl) (Nat.le_of_ble_eq_true rfl) rfl rfl ?_
  show xC G m_X11_init d 38 [(0, .ref 71)] [] (75, 3725, xSH, xr_79) _ _ _ _
  refine y_aload_n dX11_init_38 rfl 0 rfl ?_
  refine y_bipush (v := 10) dX11_init_39 (by decide) ?_
  refine y_newa (N := 10) dX11_init_41 q65 (by decide) rfl (by decide) rfl ?_
  show xC G m_X11_init d 43 [(0, .ref 71)] [.ref 75, .ref 71] (76, 3735, xSH, xr_79) _ _ _ _
  refine y_putF dX11_init_43 flX11_19 rfl (fun _ _ _ h => by cases h; rfl) (Nat.le_of_ble_eq_true rfl) rfl rfl ?_
  show xC G m_X11_init d 46 [(0, .ref 71)] [] (76, 3735, xSH, xr_80) _ _ _ _
  refine y_aload_n dX11_init_46 rfl 0 rfl ?_
  refine y_bipush (v := 10) dX11_init_47 (by decide) ?_
  refine y_newa (N := 10) dX11_init_49 q65 (by decide) rfl (by decide) rfl ?_
  show xC G m_X11_init d 51 [(0, .ref 71)] [.ref 76, .ref 71] (77, 3745, xSH, xr_80) _ _ _ _
  refine y_putF dX11_init_51 flX11_22 rfl (fun _ _ _ h => by cases h; rfl) (Nat.le_of_ble_eq_true rfl) rfl rfl ?_
  show xC G m_X11_init d 54 [(0, .ref 71)] [] (77, 3745, xSH, xr_81) _ _ _ _
  refine y_aload_n dX11_init_54 rfl 0 rfl ?_
  refine y_bipush (v := 10) dX11_init_55 (by decide) ?_
  refine y_newa (N := 10) dX11_init_57 q65 (by decide) rfl (by decide) rfl ?_
  show xC G m_X11_init d 59 [(0, .ref 71)] [.ref 77, .ref 71] (78, 3755, xSH, xr_81) _ _ _ _
  refine y_putF dX11_init_59 flX11_25 rfl (fun _ _ _ h => by cases h; rfl) (Nat.le_of_ble_eq_true rfl) rfl rfl ?_
  show xC G m_X11_init d 62 [(0, .ref 71)] [] (78, 3755, xSH, xr_82) _ _ _ _
  refine y_aload_n dX11_init_62 rfl 0 rfl ?_
  refine y_bipush (v := 10) dX11_init_63 (by decide) ?_
  refine y_newa (N := 10) dX11_init_65 q65 (by decide) rfl (by decide) rfl ?_
  show xC G m_X11_init d 67 [(0, .ref 71)] [.ref 78, .ref 71] (79, 3765, xSH, xr_82) _ _ _ _
  refine y_putF dX11_init_67 flX11_28 rfl (fun _ _ _ h => by cases h; rfl) (Nat.le_of_ble_eq_true rfl) rfl rfl ?_
  show xC G m_X11_init d 70 [(0, .ref 71)] [] (79, 3765, xSH, xr_83) _ _ _ _
  refine y_aload_n dX11_init_70 rfl 0 rfl ?_
  refine y_bipush (v := 10) dX11_init_71 (by decide) ?_
  refine y_newa (N := 10) dX11_init_73 q65 (by decide) rfl (by decide) rfl ?_
  show xC G m_X11_init d 75 [(0, .ref 71)] [.ref 79, .ref 71] (80, 3775, xSH, xr_83) _ _ _ _
  refine y_putF dX11_init_75 flX11_31 rfl (fun _ _ _ h => by cases h; rfl) (Nat.le_of_ble_eq_true rfl) rfl rfl ?_
  show xC G m_X11_init d 78 [(0, .ref 71)] [] (80, 3775, xSH, xr_84) _ _ _ _
  refine y_aload_n dX11_init_78 rfl 0 rfl ?_
  refine y_sipush (v := 160) dX11_init_79 (by decide) ?_
  refine y_newa (N := 160) dX11_init_82 q65 (by decide) rfl (by decide) rfl ?_
  show xC G m_X11_init d 84 [(0, .ref 71)] [.ref 80, .ref 71] (81, 3935, xSH, xr_84) _ _ _ _
  refine y_putF dX11_init_84 flX11_34 rfl (fun _ _ _ h => by cases h; rfl) (Nat.le_of_ble_eq_true rfl) rfl rfl ?_
  show xC G m_X11_init d 87 [(0, .ref 71)] [] (81, 3935, xSH, xr_85) _ _ _ _
  refine y_aload_n dX11_init_87 rfl 0 rfl ?_
  refine y_sipush (v := 1200) dX11_init_88 (by decide) ?_
  refine y_newa (N := 1200) dX11_init_91 q65 (by decide) rfl (by decide) rfl ?_
  show xC G m_X11_init d 93 [(0, .ref 71)] [.ref 81, .ref 71] (82, 5135, xSH, xr_85) _ _ _ _
  refine y_putF dX11_init_93 flX11_37 rfl (fun _ _ _ h => by cases h; rfl) (Nat.le_of_ble_eq_true rfl) rfl rfl ?_
  show xC G m_X11_init d 96 [(0, .ref 71)] [] (82, 5135, xSH, xr_86) _ _ _ _
  refine y_aload_n dX11_init_96 rfl 0 rfl ?_
  refine y_bipush (v := 24) dX11_init_97 (by decide) ?_
  refine y_newa (N := 24) dX11_init_99 q65 (by decide) rfl (by decide) rfl ?_
  show xC G m_X11_init d 101 [(0, .ref 71)] [.ref 82, .ref 71] (83, 5159, xSH, xr_86) _ _ _ _
  refine y_putF dX11_init_101 flX11_40 rfl (fun _ _ _ h => by cases h; rfl) (Nat.le_of_ble_eq_true rfl) rfl rfl ?_
  show xC G m_X11_init d 104 [(0, .ref 71)] [] (83, 5159, xSH, xr_87) _ _ _ _
  refine y_aload_n dX11_init_104 rfl 0 rfl ?_
  refine y_iconst (v := 3) dX11_init_105 (by decide) ?_
  refine y_newa (N := 3) dX11_init_106 q65 (by decide) rfl (by decide) rfl ?_
  show xC G m_X11_init d 108 [(0, .ref 71)] [.ref 83, .ref 71] (84, 5162, xSH, xr_87) _ _ _ _
  refine y_putF dX11_init_108 flX11_43 rfl (fun _ _ _ h => by cases h; rfl) (Nat.le_of_ble_eq_true rfl) rfl rfl ?_
  show xC G m_X11_init d 111 [(0, .ref 71)] [] (84, 5162, xSH, xr_88) _ _ _ _
  refine y_aload_n dX11_init_111 rfl 0 rfl ?_
  refine y_iconst (v := 5) dX11_init_112 (by decide) ?_
  refine y_newa (N := 5) dX11_init_113 q65 (by decide) rfl (by decide) rfl ?_
  show xC G m_X11_init d 115 [(0, .ref 71)] [.ref 84, .ref 71] (85, 5167, xSH, xr_88) _ _ _ _
  refine y_putF dX11_init_115 flX11_46 rfl (fun _ _ _ h => by cases h; rfl) (Nat.le_of_ble_eq_true rfl) rfl rfl ?_
  show xC G m_X11_init d 118 [(0, .ref 71)] [] (85, 5167, xSH, xr_89) _ _ _ _
  refine y_aload_n dX11_init_118 rfl 0 rfl ?_
  refine y_bipush (v := 10) dX11_init_119 (by decide) ?_
  refine y_newa (N := 10) dX11_init_121 q65 (by decide) rfl (by decide) rfl ?_
  show xC G m_X11_init d 123 [(0, .ref 71)] [.ref 85, .ref 71] (86, 5177, xSH, xr_89) _ _ _ _
  refine y_putF dX11_init_123 flX11_49 rfl (fun _ _ _ h => by cases h; rfl) (Nat.le_of_ble_eq_true rfl) rfl rfl ?_
  show xC G m_X11_init d 126 [(0, .ref 71)] [] (86, 5177, xSH, xr_90) _ _ _ _
  refine y_aload_n dX11_init_126 rfl 0 rfl ?_
  refine y_bipush (v := 10) dX11_init_127 (by decide) ?_
  refine y_newa (N := 10) dX11_init_129 q65 (by decide) rfl (by decide) rfl ?_
  show xC G m_X11_init d 131 [(0, .ref 71)] [.ref 86, .ref 71] (87, 5187, xSH, xr_90) _ _ _ _
  refine y_putF dX11_init_131 flX11_52 rfl (fun _ _ _ h => by cases h; rfl) (Nat.le_of_ble_eq_true rfl) rfl rfl ?_
  show xC G m_X11_init d 134 [(0, .ref 71)] [] (87, 5187, xSH, xr_91) _ _ _ _
  refine y_aload_n dX11_init_134 rfl 0 rfl ?_
  refine y_iconst (v := 4) dX11_init_135 (by decide) ?_
  refine y_newa (N := 4) dX11_init_136 q65 (by decide) rfl (by decide) rfl ?_
  show xC G m_X11_init d 138 [(0, .ref 71)] [.ref 87, .ref 71] (88, 5191, xSH, xr_91) _ _ _ _
  refine y_dup dX11_init_138 rfl ?_
  refine y_iconst (v := 0) dX11_init_139 (by decide) ?_
  refine y_iconst (v := (-1)) dX11_init_140 (by decide) ?_
  refine z_iast0 (j := 0) dX11_init_141 (Nat.le_of_ble_eq_true rfl) rfl rfl rfl ?_
  refine y_dup dX11_init_142 rfl ?_
  refine y_iconst (v := 1) dX11_init_143 (by decide) ?_
  refine y_iconst (v := (-1)) dX11_init_144 (by decide) ?_
  refine z_iast0 (j := 1) dX11_init_145 (Nat.le_of_ble_eq_true rfl) rfl rfl rfl ?_
  refine y_dup dX11_init_146 rfl ?_
  refine y_iconst (v := 2) dX11_init_147 (by decide) ?_
  refine y_iconst (v := (-1)) dX11_init_148 (by decide) ?_
  refine z_iast0 (j := 2) dX11_init_149 (Nat.le_of_ble_eq_true rfl) rfl rfl rfl ?_
  refine y_dup dX11_init_150 rfl ?_
  refine y_iconst (v := 3) dX11_init_151 (by decide) ?_
  refine y_iconst (v := (-1)) dX11_init_152 (by decide) ?_
  refine z_iast0 (j := 3) dX11_init_153 (Nat.le_of_ble_eq_true rfl) rfl rfl rfl ?_
  refine y_putF dX11_init_154 flX11_55 rfl (fun _ _ _ h => by cases h; rfl) (Nat.le_of_ble_eq_true rfl) rfl rfl ?_
  show xC G m_X11_init d 157 [(0, .ref 71)] [] (88, 5191, xSH, xr_92) _ _ _ _
  refine y_aload_n dX11_init_157 rfl 0 rfl ?_
  refine y_iconst (v := 4) dX11_init_158 (by decide) ?_
  refine y_newa (N := 4) dX11_init_159 q65 (by decide) rfl (by decide) rfl ?_
  show xC G m_X11_init d 161 [(0, .ref 71)] [.ref 88, .ref 71] (89, 5195, xSH, xr_92) _ _ _ _
  refine y_putF dX11_init_161 flX11_58 rfl (fun _ _ _ h => by cases h; rfl) (Nat.le_of_ble_eq_true rfl) rfl rfl ?_
  show xC G m_X11_init d 164 [(0, .ref 71)] [] (89, 5195, xSH, xr_93) _ _ _ _
  refine y_aload_n dX11_init_164 rfl 0 rfl ?_
  refine y_sipush (v := 160) dX11_init_165 (by decide) ?_
  refine y_newa (N := 160) dX11_init_168 q65 (by decide) rfl (by decide) rfl ?_
  show xC G m_X11_init d 170 [(0, .ref 71)] [.ref 89, .ref 71] (90, 5355, xSH, xr_93) _ _ _ _
  refine y_putF dX11_init_170 flX11_61 rfl (fun _ _ _ h => by cases h; rfl) (Nat.le_of_ble_eq_true rfl) rfl rfl ?_
  show xC G m_X11_init d 173 [(0, .ref 71)] [] (90, 5355, xSH, xr_94) _ _ _ _
  refine y_aload_n dX11_init_173 rfl 0 rfl ?_
  refine y_bipush (v := 34) dX11_init_174 (by decide) ?_
  refine y_newa (N := 34) dX11_init_176 q65 (by decide) rfl (by decide) rfl ?_
  show xC G m_X11_init d 178 [(0, .ref 71)] [.ref 90, .ref 71] (91, 5389, xSH, xr_94) _ _ _ _
  refine y_dup dX11_init_178 rfl ?_
  refine y_iconst (v := 0) dX11_init_179 (by decide) ?_
  refine y_bipush (v := 109) dX11_init_180 (by decide) ?_
  refine z_iast0 (j := 0) dX11_init_182 (Nat.le_of_ble_eq_true rfl) rfl rfl rfl ?_
  refine y_dup dX11_init_183 rfl ?_
  refine y_iconst (v := 1) dX11_init_184 (by decide) ?_
  refine y_bipush (v := 97) dX11_init_185 (by decide) ?_
  refine z_iast0 (j := 1) dX11_init_187 (Nat.le_of_ble_eq_true rfl) rfl rfl rfl ?_
  refine y_dup dX11_init_188 rfl ?_
  refine y_iconst (v := 2) dX11_init_189 (by decide) ?_
  refine y_bipush (v := 121) dX11_init_190 (by decide) ?_
  refine z_iast0 (j := 2) dX11_init_192 (Nat.le_of_ble_eq_true rfl) rfl rfl rfl ?_
  refine y_dup dX11_init_193 rfl ?_
  refine y_iconst (v := 3) dX11_init_194 (by decide) ?_
  refine y_bipush (v := 32) dX11_init_195 (by decide) ?_
  refine z_iast0 (j := 3) dX11_init_197 (Nat.le_of_ble_eq_true rfl) rfl rfl rfl ?_
  refine y_dup dX11_init_198 rfl ?_
  refine y_iconst (v := 4) dX11_init_199 (by decide) ?_
  refine y_bipush (v := 49) dX11_init_200 (by decide) ?_
  refine z_iast0 (j := 4) dX11_init_202 (Nat.le_of_ble_eq_true rfl) rfl rfl rfl ?_
  refine y_dup dX11_init_203 rfl ?_
  refine y_iconst (v := 5) dX11_init_204 (by decide) ?_
  refine y_bipush (v := 32) dX11_init_205 (by decide) ?_
  refine z_iast0 (j := 5) dX11_init_207 (Nat.le_of_ble_eq_true rfl) rfl rfl rfl ?_
  refine y_dup dX11_init_208 rfl ?_
  refine y_bipush (v := 6) dX11_init_209 (by decide) ?_
  refine y_bipush (v := 59) dX11_init_211 (by decide) ?_
  refine z_iast0 (j := 6) dX11_init_213 (Nat.le_of_ble_eq_true rfl) rfl rfl rfl ?_
  refine y_dup dX11_init_214 rfl ?_
  refine y_bipush (v := 7) dX11_init_215 (by decide) ?_
  refine y_bipush (v := 32) dX11_init_217 (by decide) ?_
  refine z_iast0 (j := 7) dX11_init_219 (Nat.le_of_ble_eq_true rfl) rfl rfl rfl ?_
  refine y_dup dX11_init_220 rfl ?_
  refine y_bipush (v := 8) dX11_init_221 (by decide) ?_
  refine y_bipush (v := 102) dX11_init_223 (by decide) ?_
  refine z_iast0 (j := 8) dX11_init_225 (Nat.le_of_ble_eq_true rfl) rfl rfl rfl ?_
  refine y_dup dX11_init_226 rfl ?_
  refine y_bipush (v := 9) dX11_init_227 (by decide) ?_
  refine y_bipush (v := 105) dX11_init_229 (by decide) ?_
  refine z_iast0 (j := 9) dX11_init_231 (Nat.le_of_ble_eq_true rfl) rfl rfl rfl ?_
  refine y_dup dX11_init_232 rfl ?_
  refine y_bipush (v := 10) dX11_init_233 (by decide) ?_
  refine y_bipush (v := 110) dX11_init_235 (by decide) ?_
  refine z_iast0 (j := 10) dX11_init_237 (Nat.le_of_ble_eq_true rfl) rfl rfl rfl ?_
  refine y_dup dX11_init_238 rfl ?_
  refine y_bipush (v := 11) dX11_init_239 (by decide) ?_
  refine y_bipush (v := 101) dX11_init_241 (by decide) ?_
  refine z_iast0 (j := 11) dX11_init_243 (Nat.le_of_ble_eq_true rfl) rfl rfl rfl ?_
  refine y_dup dX11_init_244 rfl ?_
  refine y_bipush (v := 12) dX11_init_245 (by decide) ?_
  refine y_bipush (v := 32) dX11_init_247 (by decide) ?_
  refine z_iast0 (j := 12) dX11_init_249 (Nat.le_of_ble_eq_true rfl) rfl rfl rfl ?_
  refine y_dup dX11_init_250 rfl ?_
  refine y_bipush (v := 13) dX11_init_251 (by decide) ?_
  refine y_bipush (v := 111) dX11_init_253 (by decide) ?_
  refine z_iast0 (j := 13) dX11_init_255 (Nat.le_of_ble_eq_true rfl) rfl rfl rfl ?_
  refine y_dup dX11_init_256 rfl ?_
  refine y_bipush (v := 14) dX11_init_257 (by decide) ?_
  refine y_bipush (v := 102) dX11_init_259 (by decide) ?_
  refine z_iast0 (j := 14) dX11_init_261 (Nat.le_of_ble_eq_true rfl) rfl rfl rfl ?_
  refine y_dup dX11_init_262 rfl ?_
  refine y_bipush (v := 15) dX11_init_263 (by decide) ?_
  refine y_bipush (v := 102) dX11_init_265 (by decide) ?_
  refine z_iast0 (j := 15) dX11_init_267 (Nat.le_of_ble_eq_true rfl) rfl rfl rfl ?_
  refine y_dup dX11_init_268 rfl ?_
  refine y_bipush (v := 16) dX11_init_269 (by decide) ?_
  refine y_bipush (v := 32) dX11_init_271 (by decide) ?_
  refine z_iast0 (j := 16) dX11_init_273 (Nat.le_of_ble_eq_true rfl) rfl rfl rfl ?_
  refine y_dup dX11_init_274 rfl ?_
  refine y_bipush (v := 17) dX11_init_275 (by decide) ?_
  refine y_bipush (v := 42) dX11_init_277 (by decide) ?_
  refine z_iast0 (j := 17) dX11_init_279 (Nat.le_of_ble_eq_true rfl) rfl rfl rfl ?_
  refine y_dup dX11_init_280 rfl ?_
  refine y_bipush (v := 18) dX11_init_281 (by decide) ?_
  refine y_bipush (v := 32) dX11_init_283 (by decide) ?_
  refine z_iast0 (j := 18) dX11_init_285 (Nat.le_of_ble_eq_true rfl) rfl rfl rfl ?_
  refine y_dup dX11_init_286 rfl ?_
  refine y_bipush (v := 19) dX11_init_287 (by decide) ?_
  refine y_bipush (v := 50) dX11_init_289 (by decide) ?_
  refine z_iast0 (j := 19) dX11_init_291 (Nat.le_of_ble_eq_true rfl) rfl rfl rfl ?_
  refine y_dup dX11_init_292 rfl ?_
  refine y_bipush (v := 20) dX11_init_293 (by decide) ?_
  refine y_bipush (v := 32) dX11_init_295 (by decide) ?_
  refine z_iast0 (j := 20) dX11_init_297 (Nat.le_of_ble_eq_true rfl) rfl rfl rfl ?_
  refine y_dup dX11_init_298 rfl ?_
  refine y_bipush (v := 21) dX11_init_299 (by decide) ?_
  refine y_bipush (v := 59) dX11_init_301 (by decide) ?_
  refine z_iast0 (j := 21) dX11_init_303 (Nat.le_of_ble_eq_true rfl) rfl rfl rfl ?_
  refine y_dup dX11_init_304 rfl ?_
  refine y_bipush (v := 22) dX11_init_305 (by decide) ?_
  refine y_bipush (v := 32) dX11_init_307 (by decide) ?_
  refine z_iast0 (j := 22) dX11_init_309 (Nat.le_of_ble_eq_true rfl) rfl rfl rfl ?_
  refine y_dup dX11_init_310 rfl ?_
  refine y_bipush (v := 23) dX11_init_311 (by decide) ?_
  refine y_bipush (v := 116) dX11_init_313 (by decide) ?_
  refine z_iast0 (j := 23) dX11_init_315 (Nat.le_of_ble_eq_true rfl) rfl rfl rfl ?_
  refine y_dup dX11_init_316 rfl ?_
  refine y_bipush (v := 24) dX11_init_317 (by decide) ?_
  refine y_bipush (v := 111) dX11_init_319 (by decide) ?_
  refine z_iast0 (j := 24) dX11_init_321 (Nat.le_of_ble_eq_true rfl) rfl rfl rfl ?_
  refine y_dup dX11_init_322 rfl ?_
  refine y_bipush (v := 25) dX11_init_323 (by decide) ?_
  refine y_bipush (v := 108) dX11_init_325 (by decide) ?_
  refine z_iast0 (j := 25) dX11_init_327 (Nat.le_of_ble_eq_true rfl) rfl rfl rfl ?_
  refine y_dup dX11_init_328 rfl ?_
  refine y_bipush (v := 26) dX11_init_329 (by decide) ?_
  refine y_bipush (v := 108) dX11_init_331 (by decide) ?_
  refine z_iast0 (j := 26) dX11_init_333 (Nat.le_of_ble_eq_true rfl) rfl rfl rfl ?_
  refine y_dup dX11_init_334 rfl ?_
  refine y_bipush (v := 27) dX11_init_335 (by decide) ?_
  refine y_bipush (v := 32) dX11_init_337 (by decide) ?_
  refine z_iast0 (j := 27) dX11_init_339 (Nat.le_of_ble_eq_true rfl) rfl rfl rfl ?_
  refine y_dup dX11_init_340 rfl ?_
  refine y_bipush (v := 28) dX11_init_341 (by decide) ?_
  refine y_bipush (v := 104) dX11_init_343 (by decide) ?_
  refine z_iast0 (j := 28) dX11_init_345 (Nat.le_of_ble_eq_true rfl) rfl rfl rfl ?_
  refine y_dup dX11_init_346 rfl ?_
  refine y_bipush (v := 29) dX11_init_347 (by decide) ?_
  refine y_bipush (v := 111) dX11_init_349 (by decide) ?_
  refine z_iast0 (j := 29) dX11_init_351 (Nat.le_of_ble_eq_true rfl) rfl rfl rfl ?_
  refine y_dup dX11_init_352 rfl ?_
  refine y_bipush (v := 30) dX11_init_353 (by decide) ?_
  refine y_bipush (v := 117) dX11_init_355 (by decide) ?_
  refine z_iast0 (j := 30) dX11_init_357 (Nat.le_of_ble_eq_true rfl) rfl rfl rfl ?_
  refine y_dup dX11_init_358 rfl ?_
  refine y_bipush (v := 31) dX11_init_359 (by decide) ?_
  refine y_bipush (v := 114) dX11_init_361 (by decide) ?_
  refine z_iast0 (j := 31) dX11_init_363 (Nat.le_of_ble_eq_true rfl) rfl rfl rfl ?_
  refine y_dup dX11_init_364 rfl ?_
  refine y_bipush (v := 32) dX11_init_365 (by decide) ?_
  refine y_bipush (v := 32) dX11_init_367 (by decide) ?_
  refine z_iast0 (j := 32) dX11_init_369 (Nat.le_of_ble_eq_true rfl) rfl rfl rfl ?_
  refine y_dup dX11_init_370 rfl ?_
  refine y_bipush (v := 33) dX11_init_371 (by decide) ?_
  refine y_bipush (v := 59) dX11_init_373 (by decide) ?_
  refine z_iast0 (j := 33) dX11_init_375 (Nat.le_of_ble_eq_true rfl) rfl rfl rfl ?_
  refine y_putF dX11_init_376 flX11_64 rfl (fun _ _ _ h => by cases h; rfl) (Nat.le_of_ble_eq_true rfl) rfl rfl ?_
  show xC G m_X11_init d 379 [(0, .ref 71)] [] (91, 5389, xSH, xr_95) _ _ _ _
  refine y_aload_n dX11_init_379 rfl 0 rfl ?_
  refine y_bipush (v := 96) dX11_init_380 (by decide) ?_
  refine y_newa (N := 96) dX11_init_382 q65 (by decide) rfl (by decide) rfl ?_
  show xC G m_X11_init d 384 [(0, .ref 71)] [.ref 91, .ref 71] (92, 5485, xSH, xr_95) _ _ _ _
  refine y_dup dX11_init_384 rfl ?_
  refine y_iconst (v := 0) dX11_init_385 (by decide) ?_
  refine y_bipush (v := 109) dX11_init_386 (by decide) ?_
  refine z_iast0 (j := 0) dX11_init_388 (Nat.le_of_ble_eq_true rfl) rfl rfl rfl ?_
  refine y_dup dX11_init_389 rfl ?_
  refine y_iconst (v := 1) dX11_init_390 (by decide) ?_
  refine y_bipush (v := 97) dX11_init_391 (by decide) ?_
  refine z_iast0 (j := 1) dX11_init_393 (Nat.le_of_ble_eq_true rfl) rfl rfl rfl ?_
  refine y_dup dX11_init_394 rfl ?_
  refine y_iconst (v := 2) dX11_init_395 (by decide) ?_
  refine y_bipush (v := 121) dX11_init_396 (by decide) ?_
  refine z_iast0 (j := 2) dX11_init_398 (Nat.le_of_ble_eq_true rfl) rfl rfl rfl ?_
  refine y_dup dX11_init_399 rfl ?_
  refine y_iconst (v := 3) dX11_init_400 (by decide) ?_
  refine y_bipush (v := 32) dX11_init_401 (by decide) ?_
  refine z_iast0 (j := 3) dX11_init_403 (Nat.le_of_ble_eq_true rfl) rfl rfl rfl ?_
  refine y_dup dX11_init_404 rfl ?_
  refine y_iconst (v := 4) dX11_init_405 (by decide) ?_
  refine y_bipush (v := 32) dX11_init_406 (by decide) ?_
  refine z_iast0 (j := 4) dX11_init_408 (Nat.le_of_ble_eq_true rfl) rfl rfl rfl ?_
  refine y_dup dX11_init_409 rfl ?_
  refine y_iconst (v := 5) dX11_init_410 (by decide) ?_
  refine y_bipush (v := 32) dX11_init_411 (by decide) ?_
  refine z_iast0 (j := 5) dX11_init_413 (Nat.le_of_ble_eq_true rfl) rfl rfl rfl ?_
  refine y_dup dX11_init_414 rfl ?_
  refine y_bipush (v := 6) dX11_init_415 (by decide) ?_
  refine y_bipush (v := 32) dX11_init_417 (by decide) ?_
  refine z_iast0 (j := 6) dX11_init_419 (Nat.le_of_ble_eq_true rfl) rfl rfl rfl ?_
  refine y_dup dX11_init_420 rfl ?_
  refine y_bipush (v := 7) dX11_init_421 (by decide) ?_
  refine y_bipush (v := 32) dX11_init_423 (by decide) ?_
  refine z_iast0 (j := 7) dX11_init_425 (Nat.le_of_ble_eq_true rfl) rfl rfl rfl ?_
  refine y_dup dX11_init_426 rfl ?_
  refine y_bipush (v := 8) dX11_init_427 (by decide) ?_
  refine y_bipush (v := 102) dX11_init_429 (by decide) ?_
  refine z_iast0 (j := 8) dX11_init_431 (Nat.le_of_ble_eq_true rfl) rfl rfl rfl ?_
  refine y_dup dX11_init_432 rfl ?_
  refine y_bipush (v := 9) dX11_init_433 (by decide) ?_
  refine y_bipush (v := 105) dX11_init_435 (by decide) ?_
  refine z_iast0 (j := 9) dX11_init_437 (Nat.le_of_ble_eq_true rfl) rfl rfl rfl ?_
  refine y_dup dX11_init_438 rfl ?_
  refine y_bipush (v := 10) dX11_init_439 (by decide) ?_
  refine y_bipush (v := 110) dX11_init_441 (by decide) ?_
  refine z_iast0 (j := 10) dX11_init_443 (Nat.le_of_ble_eq_true rfl) rfl rfl rfl ?_
  refine y_dup dX11_init_444 rfl ?_
  refine y_bipush (v := 11) dX11_init_445 (by decide) ?_
  refine y_bipush (v := 101) dX11_init_447 (by decide) ?_
  refine z_iast0 (j := 11) dX11_init_449 (Nat.le_of_ble_eq_true rfl) rfl rfl rfl ?_
  refine y_dup dX11_init_450 rfl ?_
  refine y_bipush (v := 12) dX11_init_451 (by decide) ?_
  refine y_bipush (v := 32) dX11_init_453 (by decide) ?_
  refine z_iast0 (j := 12) dX11_init_455 (Nat.le_of_ble_eq_true rfl) rfl rfl rfl ?_
  refine y_dup dX11_init_456 rfl ?_
  refine y_bipush (v := 13) dX11_init_457 (by decide) ?_
  refine y_bipush (v := 32) dX11_init_459 (by decide) ?_
  refine z_iast0 (j := 13) dX11_init_461 (Nat.le_of_ble_eq_true rfl) rfl rfl rfl ?_
  refine y_dup dX11_init_462 rfl ?_
  refine y_bipush (v := 14) dX11_init_463 (by decide) ?_
  refine y_bipush (v := 32) dX11_init_465 (by decide) ?_
  refine z_iast0 (j := 14) dX11_init_467 (Nat.le_of_ble_eq_true rfl) rfl rfl rfl ?_
  refine y_dup dX11_init_468 rfl ?_
  refine y_bipush (v := 15) dX11_init_469 (by decide) ?_
  refine y_bipush (v := 32) dX11_init_471 (by decide) ?_
  refine z_iast0 (j := 15) dX11_init_473 (Nat.le_of_ble_eq_true rfl) rfl rfl rfl ?_
  refine y_dup dX11_init_474 rfl ?_
  refine y_bipush (v := 16) dX11_init_475 (by decide) ?_
  refine y_bipush (v := 116) dX11_init_477 (by decide) ?_
  refine z_iast0 (j := 16) dX11_init_479 (Nat.le_of_ble_eq_true rfl) rfl rfl rfl ?_
  refine y_dup dX11_init_480 rfl ?_
  refine y_bipush (v := 17) dX11_init_481 (by decide) ?_
  refine y_bipush (v := 111) dX11_init_483 (by decide) ?_
  refine z_iast0 (j := 17) dX11_init_485 (Nat.le_of_ble_eq_true rfl) rfl rfl rfl ?_
  refine y_dup dX11_init_486 rfl ?_
  refine y_bipush (v := 18) dX11_init_487 (by decide) ?_
  refine y_bipush (v := 108) dX11_init_489 (by decide) ?_
  refine z_iast0 (j := 18) dX11_init_491 (Nat.le_of_ble_eq_true rfl) rfl rfl rfl ?_
  refine y_dup dX11_init_492 rfl ?_
  refine y_bipush (v := 19) dX11_init_493 (by decide) ?_
  refine y_bipush (v := 108) dX11_init_495 (by decide) ?_
  refine z_iast0 (j := 19) dX11_init_497 (Nat.le_of_ble_eq_true rfl) rfl rfl rfl ?_
  refine y_dup dX11_init_498 rfl ?_
  refine y_bipush (v := 20) dX11_init_499 (by decide) ?_
  refine y_bipush (v := 32) dX11_init_501 (by decide) ?_
  refine z_iast0 (j := 20) dX11_init_503 (Nat.le_of_ble_eq_true rfl) rfl rfl rfl ?_
  refine y_dup dX11_init_504 rfl ?_
  refine y_bipush (v := 21) dX11_init_505 (by decide) ?_
  refine y_bipush (v := 32) dX11_init_507 (by decide) ?_
  refine z_iast0 (j := 21) dX11_init_509 (Nat.le_of_ble_eq_true rfl) rfl rfl rfl ?_
  refine y_dup dX11_init_510 rfl ?_
  refine y_bipush (v := 22) dX11_init_511 (by decide) ?_
  refine y_bipush (v := 32) dX11_init_513 (by decide) ?_
  refine z_iast0 (j := 22) dX11_init_515 (Nat.le_of_ble_eq_true rfl) rfl rfl rfl ?_
  refine y_dup dX11_init_516 rfl ?_
  refine y_bipush (v := 23) dX11_init_517 (by decide) ?_
  refine y_bipush (v := 32) dX11_init_519 (by decide) ?_
  refine z_iast0 (j := 23) dX11_init_521 (Nat.le_of_ble_eq_true rfl) rfl rfl rfl ?_
  refine y_dup dX11_init_522 rfl ?_
  refine y_bipush (v := 24) dX11_init_523 (by decide) ?_
  refine y_bipush (v := 105) dX11_init_525 (by decide) ?_
  refine z_iast0 (j := 24) dX11_init_527 (Nat.le_of_ble_eq_true rfl) rfl rfl rfl ?_
  refine y_dup dX11_init_528 rfl ?_
  refine y_bipush (v := 25) dX11_init_529 (by decide) ?_
  refine y_bipush (v := 110) dX11_init_531 (by decide) ?_
  refine z_iast0 (j := 25) dX11_init_533 (Nat.le_of_ble_eq_true rfl) rfl rfl rfl ?_
  refine y_dup dX11_init_534 rfl ?_
  refine y_bipush (v := 26) dX11_init_535 (by decide) ?_
  refine y_bipush (v := 32) dX11_init_537 (by decide) ?_
  refine z_iast0 (j := 26) dX11_init_539 (Nat.le_of_ble_eq_true rfl) rfl rfl rfl ?_
  refine y_dup dX11_init_540 rfl ?_
  refine y_bipush (v := 27) dX11_init_541 (by decide) ?_
  refine y_bipush (v := 32) dX11_init_543 (by decide) ?_
  refine z_iast0 (j := 27) dX11_init_545 (Nat.le_of_ble_eq_true rfl) rfl rfl rfl ?_
  refine y_dup dX11_init_546 rfl ?_
  refine y_bipush (v := 28) dX11_init_547 (by decide) ?_
  refine y_bipush (v := 32) dX11_init_549 (by decide) ?_
  refine z_iast0 (j := 28) dX11_init_551 (Nat.le_of_ble_eq_true rfl) rfl rfl rfl ?_
  refine y_dup dX11_init_552 rfl ?_
  refine y_bipush (v := 29) dX11_init_553 (by decide) ?_
  refine y_bipush (v := 32) dX11_init_555 (by decide) ?_
  refine z_iast0 (j := 29) dX11_init_557 (Nat.le_of_ble_eq_true rfl) rfl rfl rfl ?_
  refine y_dup dX11_init_558 rfl ?_
  refine y_bipush (v := 30) dX11_init_559 (by decide) ?_
  refine y_bipush (v := 32) dX11_init_561 (by decide) ?_
  refine z_iast0 (j := 30) dX11_init_563 (Nat.le_of_ble_eq_true rfl) rfl rfl rfl ?_
  refine y_dup dX11_init_564 rfl ?_
  refine y_bipush (v := 31) dX11_init_565 (by decide) ?_
  refine y_bipush (v := 32) dX11_init_567 (by decide) ?_
  refine z_iast0 (j := 31) dX11_init_569 (Nat.le_of_ble_eq_true rfl) rfl rfl rfl ?_
  refine y_dup dX11_init_570 rfl ?_
  refine y_bipush (v := 32) dX11_init_571 (by decide) ?_
  refine y_bipush (v := 111) dX11_init_573 (by decide) ?_
  refine z_iast0 (j := 32) dX11_init_575 (Nat.le_of_ble_eq_true rfl) rfl rfl rfl ?_
  refine y_dup dX11_init_576 rfl ?_
  refine y_bipush (v := 33) dX11_init_577 (by decide) ?_
  refine y_bipush (v := 117) dX11_init_579 (by decide) ?_
  refine z_iast0 (j := 33) dX11_init_581 (Nat.le_of_ble_eq_true rfl) rfl rfl rfl ?_
  refine y_dup dX11_init_582 rfl ?_
  refine y_bipush (v := 34) dX11_init_583 (by decide) ?_
  refine y_bipush (v := 116) dX11_init_585 (by decide) ?_
  refine z_iast0 (j := 34) dX11_init_587 (Nat.le_of_ble_eq_true rfl) rfl rfl rfl ?_
  refine y_dup dX11_init_588 rfl ?_
  refine y_bipush (v := 35) dX11_init_589 (by decide) ?_
  refine y_bipush (v := 32) dX11_init_591 (by decide) ?_
  refine z_iast0 (j := 35) dX11_init_593 (Nat.le_of_ble_eq_true rfl) rfl rfl rfl ?_
  refine y_dup dX11_init_594 rfl ?_
  refine y_bipush (v := 36) dX11_init_595 (by decide) ?_
  refine y_bipush (v := 32) dX11_init_597 (by decide) ?_
  refine z_iast0 (j := 36) dX11_init_599 (Nat.le_of_ble_eq_true rfl) rfl rfl rfl ?_
  refine y_dup dX11_init_600 rfl ?_
  refine y_bipush (v := 37) dX11_init_601 (by decide) ?_
  refine y_bipush (v := 32) dX11_init_603 (by decide) ?_
  refine z_iast0 (j := 37) dX11_init_605 (Nat.le_of_ble_eq_true rfl) rfl rfl rfl ?_
  refine y_dup dX11_init_606 rfl ?_
  refine y_bipush (v := 38) dX11_init_607 (by decide) ?_
  refine y_bipush (v := 32) dX11_init_609 (by decide) ?_
  refine z_iast0 (j := 38) dX11_init_611 (Nat.le_of_ble_eq_true rfl) rfl rfl rfl ?_
  refine y_dup dX11_init_612 rfl ?_
  refine y_bipush (v := 39) dX11_init_613 (by decide) ?_
  refine y_bipush (v := 32) dX11_init_615 (by decide) ?_
  refine z_iast0 (j := 39) dX11_init_617 (Nat.le_of_ble_eq_true rfl) rfl rfl rfl ?_
  refine y_dup dX11_init_618 rfl ?_
  refine y_bipush (v := 40) dX11_init_619 (by decide) ?_
  refine y_bipush (v := 111) dX11_init_621 (by decide) ?_
  refine z_iast0 (j := 40) dX11_init_623 (Nat.le_of_ble_eq_true rfl) rfl rfl rfl ?_
  refine y_dup dX11_init_624 rfl ?_
  refine y_bipush (v := 41) dX11_init_625 (by decide) ?_
  refine y_bipush (v := 102) dX11_init_627 (by decide) ?_
  refine z_iast0 (j := 41) dX11_init_629 (Nat.le_of_ble_eq_true rfl) rfl rfl rfl ?_
  refine y_dup dX11_init_630 rfl ?_
  refine y_bipush (v := 42) dX11_init_631 (by decide) ?_
  refine y_bipush (v := 102) dX11_init_633 (by decide) ?_
  refine z_iast0 (j := 42) dX11_init_635 (Nat.le_of_ble_eq_true rfl) rfl rfl rfl ?_
  refine y_dup dX11_init_636 rfl ?_
  refine y_bipush (v := 43) dX11_init_637 (by decide) ?_
  refine y_bipush (v := 32) dX11_init_639 (by decide) ?_
  refine z_iast0 (j := 43) dX11_init_641 (Nat.le_of_ble_eq_true rfl) rfl rfl rfl ?_
  refine y_dup dX11_init_642 rfl ?_
  refine y_bipush (v := 44) dX11_init_643 (by decide) ?_
  refine y_bipush (v := 32) dX11_init_645 (by decide) ?_
  refine z_iast0 (j := 44) dX11_init_647 (Nat.le_of_ble_eq_true rfl) rfl rfl rfl ?_
  refine y_dup dX11_init_648 rfl ?_
  refine y_bipush (v := 45) dX11_init_649 (by decide) ?_
  refine y_bipush (v := 32) dX11_init_651 (by decide) ?_
  refine z_iast0 (j := 45) dX11_init_653 (Nat.le_of_ble_eq_true rfl) rfl rfl rfl ?_
  refine y_dup dX11_init_654 rfl ?_
  refine y_bipush (v := 46) dX11_init_655 (by decide) ?_
  refine y_bipush (v := 32) dX11_init_657 (by decide) ?_
  refine z_iast0 (j := 46) dX11_init_659 (Nat.le_of_ble_eq_true rfl) rfl rfl rfl ?_
  refine y_dup dX11_init_660 rfl ?_
  refine y_bipush (v := 47) dX11_init_661 (by decide) ?_
  refine y_bipush (v := 32) dX11_init_663 (by decide) ?_
  refine z_iast0 (j := 47) dX11_init_665 (Nat.le_of_ble_eq_true rfl) rfl rfl rfl ?_
  refine y_dup dX11_init_666 rfl ?_
  refine y_bipush (v := 48) dX11_init_667 (by decide) ?_
  refine y_bipush (v := 104) dX11_init_669 (by decide) ?_
  refine z_iast0 (j := 48) dX11_init_671 (Nat.le_of_ble_eq_true rfl) rfl rfl rfl ?_
  refine y_dup dX11_init_672 rfl ?_
  refine y_bipush (v := 49) dX11_init_673 (by decide) ?_
  refine y_bipush (v := 111) dX11_init_675 (by decide) ?_
  refine z_iast0 (j := 49) dX11_init_677 (Nat.le_of_ble_eq_true rfl) rfl rfl rfl ?_
  refine y_dup dX11_init_678 rfl ?_
  refine y_bipush (v := 50) dX11_init_679 (by decide) ?_
  refine y_bipush (v := 117) dX11_init_681 (by decide) ?_
  refine z_iast0 (j := 50) dX11_init_683 (Nat.le_of_ble_eq_true rfl) rfl rfl rfl ?_
  refine y_dup dX11_init_684 rfl ?_
  refine y_bipush (v := 51) dX11_init_685 (by decide) ?_
  refine y_bipush (v := 114) dX11_init_687 (by decide) ?_
  refine z_iast0 (j := 51) dX11_init_689 (Nat.le_of_ble_eq_true rfl) rfl rfl rfl ?_
  refine y_dup dX11_init_690 rfl ?_
  refine y_bipush (v := 52) dX11_init_691 (by decide) ?_
  refine y_bipush (v := 32) dX11_init_693 (by decide) ?_
  refine z_iast0 (j := 52) dX11_init_695 (Nat.le_of_ble_eq_true rfl) rfl rfl rfl ?_
  refine y_dup dX11_init_696 rfl ?_
  refine y_bipush (v := 53) dX11_init_697 (by decide) ?_
  refine y_bipush (v := 32) dX11_init_699 (by decide) ?_
  refine z_iast0 (j := 53) dX11_init_701 (Nat.le_of_ble_eq_true rfl) rfl rfl rfl ?_
  refine y_dup dX11_init_702 rfl ?_
  refine y_bipush (v := 54) dX11_init_703 (by decide) ?_
  refine y_bipush (v := 32) dX11_init_705 (by decide) ?_
  refine z_iast0 (j := 54) dX11_init_707 (Nat.le_of_ble_eq_true rfl) rfl rfl rfl ?_
  refine y_dup dX11_init_708 rfl ?_
  refine y_bipush (v := 55) dX11_init_709 (by decide) ?_
  refine y_bipush (v := 32) dX11_init_711 (by decide) ?_
  refine z_iast0 (j := 55) dX11_init_713 (Nat.le_of_ble_eq_true rfl) rfl rfl rfl ?_
  refine y_dup dX11_init_714 rfl ?_
  refine y_bipush (v := 56) dX11_init_715 (by decide) ?_
  refine y_bipush (v := 109) dX11_init_717 (by decide) ?_
  refine z_iast0 (j := 56) dX11_init_719 (Nat.le_of_ble_eq_true rfl) rfl rfl rfl ?_
  refine y_dup dX11_init_720 rfl ?_
  refine y_bipush (v := 57) dX11_init_721 (by decide) ?_
  refine y_bipush (v := 97) dX11_init_723 (by decide) ?_
  refine z_iast0 (j := 57) dX11_init_725 (Nat.le_of_ble_eq_true rfl) rfl rfl rfl ?_
  refine y_dup dX11_init_726 rfl ?_
  refine y_bipush (v := 58) dX11_init_727 (by decide) ?_
  refine y_bipush (v := 110) dX11_init_729 (by decide) ?_
  refine z_iast0 (j := 58) dX11_init_731 (Nat.le_of_ble_eq_true rfl) rfl rfl rfl ?_
  refine y_dup dX11_init_732 rfl ?_
  refine y_bipush (v := 59) dX11_init_733 (by decide) ?_
  refine y_bipush (v := 121) dX11_init_735 (by decide) ?_
  refine z_iast0 (j := 59) dX11_init_737 (Nat.le_of_ble_eq_true rfl) rfl rfl rfl ?_
  refine y_dup dX11_init_738 rfl ?_
  refine y_bipush (v := 60) dX11_init_739 (by decide) ?_
  refine y_bipush (v := 32) dX11_init_741 (by decide) ?_
  refine z_iast0 (j := 60) dX11_init_743 (Nat.le_of_ble_eq_true rfl) rfl rfl rfl ?_
  refine y_dup dX11_init_744 rfl ?_
  refine y_bipush (v := 61) dX11_init_745 (by decide) ?_
  refine y_bipush (v := 32) dX11_init_747 (by decide) ?_
  refine z_iast0 (j := 61) dX11_init_749 (Nat.le_of_ble_eq_true rfl) rfl rfl rfl ?_
  refine y_dup dX11_init_750 rfl ?_
  refine y_bipush (v := 62) dX11_init_751 (by decide) ?_
  refine y_bipush (v := 32) dX11_init_753 (by decide) ?_
  refine z_iast0 (j := 62) dX11_init_755 (Nat.le_of_ble_eq_true rfl) rfl rfl rfl ?_
  refine y_dup dX11_init_756 rfl ?_
  refine y_bipush (v := 63) dX11_init_757 (by decide) ?_
  refine y_bipush (v := 32) dX11_init_759 (by decide) ?_
  refine z_iast0 (j := 63) dX11_init_761 (Nat.le_of_ble_eq_true rfl) rfl rfl rfl ?_
  refine y_dup dX11_init_762 rfl ?_
  refine y_bipush (v := 64) dX11_init_763 (by decide) ?_
  refine y_bipush (v := 115) dX11_init_765 (by decide) ?_
  refine z_iast0 (j := 64) dX11_init_767 (Nat.le_of_ble_eq_true rfl) rfl rfl rfl ?_
  refine y_dup dX11_init_768 rfl ?_
  refine y_bipush (v := 65) dX11_init_769 (by decide) ?_
  refine y_bipush (v := 116) dX11_init_771 (by decide) ?_
  refine z_iast0 (j := 65) dX11_init_773 (Nat.le_of_ble_eq_true rfl) rfl rfl rfl ?_
  refine y_dup dX11_init_774 rfl ?_
  refine y_bipush (v := 66) dX11_init_775 (by decide) ?_
  refine y_bipush (v := 111) dX11_init_777 (by decide) ?_
  refine z_iast0 (j := 66) dX11_init_779 (Nat.le_of_ble_eq_true rfl) rfl rfl rfl ?_
  refine y_dup dX11_init_780 rfl ?_
  refine y_bipush (v := 67) dX11_init_781 (by decide) ?_
  refine y_bipush (v := 110) dX11_init_783 (by decide) ?_
  refine z_iast0 (j := 67) dX11_init_785 (Nat.le_of_ble_eq_true rfl) rfl rfl rfl ?_
  refine y_dup dX11_init_786 rfl ?_
  refine y_bipush (v := 68) dX11_init_787 (by decide) ?_
  refine y_bipush (v := 101) dX11_init_789 (by decide) ?_
  refine z_iast0 (j := 68) dX11_init_791 (Nat.le_of_ble_eq_true rfl) rfl rfl rfl ?_
  refine y_dup dX11_init_792 rfl ?_
  refine y_bipush (v := 69) dX11_init_793 (by decide) ?_
  refine y_bipush (v := 115) dX11_init_795 (by decide) ?_
  refine z_iast0 (j := 69) dX11_init_797 (Nat.le_of_ble_eq_true rfl) rfl rfl rfl ?_
  refine y_dup dX11_init_798 rfl ?_
  refine y_bipush (v := 70) dX11_init_799 (by decide) ?_
  refine y_bipush (v := 32) dX11_init_801 (by decide) ?_
  refine z_iast0 (j := 70) dX11_init_803 (Nat.le_of_ble_eq_true rfl) rfl rfl rfl ?_
  refine y_dup dX11_init_804 rfl ?_
  refine y_bipush (v := 71) dX11_init_805 (by decide) ?_
  refine y_bipush (v := 32) dX11_init_807 (by decide) ?_
  refine z_iast0 (j := 71) dX11_init_809 (Nat.le_of_ble_eq_true rfl) rfl rfl rfl ?_
  refine y_dup dX11_init_810 rfl ?_
  refine y_bipush (v := 72) dX11_init_811 (by decide) ?_
  refine y_bipush (v := 111) dX11_init_813 (by decide) ?_
  refine z_iast0 (j := 72) dX11_init_815 (Nat.le_of_ble_eq_true rfl) rfl rfl rfl ?_
  refine y_dup dX11_init_816 rfl ?_
  refine y_bipush (v := 73) dX11_init_817 (by decide) ?_
  refine y_bipush (v := 114) dX11_init_819 (by decide) ?_
  refine z_iast0 (j := 73) dX11_init_821 (Nat.le_of_ble_eq_true rfl) rfl rfl rfl ?_
  refine y_dup dX11_init_822 rfl ?_
  refine y_bipush (v := 74) dX11_init_823 (by decide) ?_
  refine y_bipush (v := 32) dX11_init_825 (by decide) ?_
  refine z_iast0 (j := 74) dX11_init_827 (Nat.le_of_ble_eq_true rfl) rfl rfl rfl ?_
  refine y_dup dX11_init_828 rfl ?_
  refine y_bipush (v := 75) dX11_init_829 (by decide) ?_
  refine y_bipush (v := 32) dX11_init_831 (by decide) ?_
  refine z_iast0 (j := 75) dX11_init_833 (Nat.le_of_ble_eq_true rfl) rfl rfl rfl ?_
  refine y_dup dX11_init_834 rfl ?_
  refine y_bipush (v := 76) dX11_init_835 (by decide) ?_
  refine y_bipush (v := 32) dX11_init_837 (by decide) ?_
  refine z_iast0 (j := 76) dX11_init_839 (Nat.le_of_ble_eq_true rfl) rfl rfl rfl ?_
  refine y_dup dX11_init_840 rfl ?_
  refine y_bipush (v := 77) dX11_init_841 (by decide) ?_
  refine y_bipush (v := 32) dX11_init_843 (by decide) ?_
  refine z_iast0 (j := 77) dX11_init_845 (Nat.le_of_ble_eq_true rfl) rfl rfl rfl ?_
  refine y_dup dX11_init_846 rfl ?_
  refine y_bipush (v := 78) dX11_init_847 (by decide) ?_
  refine y_bipush (v := 32) dX11_init_849 (by decide) ?_
  refine z_iast0 (j := 78) dX11_init_851 (Nat.le_of_ble_eq_true rfl) rfl rfl rfl ?_
  refine y_dup dX11_init_852 rfl ?_
  refine y_bipush (v := 79) dX11_init_853 (by decide) ?_
  refine y_bipush (v := 32) dX11_init_855 (by decide) ?_
  refine z_iast0 (j := 79) dX11_init_857 (Nat.le_of_ble_eq_true rfl) rfl rfl rfl ?_
  refine y_dup dX11_init_858 rfl ?_
  refine y_bipush (v := 80) dX11_init_859 (by decide) ?_
  refine y_bipush (v := 97) dX11_init_861 (by decide) ?_
  refine z_iast0 (j := 80) dX11_init_863 (Nat.le_of_ble_eq_true rfl) rfl rfl rfl ?_
  refine y_dup dX11_init_864 rfl ?_
  refine y_bipush (v := 81) dX11_init_865 (by decide) ?_
  refine y_bipush (v := 110) dX11_init_867 (by decide) ?_
  refine z_iast0 (j := 81) dX11_init_869 (Nat.le_of_ble_eq_true rfl) rfl rfl rfl ?_
  refine y_dup dX11_init_870 rfl ?_
  refine y_bipush (v := 82) dX11_init_871 (by decide) ?_
  refine y_bipush (v := 100) dX11_init_873 (by decide) ?_
  refine z_iast0 (j := 82) dX11_init_875 (Nat.le_of_ble_eq_true rfl) rfl rfl rfl ?_
  refine y_dup dX11_init_876 rfl ?_
  refine y_bipush (v := 83) dX11_init_877 (by decide) ?_
  refine y_bipush (v := 32) dX11_init_879 (by decide) ?_
  refine z_iast0 (j := 83) dX11_init_881 (Nat.le_of_ble_eq_true rfl) rfl rfl rfl ?_
  refine y_dup dX11_init_882 rfl ?_
  refine y_bipush (v := 84) dX11_init_883 (by decide) ?_
  refine y_bipush (v := 32) dX11_init_885 (by decide) ?_
  refine z_iast0 (j := 84) dX11_init_887 (Nat.le_of_ble_eq_true rfl) rfl rfl rfl ?_
  refine y_dup dX11_init_888 rfl ?_
  refine y_bipush (v := 85) dX11_init_889 (by decide) ?_
  refine y_bipush (v := 32) dX11_init_891 (by decide) ?_
  refine z_iast0 (j := 85) dX11_init_893 (Nat.le_of_ble_eq_true rfl) rfl rfl rfl ?_
  refine y_dup dX11_init_894 rfl ?_
  refine y_bipush (v := 86) dX11_init_895 (by decide) ?_
  refine y_bipush (v := 32) dX11_init_897 (by decide) ?_
  refine z_iast0 (j := 86) dX11_init_899 (Nat.le_of_ble_eq_true rfl) rfl rfl rfl ?_
  refine y_dup dX11_init_900 rfl ?_
  refine y_bipush (v := 87) dX11_init_901 (by decide) ?_
  refine y_bipush (v := 32) dX11_init_903 (by decide) ?_
  refine z_iast0 (j := 87) dX11_init_905 (Nat.le_of_ble_eq_true rfl) rfl rfl rfl ?_
  refine y_dup dX11_init_906 rfl ?_
  refine y_bipush (v := 88) dX11_init_907 (by decide) ?_
  refine y_bipush (v := 110) dX11_init_909 (by decide) ?_
  refine z_iast0 (j := 88) dX11_init_911 (Nat.le_of_ble_eq_true rfl) rfl rfl rfl ?_
  refine y_dup dX11_init_912 rfl ?_
  refine y_bipush (v := 89) dX11_init_913 (by decide) ?_
  refine y_bipush (v := 111) dX11_init_915 (by decide) ?_
  refine z_iast0 (j := 89) dX11_init_917 (Nat.le_of_ble_eq_true rfl) rfl rfl rfl ?_
  refine y_dup dX11_init_918 rfl ?_
  refine y_bipush (v := 90) dX11_init_919 (by decide) ?_
  refine y_bipush (v := 116) dX11_init_921 (by decide) ?_
  refine z_iast0 (j := 90) dX11_init_923 (Nat.le_of_ble_eq_true rfl) rfl rfl rfl ?_
  refine y_dup dX11_init_924 rfl ?_
  refine y_bipush (v := 91) dX11_init_925 (by decide) ?_
  refine y_bipush (v := 32) dX11_init_927 (by decide) ?_
  refine z_iast0 (j := 91) dX11_init_929 (Nat.le_of_ble_eq_true rfl) rfl rfl rfl ?_
  refine y_dup dX11_init_930 rfl ?_
  refine y_bipush (v := 92) dX11_init_931 (by decide) ?_
  refine y_bipush (v := 32) dX11_init_933 (by decide) ?_
  refine z_iast0 (j := 92) dX11_init_935 (Nat.le_of_ble_eq_true rfl) rfl rfl rfl ?_
  refine y_dup dX11_init_936 rfl ?_
  refine y_bipush (v := 93) dX11_init_937 (by decide) ?_
  refine y_bipush (v := 32) dX11_init_939 (by decide) ?_
  refine z_iast0 (j := 93) dX11_init_941 (Nat.le_of_ble_eq_true rfl) rfl rfl rfl ?_
  refine y_dup dX11_init_942 rfl ?_
  refine y_bipush (v := 94) dX11_init_943 (by decide) ?_
  refine y_bipush (v := 32) dX11_init_945 (by decide) ?_
  refine z_iast0 (j := 94) dX11_init_947 (Nat.le_of_ble_eq_true rfl) rfl rfl rfl ?_
  refine y_dup dX11_init_948 rfl ?_
  refine y_bipush (v := 95) dX11_init_949 (by decide) ?_
  refine y_bipush (v := 32) dX11_init_951 (by decide) ?_
  refine z_iast0 (j := 95) dX11_init_953 (Nat.le_of_ble_eq_true rfl) rfl rfl rfl ?_
  refine y_putF dX11_init_954 flX11_67 rfl (fun _ _ _ h => by cases h; rfl) (Nat.le_of_ble_eq_true rfl) rfl rfl ?_
  show xC G m_X11_init d 957 [(0, .ref 71)] [] (92, 5485, xSH, xr_96) _ _ _ _
  refine y_aload_n dX11_init_957 rfl 0 rfl ?_
  refine y_sipush (v := 200) dX11_init_958 (by decide) ?_
  refine y_newa (N := 200) dX11_init_961 q65 (by decide) rfl (by decide) rfl ?_
  show xC G m_X11_init d 963 [(0, .ref 71)] [.ref 92, .ref 71] (93, 5685, xSH, xr_96) _ _ _ _
  refine y_putF dX11_init_963 flX11_70 rfl (fun _ _ _ h => by cases h; rfl) (Nat.le_of_ble_eq_true rfl) rfl rfl ?_
  show xC G m_X11_init d 966 [(0, .ref 71)] [] (93, 5685, xSH, xr_97) _ _ _ _
  refine y_aload_n dX11_init_966 rfl 0 rfl ?_
  refine y_sipush (v := 200) dX11_init_967 (by decide) ?_
  refine y_newa (N := 200) dX11_init_970 q65 (by decide) rfl (by decide) rfl ?_
  show xC G m_X11_init d 972 [(0, .ref 71)] [.ref 93, .ref 71] (94, 5885, xSH, xr_97) _ _ _ _
  refine y_putF dX11_init_972 flX11_73 rfl (fun _ _ _ h => by cases h; rfl) (Nat.le_of_ble_eq_true rfl) rfl rfl ?_
  show xC G m_X11_init d 975 [(0, .ref 71)] [] (94, 5885, xSH, xr_98) _ _ _ _
  refine y_aload_n dX11_init_975 rfl 0 rfl ?_
  refine y_bipush (v := 6) dX11_init_976 (by decide) ?_
  refine y_newa (N := 6) dX11_init_978 q65 (by decide) rfl (by decide) rfl ?_
  show xC G m_X11_init d 980 [(0, .ref 71)] [.ref 94, .ref 71] (95, 5891, xSH, xr_98) _ _ _ _
  refine y_putF dX11_init_980 flX11_76 rfl (fun _ _ _ h => by cases h; rfl) (Nat.le_of_ble_eq_true rfl) rfl rfl ?_
  show xC G m_X11_init d 983 [(0, .ref 71)] [] (95, 5891, xSH, xr_99) _ _ _ _
  refine y_aload_n dX11_init_983 rfl 0 rfl ?_
  refine y_sipush (v := 1000) dX11_init_984 (by decide) ?_
  refine y_newa (N := 1000) dX11_init_987 q65 (by decide) rfl (by decide) rfl ?_
  show xC G m_X11_init d 989 [(0, .ref 71)] [.ref 95, .ref 71] (96, 6891, xSH, xr_99) _ _ _ _
  refine y_putF dX11_init_989 flX11_79 rfl (fun _ _ _ h => by cases h; rfl) (Nat.le_of_ble_eq_true rfl) rfl rfl ?_
  show xC G m_X11_init d 992 [(0, .ref 71)] [] (96, 6891, xSH, xr_100) _ _ _ _
  refine y_aload_n dX11_init_992 rfl 0 rfl ?_
  refine y_bipush (v := 100) dX11_init_993 (by decide) ?_
  refine y_newa (N := 100) dX11_init_995 q65 (by decide) rfl (by decide) rfl ?_
  show xC G m_X11_init d 997 [(0, .ref 71)] [.ref 96, .ref 71] (97, 6991, xSH, xr_100) _ _ _ _
  refine y_putF dX11_init_997 flX11_82 rfl (fun _ _ _ h => by cases h; rfl) (Nat.le_of_ble_eq_true rfl) rfl rfl ?_
  show xC G m_X11_init d 1000 [(0, .ref 71)] [] (97, 6991, xSH, xr_101) _ _ _ _
  refine y_aload_n dX11_init_1000 rfl 0 rfl ?_
  refine y_bipush (v := 10) dX11_init_1001 (by decide) ?_
  refine y_newa (N := 10) dX11_init_1003 q65 (by decide) rfl (by decide) rfl ?_
  show xC G m_X11_init d 1005 [(0, .ref 71)] [.ref 97, .ref 71] (98, 7001, xSH, xr_101) _ _ _ _
  refine y_putF dX11_init_1005 flX11_85 rfl (fun _ _ _ h => by cases h; rfl) (Nat.le_of_ble_eq_true rfl) rfl rfl ?_
  show xC G m_X11_init d 1008 [(0, .ref 71)] [] (98, 7001, xSH, xr_102) _ _ _ _
  refine y_aload_n dX11_init_1008 rfl 0 rfl ?_
  refine y_bipush (v := 10) dX11_init_1009 (by decide) ?_
  refine y_newa (N := 10) dX11_init_1011 q65 (by decide) rfl (by decide) rfl ?_
  show xC G m_X11_init d 1013 [(0, .ref 71)] [.ref 98, .ref 71] (99, 7011, xSH, xr_102) _ _ _ _
  refine y_putF dX11_init_1013 flX11_88 rfl (fun _ _ _ h => by cases h; rfl) (Nat.le_of_ble_eq_true rfl) rfl rfl ?_
  show xC G m_X11_init d 1016 [(0, .ref 71)] [] (99, 7011, xSH, xr_103) _ _ _ _
  refine y_aload_n dX11_init_1016 rfl 0 rfl ?_
  refine y_bipush (v := 10) dX11_init_1017 (by decide) ?_
  refine y_newa (N := 10) dX11_init_1019 q65 (by decide) rfl (by decide) rfl ?_
  show xC G m_X11_init d 1021 [(0, .ref 71)] [.ref 99, .ref 71] (100, 7021, xSH, xr_103) _ _ _ _
  refine y_putF dX11_init_1021 flX11_91 rfl (fun _ _ _ h => by cases h; rfl) (Nat.le_of_ble_eq_true rfl) rfl rfl ?_
  show xC G m_X11_init d 1024 [(0, .ref 71)] [] (100, 7021, xSH, xr_104) _ _ _ _
  refine y_aload_n dX11_init_1024 rfl 0 rfl ?_
  refine y_bipush (v := 10) dX11_init_1025 (by decide) ?_
  refine y_newa (N := 10) dX11_init_1027 q65 (by decide) rfl (by decide) rfl ?_
  show xC G m_X11_init d 1029 [(0, .ref 71)] [.ref 100, .ref 71] (101, 7031, xSH, xr_104) _ _ _ _
  refine y_putF dX11_init_1029 flX11_94 rfl (fun _ _ _ h => by cases h; rfl) (Nat.le_of_ble_eq_true rfl) rfl rfl ?_
  show xC G m_X11_init d 1032 [(0, .ref 71)] [] (101, 7031, xSH, xr_105) _ _ _ _
  refine y_aload_n dX11_init_1032 rfl 0 rfl ?_
  refine y_iconst (v := (-1)) dX11_init_1033 (by decide) ?_
  refine y_puti dX11_init_1034 flX11_97 (Nat.le_of_ble_eq_true rfl) rfl rfl ?_
  refine y_aload_n dX11_init_1037 rfl 0 rfl ?_
  refine y_bipush (v := 10) dX11_init_1038 (by decide) ?_
  refine y_newa (N := 10) dX11_init_1040 q65 (by decide) rfl (by decide) rfl ?_
  show xC G m_X11_init d 1042 [(0, .ref 71)] [.ref 101, .ref 71] (102, 7041, xSH, xr_105) _ _ _ _
  refine y_putF dX11_init_1042 flX11_101 rfl (fun _ _ _ h => by cases h; rfl) (Nat.le_of_ble_eq_true rfl) rfl rfl ?_
  show xC G m_X11_init d 1045 [(0, .ref 71)] [] (102, 7041, xSH, xr_106) _ _ _ _
  refine y_iconst (v := 0) dX11_init_1045 (by decide) ?_
  refine y_istore_n (lv' := [(1, .int (0 : Int32)), (0, .ref 71)]) dX11_init_1046 rfl (by decide) rfl ?_
  refine y_sub [(0, .ref 71), (1, .int (0 : Int32))] [1, 0] rfl ?_
  refine xC.swap (F2 := xFin 102 7041) (w2 := (xzero (xup (xzero (xzero (xzero (xzero (xzero (xzero (xzero (xzero (xzero (xup (xup (xup (xup (xup (xup (xup (xup (xup (xup (xup (xup (xup (xup (xup (xup (xup (xup (xup (xup (xup (xup (xup (xup (xup (xup (xup (xup (xup (xup (xup (xup (xup (xup (xup (xup (xup (xup (xup (xup (xup (xup (xup (xup (xup (xup (xup (xup (xup (xup (xup (xup (xup (xup (xup (xup (xup (xup (xup (xup (xup (xup (xup (xup (xup (xup (xup (xup (xup (xup (xup (xup (xup (xup (xup (xup (xup (xup (xup (xup (xup (xup (xup (xup (xup (xup (xup (xup (xup (xup (xup (xup (xup (xup (xup (xup (xzero (xup (xup (xup (xup (xup (xup (xup (xup (xup (xup (xup (xup (xup (xup (xup (xup (xup (xup (xup (xup (xup (xup (xup (xup (xup (xup (xup (xup (xup (xup (xup (xup (xup (xup (xzero (xzero (xzero (xup (xup (xup (xup (xzero (xzero (xzero (xzero (xzero (xzero (xzero (xzero (xzero (xzero (xzero (xzero (xzero (xzero (xzero (xup (xup (xup (xzero w 72) 72 0 (1 : Int32)) 72 1 (1 : Int32)) 72 2 (0 : Int32)) 73) 74) 75) 76) 77) 78) 79) 80) 81) 82) 83) 84) 85) 86) 87) 87 0 (-1 : Int32)) 87 1 (-1 : Int32)) 87 2 (-1 : Int32)) 87 3 (-1 : Int32)) 88) 89) 90) 90 0 (109 : Int32)) 90 1 (97 : Int32)) 90 2 (121 : Int32)) 90 3 (32 : Int32)) 90 4 (49 : Int32)) 90 5 (32 : Int32)) 90 6 (59 : Int32)) 90 7 (32 : Int32)) 90 8 (102 : Int32)) 90 9 (105 : Int32)) 90 10 (110 : Int32)) 90 11 (101 : Int32)) 90 12 (32 : Int32)) 90 13 (111 : Int32)) 90 14 (102 : Int32)) 90 15 (102 : Int32)) 90 16 (32 : Int32)) 90 17 (42 : Int32)) 90 18 (32 : Int32)) 90 19 (50 : Int32)) 90 20 (32 : Int32)) 90 21 (59 : Int32)) 90 22 (32 : Int32)) 90 23 (116 : Int32)) 90 24 (111 : Int32)) 90 25 (108 : Int32)) 90 26 (108 : Int32)) 90 27 (32 : Int32)) 90 28 (104 : Int32)) 90 29 (111 : Int32)) 90 30 (117 : Int32)) 90 31 (114 : Int32)) 90 32 (32 : Int32)) 90 33 (59 : Int32)) 91) 91 0 (109 : Int32)) 91 1 (97 : Int32)) 91 2 (121 : Int32)) 91 3 (32 : Int32)) 91 4 (32 : Int32)) 91 5 (32 : Int32)) 91 6 (32 : Int32)) 91 7 (32 : Int32)) 91 8 (102 : Int32)) 91 9 (105 : Int32)) 91 10 (110 : Int32)) 91 11 (101 : Int32)) 91 12 (32 : Int32)) 91 13 (32 : Int32)) 91 14 (32 : Int32)) 91 15 (32 : Int32)) 91 16 (116 : Int32)) 91 17 (111 : Int32)) 91 18 (108 : Int32)) 91 19 (108 : Int32)) 91 20 (32 : Int32)) 91 21 (32 : Int32)) 91 22 (32 : Int32)) 91 23 (32 : Int32)) 91 24 (105 : Int32)) 91 25 (110 : Int32)) 91 26 (32 : Int32)) 91 27 (32 : Int32)) 91 28 (32 : Int32)) 91 29 (32 : Int32)) 91 30 (32 : Int32)) 91 31 (32 : Int32)) 91 32 (111 : Int32)) 91 33 (117 : Int32)) 91 34 (116 : Int32)) 91 35 (32 : Int32)) 91 36 (32 : Int32)) 91 37 (32 : Int32)) 91 38 (32 : Int32)) 91 39 (32 : Int32)) 91 40 (111 : Int32)) 91 41 (102 : Int32)) 91 42 (102 : Int32)) 91 43 (32 : Int32)) 91 44 (32 : Int32)) 91 45 (32 : Int32)) 91 46 (32 : Int32)) 91 47 (32 : Int32)) 91 48 (104 : Int32)) 91 49 (111 : Int32)) 91 50 (117 : Int32)) 91 51 (114 : Int32)) 91 52 (32 : Int32)) 91 53 (32 : Int32)) 91 54 (32 : Int32)) 91 55 (32 : Int32)) 91 56 (109 : Int32)) 91 57 (97 : Int32)) 91 58 (110 : Int32)) 91 59 (121 : Int32)) 91 60 (32 : Int32)) 91 61 (32 : Int32)) 91 62 (32 : Int32)) 91 63 (32 : Int32)) 91 64 (115 : Int32)) 91 65 (116 : Int32)) 91 66 (111 : Int32)) 91 67 (110 : Int32)) 91 68 (101 : Int32)) 91 69 (115 : Int32)) 91 70 (32 : Int32)) 91 71 (32 : Int32)) 91 72 (111 : Int32)) 91 73 (114 : Int32)) 91 74 (32 : Int32)) 91 75 (32 : Int32)) 91 76 (32 : Int32)) 91 77 (32 : Int32)) 91 78 (32 : Int32)) 91 79 (32 : Int32)) 91 80 (97 : Int32)) 91 81 (110 : Int32)) 91 82 (100 : Int32)) 91 83 (32 : Int32)) 91 84 (32 : Int32)) 91 85 (32 : Int32)) 91 86 (32 : Int32)) 91 87 (32 : Int32)) 91 88 (110 : Int32)) 91 89 (111 : Int32)) 91 90 (116 : Int32)) 91 91 (32 : Int32)) 91 92 (32 : Int32)) 91 93 (32 : Int32)) 91 94 (32 : Int32)) 91 95 (32 : Int32)) 92) 93) 94) 95) 96) 97) 98) 99) 100) 71 58 (-1 : Int32)) 101)) rfl rfl (xswM _) ?_
  exact p_X11_init_L1047 (by decide) (by omega) 2000 (0 : Int32) _
