-- ===== X11_in: WeighedGateModel.in(III)Z =====
set_option maxRecDepth 20000 in
set_option maxHeartbeats 2000000 in
theorem p_X11_in {G : xG} {d : Nat} {n t : Nat} (hn : 102 ≤ n) (hd : 0 ≤ d) (a1 : Int32) (a2 : Int32) (a3 : Int32) (w : xI) : xMet G m_X11_in d [.int a1, .int a2, .int a3] (xFin n t) w (fun x : Int32 => some (Value.int x)) (xFin n t) (f_X11_in a1 a2 a3 w) := by
  refine xMet.of rfl (Nat.le_of_ble_eq_true rfl) ?_
  unfold f_X11_in
  show xC G m_X11_in d 0 [(0, .int a1), (1, .int a2), (2, .int a3)] [] (xFin n t) w _ _ _
  refine y_iload_n dX11_in_0 rfl 0 rfl ?_
  refine y_iload_n dX11_in_1 rfl 1 rfl ?_
  refine y_icmp_lt (tgt := 14) dX11_in_2 (by decide) ?_ ?_
  · refine y_iconst (v := 0) dX11_in_14 (by decide) ?_
    exact y_ireturn dX11_in_15 rfl rfl rfl
  · refine y_iload_n dX11_in_5 rfl 0 rfl ?_
    refine y_iload_n dX11_in_6 rfl 2 rfl ?_
    refine y_icmp_gt (tgt := 14) dX11_in_7 (by decide) ?_ ?_
    · refine y_iconst (v := 0) dX11_in_14 (by decide) ?_
      exact y_ireturn dX11_in_15 rfl rfl rfl
    · refine y_iconst (v := 1) dX11_in_10 (by decide) ?_
      refine y_goto (tgt := 15) dX11_in_11 (by decide) ?_
      exact y_ireturn dX11_in_15 rfl rfl rfl
-- ===== X11_within: WeighedGateModel.within(III)I =====
set_option maxRecDepth 20000 in
set_option maxHeartbeats 2000000 in
theorem p_X11_within {G : xG} {d : Nat} {n t : Nat} (hn : 102 ≤ n) (hd : 0 ≤ d) (a1 : Int32) (a2 : Int32) (a3 : Int32) (w : xI) : xMet G m_X11_within d [.int a1, .int a2, .int a3] (xFin n t) w (fun x : Int32 => some (Value.int x)) (xFin n t) (f_X11_within a1 a2 a3 w) := by
  refine xMet.of rfl (Nat.le_of_ble_eq_true rfl) ?_
  unfold f_X11_within
  show xC G m_X11_within d 0 [(0, .int a1), (1, .int a2), (2, .int a3)] [] (xFin n t) w _ _ _
  refine y_iload_n dX11_within_0 rfl 0 rfl ?_
  refine y_iload_n dX11_within_1 rfl 1 rfl ?_
  refine y_icmp_ge (tgt := 9) dX11_within_2 (by decide) ?_ ?_
  · refine y_iload_n dX11_within_9 rfl 0 rfl ?_
    refine y_iload_n dX11_within_10 rfl 2 rfl ?_
    refine y_icmp_le (tgt := 18) dX11_within_11 (by decide) ?_ ?_
    · refine y_iload_n dX11_within_18 rfl 0 rfl ?_
      exact y_ireturn dX11_within_19 rfl rfl rfl
    · refine y_iload_n dX11_within_14 rfl 2 rfl ?_
      refine y_goto (tgt := 19) dX11_within_15 (by decide) ?_
      exact y_ireturn dX11_within_19 rfl rfl rfl
  · refine y_iload_n dX11_within_5 rfl 1 rfl ?_
    refine y_goto (tgt := 19) dX11_within_6 (by decide) ?_
    exact y_ireturn dX11_within_19 rfl rfl rfl
-- ===== X11_apart: WeighedGateModel.apart(II)I =====
set_option maxRecDepth 20000 in
set_option maxHeartbeats 2000000 in
theorem p_X11_apart {G : xG} {d : Nat} {n t : Nat} (hn : 102 ≤ n) (hd : 0 ≤ d) (a1 : Int32) (a2 : Int32) (w : xI) : xMet G m_X11_apart d [.int a1, .int a2] (xFin n t) w (fun x : Int32 => some (Value.int x)) (xFin n t) (f_X11_apart a1 a2 w) := by
  refine xMet.of rfl (Nat.le_of_ble_eq_true rfl) ?_
  unfold f_X11_apart
  show xC G m_X11_apart d 0 [(0, .int a1), (1, .int a2)] [] (xFin n t) w _ _ _
  refine y_iload_n dX11_apart_0 rfl 0 rfl ?_
  refine y_iload_n dX11_apart_1 rfl 1 rfl ?_
  refine y_icmp_ge (tgt := 11) dX11_apart_2 (by decide) ?_ ?_
  · refine y_iload_n dX11_apart_11 rfl 0 rfl ?_
    refine y_iload_n dX11_apart_12 rfl 1 rfl ?_
    refine y_isub dX11_apart_13 ?_
    exact y_ireturn dX11_apart_14 rfl rfl rfl
  · refine y_iload_n dX11_apart_5 rfl 1 rfl ?_
    refine y_iload_n dX11_apart_6 rfl 0 rfl ?_
    refine y_isub dX11_apart_7 ?_
    refine y_goto (tgt := 14) dX11_apart_8 (by decide) ?_
    exact y_ireturn dX11_apart_14 rfl rfl rfl
-- ===== X11_ones: WeighedGateModel.ones(I)I =====
set_option maxRecDepth 20000 in
set_option maxHeartbeats 2000000 in
theorem p_X11_ones_L4 {G : xG} {d : Nat} {n t : Nat} (hn : 102 ≤ n) (hd : 0 ≤ d) : ∀ (fu : Nat) (v0 : Int32) (v1 : Int32) (v2 : Int32) (w : xI), xC G m_X11_ones d 4 [(0, .int v0), (1, .int v1), (2, .int v2)] [] (xFin n t) w (fun x : Int32 => some (Value.int x)) (xFin n t) (f_X11_ones_L4 fu v0 v1 v2 w) := by
  intro fu
  induction fu with
  | zero => intro v0 v1 v2 w; exact xC.none
  | succ fu ih =>
    intro v0 v1 v2 w
    rw [f_X11_ones_L4]
    refine y_iload_n dX11_ones_4 rfl 2 rfl ?_
    refine y_bipush (v := 10) dX11_ones_5 (by decide) ?_
    refine y_icmp_ge (tgt := 24) dX11_ones_7 (by decide) ?_ ?_
    · refine y_iload_n dX11_ones_24 rfl 1 rfl ?_
      exact y_ireturn dX11_ones_25 rfl rfl rfl
    · refine y_iload_n dX11_ones_10 rfl 1 rfl ?_
      refine y_iload_n dX11_ones_11 rfl 0 rfl ?_
      refine y_iload_n dX11_ones_12 rfl 2 rfl ?_
      refine y_ishr dX11_ones_13 ?_
      refine y_iconst (v := 1) dX11_ones_14 (by decide) ?_
      refine y_iand dX11_ones_15 ?_
      refine y_iadd dX11_ones_16 ?_
      refine y_let (fun x4001 => ?_)
      refine y_istore_n (lv' := [(1, .int x4001), (0, .int v0), (2, .int v2)]) dX11_ones_17 rfl (by decide) rfl ?_
      refine z_iinc (j := 2) dX11_ones_18 (by decide) rfl (by decide) (fun x4002 => ?_)
      refine y_loc (lv' := [(2, .int x4002), (1, .int x4001), (0, .int v0)]) rfl ?_
      refine y_goto (tgt := 4) dX11_ones_21 (by decide) ?_
      refine y_sub [(0, .int v0), (1, .int x4001), (2, .int x4002)] [2, 1, 0] rfl ?_
      exact ih v0 x4001 x4002 w 
set_option maxRecDepth 20000 in
set_option maxHeartbeats 2000000 in
theorem p_X11_ones {G : xG} {d : Nat} {n t : Nat} (hn : 102 ≤ n) (hd : 0 ≤ d) (a1 : Int32) (w : xI) : xMet G m_X11_ones d [.int a1] (xFin n t) w (fun x : Int32 => some (Value.int x)) (xFin n t) (f_X11_ones a1 w) := by
  refine xMet.of rfl (Nat.le_of_ble_eq_true rfl) ?_
  unfold f_X11_ones
  show xC G m_X11_ones d 0 [(0, .int a1)] [] (xFin n t) w _ _ _
  refine y_iconst (v := 0) dX11_ones_0 (by decide) ?_
  refine y_istore_n (lv' := [(1, .int (0 : Int32)), (0, .int a1)]) dX11_ones_1 rfl (by decide) rfl ?_
  refine y_iconst (v := 0) dX11_ones_2 (by decide) ?_
  refine y_istore_n (lv' := [(2, .int (0 : Int32)), (1, .int (0 : Int32)), (0, .int a1)]) dX11_ones_3 rfl (by decide) rfl ?_
  refine y_sub [(0, .int a1), (1, .int (0 : Int32)), (2, .int (0 : Int32))] [2, 1, 0] rfl ?_
  refine p_X11_ones_L4 hn hd 2000 a1 (0 : Int32) (0 : Int32) w 
-- ===== X11_isCart: WeighedGateModel.isCart(I)Z =====
set_option maxRecDepth 20000 in
set_option maxHeartbeats 2000000 in
theorem p_X11_isCart {G : xG} {d : Nat} {n t : Nat} (hn : 102 ≤ n) (hd : 1 ≤ d) (a1 : Int32) (w : xI) : xMet G m_X11_isCart d [.ref 71, .int a1] (xFin n t) w (fun x : Int32 => some (Value.int x)) (xFin n t) (f_X11_isCart a1 w) := by
  refine xMet.of rfl (Nat.le_of_ble_eq_true rfl) ?_
  unfold f_X11_isCart
  show xC G m_X11_isCart d 0 [(0, .ref 71), (1, .int a1)] [] (xFin n t) w _ _ _
  refine y_iload_n dX11_isCart_0 rfl 1 rfl ?_
  refine y_iconst (v := 0) dX11_isCart_1 (by decide) ?_
  refine y_aload_n dX11_isCart_2 rfl 0 rfl ?_
  refine z_geti (v := (w 71 3)) dX11_isCart_3 flX11_111 (xlt rfl hn) rfl rfl rfl ?_
  refine y_iconst (v := 1) dX11_isCart_6 (by decide) ?_
  refine y_isub dX11_isCart_7 ?_
  refine y_callS (As := [.int a1, .int (0 : Int32), .int ((w 71 3) - (1 : Int32))]) (d2 := d - 1) dX11_isCart_8 kX11_114 (by omega) rfl rfl (Nat.le_of_ble_eq_true rfl) (p_X11_in hn (by omega)  _ _ _ _) (fun r1 w2 _ => ?_)
  exact y_zreturn dX11_isCart_11 rfl rfl
-- ===== X11_isHour: WeighedGateModel.isHour(I)Z =====
set_option maxRecDepth 20000 in
set_option maxHeartbeats 2000000 in
theorem p_X11_isHour {G : xG} {d : Nat} {n t : Nat} (hn : 102 ≤ n) (hd : 1 ≤ d) (a1 : Int32) (w : xI) : xMet G m_X11_isHour d [.int a1] (xFin n t) w (fun x : Int32 => some (Value.int x)) (xFin n t) (f_X11_isHour a1 w) := by
  refine xMet.of rfl (Nat.le_of_ble_eq_true rfl) ?_
  unfold f_X11_isHour
  show xC G m_X11_isHour d 0 [(0, .int a1)] [] (xFin n t) w _ _ _
  refine y_iload_n dX11_isHour_0 rfl 0 rfl ?_
  refine y_iconst (v := 0) dX11_isHour_1 (by decide) ?_
  refine y_bipush (v := 9) dX11_isHour_2 (by decide) ?_
  refine y_callS (As := [.int a1, .int (0 : Int32), .int (9 : Int32)]) (d2 := d - 1) dX11_isHour_4 kX11_114 (by omega) rfl rfl (Nat.le_of_ble_eq_true rfl) (p_X11_in hn (by omega)  _ _ _ _) (fun r1 w2 _ => ?_)
  exact y_zreturn dX11_isHour_7 rfl rfl
-- ===== X11_allCarts: WeighedGateModel.allCarts()I =====
set_option maxRecDepth 20000 in
set_option maxHeartbeats 2000000 in
theorem p_X11_allCarts {G : xG} {d : Nat} {n t : Nat} (hn : 102 ≤ n) (hd : 0 ≤ d) (w : xI) : xMet G m_X11_allCarts d [.ref 71] (xFin n t) w (fun x : Int32 => some (Value.int x)) (xFin n t) (f_X11_allCarts  w) := by
  refine xMet.of rfl (Nat.le_of_ble_eq_true rfl) ?_
  unfold f_X11_allCarts
  show xC G m_X11_allCarts d 0 [(0, .ref 71)] [] (xFin n t) w _ _ _
  refine y_iconst (v := 1) dX11_allCarts_0 (by decide) ?_
  refine y_aload_n dX11_allCarts_1 rfl 0 rfl ?_
  refine z_geti (v := (w 71 3)) dX11_allCarts_2 flX11_111 (xlt rfl hn) rfl rfl rfl ?_
  refine y_ishl dX11_allCarts_5 ?_
  refine y_iconst (v := 1) dX11_allCarts_6 (by decide) ?_
  refine y_isub dX11_allCarts_7 ?_
  exact y_ireturn dX11_allCarts_8 rfl rfl rfl
-- ===== X11_scale: WeighedGateModel.scale(II)I =====
set_option maxRecDepth 20000 in
set_option maxHeartbeats 2000000 in
theorem p_X11_scale_L33 {G : xG} {d : Nat} {n t : Nat} (hn : 102 ≤ n) (hd : 1 ≤ d) (v1 : Int32) (v2 : Int32) (s0 : Int32) (s1 : Int32) (s2 : Int32) (w : xI) : xC G m_X11_scale d 33 [(0, .ref 71), (1, .int v1), (2, .int v2)] [.int s0, .int s1, .int s2] (xFin n t) w (fun x : Int32 => some (Value.int x)) (xFin n t) (f_X11_scale_L33 v1 v2 s0 s1 s2 w) := by
  unfold f_X11_scale_L33
  refine y_callS (As := [.int s2, .int s1, .int s0]) (d2 := d - 1) dX11_scale_33 kX11_114 (by omega) rfl rfl (Nat.le_of_ble_eq_true rfl) (p_X11_in hn (by omega)  _ _ _ _) (fun r33001 w33002 _ => ?_)
  refine y_if_ne (tgt := 42) dX11_scale_36 (by decide) ?_ ?_
  · refine y_aload_n dX11_scale_42 rfl 0 rfl ?_
    refine y_getr (q := 72) dX11_scale_43 flX11_7 (xlt rfl hn) rfl rfl rfl ?_
    refine y_iload_n dX11_scale_46 rfl 1 rfl ?_
    refine z_iald (v := (w33002 72 v1.toNatClampNeg)) dX11_scale_47 (xlt rfl hn) rfl rfl ?_
    refine y_let (fun x33003 => ?_)
    refine y_istore_n (lv' := [(3, .int x33003), (0, .ref 71), (1, .int v1), (2, .int v2)]) dX11_scale_48 rfl (by decide) rfl ?_
    refine y_aload_n dX11_scale_49 rfl 1 rfl ?_
    refine y_getr (q := 72) dX11_scale_50 flX11_7 (xlt rfl hn) rfl rfl rfl ?_
    refine y_iload_n dX11_scale_53 rfl 2 rfl ?_
    refine y_iload_n dX11_scale_54 rfl 3 rfl ?_
    refine y_iast dX11_scale_55 (xlt rfl hn) rfl ?_
    refine y_iload_n dX11_scale_56 rfl 0 rfl ?_
    exact y_ireturn dX11_scale_57 rfl rfl rfl
  · refine y_bipush (v := (-2)) dX11_scale_39 (by decide) ?_
    exact y_ireturn dX11_scale_41 rfl rfl rfl
set_option maxRecDepth 20000 in
set_option maxHeartbeats 2000000 in
theorem p_X11_scale {G : xG} {d : Nat} {n t : Nat} (hn : 102 ≤ n) (hd : 1 ≤ d) (a1 : Int32) (a2 : Int32) (w : xI) : xMet G m_X11_scale d [.ref 71, .int a1, .int a2] (xFin n t) w (fun x : Int32 => some (Value.int x)) (xFin n t) (f_X11_scale a1 a2 w) := by
  refine xMet.of rfl (Nat.le_of_ble_eq_true rfl) ?_
  unfold f_X11_scale
  show xC G m_X11_scale d 0 [(0, .ref 71), (1, .int a1), (2, .int a2)] [] (xFin n t) w _ _ _
  refine y_iload_n dX11_scale_0 rfl 1 rfl ?_
  refine y_iconst (v := 0) dX11_scale_1 (by decide) ?_
  refine y_iconst (v := 2) dX11_scale_2 (by decide) ?_
  refine y_callS (As := [.int a1, .int (0 : Int32), .int (2 : Int32)]) (d2 := d - 1) dX11_scale_3 kX11_114 (by omega) rfl rfl (Nat.le_of_ble_eq_true rfl) (p_X11_in hn (by omega)  _ _ _ _) (fun r1 w2 _ => ?_)
  refine y_if_ne (tgt := 11) dX11_scale_6 (by decide) ?_ ?_
  · refine y_iload_n dX11_scale_11 rfl 2 rfl ?_
    refine y_iload_n dX11_scale_12 rfl 1 rfl ?_
    refine y_iconst (v := 2) dX11_scale_13 (by decide) ?_
    refine y_icmp_ne (tgt := 21) dX11_scale_14 (by decide) ?_ ?_
    · refine y_iconst (v := 1) dX11_scale_21 (by decide) ?_
      refine y_iload_n dX11_scale_22 rfl 1 rfl ?_
      refine y_iconst (v := 2) dX11_scale_23 (by decide) ?_
      refine y_icmp_ne (tgt := 32) dX11_scale_24 (by decide) ?_ ?_
      · refine y_iconst (v := 3) dX11_scale_32 (by decide) ?_
        refine p_X11_scale_L33 hn hd a1 a2 (3 : Int32) (1 : Int32) a2 w2 
      · refine y_bipush (v := 9) dX11_scale_27 (by decide) ?_
        refine y_goto (tgt := 33) dX11_scale_29 (by decide) ?_
        refine p_X11_scale_L33 hn hd a1 a2 (9 : Int32) (1 : Int32) a2 w2 
    · refine y_iconst (v := 0) dX11_scale_17 (by decide) ?_
      refine y_goto (tgt := 22) dX11_scale_18 (by decide) ?_
      refine y_iload_n dX11_scale_22 rfl 1 rfl ?_
      refine y_iconst (v := 2) dX11_scale_23 (by decide) ?_
      refine y_icmp_ne (tgt := 32) dX11_scale_24 (by decide) ?_ ?_
      · refine y_iconst (v := 3) dX11_scale_32 (by decide) ?_
        refine p_X11_scale_L33 hn hd a1 a2 (3 : Int32) (0 : Int32) a2 w2 
      · refine y_bipush (v := 9) dX11_scale_27 (by decide) ?_
        refine y_goto (tgt := 33) dX11_scale_29 (by decide) ?_
        refine p_X11_scale_L33 hn hd a1 a2 (9 : Int32) (0 : Int32) a2 w2 
  · refine y_iconst (v := (-1)) dX11_scale_9 (by decide) ?_
    exact y_ireturn dX11_scale_10 rfl rfl rfl
-- ===== X11_stone: WeighedGateModel.stone(I)I =====
set_option maxRecDepth 20000 in
set_option maxHeartbeats 2000000 in
theorem p_X11_stone {G : xG} {d : Nat} {n t : Nat} (hn : 102 ≤ n) (hd : 1 ≤ d) (a1 : Int32) (w : xI) : xMet G m_X11_stone d [.ref 71, .int a1] (xFin n t) w (fun x : Int32 => some (Value.int x)) (xFin n t) (f_X11_stone a1 w) := by
  refine xMet.of rfl (Nat.le_of_ble_eq_true rfl) ?_
  unfold f_X11_stone
  show xC G m_X11_stone d 0 [(0, .ref 71), (1, .int a1)] [] (xFin n t) w _ _ _
  refine y_iload_n dX11_stone_0 rfl 1 rfl ?_
  refine y_iconst (v := 1) dX11_stone_1 (by decide) ?_
  refine y_bipush (v := 99) dX11_stone_2 (by decide) ?_
  refine y_callS (As := [.int a1, .int (1 : Int32), .int (99 : Int32)]) (d2 := d - 1) dX11_stone_4 kX11_114 (by omega) rfl rfl (Nat.le_of_ble_eq_true rfl) (p_X11_in hn (by omega)  _ _ _ _) (fun r1 w2 _ => ?_)
  refine y_if_ne (tgt := 13) dX11_stone_7 (by decide) ?_ ?_
  · refine y_aload_n dX11_stone_13 rfl 0 rfl ?_
    refine z_geti (v := (w2 71 1)) dX11_stone_14 flX11_118 (xlt rfl hn) rfl rfl rfl ?_
    refine y_iconst (v := 5) dX11_stone_17 (by decide) ?_
    refine y_icmp_ne (tgt := 24) dX11_stone_18 (by decide) ?_ ?_
    · refine y_aload_n dX11_stone_24 rfl 0 rfl ?_
      refine y_getr (q := 73) dX11_stone_25 flX11_13 (xlt rfl hn) rfl rfl rfl ?_
      refine y_aload_n dX11_stone_28 rfl 0 rfl ?_
      refine z_geti (v := (w2 71 1)) dX11_stone_29 flX11_118 (xlt rfl hn) rfl rfl rfl ?_
      refine y_iload_n dX11_stone_32 rfl 1 rfl ?_
      refine y_iast dX11_stone_33 (xlt rfl hn) rfl ?_
      refine y_aload_n dX11_stone_34 rfl 0 rfl ?_
      refine y_dup dX11_stone_35 rfl ?_
      refine z_geti (v := (w2 71 1)) dX11_stone_36 flX11_118 (xlt rfl hn) rfl rfl rfl ?_
      refine y_iconst (v := 1) dX11_stone_39 (by decide) ?_
      refine y_iadd dX11_stone_40 ?_
      refine y_puti dX11_stone_41 flX11_118 (xlt rfl hn) rfl rfl ?_
      refine y_aload_n dX11_stone_44 rfl 0 rfl ?_
      refine z_geti (v := ((w2 71 1) + (1 : Int32))) dX11_stone_45 flX11_118 (xlt rfl hn) rfl rfl rfl ?_
      refine y_iconst (v := 1) dX11_stone_48 (by decide) ?_
      refine y_isub dX11_stone_49 ?_
      exact y_ireturn dX11_stone_50 rfl rfl rfl
    · refine y_bipush (v := (-4)) dX11_stone_21 (by decide) ?_
      exact y_ireturn dX11_stone_23 rfl rfl rfl
  · refine y_bipush (v := (-2)) dX11_stone_10 (by decide) ?_
    exact y_ireturn dX11_stone_12 rfl rfl rfl
-- ===== X11_sell: WeighedGateModel.sell()I =====
set_option maxRecDepth 20000 in
set_option maxHeartbeats 2000000 in
theorem p_X11_sell {G : xG} {d : Nat} {n t : Nat} (hn : 102 ≤ n) (hd : 0 ≤ d) (w : xI) : xMet G m_X11_sell d [.ref 71] (xFin n t) w (fun x : Int32 => some (Value.int x)) (xFin n t) (f_X11_sell  w) := by
  refine xMet.of rfl (Nat.le_of_ble_eq_true rfl) ?_
  unfold f_X11_sell
  show xC G m_X11_sell d 0 [(0, .ref 71)] [] (xFin n t) w _ _ _
  refine y_aload_n dX11_sell_0 rfl 0 rfl ?_
  refine z_geti (v := (w 71 1)) dX11_sell_1 flX11_118 (xlt rfl hn) rfl rfl rfl ?_
  refine y_if_ne (tgt := 10) dX11_sell_4 (by decide) ?_ ?_
  · refine y_aload_n dX11_sell_10 rfl 0 rfl ?_
    refine y_dup dX11_sell_11 rfl ?_
    refine z_geti (v := (w 71 1)) dX11_sell_12 flX11_118 (xlt rfl hn) rfl rfl rfl ?_
    refine y_iconst (v := 1) dX11_sell_15 (by decide) ?_
    refine y_isub dX11_sell_16 ?_
    refine y_puti dX11_sell_17 flX11_118 (xlt rfl hn) rfl rfl ?_
    refine y_aload_n dX11_sell_20 rfl 0 rfl ?_
    refine z_geti (v := ((w 71 1) - (1 : Int32))) dX11_sell_21 flX11_118 (xlt rfl hn) rfl rfl rfl ?_
    exact y_ireturn dX11_sell_24 rfl rfl rfl
  · refine y_bipush (v := (-3)) dX11_sell_7 (by decide) ?_
    exact y_ireturn dX11_sell_9 rfl rfl rfl
-- ===== X11_stoneTold: WeighedGateModel.stoneTold(I)I =====
set_option maxRecDepth 20000 in
set_option maxHeartbeats 2000000 in
theorem p_X11_stoneTold {G : xG} {d : Nat} {n t : Nat} (hn : 102 ≤ n) (hd : 1 ≤ d) (a1 : Int32) (w : xI) : xMet G m_X11_stoneTold d [.ref 71, .int a1] (xFin n t) w (fun x : Int32 => some (Value.int x)) (xFin n t) (f_X11_stoneTold a1 w) := by
  refine xMet.of rfl (Nat.le_of_ble_eq_true rfl) ?_
  unfold f_X11_stoneTold
  show xC G m_X11_stoneTold d 0 [(0, .ref 71), (1, .int a1)] [] (xFin n t) w _ _ _
  refine y_iload_n dX11_stoneTold_0 rfl 1 rfl ?_
  refine y_iconst (v := 0) dX11_stoneTold_1 (by decide) ?_
  refine y_aload_n dX11_stoneTold_2 rfl 0 rfl ?_
  refine z_geti (v := (w 71 1)) dX11_stoneTold_3 flX11_118 (xlt rfl hn) rfl rfl rfl ?_
  refine y_iconst (v := 1) dX11_stoneTold_6 (by decide) ?_
  refine y_isub dX11_stoneTold_7 ?_
  refine y_callS (As := [.int a1, .int (0 : Int32), .int ((w 71 1) - (1 : Int32))]) (d2 := d - 1) dX11_stoneTold_8 kX11_114 (by omega) rfl rfl (Nat.le_of_ble_eq_true rfl) (p_X11_in hn (by omega)  _ _ _ _) (fun r1 w2 _ => ?_)
  refine y_if_eq (tgt := 23) dX11_stoneTold_11 (by decide) ?_ ?_
  · refine y_bipush (v := (-5)) dX11_stoneTold_23 (by decide) ?_
    exact y_ireturn dX11_stoneTold_25 rfl rfl rfl
  · refine y_aload_n dX11_stoneTold_14 rfl 0 rfl ?_
    refine y_getr (q := 73) dX11_stoneTold_15 flX11_13 (xlt rfl hn) rfl rfl rfl ?_
    refine y_iload_n dX11_stoneTold_18 rfl 1 rfl ?_
    refine z_iald (v := (w2 73 a1.toNatClampNeg)) dX11_stoneTold_19 (xlt rfl hn) rfl rfl ?_
    refine y_goto (tgt := 25) dX11_stoneTold_20 (by decide) ?_
    exact y_ireturn dX11_stoneTold_25 rfl rfl rfl
-- ===== X11_count: WeighedGateModel.count(I)I =====
set_option maxRecDepth 20000 in
set_option maxHeartbeats 2000000 in
theorem p_X11_count {G : xG} {d : Nat} {n t : Nat} (hn : 102 ≤ n) (hd : 1 ≤ d) (a1 : Int32) (w : xI) : xMet G m_X11_count d [.ref 71, .int a1] (xFin n t) w (fun x : Int32 => some (Value.int x)) (xFin n t) (f_X11_count a1 w) := by
  refine xMet.of rfl (Nat.le_of_ble_eq_true rfl) ?_
  unfold f_X11_count
  show xC G m_X11_count d 0 [(0, .ref 71), (1, .int a1)] [] (xFin n t) w _ _ _
  refine y_iload_n dX11_count_0 rfl 1 rfl ?_
  refine xC.ite (fun hs1 => ?_) (fun hs1 => ?_)
  · refine y_table (tgt := 36) (v := 3) dX11_count_1 hs1 (by decide) (by decide) rfl (by decide) ?_
    refine y_aload_n dX11_count_36 rfl 0 rfl ?_
    refine z_geti (v := (w 71 1)) dX11_count_37 flX11_118 (xlt rfl hn) rfl rfl rfl ?_
    exact y_ireturn dX11_count_40 rfl rfl rfl
  · refine xC.ite (fun hs2 => ?_) (fun hs2 => ?_)
    · refine y_table (tgt := 41) (v := 4) dX11_count_1 hs2 (by decide) (by decide) rfl (by decide) ?_
      refine y_aload_n dX11_count_41 rfl 0 rfl ?_
      refine z_geti (v := (w 71 3)) dX11_count_42 flX11_111 (xlt rfl hn) rfl rfl rfl ?_
      exact y_ireturn dX11_count_45 rfl rfl rfl
    · refine xC.ite (fun hs3 => ?_) (fun hs3 => ?_)
      · refine y_table (tgt := 46) (v := 5) dX11_count_1 hs3 (by decide) (by decide) rfl (by decide) ?_
        refine y_aload_n dX11_count_46 rfl 0 rfl ?_
        refine z_geti (v := (w 71 14)) dX11_count_47 flX11_121 (xlt rfl hn) rfl rfl rfl ?_
        exact y_ireturn dX11_count_50 rfl rfl rfl
      · refine xC.ite (fun hs4 => ?_) (fun hs4 => ?_)
        · refine y_table (tgt := 51) (v := 6) dX11_count_1 hs4 (by decide) (by decide) rfl (by decide) ?_
          refine y_aload_n dX11_count_51 rfl 0 rfl ?_
          refine z_geti (v := (w 71 15)) dX11_count_52 flX11_124 (xlt rfl hn) rfl rfl rfl ?_
          exact y_ireturn dX11_count_55 rfl rfl rfl
        · refine xC.ite (fun hs5 => ?_) (fun hs5 => ?_)
          · refine y_table (tgt := 56) (v := 7) dX11_count_1 hs5 (by decide) (by decide) rfl (by decide) ?_
            refine y_aload_n dX11_count_56 rfl 0 rfl ?_
            refine z_geti (v := (w 71 11)) dX11_count_57 flX11_104 (xlt rfl hn) rfl rfl rfl ?_
            exact y_ireturn dX11_count_60 rfl rfl rfl
          · refine y_tableD (tgt := 61) dX11_count_1 (by have z0 := lv_neT hs1 (show (3 : Int32).toInt = 3 from rfl); have z1 := lv_neT hs2 (show (4 : Int32).toInt = 4 from rfl); have z2 := lv_neT hs3 (show (5 : Int32).toInt = 5 from rfl); have z3 := lv_neT hs4 (show (6 : Int32).toInt = 6 from rfl); have z4 := lv_neT hs5 (show (7 : Int32).toInt = 7 from rfl); omega) (by decide) ?_
            refine y_iload_n dX11_count_61 rfl 1 rfl ?_
            refine y_iconst (v := 0) dX11_count_62 (by decide) ?_
            refine y_iconst (v := 2) dX11_count_63 (by decide) ?_
            refine y_callS (As := [.int a1, .int (0 : Int32), .int (2 : Int32)]) (d2 := d - 1) dX11_count_64 kX11_114 (by omega) rfl rfl (Nat.le_of_ble_eq_true rfl) (p_X11_in hn (by omega)  _ _ _ _) (fun r6 w7 _ => ?_)
            refine y_if_eq (tgt := 79) dX11_count_67 (by decide) ?_ ?_
            · refine y_bipush (v := (-2)) dX11_count_79 (by decide) ?_
              exact y_ireturn dX11_count_81 rfl rfl rfl
            · refine y_aload_n dX11_count_70 rfl 0 rfl ?_
              refine y_getr (q := 72) dX11_count_71 flX11_7 (xlt rfl hn) rfl rfl rfl ?_
              refine y_iload_n dX11_count_74 rfl 1 rfl ?_
              refine z_iald (v := (w7 72 a1.toNatClampNeg)) dX11_count_75 (xlt rfl hn) rfl rfl ?_
              refine y_goto (tgt := 81) dX11_count_76 (by decide) ?_
              exact y_ireturn dX11_count_81 rfl rfl rfl
-- ===== X11_isByte: WeighedGateModel.isByte(I)Z =====
set_option maxRecDepth 20000 in
set_option maxHeartbeats 2000000 in
theorem p_X11_isByte {G : xG} {d : Nat} {n t : Nat} (hn : 102 ≤ n) (hd : 1 ≤ d) (a1 : Int32) (w : xI) : xMet G m_X11_isByte d [.int a1] (xFin n t) w (fun x : Int32 => some (Value.int x)) (xFin n t) (f_X11_isByte a1 w) := by
  refine xMet.of rfl (Nat.le_of_ble_eq_true rfl) ?_
  unfold f_X11_isByte
  show xC G m_X11_isByte d 0 [(0, .int a1)] [] (xFin n t) w _ _ _
  refine y_iload_n dX11_isByte_0 rfl 0 rfl ?_
  refine y_iconst (v := 0) dX11_isByte_1 (by decide) ?_
  refine y_sipush (v := 255) dX11_isByte_2 (by decide) ?_
  refine y_callS (As := [.int a1, .int (0 : Int32), .int (255 : Int32)]) (d2 := d - 1) dX11_isByte_5 kX11_114 (by omega) rfl rfl (Nat.le_of_ble_eq_true rfl) (p_X11_in hn (by omega)  _ _ _ _) (fun r1 w2 _ => ?_)
  exact y_zreturn dX11_isByte_8 rfl rfl
-- ===== X11_feed: WeighedGateModel.feed(IIIIII)I =====
set_option maxRecDepth 20000 in
set_option maxHeartbeats 2000000 in
theorem p_X11_feed_L68 {G : xG} {d : Nat} {n t : Nat} (hn : 102 ≤ n) (hd : 2 ≤ d) : ∀ (fu : Nat) (v1 : Int32) (v2 : Int32) (v3 : Int32) (v4 : Int32) (v5 : Int32) (v6 : Int32) (v7 : Int32) (w : xI), xC G m_X11_feed d 68 [(0, .ref 71), (1, .int v1), (2, .int v2), (3, .int v3), (4, .int v4), (5, .int v5), (6, .int v6), (7, .int v7)] [] (xFin n t) w (fun x : Int32 => some (Value.int x)) (xFin n t) (f_X11_feed_L68 fu v1 v2 v3 v4 v5 v6 v7 w) := by
  intro fu
  induction fu with
  | zero => intro v1 v2 v3 v4 v5 v6 v7 w; exact xC.none
  | succ fu ih =>
    intro v1 v2 v3 v4 v5 v6 v7 w
    rw [f_X11_feed_L68]
    refine y_iload dX11_feed_68 7 rfl ?_
    refine y_iload_n dX11_feed_70 rfl 1 rfl ?_
    refine y_icmp_ge (tgt := 142) dX11_feed_71 (by decide) ?_ ?_
    · refine y_aload_n dX11_feed_142 rfl 0 rfl ?_
      refine z_geti (v := (w 71 11)) dX11_feed_143 flX11_104 (xlt rfl hn) rfl rfl rfl ?_
      exact y_ireturn dX11_feed_146 rfl rfl rfl
    · refine y_aload_n dX11_feed_74 rfl 0 rfl ?_
      refine y_getr (q := 80) dX11_feed_75 flX11_34 (xlt rfl hn) rfl rfl rfl ?_
      refine y_aload_n dX11_feed_78 rfl 0 rfl ?_
      refine z_geti (v := (w 71 11)) dX11_feed_79 flX11_104 (xlt rfl hn) rfl rfl rfl ?_
      refine y_iload dX11_feed_82 7 rfl ?_
      refine y_if_ne (tgt := 91) dX11_feed_84 (by decide) ?_ ?_
      · refine y_iload dX11_feed_91 7 rfl ?_
        refine y_iconst (v := 1) dX11_feed_93 (by decide) ?_
        refine y_icmp_ne (tgt := 101) dX11_feed_94 (by decide) ?_ ?_
        · refine y_iload dX11_feed_101 7 rfl ?_
          refine y_iconst (v := 2) dX11_feed_103 (by decide) ?_
          refine y_icmp_ne (tgt := 112) dX11_feed_104 (by decide) ?_ ?_
          · refine y_iload dX11_feed_112 7 rfl ?_
            refine y_iconst (v := 3) dX11_feed_114 (by decide) ?_
            refine y_icmp_ne (tgt := 123) dX11_feed_115 (by decide) ?_ ?_
            · refine y_iload dX11_feed_123 6 rfl ?_
              refine y_iast dX11_feed_125 (xlt rfl hn) rfl ?_
              refine y_aload_n dX11_feed_126 rfl 0 rfl ?_
              refine y_dup dX11_feed_127 rfl ?_
              refine z_geti (v := (w 71 11)) dX11_feed_128 flX11_104 (xlt rfl hn) rfl rfl rfl ?_
              refine y_iconst (v := 1) dX11_feed_131 (by decide) ?_
              refine y_iadd dX11_feed_132 ?_
              refine y_puti dX11_feed_133 flX11_104 (xlt rfl hn) rfl rfl ?_
              refine z_iinc (j := 7) dX11_feed_136 (by decide) rfl (by decide) (fun x68001 => ?_)
              refine y_loc (lv' := [(7, .int x68001), (0, .ref 71), (1, .int v1), (2, .int v2), (3, .int v3), (4, .int v4), (5, .int v5), (6, .int v6)]) rfl ?_
              refine y_goto (tgt := 68) dX11_feed_139 (by decide) ?_
              refine y_sub [(0, .ref 71), (1, .int v1), (2, .int v2), (3, .int v3), (4, .int v4), (5, .int v5), (6, .int v6), (7, .int x68001)] [1, 2, 3, 4, 5, 6, 7, 0] rfl ?_
              exact ih v1 v2 v3 v4 v5 v6 x68001 (xup (xup w 80 (w 71 11).toNatClampNeg v6) 71 11 ((w 71 11) + (1 : Int32))) 
            · refine y_iload dX11_feed_118 5 rfl ?_
              refine y_goto (tgt := 125) dX11_feed_120 (by decide) ?_
              refine y_iast dX11_feed_125 (xlt rfl hn) rfl ?_
              refine y_aload_n dX11_feed_126 rfl 0 rfl ?_
              refine y_dup dX11_feed_127 rfl ?_
              refine z_geti (v := (w 71 11)) dX11_feed_128 flX11_104 (xlt rfl hn) rfl rfl rfl ?_
              refine y_iconst (v := 1) dX11_feed_131 (by decide) ?_
              refine y_iadd dX11_feed_132 ?_
              refine y_puti dX11_feed_133 flX11_104 (xlt rfl hn) rfl rfl ?_
              refine z_iinc (j := 7) dX11_feed_136 (by decide) rfl (by decide) (fun x68002 => ?_)
              refine y_loc (lv' := [(7, .int x68002), (0, .ref 71), (1, .int v1), (2, .int v2), (3, .int v3), (4, .int v4), (5, .int v5), (6, .int v6)]) rfl ?_
              refine y_goto (tgt := 68) dX11_feed_139 (by decide) ?_
              refine y_sub [(0, .ref 71), (1, .int v1), (2, .int v2), (3, .int v3), (4, .int v4), (5, .int v5), (6, .int v6), (7, .int x68002)] [1, 2, 3, 4, 5, 6, 7, 0] rfl ?_
              exact ih v1 v2 v3 v4 v5 v6 x68002 (xup (xup w 80 (w 71 11).toNatClampNeg v5) 71 11 ((w 71 11) + (1 : Int32))) 
          · refine y_iload dX11_feed_107 4 rfl ?_
            refine y_goto (tgt := 125) dX11_feed_109 (by decide) ?_
            refine y_iast dX11_feed_125 (xlt rfl hn) rfl ?_
            refine y_aload_n dX11_feed_126 rfl 0 rfl ?_
            refine y_dup dX11_feed_127 rfl ?_
            refine z_geti (v := (w 71 11)) dX11_feed_128 flX11_104 (xlt rfl hn) rfl rfl rfl ?_
            refine y_iconst (v := 1) dX11_feed_131 (by decide) ?_
            refine y_iadd dX11_feed_132 ?_
            refine y_puti dX11_feed_133 flX11_104 (xlt rfl hn) rfl rfl ?_
            refine z_iinc (j := 7) dX11_feed_136 (by decide) rfl (by decide) (fun x68003 => ?_)
            refine y_loc (lv' := [(7, .int x68003), (0, .ref 71), (1, .int v1), (2, .int v2), (3, .int v3), (4, .int v4), (5, .int v5), (6, .int v6)]) rfl ?_
            refine y_goto (tgt := 68) dX11_feed_139 (by decide) ?_
            refine y_sub [(0, .ref 71), (1, .int v1), (2, .int v2), (3, .int v3), (4, .int v4), (5, .int v5), (6, .int v6), (7, .int x68003)] [1, 2, 3, 4, 5, 6, 7, 0] rfl ?_
            exact ih v1 v2 v3 v4 v5 v6 x68003 (xup (xup w 80 (w 71 11).toNatClampNeg v4) 71 11 ((w 71 11) + (1 : Int32))) 
        · refine y_iload_n dX11_feed_97 rfl 3 rfl ?_
          refine y_goto (tgt := 125) dX11_feed_98 (by decide) ?_
          refine y_iast dX11_feed_125 (xlt rfl hn) rfl ?_
          refine y_aload_n dX11_feed_126 rfl 0 rfl ?_
          refine y_dup dX11_feed_127 rfl ?_
          refine z_geti (v := (w 71 11)) dX11_feed_128 flX11_104 (xlt rfl hn) rfl rfl rfl ?_
          refine y_iconst (v := 1) dX11_feed_131 (by decide) ?_
          refine y_iadd dX11_feed_132 ?_
          refine y_puti dX11_feed_133 flX11_104 (xlt rfl hn) rfl rfl ?_
          refine z_iinc (j := 7) dX11_feed_136 (by decide) rfl (by decide) (fun x68004 => ?_)
          refine y_loc (lv' := [(7, .int x68004), (0, .ref 71), (1, .int v1), (2, .int v2), (3, .int v3), (4, .int v4), (5, .int v5), (6, .int v6)]) rfl ?_
          refine y_goto (tgt := 68) dX11_feed_139 (by decide) ?_
          refine y_sub [(0, .ref 71), (1, .int v1), (2, .int v2), (3, .int v3), (4, .int v4), (5, .int v5), (6, .int v6), (7, .int x68004)] [1, 2, 3, 4, 5, 6, 7, 0] rfl ?_
          exact ih v1 v2 v3 v4 v5 v6 x68004 (xup (xup w 80 (w 71 11).toNatClampNeg v3) 71 11 ((w 71 11) + (1 : Int32))) 
      · refine y_iload_n dX11_feed_87 rfl 2 rfl ?_
        refine y_goto (tgt := 125) dX11_feed_88 (by decide) ?_
        refine y_iast dX11_feed_125 (xlt rfl hn) rfl ?_
        refine y_aload_n dX11_feed_126 rfl 0 rfl ?_
        refine y_dup dX11_feed_127 rfl ?_
        refine z_geti (v := (w 71 11)) dX11_feed_128 flX11_104 (xlt rfl hn) rfl rfl rfl ?_
        refine y_iconst (v := 1) dX11_feed_131 (by decide) ?_
        refine y_iadd dX11_feed_132 ?_
        refine y_puti dX11_feed_133 flX11_104 (xlt rfl hn) rfl rfl ?_
        refine z_iinc (j := 7) dX11_feed_136 (by decide) rfl (by decide) (fun x68005 => ?_)
        refine y_loc (lv' := [(7, .int x68005), (0, .ref 71), (1, .int v1), (2, .int v2), (3, .int v3), (4, .int v4), (5, .int v5), (6, .int v6)]) rfl ?_
        refine y_goto (tgt := 68) dX11_feed_139 (by decide) ?_
        refine y_sub [(0, .ref 71), (1, .int v1), (2, .int v2), (3, .int v3), (4, .int v4), (5, .int v5), (6, .int v6), (7, .int x68005)] [1, 2, 3, 4, 5, 6, 7, 0] rfl ?_
        exact ih v1 v2 v3 v4 v5 v6 x68005 (xup (xup w 80 (w 71 11).toNatClampNeg v2) 71 11 ((w 71 11) + (1 : Int32))) 
set_option maxRecDepth 20000 in
set_option maxHeartbeats 2000000 in
theorem p_X11_feed {G : xG} {d : Nat} {n t : Nat} (hn : 102 ≤ n) (hd : 2 ≤ d) (a1 : Int32) (a2 : Int32) (a3 : Int32) (a4 : Int32) (a5 : Int32) (a6 : Int32) (w : xI) : xMet G m_X11_feed d [.ref 71, .int a1, .int a2, .int a3, .int a4, .int a5, .int a6] (xFin n t) w (fun x : Int32 => some (Value.int x)) (xFin n t) (f_X11_feed a1 a2 a3 a4 a5 a6 w) := by
  refine xMet.of rfl (Nat.le_of_ble_eq_true rfl) ?_
  unfold f_X11_feed
  show xC G m_X11_feed d 0 [(0, .ref 71), (1, .int a1), (2, .int a2), (3, .int a3), (4, .int a4), (5, .int a5), (6, .int a6)] [] (xFin n t) w _ _ _
  refine y_iload_n dX11_feed_0 rfl 1 rfl ?_
  refine y_iconst (v := 1) dX11_feed_1 (by decide) ?_
  refine y_iconst (v := 5) dX11_feed_2 (by decide) ?_
  refine y_callS (As := [.int a1, .int (1 : Int32), .int (5 : Int32)]) (d2 := d - 1) dX11_feed_3 kX11_114 (by omega) rfl rfl (Nat.le_of_ble_eq_true rfl) (p_X11_in hn (by omega)  _ _ _ _) (fun r1 w2 _ => ?_)
  refine y_if_eq (tgt := 47) dX11_feed_6 (by decide) ?_ ?_
  · refine y_bipush (v := (-2)) dX11_feed_47 (by decide) ?_
    exact y_ireturn dX11_feed_49 rfl rfl rfl
  · refine y_iload_n dX11_feed_9 rfl 2 rfl ?_
    refine y_callS (As := [.int a2]) (d2 := d - 1) dX11_feed_10 kX11_127 (by omega) rfl rfl (Nat.le_of_ble_eq_true rfl) (p_X11_isByte hn (by omega)  _ _) (fun r3 w4 _ => ?_)
    refine y_if_eq (tgt := 47) dX11_feed_13 (by decide) ?_ ?_
    · refine y_bipush (v := (-2)) dX11_feed_47 (by decide) ?_
      exact y_ireturn dX11_feed_49 rfl rfl rfl
    · refine y_iload_n dX11_feed_16 rfl 3 rfl ?_
      refine y_callS (As := [.int a3]) (d2 := d - 1) dX11_feed_17 kX11_127 (by omega) rfl rfl (Nat.le_of_ble_eq_true rfl) (p_X11_isByte hn (by omega)  _ _) (fun r5 w6 _ => ?_)
      refine y_if_eq (tgt := 47) dX11_feed_20 (by decide) ?_ ?_
      · refine y_bipush (v := (-2)) dX11_feed_47 (by decide) ?_
        exact y_ireturn dX11_feed_49 rfl rfl rfl
      · refine y_iload dX11_feed_23 4 rfl ?_
        refine y_callS (As := [.int a4]) (d2 := d - 1) dX11_feed_25 kX11_127 (by omega) rfl rfl (Nat.le_of_ble_eq_true rfl) (p_X11_isByte hn (by omega)  _ _) (fun r7 w8 _ => ?_)
        refine y_if_eq (tgt := 47) dX11_feed_28 (by decide) ?_ ?_
        · refine y_bipush (v := (-2)) dX11_feed_47 (by decide) ?_
          exact y_ireturn dX11_feed_49 rfl rfl rfl
        · refine y_iload dX11_feed_31 5 rfl ?_
          refine y_callS (As := [.int a5]) (d2 := d - 1) dX11_feed_33 kX11_127 (by omega) rfl rfl (Nat.le_of_ble_eq_true rfl) (p_X11_isByte hn (by omega)  _ _) (fun r9 w10 _ => ?_)
          refine y_if_eq (tgt := 47) dX11_feed_36 (by decide) ?_ ?_
          · refine y_bipush (v := (-2)) dX11_feed_47 (by decide) ?_
            exact y_ireturn dX11_feed_49 rfl rfl rfl
          · refine y_iload dX11_feed_39 6 rfl ?_
            refine y_callS (As := [.int a6]) (d2 := d - 1) dX11_feed_41 kX11_127 (by omega) rfl rfl (Nat.le_of_ble_eq_true rfl) (p_X11_isByte hn (by omega)  _ _) (fun r11 w12 _ => ?_)
            refine y_if_ne (tgt := 50) dX11_feed_44 (by decide) ?_ ?_
            · refine y_aload_n dX11_feed_50 rfl 0 rfl ?_
              refine z_geti (v := (w12 71 11)) dX11_feed_51 flX11_104 (xlt rfl hn) rfl rfl rfl ?_
              refine y_iload_n dX11_feed_54 rfl 1 rfl ?_
              refine y_iadd dX11_feed_55 ?_
              refine y_sipush (v := 160) dX11_feed_56 (by decide) ?_
              refine y_icmp_le (tgt := 65) dX11_feed_59 (by decide) ?_ ?_
              · refine y_iconst (v := 0) dX11_feed_65 (by decide) ?_
                refine y_istore (lv' := [(7, .int (0 : Int32)), (0, .ref 71), (1, .int a1), (2, .int a2), (3, .int a3), (4, .int a4), (5, .int a5), (6, .int a6)]) dX11_feed_66 (by decide) rfl ?_
                refine y_sub [(0, .ref 71), (1, .int a1), (2, .int a2), (3, .int a3), (4, .int a4), (5, .int a5), (6, .int a6), (7, .int (0 : Int32))] [1, 2, 3, 4, 5, 6, 7, 0] rfl ?_
                refine p_X11_feed_L68 hn hd 2000 a1 a2 a3 a4 a5 a6 (0 : Int32) w12 
              · refine y_bipush (v := (-4)) dX11_feed_62 (by decide) ?_
                exact y_ireturn dX11_feed_64 rfl rfl rfl
            · refine y_bipush (v := (-2)) dX11_feed_47 (by decide) ?_
              exact y_ireturn dX11_feed_49 rfl rfl rfl
-- ===== X11_wordFrom: WeighedGateModel.wordFrom(II)I =====
set_option maxRecDepth 20000 in
set_option maxHeartbeats 2000000 in
theorem p_X11_wordFrom_L26 {G : xG} {d : Nat} {n t : Nat} (hn : 102 ≤ n) (hd : 0 ≤ d) {K2 : Int32 → Int32 → Int32 → xI → Option (Int32 × xI)} (hK2 : ∀ (v1 : Int32) (v2 : Int32) (v3 : Int32) (w : xI), xC G m_X11_wordFrom d 2 [(0, .ref 71), (1, .int v1), (2, .int v2), (3, .int v3)] [] (xFin n t) w (fun x : Int32 => some (Value.int x)) (xFin n t) (K2 v1 v2 v3 w)) : ∀ (fu : Nat) (v1 : Int32) (v2 : Int32) (v3 : Int32) (v4 : Int32) (v5 : Int32) (w : xI), xC G m_X11_wordFrom d 26 [(0, .ref 71), (1, .int v1), (2, .int v2), (3, .int v3), (4, .int v4), (5, .int v5)] [] (xFin n t) w (fun x : Int32 => some (Value.int x)) (xFin n t) (f_X11_wordFrom_L26 K2 fu v1 v2 v3 v4 v5 w) := by
  intro fu
  induction fu with
  | zero => intro v1 v2 v3 v4 v5 w; exact xC.none
  | succ fu ih =>
    intro v1 v2 v3 v4 v5 w
    rw [f_X11_wordFrom_L26]
    refine y_iload dX11_wordFrom_26 5 rfl ?_
    refine y_bipush (v := 8) dX11_wordFrom_28 (by decide) ?_
    refine y_icmp_ge (tgt := 88) dX11_wordFrom_30 (by decide) ?_ ?_
    · refine y_iload dX11_wordFrom_88 4 rfl ?_
      refine y_if_eq (tgt := 95) dX11_wordFrom_90 (by decide) ?_ ?_
      · refine z_iinc (j := 3) dX11_wordFrom_95 (by decide) rfl (by decide) (fun x26001 => ?_)
        refine y_loc (lv' := [(3, .int x26001), (0, .ref 71), (1, .int v1), (2, .int v2), (4, .int v4), (5, .int v5)]) rfl ?_
        refine y_goto (tgt := 2) dX11_wordFrom_98 (by decide) ?_
        refine y_sub [(0, .ref 71), (1, .int v1), (2, .int v2), (3, .int x26001)] [1, 2, 3, 0] rfl ?_
        exact hK2 v1 v2 x26001 w 
      · refine y_iload_n dX11_wordFrom_93 rfl 3 rfl ?_
        exact y_ireturn dX11_wordFrom_94 rfl rfl rfl
    · refine y_iload dX11_wordFrom_33 4 rfl ?_
      refine y_if_eq (tgt := 88) dX11_wordFrom_35 (by decide) ?_ ?_
      · refine y_iload dX11_wordFrom_88 4 rfl ?_
        refine y_if_eq (tgt := 95) dX11_wordFrom_90 (by decide) ?_ ?_
        · refine z_iinc (j := 3) dX11_wordFrom_95 (by decide) rfl (by decide) (fun x26002 => ?_)
          refine y_loc (lv' := [(3, .int x26002), (0, .ref 71), (1, .int v1), (2, .int v2), (4, .int v4), (5, .int v5)]) rfl ?_
          refine y_goto (tgt := 2) dX11_wordFrom_98 (by decide) ?_
          refine y_sub [(0, .ref 71), (1, .int v1), (2, .int v2), (3, .int x26002)] [1, 2, 3, 0] rfl ?_
          exact hK2 v1 v2 x26002 w 
        · refine y_iload_n dX11_wordFrom_93 rfl 3 rfl ?_
          exact y_ireturn dX11_wordFrom_94 rfl rfl rfl
      · refine y_aload_n dX11_wordFrom_38 rfl 0 rfl ?_
        refine y_getr (q := 91) dX11_wordFrom_39 flX11_67 (xlt rfl hn) rfl rfl rfl ?_
        refine y_bipush (v := 8) dX11_wordFrom_42 (by decide) ?_
        refine y_iload_n dX11_wordFrom_44 rfl 3 rfl ?_
        refine y_imul dX11_wordFrom_45 ?_
        refine y_iload dX11_wordFrom_46 5 rfl ?_
        refine y_iadd dX11_wordFrom_48 ?_
        refine z_iald (v := (w 91 (((8 : Int32) * v3) + v5).toNatClampNeg)) dX11_wordFrom_49 (xlt rfl hn) rfl rfl ?_
        refine y_iload_n dX11_wordFrom_50 rfl 1 rfl ?_
        refine y_iload dX11_wordFrom_51 5 rfl ?_
        refine y_iadd dX11_wordFrom_53 ?_
        refine y_iload_n dX11_wordFrom_54 rfl 2 rfl ?_
        refine y_icmp_ge (tgt := 70) dX11_wordFrom_55 (by decide) ?_ ?_
        · refine y_bipush (v := 32) dX11_wordFrom_70 (by decide) ?_
          refine y_icmp_ne (tgt := 79) dX11_wordFrom_72 (by decide) ?_ ?_
          · refine y_iconst (v := 0) dX11_wordFrom_79 (by decide) ?_
            refine y_istore (lv' := [(4, .int (0 : Int32)), (0, .ref 71), (1, .int v1), (2, .int v2), (3, .int v3), (5, .int v5)]) dX11_wordFrom_80 (by decide) rfl ?_
            refine z_iinc (j := 5) dX11_wordFrom_82 (by decide) rfl (by decide) (fun x26003 => ?_)
            refine y_loc (lv' := [(5, .int x26003), (4, .int (0 : Int32)), (0, .ref 71), (1, .int v1), (2, .int v2), (3, .int v3)]) rfl ?_
            refine y_goto (tgt := 26) dX11_wordFrom_85 (by decide) ?_
            refine y_sub [(0, .ref 71), (1, .int v1), (2, .int v2), (3, .int v3), (4, .int (0 : Int32)), (5, .int x26003)] [2, 3, 4, 5, 1, 0] rfl ?_
            exact ih v1 v2 v3 (0 : Int32) x26003 w 
          · refine y_iconst (v := 1) dX11_wordFrom_75 (by decide) ?_
            refine y_goto (tgt := 80) dX11_wordFrom_76 (by decide) ?_
            refine y_istore (lv' := [(4, .int (1 : Int32)), (0, .ref 71), (1, .int v1), (2, .int v2), (3, .int v3), (5, .int v5)]) dX11_wordFrom_80 (by decide) rfl ?_
            refine z_iinc (j := 5) dX11_wordFrom_82 (by decide) rfl (by decide) (fun x26004 => ?_)
            refine y_loc (lv' := [(5, .int x26004), (4, .int (1 : Int32)), (0, .ref 71), (1, .int v1), (2, .int v2), (3, .int v3)]) rfl ?_
            refine y_goto (tgt := 26) dX11_wordFrom_85 (by decide) ?_
            refine y_sub [(0, .ref 71), (1, .int v1), (2, .int v2), (3, .int v3), (4, .int (1 : Int32)), (5, .int x26004)] [2, 3, 4, 5, 1, 0] rfl ?_
            exact ih v1 v2 v3 (1 : Int32) x26004 w 
        · refine y_aload_n dX11_wordFrom_58 rfl 0 rfl ?_
          refine y_getr (q := 80) dX11_wordFrom_59 flX11_34 (xlt rfl hn) rfl rfl rfl ?_
          refine y_iload_n dX11_wordFrom_62 rfl 1 rfl ?_
          refine y_iload dX11_wordFrom_63 5 rfl ?_
          refine y_iadd dX11_wordFrom_65 ?_
          refine z_iald (v := (w 80 (v1 + v5).toNatClampNeg)) dX11_wordFrom_66 (xlt rfl hn) rfl rfl ?_
          refine y_goto (tgt := 72) dX11_wordFrom_67 (by decide) ?_
          refine y_icmp_ne (tgt := 79) dX11_wordFrom_72 (by decide) ?_ ?_
          · refine y_iconst (v := 0) dX11_wordFrom_79 (by decide) ?_
            refine y_istore (lv' := [(4, .int (0 : Int32)), (0, .ref 71), (1, .int v1), (2, .int v2), (3, .int v3), (5, .int v5)]) dX11_wordFrom_80 (by decide) rfl ?_
            refine z_iinc (j := 5) dX11_wordFrom_82 (by decide) rfl (by decide) (fun x26005 => ?_)
            refine y_loc (lv' := [(5, .int x26005), (4, .int (0 : Int32)), (0, .ref 71), (1, .int v1), (2, .int v2), (3, .int v3)]) rfl ?_
            refine y_goto (tgt := 26) dX11_wordFrom_85 (by decide) ?_
            refine y_sub [(0, .ref 71), (1, .int v1), (2, .int v2), (3, .int v3), (4, .int (0 : Int32)), (5, .int x26005)] [2, 3, 4, 5, 1, 0] rfl ?_
            exact ih v1 v2 v3 (0 : Int32) x26005 w 
          · refine y_iconst (v := 1) dX11_wordFrom_75 (by decide) ?_
            refine y_goto (tgt := 80) dX11_wordFrom_76 (by decide) ?_
            refine y_istore (lv' := [(4, .int (1 : Int32)), (0, .ref 71), (1, .int v1), (2, .int v2), (3, .int v3), (5, .int v5)]) dX11_wordFrom_80 (by decide) rfl ?_
            refine z_iinc (j := 5) dX11_wordFrom_82 (by decide) rfl (by decide) (fun x26006 => ?_)
            refine y_loc (lv' := [(5, .int x26006), (4, .int (1 : Int32)), (0, .ref 71), (1, .int v1), (2, .int v2), (3, .int v3)]) rfl ?_
            refine y_goto (tgt := 26) dX11_wordFrom_85 (by decide) ?_
            refine y_sub [(0, .ref 71), (1, .int v1), (2, .int v2), (3, .int v3), (4, .int (1 : Int32)), (5, .int x26006)] [2, 3, 4, 5, 1, 0] rfl ?_
            exact ih v1 v2 v3 (1 : Int32) x26006 w 
set_option maxRecDepth 20000 in
set_option maxHeartbeats 2000000 in
theorem p_X11_wordFrom_L2 {G : xG} {d : Nat} {n t : Nat} (hn : 102 ≤ n) (hd : 0 ≤ d) : ∀ (fu : Nat) (v1 : Int32) (v2 : Int32) (v3 : Int32) (w : xI), xC G m_X11_wordFrom d 2 [(0, .ref 71), (1, .int v1), (2, .int v2), (3, .int v3)] [] (xFin n t) w (fun x : Int32 => some (Value.int x)) (xFin n t) (f_X11_wordFrom_L2 fu v1 v2 v3 w) := by
  intro fu
  induction fu with
  | zero => intro v1 v2 v3 w; exact xC.none
  | succ fu ih =>
    intro v1 v2 v3 w
    rw [f_X11_wordFrom_L2]
    refine y_iload_n dX11_wordFrom_2 rfl 3 rfl ?_
    refine y_bipush (v := 12) dX11_wordFrom_3 (by decide) ?_
    refine y_icmp_ge (tgt := 101) dX11_wordFrom_5 (by decide) ?_ ?_
    · refine y_bipush (v := 12) dX11_wordFrom_101 (by decide) ?_
      exact y_ireturn dX11_wordFrom_103 rfl rfl rfl
    · refine y_iload_n dX11_wordFrom_8 rfl 2 rfl ?_
      refine y_iload_n dX11_wordFrom_9 rfl 1 rfl ?_
      refine y_isub dX11_wordFrom_10 ?_
      refine y_bipush (v := 8) dX11_wordFrom_11 (by decide) ?_
      refine y_icmp_gt (tgt := 20) dX11_wordFrom_13 (by decide) ?_ ?_
      · refine y_iconst (v := 0) dX11_wordFrom_20 (by decide) ?_
        refine y_istore (lv' := [(4, .int (0 : Int32)), (0, .ref 71), (1, .int v1), (2, .int v2), (3, .int v3)]) dX11_wordFrom_21 (by decide) rfl ?_
        refine y_iconst (v := 0) dX11_wordFrom_23 (by decide) ?_
        refine y_istore (lv' := [(5, .int (0 : Int32)), (4, .int (0 : Int32)), (0, .ref 71), (1, .int v1), (2, .int v2), (3, .int v3)]) dX11_wordFrom_24 (by decide) rfl ?_
        refine y_sub [(0, .ref 71), (1, .int v1), (2, .int v2), (3, .int v3), (4, .int (0 : Int32)), (5, .int (0 : Int32))] [2, 3, 4, 5, 1, 0] rfl ?_
        refine p_X11_wordFrom_L26 hn hd ?_ 2000 v1 v2 v3 (0 : Int32) (0 : Int32) w 
        · intro v1_2001 v2_2001 v3_2001 w2001 
          exact ih v1_2001 v2_2001 v3_2001 w2001 
      · refine y_iconst (v := 1) dX11_wordFrom_16 (by decide) ?_
        refine y_goto (tgt := 21) dX11_wordFrom_17 (by decide) ?_
        refine y_istore (lv' := [(4, .int (1 : Int32)), (0, .ref 71), (1, .int v1), (2, .int v2), (3, .int v3)]) dX11_wordFrom_21 (by decide) rfl ?_
        refine y_iconst (v := 0) dX11_wordFrom_23 (by decide) ?_
        refine y_istore (lv' := [(5, .int (0 : Int32)), (4, .int (1 : Int32)), (0, .ref 71), (1, .int v1), (2, .int v2), (3, .int v3)]) dX11_wordFrom_24 (by decide) rfl ?_
        refine y_sub [(0, .ref 71), (1, .int v1), (2, .int v2), (3, .int v3), (4, .int (1 : Int32)), (5, .int (0 : Int32))] [2, 3, 4, 5, 1, 0] rfl ?_
        refine p_X11_wordFrom_L26 hn hd ?_ 2000 v1 v2 v3 (1 : Int32) (0 : Int32) w 
        · intro v1_2002 v2_2002 v3_2002 w2002 
          exact ih v1_2002 v2_2002 v3_2002 w2002 
set_option maxRecDepth 20000 in
set_option maxHeartbeats 2000000 in
theorem p_X11_wordFrom {G : xG} {d : Nat} {n t : Nat} (hn : 102 ≤ n) (hd : 0 ≤ d) (a1 : Int32) (a2 : Int32) (w : xI) : xMet G m_X11_wordFrom d [.ref 71, .int a1, .int a2] (xFin n t) w (fun x : Int32 => some (Value.int x)) (xFin n t) (f_X11_wordFrom a1 a2 w) := by
  refine xMet.of rfl (Nat.le_of_ble_eq_true rfl) ?_
  unfold f_X11_wordFrom
  show xC G m_X11_wordFrom d 0 [(0, .ref 71), (1, .int a1), (2, .int a2)] [] (xFin n t) w _ _ _
  refine y_iconst (v := 0) dX11_wordFrom_0 (by decide) ?_
  refine y_istore_n (lv' := [(3, .int (0 : Int32)), (0, .ref 71), (1, .int a1), (2, .int a2)]) dX11_wordFrom_1 rfl (by decide) rfl ?_
  refine y_sub [(0, .ref 71), (1, .int a1), (2, .int a2), (3, .int (0 : Int32))] [1, 2, 3, 0] rfl ?_
  refine p_X11_wordFrom_L2 hn hd 2000 a1 a2 (0 : Int32) w 
-- ===== X11_next: WeighedGateModel.next()V =====
set_option maxRecDepth 20000 in
set_option maxHeartbeats 2000000 in
theorem p_X11_next_L146 {G : xG} {d : Nat} {n t : Nat} (hn : 102 ≤ n) (hd : 1 ≤ d) (w : xI) : xC G m_X11_next d 146 [(0, .ref 71)] [] (xFin n t) w (fun _ : Unit => none) (xFin n t) (f_X11_next_L146  w) := by
  unfold f_X11_next_L146
  refine y_aload_n dX11_next_146 rfl 0 rfl ?_
  refine y_aload_n dX11_next_147 rfl 0 rfl ?_
  refine z_geti (v := (w 71 29)) dX11_next_148 flX11_134 (xlt rfl hn) rfl rfl rfl ?_
  refine y_aload_n dX11_next_151 rfl 0 rfl ?_
  refine z_geti (v := (w 71 28)) dX11_next_152 flX11_131 (xlt rfl hn) rfl rfl rfl ?_
  refine y_callV (As := [.int (w 71 29), .int (w 71 28)]) (d2 := d - 1) dX11_next_155 kX11_143 (by omega) rfl rfl (Nat.le_of_ble_eq_true rfl) (xlt rfl hn) rfl rfl (p_X11_wordFrom hn (by omega)  _ _ _) (fun r146001 w146002 _ => ?_)
  refine y_istore_n (lv' := [(2, .int r146001), (0, .ref 71)]) dX11_next_158 rfl (by decide) rfl ?_
  refine y_aload_n dX11_next_159 rfl 1 rfl ?_
  refine y_iload_n dX11_next_160 rfl 0 rfl ?_
  refine y_iconst (v := 3) dX11_next_161 (by decide) ?_
  refine y_icmp_ge (tgt := 169) dX11_next_162 (by decide) ?_ ?_
  · refine y_iload_n dX11_next_169 rfl 0 rfl ?_
    refine y_bipush (v := 9) dX11_next_170 (by decide) ?_
    refine y_icmp_ge (tgt := 179) dX11_next_172 (by decide) ?_ ?_
    · refine y_iload_n dX11_next_179 rfl 0 rfl ?_
      refine y_bipush (v := 12) dX11_next_180 (by decide) ?_
      refine y_icmp_ne (tgt := 189) dX11_next_182 (by decide) ?_ ?_
      · refine y_iconst (v := 4) dX11_next_189 (by decide) ?_
        refine y_iload_n dX11_next_190 rfl 0 rfl ?_
        refine y_iadd dX11_next_191 ?_
        refine y_bipush (v := 9) dX11_next_192 (by decide) ?_
        refine y_isub dX11_next_194 ?_
        refine y_puti dX11_next_195 flX11_137 (xlt rfl hn) rfl rfl ?_
        refine y_aload_n dX11_next_198 rfl 1 rfl ?_
        refine y_iload_n dX11_next_199 rfl 0 rfl ?_
        refine y_iconst (v := 3) dX11_next_200 (by decide) ?_
        refine y_icmp_ge (tgt := 208) dX11_next_201 (by decide) ?_ ?_
        · refine y_iload_n dX11_next_208 rfl 0 rfl ?_
          refine y_iconst (v := 3) dX11_next_209 (by decide) ?_
          refine y_isub dX11_next_210 ?_
          refine y_puti dX11_next_211 flX11_140 (xlt rfl hn) rfl rfl ?_
          refine y_goto (tgt := 403) dX11_next_214 (by decide) ?_
          exact y_return dX11_next_403 rfl rfl
        · refine y_iload_n dX11_next_204 rfl 0 rfl ?_
          refine y_goto (tgt := 211) dX11_next_205 (by decide) ?_
          refine y_puti dX11_next_211 flX11_140 (xlt rfl hn) rfl rfl ?_
          refine y_goto (tgt := 403) dX11_next_214 (by decide) ?_
          exact y_return dX11_next_403 rfl rfl
      · refine y_iconst (v := (-1)) dX11_next_185 (by decide) ?_
        refine y_goto (tgt := 195) dX11_next_186 (by decide) ?_
        refine y_puti dX11_next_195 flX11_137 (xlt rfl hn) rfl rfl ?_
        refine y_aload_n dX11_next_198 rfl 1 rfl ?_
        refine y_iload_n dX11_next_199 rfl 0 rfl ?_
        refine y_iconst (v := 3) dX11_next_200 (by decide) ?_
        refine y_icmp_ge (tgt := 208) dX11_next_201 (by decide) ?_ ?_
        · refine y_iload_n dX11_next_208 rfl 0 rfl ?_
          refine y_iconst (v := 3) dX11_next_209 (by decide) ?_
          refine y_isub dX11_next_210 ?_
          refine y_puti dX11_next_211 flX11_140 (xlt rfl hn) rfl rfl ?_
          refine y_goto (tgt := 403) dX11_next_214 (by decide) ?_
          exact y_return dX11_next_403 rfl rfl
        · refine y_iload_n dX11_next_204 rfl 0 rfl ?_
          refine y_goto (tgt := 211) dX11_next_205 (by decide) ?_
          refine y_puti dX11_next_211 flX11_140 (xlt rfl hn) rfl rfl ?_
          refine y_goto (tgt := 403) dX11_next_214 (by decide) ?_
          exact y_return dX11_next_403 rfl rfl
    · refine y_iconst (v := 2) dX11_next_175 (by decide) ?_
      refine y_goto (tgt := 195) dX11_next_176 (by decide) ?_
      refine y_puti dX11_next_195 flX11_137 (xlt rfl hn) rfl rfl ?_
      refine y_aload_n dX11_next_198 rfl 1 rfl ?_
      refine y_iload_n dX11_next_199 rfl 0 rfl ?_
      refine y_iconst (v := 3) dX11_next_200 (by decide) ?_
      refine y_icmp_ge (tgt := 208) dX11_next_201 (by decide) ?_ ?_
      · refine y_iload_n dX11_next_208 rfl 0 rfl ?_
        refine y_iconst (v := 3) dX11_next_209 (by decide) ?_
        refine y_isub dX11_next_210 ?_
        refine y_puti dX11_next_211 flX11_140 (xlt rfl hn) rfl rfl ?_
        refine y_goto (tgt := 403) dX11_next_214 (by decide) ?_
        exact y_return dX11_next_403 rfl rfl
      · refine y_iload_n dX11_next_204 rfl 0 rfl ?_
        refine y_goto (tgt := 211) dX11_next_205 (by decide) ?_
        refine y_puti dX11_next_211 flX11_140 (xlt rfl hn) rfl rfl ?_
        refine y_goto (tgt := 403) dX11_next_214 (by decide) ?_
        exact y_return dX11_next_403 rfl rfl
  · refine y_iconst (v := 3) dX11_next_165 (by decide) ?_
    refine y_goto (tgt := 195) dX11_next_166 (by decide) ?_
    refine y_puti dX11_next_195 flX11_137 (xlt rfl hn) rfl rfl ?_
    refine y_aload_n dX11_next_198 rfl 1 rfl ?_
    refine y_iload_n dX11_next_199 rfl 0 rfl ?_
    refine y_iconst (v := 3) dX11_next_200 (by decide) ?_
    refine y_icmp_ge (tgt := 208) dX11_next_201 (by decide) ?_ ?_
    · refine y_iload_n dX11_next_208 rfl 0 rfl ?_
      refine y_iconst (v := 3) dX11_next_209 (by decide) ?_
      refine y_isub dX11_next_210 ?_
      refine y_puti dX11_next_211 flX11_140 (xlt rfl hn) rfl rfl ?_
      refine y_goto (tgt := 403) dX11_next_214 (by decide) ?_
      exact y_return dX11_next_403 rfl rfl
    · refine y_iload_n dX11_next_204 rfl 0 rfl ?_
      refine y_goto (tgt := 211) dX11_next_205 (by decide) ?_
      refine y_puti dX11_next_211 flX11_140 (xlt rfl hn) rfl rfl ?_
      refine y_goto (tgt := 403) dX11_next_214 (by decide) ?_
      exact y_return dX11_next_403 rfl rfl
set_option maxRecDepth 20000 in
set_option maxHeartbeats 2000000 in
theorem p_X11_next_L230 {G : xG} {d : Nat} {n t : Nat} (hn : 102 ≤ n) (hd : 1 ≤ d) : ∀ (fu : Nat) (v2 : Int32) (w : xI), xC G m_X11_next d 230 [(0, .ref 71), (2, .int v2)] [] (xFin n t) w (fun _ : Unit => none) (xFin n t) (f_X11_next_L230 fu v2 w) := by
  intro fu
  induction fu with
  | zero => intro v2 w; exact xC.none
  | succ fu ih =>
    intro v2 w
    rw [f_X11_next_L230]
    refine y_aload_n dX11_next_230 rfl 0 rfl ?_
    refine z_geti (v := (w 71 28)) dX11_next_231 flX11_131 (xlt rfl hn) rfl rfl rfl ?_
    refine y_aload_n dX11_next_234 rfl 0 rfl ?_
    refine z_geti (v := (w 71 11)) dX11_next_235 flX11_104 (xlt rfl hn) rfl rfl rfl ?_
    refine y_icmp_ge (tgt := 309) dX11_next_238 (by decide) ?_ ?_
    · refine y_aload_n dX11_next_309 rfl 0 rfl ?_
      refine y_iload_n dX11_next_310 rfl 1 rfl ?_
      refine y_iconst (v := 4) dX11_next_311 (by decide) ?_
      refine y_icmp_le (tgt := 319) dX11_next_312 (by decide) ?_ ?_
      · refine y_iconst (v := 1) dX11_next_319 (by decide) ?_
        refine y_puti dX11_next_320 flX11_137 (xlt rfl hn) rfl rfl ?_
        refine y_goto (tgt := 403) dX11_next_323 (by decide) ?_
        exact y_return dX11_next_403 rfl rfl
      · refine y_iconst (v := (-1)) dX11_next_315 (by decide) ?_
        refine y_goto (tgt := 320) dX11_next_316 (by decide) ?_
        refine y_puti dX11_next_320 flX11_137 (xlt rfl hn) rfl rfl ?_
        refine y_goto (tgt := 403) dX11_next_323 (by decide) ?_
        exact y_return dX11_next_403 rfl rfl
    · refine y_aload_n dX11_next_241 rfl 0 rfl ?_
      refine y_getr (q := 80) dX11_next_242 flX11_34 (xlt rfl hn) rfl rfl rfl ?_
      refine y_aload_n dX11_next_245 rfl 0 rfl ?_
      refine z_geti (v := (w 71 28)) dX11_next_246 flX11_131 (xlt rfl hn) rfl rfl rfl ?_
      refine z_iald (v := (w 80 (w 71 28).toNatClampNeg)) dX11_next_249 (xlt rfl hn) rfl rfl ?_
      refine y_bipush (v := 48) dX11_next_250 (by decide) ?_
      refine y_bipush (v := 57) dX11_next_252 (by decide) ?_
      refine y_callS (As := [.int (w 80 (w 71 28).toNatClampNeg), .int (48 : Int32), .int (57 : Int32)]) (d2 := d - 1) dX11_next_254 kX11_114 (by omega) rfl rfl (Nat.le_of_ble_eq_true rfl) (p_X11_in hn (by omega)  _ _ _ _) (fun r230001 w230002 _ => ?_)
      refine y_if_eq (tgt := 309) dX11_next_257 (by decide) ?_ ?_
      · refine y_aload_n dX11_next_309 rfl 0 rfl ?_
        refine y_iload_n dX11_next_310 rfl 1 rfl ?_
        refine y_iconst (v := 4) dX11_next_311 (by decide) ?_
        refine y_icmp_le (tgt := 319) dX11_next_312 (by decide) ?_ ?_
        · refine y_iconst (v := 1) dX11_next_319 (by decide) ?_
          refine y_puti dX11_next_320 flX11_137 (xlt rfl hn) rfl rfl ?_
          refine y_goto (tgt := 403) dX11_next_323 (by decide) ?_
          exact y_return dX11_next_403 rfl rfl
        · refine y_iconst (v := (-1)) dX11_next_315 (by decide) ?_
          refine y_goto (tgt := 320) dX11_next_316 (by decide) ?_
          refine y_puti dX11_next_320 flX11_137 (xlt rfl hn) rfl rfl ?_
          refine y_goto (tgt := 403) dX11_next_323 (by decide) ?_
          exact y_return dX11_next_403 rfl rfl
      · refine y_aload_n dX11_next_260 rfl 0 rfl ?_
        refine y_iload_n dX11_next_261 rfl 1 rfl ?_
        refine y_iconst (v := 4) dX11_next_262 (by decide) ?_
        refine y_icmp_ge (tgt := 289) dX11_next_263 (by decide) ?_ ?_
        · refine y_iconst (v := 0) dX11_next_289 (by decide) ?_
          refine y_puti dX11_next_290 flX11_140 (xlt rfl hn) rfl rfl ?_
          refine z_iinc (j := 1) dX11_next_293 (by decide) rfl (by decide) (fun x230003 => ?_)
          refine y_loc (lv' := [(2, .int x230003), (0, .ref 71)]) rfl ?_
          refine y_aload_n dX11_next_296 rfl 1 rfl ?_
          refine y_dup dX11_next_297 rfl ?_
          refine z_geti (v := (w230002 71 28)) dX11_next_298 flX11_131 (xlt rfl hn) rfl rfl rfl ?_
          refine y_iconst (v := 1) dX11_next_301 (by decide) ?_
          refine y_iadd dX11_next_302 ?_
          refine y_puti dX11_next_303 flX11_131 (xlt rfl hn) rfl rfl ?_
          refine y_goto (tgt := 230) dX11_next_306 (by decide) ?_
          refine y_sub [(0, .ref 71), (2, .int x230003)] [1, 0] rfl ?_
          exact ih x230003 (xup (xup w230002 71 31 (0 : Int32)) 71 28 ((w230002 71 28) + (1 : Int32))) 
        · refine y_bipush (v := 10) dX11_next_266 (by decide) ?_
          refine y_aload_n dX11_next_268 rfl 0 rfl ?_
          refine z_geti (v := (w230002 71 31)) dX11_next_269 flX11_140 (xlt rfl hn) rfl rfl rfl ?_
          refine y_imul dX11_next_272 ?_
          refine y_aload_n dX11_next_273 rfl 0 rfl ?_
          refine y_getr (q := 80) dX11_next_274 flX11_34 (xlt rfl hn) rfl rfl rfl ?_
          refine y_aload_n dX11_next_277 rfl 0 rfl ?_
          refine z_geti (v := (w230002 71 28)) dX11_next_278 flX11_131 (xlt rfl hn) rfl rfl rfl ?_
          refine z_iald (v := (w230002 80 (w230002 71 28).toNatClampNeg)) dX11_next_281 (xlt rfl hn) rfl rfl ?_
          refine y_iadd dX11_next_282 ?_
          refine y_bipush (v := 48) dX11_next_283 (by decide) ?_
          refine y_isub dX11_next_285 ?_
          refine y_goto (tgt := 290) dX11_next_286 (by decide) ?_
          refine y_puti dX11_next_290 flX11_140 (xlt rfl hn) rfl rfl ?_
          refine z_iinc (j := 1) dX11_next_293 (by decide) rfl (by decide) (fun x230004 => ?_)
          refine y_loc (lv' := [(2, .int x230004), (0, .ref 71)]) rfl ?_
          refine y_aload_n dX11_next_296 rfl 1 rfl ?_
          refine y_dup dX11_next_297 rfl ?_
          refine z_geti (v := (w230002 71 28)) dX11_next_298 flX11_131 (xlt rfl hn) rfl rfl rfl ?_
          refine y_iconst (v := 1) dX11_next_301 (by decide) ?_
          refine y_iadd dX11_next_302 ?_
          refine y_puti dX11_next_303 flX11_131 (xlt rfl hn) rfl rfl ?_
          refine y_goto (tgt := 230) dX11_next_306 (by decide) ?_
          refine y_sub [(0, .ref 71), (2, .int x230004)] [1, 0] rfl ?_
          exact ih x230004 (xup (xup w230002 71 31 ((((10 : Int32) * (w230002 71 31)) + (w230002 80 (w230002 71 28).toNatClampNeg)) - (48 : Int32))) 71 28 ((w230002 71 28) + (1 : Int32))) 
set_option maxRecDepth 20000 in
set_option maxHeartbeats 2000000 in
theorem p_X11_next_L103 {G : xG} {d : Nat} {n t : Nat} (hn : 102 ≤ n) (hd : 1 ≤ d) : ∀ (fu : Nat) (w : xI), xC G m_X11_next d 103 [(0, .ref 71)] [] (xFin n t) w (fun _ : Unit => none) (xFin n t) (f_X11_next_L103 fu  w) := by
  intro fu
  induction fu with
  | zero => intro w; exact xC.none
  | succ fu ih =>
    intro w
    rw [f_X11_next_L103]
    refine y_aload_n dX11_next_103 rfl 0 rfl ?_
    refine z_geti (v := (w 71 28)) dX11_next_104 flX11_131 (xlt rfl hn) rfl rfl rfl ?_
    refine y_aload_n dX11_next_107 rfl 0 rfl ?_
    refine z_geti (v := (w 71 11)) dX11_next_108 flX11_104 (xlt rfl hn) rfl rfl rfl ?_
    refine y_icmp_ge (tgt := 146) dX11_next_111 (by decide) ?_ ?_
    · refine p_X11_next_L146 hn hd w 
    · refine y_aload_n dX11_next_114 rfl 0 rfl ?_
      refine y_getr (q := 80) dX11_next_115 flX11_34 (xlt rfl hn) rfl rfl rfl ?_
      refine y_aload_n dX11_next_118 rfl 0 rfl ?_
      refine z_geti (v := (w 71 28)) dX11_next_119 flX11_131 (xlt rfl hn) rfl rfl rfl ?_
      refine z_iald (v := (w 80 (w 71 28).toNatClampNeg)) dX11_next_122 (xlt rfl hn) rfl rfl ?_
      refine y_bipush (v := 97) dX11_next_123 (by decide) ?_
      refine y_bipush (v := 122) dX11_next_125 (by decide) ?_
      refine y_callS (As := [.int (w 80 (w 71 28).toNatClampNeg), .int (97 : Int32), .int (122 : Int32)]) (d2 := d - 1) dX11_next_127 kX11_114 (by omega) rfl rfl (Nat.le_of_ble_eq_true rfl) (p_X11_in hn (by omega)  _ _ _ _) (fun r103001 w103002 _ => ?_)
      refine y_if_eq (tgt := 146) dX11_next_130 (by decide) ?_ ?_
      · refine p_X11_next_L146 hn hd w103002 
      · refine y_aload_n dX11_next_133 rfl 0 rfl ?_
        refine y_dup dX11_next_134 rfl ?_
        refine z_geti (v := (w103002 71 28)) dX11_next_135 flX11_131 (xlt rfl hn) rfl rfl rfl ?_
        refine y_iconst (v := 1) dX11_next_138 (by decide) ?_
        refine y_iadd dX11_next_139 ?_
        refine y_puti dX11_next_140 flX11_131 (xlt rfl hn) rfl rfl ?_
        refine y_goto (tgt := 103) dX11_next_143 (by decide) ?_
        exact ih (xup w103002 71 28 ((w103002 71 28) + (1 : Int32))) 
set_option maxRecDepth 20000 in
set_option maxHeartbeats 2000000 in
theorem p_X11_next_L379 {G : xG} {d : Nat} {n t : Nat} (hn : 102 ≤ n) (hd : 1 ≤ d) (v1 : Int32) (s0 : Int32) (w : xI) : xC G m_X11_next d 379 [(0, .ref 71), (1, .int v1)] [.int s0] (xFin n t) w (fun _ : Unit => none) (xFin n t) (f_X11_next_L379 v1 s0 w) := by
  unfold f_X11_next_L379
  refine y_istore_n (lv' := [(2, .int s0), (0, .ref 71), (1, .int v1)]) dX11_next_379 rfl (by decide) rfl ?_
  refine y_aload_n dX11_next_380 rfl 1 rfl ?_
  refine y_iload_n dX11_next_381 rfl 0 rfl ?_
  refine y_if_eq (tgt := 389) dX11_next_382 (by decide) ?_ ?_
  · refine y_iconst (v := (-1)) dX11_next_389 (by decide) ?_
    refine y_puti dX11_next_390 flX11_137 (xlt rfl hn) rfl rfl ?_
    refine y_aload_n dX11_next_393 rfl 1 rfl ?_
    refine y_dup dX11_next_394 rfl ?_
    refine z_geti (v := (w 71 28)) dX11_next_395 flX11_131 (xlt rfl hn) rfl rfl rfl ?_
    refine y_iconst (v := 1) dX11_next_398 (by decide) ?_
    refine y_iadd dX11_next_399 ?_
    refine y_puti dX11_next_400 flX11_131 (xlt rfl hn) rfl rfl ?_
    exact y_return dX11_next_403 rfl rfl
  · refine y_iload_n dX11_next_385 rfl 2 rfl ?_
    refine y_goto (tgt := 390) dX11_next_386 (by decide) ?_
    refine y_puti dX11_next_390 flX11_137 (xlt rfl hn) rfl rfl ?_
    refine y_aload_n dX11_next_393 rfl 1 rfl ?_
    refine y_dup dX11_next_394 rfl ?_
    refine z_geti (v := (w 71 28)) dX11_next_395 flX11_131 (xlt rfl hn) rfl rfl rfl ?_
    refine y_iconst (v := 1) dX11_next_398 (by decide) ?_
    refine y_iadd dX11_next_399 ?_
    refine y_puti dX11_next_400 flX11_131 (xlt rfl hn) rfl rfl ?_
    exact y_return dX11_next_403 rfl rfl
set_option maxRecDepth 20000 in
set_option maxHeartbeats 2000000 in
theorem p_X11_next_L52 {G : xG} {d : Nat} {n t : Nat} (hn : 102 ≤ n) (hd : 1 ≤ d) (w : xI) : xC G m_X11_next d 52 [(0, .ref 71)] [] (xFin n t) w (fun _ : Unit => none) (xFin n t) (f_X11_next_L52  w) := by
  unfold f_X11_next_L52
  refine y_aload_n dX11_next_52 rfl 0 rfl ?_
  refine y_aload_n dX11_next_53 rfl 0 rfl ?_
  refine z_geti (v := (w 71 28)) dX11_next_54 flX11_131 (xlt rfl hn) rfl rfl rfl ?_
  refine y_puti dX11_next_57 flX11_134 (xlt rfl hn) rfl rfl ?_
  refine y_aload_n dX11_next_60 rfl 0 rfl ?_
  refine y_iconst (v := 0) dX11_next_61 (by decide) ?_
  refine y_puti dX11_next_62 flX11_137 (xlt rfl hn) rfl rfl ?_
  refine y_aload_n dX11_next_65 rfl 0 rfl ?_
  refine y_iconst (v := 0) dX11_next_66 (by decide) ?_
  refine y_puti dX11_next_67 flX11_140 (xlt rfl hn) rfl rfl ?_
  refine y_aload_n dX11_next_70 rfl 0 rfl ?_
  refine z_geti (v := (w 71 28)) dX11_next_71 flX11_131 (xlt rfl hn) rfl rfl rfl ?_
  refine y_aload_n dX11_next_74 rfl 0 rfl ?_
  refine z_geti (v := (w 71 11)) dX11_next_75 flX11_104 (xlt rfl hn) rfl rfl rfl ?_
  refine y_icmp_ne (tgt := 82) dX11_next_78 (by decide) ?_ ?_
  · refine y_aload_n dX11_next_82 rfl 0 rfl ?_
    refine y_getr (q := 80) dX11_next_83 flX11_34 (xlt rfl hn) rfl rfl rfl ?_
    refine y_aload_n dX11_next_86 rfl 0 rfl ?_
    refine z_geti (v := (w 71 28)) dX11_next_87 flX11_131 (xlt rfl hn) rfl rfl rfl ?_
    refine z_iald (v := (w 80 (w 71 28).toNatClampNeg)) dX11_next_90 (xlt rfl hn) rfl rfl ?_
    refine y_let (fun x52001 => ?_)
    refine y_istore_n (lv' := [(1, .int x52001), (0, .ref 71)]) dX11_next_91 rfl (by decide) rfl ?_
    refine y_iload_n dX11_next_92 rfl 0 rfl ?_
    refine y_bipush (v := 97) dX11_next_93 (by decide) ?_
    refine y_bipush (v := 122) dX11_next_95 (by decide) ?_
    refine y_callS (As := [.int x52001, .int (97 : Int32), .int (122 : Int32)]) (d2 := d - 1) dX11_next_97 kX11_114 (by omega) rfl rfl (Nat.le_of_ble_eq_true rfl) (p_X11_in hn (by omega)  _ _ _ _) (fun r52002 w52003 _ => ?_)
    refine y_if_eq (tgt := 217) dX11_next_100 (by decide) ?_ ?_
    · refine y_iload_n dX11_next_217 rfl 0 rfl ?_
      refine y_bipush (v := 48) dX11_next_218 (by decide) ?_
      refine y_bipush (v := 57) dX11_next_220 (by decide) ?_
      refine y_callS (As := [.int x52001, .int (48 : Int32), .int (57 : Int32)]) (d2 := d - 1) dX11_next_222 kX11_114 (by omega) rfl rfl (Nat.le_of_ble_eq_true rfl) (p_X11_in hn (by omega)  _ _ _ _) (fun r52004 w52005 _ => ?_)
      refine y_if_eq (tgt := 326) dX11_next_225 (by decide) ?_ ?_
      · refine y_iload_n dX11_next_326 rfl 0 rfl ?_
        refine y_bipush (v := 40) dX11_next_327 (by decide) ?_
        refine y_icmp_eq (tgt := 374) dX11_next_329 (by decide) ?_ ?_
        · refine y_iconst (v := 1) dX11_next_374 (by decide) ?_
          refine y_goto (tgt := 379) dX11_next_375 (by decide) ?_
          refine y_sub [(0, .ref 71), (1, .int x52001)] [1, 0] rfl ?_
          refine p_X11_next_L379 hn hd x52001 (1 : Int32) w52005 
        · refine y_iload_n dX11_next_332 rfl 0 rfl ?_
          refine y_bipush (v := 41) dX11_next_333 (by decide) ?_
          refine y_icmp_eq (tgt := 374) dX11_next_335 (by decide) ?_ ?_
          · refine y_iconst (v := 1) dX11_next_374 (by decide) ?_
            refine y_goto (tgt := 379) dX11_next_375 (by decide) ?_
            refine y_sub [(0, .ref 71), (1, .int x52001)] [1, 0] rfl ?_
            refine p_X11_next_L379 hn hd x52001 (1 : Int32) w52005 
          · refine y_iload_n dX11_next_338 rfl 0 rfl ?_
            refine y_bipush (v := 59) dX11_next_339 (by decide) ?_
            refine y_icmp_eq (tgt := 374) dX11_next_341 (by decide) ?_ ?_
            · refine y_iconst (v := 1) dX11_next_374 (by decide) ?_
              refine y_goto (tgt := 379) dX11_next_375 (by decide) ?_
              refine y_sub [(0, .ref 71), (1, .int x52001)] [1, 0] rfl ?_
              refine p_X11_next_L379 hn hd x52001 (1 : Int32) w52005 
            · refine y_iload_n dX11_next_344 rfl 0 rfl ?_
              refine y_bipush (v := 43) dX11_next_345 (by decide) ?_
              refine y_icmp_eq (tgt := 374) dX11_next_347 (by decide) ?_ ?_
              · refine y_iconst (v := 1) dX11_next_374 (by decide) ?_
                refine y_goto (tgt := 379) dX11_next_375 (by decide) ?_
                refine y_sub [(0, .ref 71), (1, .int x52001)] [1, 0] rfl ?_
                refine p_X11_next_L379 hn hd x52001 (1 : Int32) w52005 
              · refine y_iload_n dX11_next_350 rfl 0 rfl ?_
                refine y_bipush (v := 45) dX11_next_351 (by decide) ?_
                refine y_icmp_eq (tgt := 374) dX11_next_353 (by decide) ?_ ?_
                · refine y_iconst (v := 1) dX11_next_374 (by decide) ?_
                  refine y_goto (tgt := 379) dX11_next_375 (by decide) ?_
                  refine y_sub [(0, .ref 71), (1, .int x52001)] [1, 0] rfl ?_
                  refine p_X11_next_L379 hn hd x52001 (1 : Int32) w52005 
                · refine y_iload_n dX11_next_356 rfl 0 rfl ?_
                  refine y_bipush (v := 42) dX11_next_357 (by decide) ?_
                  refine y_icmp_eq (tgt := 374) dX11_next_359 (by decide) ?_ ?_
                  · refine y_iconst (v := 1) dX11_next_374 (by decide) ?_
                    refine y_goto (tgt := 379) dX11_next_375 (by decide) ?_
                    refine y_sub [(0, .ref 71), (1, .int x52001)] [1, 0] rfl ?_
                    refine p_X11_next_L379 hn hd x52001 (1 : Int32) w52005 
                  · refine y_iload_n dX11_next_362 rfl 0 rfl ?_
                    refine y_bipush (v := 60) dX11_next_363 (by decide) ?_
                    refine y_icmp_eq (tgt := 374) dX11_next_365 (by decide) ?_ ?_
                    · refine y_iconst (v := 1) dX11_next_374 (by decide) ?_
                      refine y_goto (tgt := 379) dX11_next_375 (by decide) ?_
                      refine y_sub [(0, .ref 71), (1, .int x52001)] [1, 0] rfl ?_
                      refine p_X11_next_L379 hn hd x52001 (1 : Int32) w52005 
                    · refine y_iload_n dX11_next_368 rfl 0 rfl ?_
                      refine y_bipush (v := 61) dX11_next_369 (by decide) ?_
                      refine y_icmp_ne (tgt := 378) dX11_next_371 (by decide) ?_ ?_
                      · refine y_iconst (v := 0) dX11_next_378 (by decide) ?_
                        refine y_sub [(0, .ref 71), (1, .int x52001)] [1, 0] rfl ?_
                        refine p_X11_next_L379 hn hd x52001 (0 : Int32) w52005 
                      · refine y_iconst (v := 1) dX11_next_374 (by decide) ?_
                        refine y_goto (tgt := 379) dX11_next_375 (by decide) ?_
                        refine y_sub [(0, .ref 71), (1, .int x52001)] [1, 0] rfl ?_
                        refine p_X11_next_L379 hn hd x52001 (1 : Int32) w52005 
      · refine y_iconst (v := 0) dX11_next_228 (by decide) ?_
        refine y_istore_n (lv' := [(2, .int (0 : Int32)), (1, .int x52001), (0, .ref 71)]) dX11_next_229 rfl (by decide) rfl ?_
        refine y_sub [(0, .ref 71), (2, .int (0 : Int32))] [2, 0] rfl ?_
        refine p_X11_next_L230 hn hd 2000 (0 : Int32) w52005 
    · refine y_sub [(0, .ref 71)] [1] rfl ?_
      refine p_X11_next_L103 hn hd 2000 w52003 
  · exact y_return dX11_next_81 rfl rfl
set_option maxRecDepth 20000 in
set_option maxHeartbeats 2000000 in
theorem p_X11_next_L0 {G : xG} {d : Nat} {n t : Nat} (hn : 102 ≤ n) (hd : 1 ≤ d) : ∀ (fu : Nat) (w : xI), xC G m_X11_next d 0 [(0, .ref 71)] [] (xFin n t) w (fun _ : Unit => none) (xFin n t) (f_X11_next_L0 fu  w) := by
  intro fu
  induction fu with
  | zero => intro w; exact xC.none
  | succ fu ih =>
    intro w
    rw [f_X11_next_L0]
    refine y_aload_n dX11_next_0 rfl 0 rfl ?_
    refine z_geti (v := (w 71 28)) dX11_next_1 flX11_131 (xlt rfl hn) rfl rfl rfl ?_
    refine y_aload_n dX11_next_4 rfl 0 rfl ?_
    refine z_geti (v := (w 71 11)) dX11_next_5 flX11_104 (xlt rfl hn) rfl rfl rfl ?_
    refine y_icmp_ge (tgt := 52) dX11_next_8 (by decide) ?_ ?_
    · refine p_X11_next_L52 hn hd w 
    · refine y_aload_n dX11_next_11 rfl 0 rfl ?_
      refine y_getr (q := 80) dX11_next_12 flX11_34 (xlt rfl hn) rfl rfl rfl ?_
      refine y_aload_n dX11_next_15 rfl 0 rfl ?_
      refine z_geti (v := (w 71 28)) dX11_next_16 flX11_131 (xlt rfl hn) rfl rfl rfl ?_
      refine z_iald (v := (w 80 (w 71 28).toNatClampNeg)) dX11_next_19 (xlt rfl hn) rfl rfl ?_
      refine y_bipush (v := 32) dX11_next_20 (by decide) ?_
      refine y_icmp_eq (tgt := 39) dX11_next_22 (by decide) ?_ ?_
      · refine y_aload_n dX11_next_39 rfl 0 rfl ?_
        refine y_dup dX11_next_40 rfl ?_
        refine z_geti (v := (w 71 28)) dX11_next_41 flX11_131 (xlt rfl hn) rfl rfl rfl ?_
        refine y_iconst (v := 1) dX11_next_44 (by decide) ?_
        refine y_iadd dX11_next_45 ?_
        refine y_puti dX11_next_46 flX11_131 (xlt rfl hn) rfl rfl ?_
        refine y_goto (tgt := 0) dX11_next_49 (by decide) ?_
        exact ih (xup w 71 28 ((w 71 28) + (1 : Int32))) 
      · refine y_aload_n dX11_next_25 rfl 0 rfl ?_
        refine y_getr (q := 80) dX11_next_26 flX11_34 (xlt rfl hn) rfl rfl rfl ?_
        refine y_aload_n dX11_next_29 rfl 0 rfl ?_
        refine z_geti (v := (w 71 28)) dX11_next_30 flX11_131 (xlt rfl hn) rfl rfl rfl ?_
        refine z_iald (v := (w 80 (w 71 28).toNatClampNeg)) dX11_next_33 (xlt rfl hn) rfl rfl ?_
        refine y_bipush (v := 10) dX11_next_34 (by decide) ?_
        refine y_icmp_ne (tgt := 52) dX11_next_36 (by decide) ?_ ?_
        · refine p_X11_next_L52 hn hd w 
        · refine y_aload_n dX11_next_39 rfl 0 rfl ?_
          refine y_dup dX11_next_40 rfl ?_
          refine z_geti (v := (w 71 28)) dX11_next_41 flX11_131 (xlt rfl hn) rfl rfl rfl ?_
          refine y_iconst (v := 1) dX11_next_44 (by decide) ?_
          refine y_iadd dX11_next_45 ?_
          refine y_puti dX11_next_46 flX11_131 (xlt rfl hn) rfl rfl ?_
          refine y_goto (tgt := 0) dX11_next_49 (by decide) ?_
          exact ih (xup w 71 28 ((w 71 28) + (1 : Int32))) 
set_option maxRecDepth 20000 in
set_option maxHeartbeats 2000000 in
theorem p_X11_next {G : xG} {d : Nat} {n t : Nat} (hn : 102 ≤ n) (hd : 1 ≤ d) (w : xI) : xMet G m_X11_next d [.ref 71] (xFin n t) w (fun _ : Unit => none) (xFin n t) (f_X11_next  w) := by
  refine xMet.of rfl (Nat.le_of_ble_eq_true rfl) ?_
  unfold f_X11_next
  show xC G m_X11_next d 0 [(0, .ref 71)] [] (xFin n t) w _ _ _
  refine p_X11_next_L0 hn hd 2000 w 
-- ===== X11_rank: WeighedGateModel.rank(I)I =====
set_option maxRecDepth 20000 in
set_option maxHeartbeats 2000000 in
theorem p_X11_rank {G : xG} {d : Nat} {n t : Nat} (hn : 102 ≤ n) (hd : 0 ≤ d) (a1 : Int32) (w : xI) : xMet G m_X11_rank d [.int a1] (xFin n t) w (fun x : Int32 => some (Value.int x)) (xFin n t) (f_X11_rank a1 w) := by
  refine xMet.of rfl (Nat.le_of_ble_eq_true rfl) ?_
  unfold f_X11_rank
  show xC G m_X11_rank d 0 [(0, .int a1)] [] (xFin n t) w _ _ _
  refine y_iload_n dX11_rank_0 rfl 0 rfl ?_
  refine y_if_ne (tgt := 8) dX11_rank_1 (by decide) ?_ ?_
  · refine y_iload_n dX11_rank_8 rfl 0 rfl ?_
    refine y_bipush (v := 11) dX11_rank_9 (by decide) ?_
    refine y_icmp_ne (tgt := 18) dX11_rank_11 (by decide) ?_ ?_
    · refine y_iload_n dX11_rank_18 rfl 0 rfl ?_
      refine y_bipush (v := 12) dX11_rank_19 (by decide) ?_
      refine y_icmp_ne (tgt := 28) dX11_rank_21 (by decide) ?_ ?_
      · refine y_iload_n dX11_rank_28 rfl 0 rfl ?_
        refine y_bipush (v := 13) dX11_rank_29 (by decide) ?_
        refine y_icmp_ne (tgt := 38) dX11_rank_31 (by decide) ?_ ?_
        · refine y_iload_n dX11_rank_38 rfl 0 rfl ?_
          refine y_bipush (v := 15) dX11_rank_39 (by decide) ?_
          refine y_icmp_gt (tgt := 48) dX11_rank_41 (by decide) ?_ ?_
          · refine y_iload_n dX11_rank_48 rfl 0 rfl ?_
            refine y_bipush (v := 17) dX11_rank_49 (by decide) ?_
            refine y_icmp_gt (tgt := 58) dX11_rank_51 (by decide) ?_ ?_
            · refine y_iload_n dX11_rank_58 rfl 0 rfl ?_
              refine y_bipush (v := 18) dX11_rank_59 (by decide) ?_
              refine y_icmp_ne (tgt := 69) dX11_rank_61 (by decide) ?_ ?_
              · refine y_bipush (v := 7) dX11_rank_69 (by decide) ?_
                exact y_ireturn dX11_rank_71 rfl rfl rfl
              · refine y_bipush (v := 6) dX11_rank_64 (by decide) ?_
                refine y_goto (tgt := 71) dX11_rank_66 (by decide) ?_
                exact y_ireturn dX11_rank_71 rfl rfl rfl
            · refine y_iconst (v := 5) dX11_rank_54 (by decide) ?_
              refine y_goto (tgt := 71) dX11_rank_55 (by decide) ?_
              exact y_ireturn dX11_rank_71 rfl rfl rfl
          · refine y_iconst (v := 4) dX11_rank_44 (by decide) ?_
            refine y_goto (tgt := 71) dX11_rank_45 (by decide) ?_
            exact y_ireturn dX11_rank_71 rfl rfl rfl
        · refine y_iconst (v := 3) dX11_rank_34 (by decide) ?_
          refine y_goto (tgt := 71) dX11_rank_35 (by decide) ?_
          exact y_ireturn dX11_rank_71 rfl rfl rfl
      · refine y_iconst (v := 2) dX11_rank_24 (by decide) ?_
        refine y_goto (tgt := 71) dX11_rank_25 (by decide) ?_
        exact y_ireturn dX11_rank_71 rfl rfl rfl
    · refine y_iconst (v := 1) dX11_rank_14 (by decide) ?_
      refine y_goto (tgt := 71) dX11_rank_15 (by decide) ?_
      exact y_ireturn dX11_rank_71 rfl rfl rfl
  · refine y_iconst (v := 0) dX11_rank_4 (by decide) ?_
    refine y_goto (tgt := 71) dX11_rank_5 (by decide) ?_
    exact y_ireturn dX11_rank_71 rfl rfl rfl
-- ===== X11_puts: WeighedGateModel.puts(I)V =====
set_option maxRecDepth 20000 in
set_option maxHeartbeats 2000000 in
theorem p_X11_puts {G : xG} {d : Nat} {n t : Nat} (hn : 102 ≤ n) (hd : 0 ≤ d) (a1 : Int32) (w : xI) : xMet G m_X11_puts d [.ref 71, .int a1] (xFin n t) w (fun _ : Unit => none) (xFin n t) (f_X11_puts a1 w) := by
  refine xMet.of rfl (Nat.le_of_ble_eq_true rfl) ?_
  unfold f_X11_puts
  show xC G m_X11_puts d 0 [(0, .ref 71), (1, .int a1)] [] (xFin n t) w _ _ _
  refine y_aload_n dX11_puts_0 rfl 0 rfl ?_
  refine y_getr (q := 81) dX11_puts_1 flX11_37 (xlt rfl hn) rfl rfl rfl ?_
  refine y_sipush (v := 200) dX11_puts_4 (by decide) ?_
  refine y_aload_n dX11_puts_7 rfl 0 rfl ?_
  refine z_geti (v := (w 71 14)) dX11_puts_8 flX11_121 (xlt rfl hn) rfl rfl rfl ?_
  refine y_imul dX11_puts_11 ?_
  refine y_aload_n dX11_puts_12 rfl 0 rfl ?_
  refine z_geti (v := (w 71 36)) dX11_puts_13 flX11_147 (xlt rfl hn) rfl rfl rfl ?_
  refine y_iadd dX11_puts_16 ?_
  refine y_iload_n dX11_puts_17 rfl 1 rfl ?_
  refine y_iast dX11_puts_18 (xlt rfl hn) rfl ?_
  refine y_aload_n dX11_puts_19 rfl 0 rfl ?_
  refine y_dup dX11_puts_20 rfl ?_
  refine z_geti (v := (w 71 36)) dX11_puts_21 flX11_147 (xlt rfl hn) rfl rfl rfl ?_
  refine y_iconst (v := 1) dX11_puts_24 (by decide) ?_
  refine y_iadd dX11_puts_25 ?_
  refine y_puti dX11_puts_26 flX11_147 (xlt rfl hn) rfl rfl ?_
  exact y_return dX11_puts_29 rfl rfl
-- ===== X11_unwinds: WeighedGateModel.unwinds(I)V =====
set_option maxRecDepth 20000 in
set_option maxHeartbeats 2000000 in
theorem p_X11_unwinds_L0 {G : xG} {d : Nat} {n t : Nat} (hn : 102 ≤ n) (hd : 1 ≤ d) : ∀ (fu : Nat) (v1 : Int32) (w : xI), xC G m_X11_unwinds d 0 [(0, .ref 71), (1, .int v1)] [] (xFin n t) w (fun _ : Unit => none) (xFin n t) (f_X11_unwinds_L0 fu v1 w) := by
  intro fu
  induction fu with
  | zero => intro v1 w; exact xC.none
  | succ fu ih =>
    intro v1 w
    rw [f_X11_unwinds_L0]
    refine y_aload_n dX11_unwinds_0 rfl 0 rfl ?_
    refine z_geti (v := (w 71 34)) dX11_unwinds_1 flX11_150 (xlt rfl hn) rfl rfl rfl ?_
    refine y_if_le (tgt := 79) dX11_unwinds_4 (by decide) ?_ ?_
    · exact y_return dX11_unwinds_79 rfl rfl
    · refine y_aload_n dX11_unwinds_7 rfl 0 rfl ?_
      refine y_getr (q := 92) dX11_unwinds_8 flX11_70 (xlt rfl hn) rfl rfl rfl ?_
      refine y_aload_n dX11_unwinds_11 rfl 0 rfl ?_
      refine z_geti (v := (w 71 34)) dX11_unwinds_12 flX11_150 (xlt rfl hn) rfl rfl rfl ?_
      refine y_iconst (v := 1) dX11_unwinds_15 (by decide) ?_
      refine y_isub dX11_unwinds_16 ?_
      refine z_iald (v := (w 92 ((w 71 34) - (1 : Int32)).toNatClampNeg)) dX11_unwinds_17 (xlt rfl hn) rfl rfl ?_
      refine y_callS (As := [.int (w 92 ((w 71 34) - (1 : Int32)).toNatClampNeg)]) (d2 := d - 1) dX11_unwinds_18 kX11_153 (by omega) rfl rfl (Nat.le_of_ble_eq_true rfl) (p_X11_rank hn (by omega)  _ _) (fun r1 w2 _ => ?_)
      refine y_iload_n dX11_unwinds_21 rfl 1 rfl ?_
      refine y_icmp_lt (tgt := 79) dX11_unwinds_22 (by decide) ?_ ?_
      · exact y_return dX11_unwinds_79 rfl rfl
      · refine y_aload_n dX11_unwinds_25 rfl 0 rfl ?_
        refine y_dup dX11_unwinds_26 rfl ?_
        refine z_geti (v := (w2 71 34)) dX11_unwinds_27 flX11_150 (xlt rfl hn) rfl rfl rfl ?_
        refine y_iconst (v := 1) dX11_unwinds_30 (by decide) ?_
        refine y_isub dX11_unwinds_31 ?_
        refine y_puti dX11_unwinds_32 flX11_150 (xlt rfl hn) rfl rfl ?_
        refine y_aload_n dX11_unwinds_35 rfl 0 rfl ?_
        refine y_getr (q := 92) dX11_unwinds_36 flX11_70 (xlt rfl hn) rfl rfl rfl ?_
        refine y_aload_n dX11_unwinds_39 rfl 0 rfl ?_
        refine z_geti (v := ((w2 71 34) - (1 : Int32))) dX11_unwinds_40 flX11_150 (xlt rfl hn) rfl rfl rfl ?_
        refine z_iald (v := (w2 92 ((w2 71 34) - (1 : Int32)).toNatClampNeg)) dX11_unwinds_43 (xlt rfl hn) rfl rfl ?_
        refine y_let (fun x3 => ?_)
        refine y_istore_n (lv' := [(2, .int x3), (0, .ref 71), (1, .int v1)]) dX11_unwinds_44 rfl (by decide) rfl ?_
        refine y_aload_n dX11_unwinds_45 rfl 1 rfl ?_
        refine y_dup dX11_unwinds_46 rfl ?_
        refine z_geti (v := (w2 71 35)) dX11_unwinds_47 flX11_157 (xlt rfl hn) rfl rfl rfl ?_
        refine y_iload_n dX11_unwinds_50 rfl 0 rfl ?_
        refine y_bipush (v := 13) dX11_unwinds_51 (by decide) ?_
        refine y_icmp_eq (tgt := 62) dX11_unwinds_53 (by decide) ?_ ?_
        · refine y_iconst (v := 1) dX11_unwinds_62 (by decide) ?_
          refine y_goto (tgt := 67) dX11_unwinds_63 (by decide) ?_
          refine y_isub dX11_unwinds_67 ?_
          refine y_puti dX11_unwinds_68 flX11_157 (xlt rfl hn) rfl rfl ?_
          refine y_aload_n dX11_unwinds_71 rfl 1 rfl ?_
          refine y_iload_n dX11_unwinds_72 rfl 0 rfl ?_
          refine y_callV (As := [.int x3]) (d2 := d - 1) dX11_unwinds_73 kX11_160 (by omega) rfl rfl (Nat.le_of_ble_eq_true rfl) (xlt rfl hn) rfl rfl (p_X11_puts hn (by omega)  _ _) (fun r4 w5 _ => ?_)
          refine y_goto (tgt := 0) dX11_unwinds_76 (by decide) ?_
          refine y_sub [(0, .ref 71), (1, .int v1)] [1, 2] rfl ?_
          exact ih v1 w5 
        · refine y_iload_n dX11_unwinds_56 rfl 0 rfl ?_
          refine y_bipush (v := 19) dX11_unwinds_57 (by decide) ?_
          refine y_icmp_ne (tgt := 66) dX11_unwinds_59 (by decide) ?_ ?_
          · refine y_iconst (v := 0) dX11_unwinds_66 (by decide) ?_
            refine y_isub dX11_unwinds_67 ?_
            refine y_puti dX11_unwinds_68 flX11_157 (xlt rfl hn) rfl rfl ?_
            refine y_aload_n dX11_unwinds_71 rfl 1 rfl ?_
            refine y_iload_n dX11_unwinds_72 rfl 0 rfl ?_
            refine y_callV (As := [.int x3]) (d2 := d - 1) dX11_unwinds_73 kX11_160 (by omega) rfl rfl (Nat.le_of_ble_eq_true rfl) (xlt rfl hn) rfl rfl (p_X11_puts hn (by omega)  _ _) (fun r6 w7 _ => ?_)
            refine y_goto (tgt := 0) dX11_unwinds_76 (by decide) ?_
            refine y_sub [(0, .ref 71), (1, .int v1)] [1, 2] rfl ?_
            exact ih v1 w7 
          · refine y_iconst (v := 1) dX11_unwinds_62 (by decide) ?_
            refine y_goto (tgt := 67) dX11_unwinds_63 (by decide) ?_
            refine y_isub dX11_unwinds_67 ?_
            refine y_puti dX11_unwinds_68 flX11_157 (xlt rfl hn) rfl rfl ?_
            refine y_aload_n dX11_unwinds_71 rfl 1 rfl ?_
            refine y_iload_n dX11_unwinds_72 rfl 0 rfl ?_
            refine y_callV (As := [.int x3]) (d2 := d - 1) dX11_unwinds_73 kX11_160 (by omega) rfl rfl (Nat.le_of_ble_eq_true rfl) (xlt rfl hn) rfl rfl (p_X11_puts hn (by omega)  _ _) (fun r8 w9 _ => ?_)
            refine y_goto (tgt := 0) dX11_unwinds_76 (by decide) ?_
            refine y_sub [(0, .ref 71), (1, .int v1)] [1, 2] rfl ?_
            exact ih v1 w9 
set_option maxRecDepth 20000 in
set_option maxHeartbeats 2000000 in
theorem p_X11_unwinds {G : xG} {d : Nat} {n t : Nat} (hn : 102 ≤ n) (hd : 1 ≤ d) (a1 : Int32) (w : xI) : xMet G m_X11_unwinds d [.ref 71, .int a1] (xFin n t) w (fun _ : Unit => none) (xFin n t) (f_X11_unwinds a1 w) := by
  refine xMet.of rfl (Nat.le_of_ble_eq_true rfl) ?_
  unfold f_X11_unwinds
  show xC G m_X11_unwinds d 0 [(0, .ref 71), (1, .int a1)] [] (xFin n t) w _ _ _
  refine p_X11_unwinds_L0 hn hd 2000 a1 w 
-- ===== X11_holds: WeighedGateModel.holds(I)V =====
set_option maxRecDepth 20000 in
set_option maxHeartbeats 2000000 in
theorem p_X11_holds {G : xG} {d : Nat} {n t : Nat} (hn : 102 ≤ n) (hd : 0 ≤ d) (a1 : Int32) (w : xI) : xMet G m_X11_holds d [.ref 71, .int a1] (xFin n t) w (fun _ : Unit => none) (xFin n t) (f_X11_holds a1 w) := by
  refine xMet.of rfl (Nat.le_of_ble_eq_true rfl) ?_
  unfold f_X11_holds
  show xC G m_X11_holds d 0 [(0, .ref 71), (1, .int a1)] [] (xFin n t) w _ _ _
  refine y_aload_n dX11_holds_0 rfl 0 rfl ?_
  refine y_getr (q := 92) dX11_holds_1 flX11_70 (xlt rfl hn) rfl rfl rfl ?_
  refine y_aload_n dX11_holds_4 rfl 0 rfl ?_
  refine z_geti (v := (w 71 34)) dX11_holds_5 flX11_150 (xlt rfl hn) rfl rfl rfl ?_
  refine y_iload_n dX11_holds_8 rfl 1 rfl ?_
  refine y_iast dX11_holds_9 (xlt rfl hn) rfl ?_
  refine y_aload_n dX11_holds_10 rfl 0 rfl ?_
  refine y_dup dX11_holds_11 rfl ?_
  refine z_geti (v := (w 71 34)) dX11_holds_12 flX11_150 (xlt rfl hn) rfl rfl rfl ?_
  refine y_iconst (v := 1) dX11_holds_15 (by decide) ?_
  refine y_iadd dX11_holds_16 ?_
  refine y_puti dX11_holds_17 flX11_150 (xlt rfl hn) rfl rfl ?_
  exact y_return dX11_holds_20 rfl rfl
-- ===== X11_opensOne: WeighedGateModel.opensOne(I)Z =====
set_option maxRecDepth 20000 in
set_option maxHeartbeats 2000000 in
theorem p_X11_opensOne {G : xG} {d : Nat} {n t : Nat} (hn : 102 ≤ n) (hd : 1 ≤ d) (a1 : Int32) (w : xI) : xMet G m_X11_opensOne d [.ref 71, .int a1] (xFin n t) w (fun x : Int32 => some (Value.int x)) (xFin n t) (f_X11_opensOne a1 w) := by
  refine xMet.of rfl (Nat.le_of_ble_eq_true rfl) ?_
  unfold f_X11_opensOne
  show xC G m_X11_opensOne d 0 [(0, .ref 71), (1, .int a1)] [] (xFin n t) w _ _ _
  refine y_aload_n dX11_opensOne_0 rfl 0 rfl ?_
  refine z_geti (v := (w 71 35)) dX11_opensOne_1 flX11_157 (xlt rfl hn) rfl rfl rfl ?_
  refine y_iconst (v := 5) dX11_opensOne_4 (by decide) ?_
  refine y_icmp_ne (tgt := 10) dX11_opensOne_5 (by decide) ?_ ?_
  · refine y_aload_n dX11_opensOne_10 rfl 0 rfl ?_
    refine y_dup dX11_opensOne_11 rfl ?_
    refine z_geti (v := (w 71 35)) dX11_opensOne_12 flX11_157 (xlt rfl hn) rfl rfl rfl ?_
    refine y_iconst (v := 1) dX11_opensOne_15 (by decide) ?_
    refine y_iadd dX11_opensOne_16 ?_
    refine y_puti dX11_opensOne_17 flX11_157 (xlt rfl hn) rfl rfl ?_
    refine y_aload_n dX11_opensOne_20 rfl 0 rfl ?_
    refine y_iload_n dX11_opensOne_21 rfl 1 rfl ?_
    refine y_callV (As := [.int a1]) (d2 := d - 1) dX11_opensOne_22 kX11_164 (by omega) rfl rfl (Nat.le_of_ble_eq_true rfl) (xlt rfl hn) rfl rfl (p_X11_holds hn (by omega)  _ _) (fun r1 w2 _ => ?_)
    refine y_iconst (v := 1) dX11_opensOne_25 (by decide) ?_
    exact y_ireturn dX11_opensOne_26 rfl rfl rfl
  · refine y_iconst (v := 0) dX11_opensOne_8 (by decide) ?_
    exact y_ireturn dX11_opensOne_9 rfl rfl rfl
-- ===== X11_between: WeighedGateModel.between(I)Z =====
set_option maxRecDepth 20000 in
set_option maxHeartbeats 2000000 in
theorem p_X11_between_L17 {G : xG} {d : Nat} {n t : Nat} (hn : 102 ≤ n) (hd : 2 ≤ d) (v1 : Int32) (s0 : Int32) (w : xI) : xC G m_X11_between d 17 [(0, .ref 71), (1, .int v1)] [.int s0, .ref 71] (xFin n t) w (fun x : Int32 => some (Value.int x)) (xFin n t) (f_X11_between_L17 v1 s0 w) := by
  unfold f_X11_between_L17
  refine y_callV (As := [.int s0]) (d2 := d - 1) dX11_between_17 kX11_167 (by omega) rfl rfl (Nat.le_of_ble_eq_true rfl) (xlt rfl hn) rfl rfl (p_X11_unwinds hn (by omega)  _ _) (fun r17001 w17002 _ => ?_)
  refine y_iload_n dX11_between_20 rfl 1 rfl ?_
  refine y_callS (As := [.int v1]) (d2 := d - 1) dX11_between_21 kX11_153 (by omega) rfl rfl (Nat.le_of_ble_eq_true rfl) (p_X11_rank hn (by omega)  _ _) (fun r17003 w17004 _ => ?_)
  refine y_iconst (v := 4) dX11_between_24 (by decide) ?_
  refine y_icmp_ne (tgt := 55) dX11_between_25 (by decide) ?_ ?_
  · refine y_aload_n dX11_between_55 rfl 0 rfl ?_
    refine y_iload_n dX11_between_56 rfl 1 rfl ?_
    refine y_callV (As := [.int v1]) (d2 := d - 1) dX11_between_57 kX11_164 (by omega) rfl rfl (Nat.le_of_ble_eq_true rfl) (xlt rfl hn) rfl rfl (p_X11_holds hn (by omega)  _ _) (fun r17005 w17006 _ => ?_)
    refine y_iconst (v := 1) dX11_between_60 (by decide) ?_
    exact y_ireturn dX11_between_61 rfl rfl rfl
  · refine y_aload_n dX11_between_28 rfl 0 rfl ?_
    refine z_geti (v := (w17004 71 34)) dX11_between_29 flX11_150 (xlt rfl hn) rfl rfl rfl ?_
    refine y_if_le (tgt := 55) dX11_between_32 (by decide) ?_ ?_
    · refine y_aload_n dX11_between_55 rfl 0 rfl ?_
      refine y_iload_n dX11_between_56 rfl 1 rfl ?_
      refine y_callV (As := [.int v1]) (d2 := d - 1) dX11_between_57 kX11_164 (by omega) rfl rfl (Nat.le_of_ble_eq_true rfl) (xlt rfl hn) rfl rfl (p_X11_holds hn (by omega)  _ _) (fun r17007 w17008 _ => ?_)
      refine y_iconst (v := 1) dX11_between_60 (by decide) ?_
      exact y_ireturn dX11_between_61 rfl rfl rfl
    · refine y_aload_n dX11_between_35 rfl 0 rfl ?_
      refine y_getr (q := 92) dX11_between_36 flX11_70 (xlt rfl hn) rfl rfl rfl ?_
      refine y_aload_n dX11_between_39 rfl 0 rfl ?_
      refine z_geti (v := (w17004 71 34)) dX11_between_40 flX11_150 (xlt rfl hn) rfl rfl rfl ?_
      refine y_iconst (v := 1) dX11_between_43 (by decide) ?_
      refine y_isub dX11_between_44 ?_
      refine z_iald (v := (w17004 92 ((w17004 71 34) - (1 : Int32)).toNatClampNeg)) dX11_between_45 (xlt rfl hn) rfl rfl ?_
      refine y_callS (As := [.int (w17004 92 ((w17004 71 34) - (1 : Int32)).toNatClampNeg)]) (d2 := d - 1) dX11_between_46 kX11_153 (by omega) rfl rfl (Nat.le_of_ble_eq_true rfl) (p_X11_rank hn (by omega)  _ _) (fun r17009 w17010 _ => ?_)
      refine y_iconst (v := 4) dX11_between_49 (by decide) ?_
      refine y_icmp_ne (tgt := 55) dX11_between_50 (by decide) ?_ ?_
      · refine y_aload_n dX11_between_55 rfl 0 rfl ?_
        refine y_iload_n dX11_between_56 rfl 1 rfl ?_
        refine y_callV (As := [.int v1]) (d2 := d - 1) dX11_between_57 kX11_164 (by omega) rfl rfl (Nat.le_of_ble_eq_true rfl) (xlt rfl hn) rfl rfl (p_X11_holds hn (by omega)  _ _) (fun r17011 w17012 _ => ?_)
        refine y_iconst (v := 1) dX11_between_60 (by decide) ?_
        exact y_ireturn dX11_between_61 rfl rfl rfl
      · refine y_iconst (v := 0) dX11_between_53 (by decide) ?_
        exact y_ireturn dX11_between_54 rfl rfl rfl
set_option maxRecDepth 20000 in
set_option maxHeartbeats 2000000 in
theorem p_X11_between {G : xG} {d : Nat} {n t : Nat} (hn : 102 ≤ n) (hd : 2 ≤ d) (a1 : Int32) (w : xI) : xMet G m_X11_between d [.ref 71, .int a1] (xFin n t) w (fun x : Int32 => some (Value.int x)) (xFin n t) (f_X11_between a1 w) := by
  refine xMet.of rfl (Nat.le_of_ble_eq_true rfl) ?_
  unfold f_X11_between
  show xC G m_X11_between d 0 [(0, .ref 71), (1, .int a1)] [] (xFin n t) w _ _ _
  refine y_aload_n dX11_between_0 rfl 0 rfl ?_
  refine y_iload_n dX11_between_1 rfl 1 rfl ?_
  refine y_callS (As := [.int a1]) (d2 := d - 1) dX11_between_2 kX11_153 (by omega) rfl rfl (Nat.le_of_ble_eq_true rfl) (p_X11_rank hn (by omega)  _ _) (fun r1 w2 _ => ?_)
  refine y_iconst (v := 4) dX11_between_5 (by decide) ?_
  refine y_icmp_ne (tgt := 13) dX11_between_6 (by decide) ?_ ?_
  · refine y_iload_n dX11_between_13 rfl 1 rfl ?_
    refine y_callS (As := [.int a1]) (d2 := d - 1) dX11_between_14 kX11_153 (by omega) rfl rfl (Nat.le_of_ble_eq_true rfl) (p_X11_rank hn (by omega)  _ _) (fun r3 w4 _ => ?_)
    refine p_X11_between_L17 hn hd a1 r3 w4 
  · refine y_iconst (v := 5) dX11_between_9 (by decide) ?_
    refine y_goto (tgt := 17) dX11_between_10 (by decide) ?_
    refine p_X11_between_L17 hn hd a1 (5 : Int32) w2 
