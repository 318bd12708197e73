-- ===== X10_makings: WeighedGate.makings(II)I =====
set_option maxRecDepth 20000 in
set_option maxHeartbeats 2000000 in
theorem p_X10_makings_L27 {G : xG} {d : Nat} {n t : Nat} (hn : 71 ≤ n) (hd : 2 ≤ d) : ∀ (fu : Nat) (v1 : Int32) (v2 : Int32) (v3 : Int32) (v4 : Int32) (v5 : Int32) (w : xI), xC G m_X10_makings d 27 [(0, .ref 0), (1, .int v1), (2, .int v2), (3, .int v3), (4, .int v4), (5, .int v5)] [] (xFin n t) w (fun x : Int32 => some (Value.int x)) (xFin n t) (f_X10_makings_L27 fu v1 v2 v3 v4 v5 w) := by
  intro fu
  induction fu with
  | zero => intro v1 v2 v3 v4 v5 w; exact xC.none
  | succ fu ih =>
    intro v1 v2 v3 v4 v5 w
    rw [f_X10_makings_L27]
    refine y_iload dX10_makings_27 5 rfl ?_
    refine y_iload_n dX10_makings_29 rfl 1 rfl ?_
    refine y_icmp_gt (tgt := 67) dX10_makings_30 (by decide) ?_ ?_
    · refine y_iload_n dX10_makings_67 rfl 2 rfl ?_
      refine y_if_ne (tgt := 75) dX10_makings_68 (by decide) ?_ ?_
      · refine y_iload dX10_makings_75 4 rfl ?_
        exact y_ireturn dX10_makings_77 rfl rfl rfl
      · refine y_iload_n dX10_makings_71 rfl 3 rfl ?_
        refine y_goto (tgt := 77) dX10_makings_72 (by decide) ?_
        exact y_ireturn dX10_makings_77 rfl rfl rfl
    · refine y_aload_n dX10_makings_33 rfl 0 rfl ?_
      refine y_getr (q := 1) dX10_makings_34 flX10_12 (xlt rfl hn) rfl rfl rfl ?_
      refine y_iload dX10_makings_37 5 rfl ?_
      refine y_callV (As := [.int v5]) (d2 := d - 1) dX10_makings_39 kX10_191 (by omega) rfl rfl (Nat.le_of_ble_eq_true rfl) (xlt rfl hn) rfl rfl (p_X5_makes hn (by omega)  _ _) (fun r27001 w27002 _ => ?_)
      refine y_if_eq (tgt := 51) dX10_makings_42 (by decide) ?_ ?_
      · refine y_iload dX10_makings_51 4 rfl ?_
        refine y_iconst (v := (-1)) dX10_makings_53 (by decide) ?_
        refine y_icmp_ne (tgt := 61) dX10_makings_54 (by decide) ?_ ?_
        · refine z_iinc (j := 5) dX10_makings_61 (by decide) rfl (by decide) (fun x27003 => ?_)
          refine y_loc (lv' := [(5, .int x27003), (0, .ref 0), (1, .int v1), (2, .int v2), (3, .int v3), (4, .int v4)]) rfl ?_
          refine y_goto (tgt := 27) dX10_makings_64 (by decide) ?_
          refine y_sub [(0, .ref 0), (1, .int v1), (2, .int v2), (3, .int v3), (4, .int v4), (5, .int x27003)] [1, 2, 3, 4, 5, 0] rfl ?_
          exact ih v1 v2 v3 v4 x27003 w27002 
        · refine y_iload dX10_makings_57 5 rfl ?_
          refine y_istore (lv' := [(4, .int v5), (0, .ref 0), (1, .int v1), (2, .int v2), (3, .int v3), (5, .int v5)]) dX10_makings_59 (by decide) rfl ?_
          refine z_iinc (j := 5) dX10_makings_61 (by decide) rfl (by decide) (fun x27004 => ?_)
          refine y_loc (lv' := [(5, .int x27004), (4, .int v5), (0, .ref 0), (1, .int v1), (2, .int v2), (3, .int v3)]) rfl ?_
          refine y_goto (tgt := 27) dX10_makings_64 (by decide) ?_
          refine y_sub [(0, .ref 0), (1, .int v1), (2, .int v2), (3, .int v3), (4, .int v5), (5, .int x27004)] [2, 3, 4, 5, 1, 0] rfl ?_
          exact ih v1 v2 v3 v5 x27004 w27002 
      · refine z_iinc (j := 3) dX10_makings_45 (by decide) rfl (by decide) (fun x27005 => ?_)
        refine y_loc (lv' := [(3, .int x27005), (0, .ref 0), (1, .int v1), (2, .int v2), (4, .int v4), (5, .int v5)]) rfl ?_
        refine y_goto (tgt := 61) dX10_makings_48 (by decide) ?_
        refine z_iinc (j := 5) dX10_makings_61 (by decide) rfl (by decide) (fun x27006 => ?_)
        refine y_loc (lv' := [(5, .int x27006), (3, .int x27005), (0, .ref 0), (1, .int v1), (2, .int v2), (4, .int v4)]) rfl ?_
        refine y_goto (tgt := 27) dX10_makings_64 (by decide) ?_
        refine y_sub [(0, .ref 0), (1, .int v1), (2, .int v2), (3, .int x27005), (4, .int v4), (5, .int x27006)] [2, 3, 4, 1, 5, 0] rfl ?_
        exact ih v1 v2 x27005 v4 x27006 w27002 
set_option maxRecDepth 20000 in
set_option maxHeartbeats 2000000 in
theorem p_X10_makings {G : xG} {d : Nat} {n t : Nat} (hn : 71 ≤ n) (hd : 2 ≤ d) (a1 : Int32) (a2 : Int32) (w : xI) : xMet G m_X10_makings d [.ref 0, .int a1, .int a2] (xFin n t) w (fun x : Int32 => some (Value.int x)) (xFin n t) (f_X10_makings a1 a2 w) := by
  refine xMet.of rfl (Nat.le_of_ble_eq_true rfl) ?_
  unfold f_X10_makings
  show xC G m_X10_makings d 0 [(0, .ref 0), (1, .int a1), (2, .int a2)] [] (xFin n t) w _ _ _
  refine y_iload_n dX10_makings_0 rfl 1 rfl ?_
  refine y_callS (As := [.int a1]) (d2 := d - 1) dX10_makings_1 kX10_185 (by omega) rfl rfl (Nat.le_of_ble_eq_true rfl) (p_X10_isDifference hn (by omega)  _ _) (fun r1 w2 _ => ?_)
  refine y_if_eq (tgt := 16) dX10_makings_4 (by decide) ?_ ?_
  · refine y_bipush (v := (-2)) dX10_makings_16 (by decide) ?_
    exact y_ireturn dX10_makings_18 rfl rfl rfl
  · refine y_iload_n dX10_makings_7 rfl 2 rfl ?_
    refine y_iconst (v := 0) dX10_makings_8 (by decide) ?_
    refine y_iconst (v := 1) dX10_makings_9 (by decide) ?_
    refine y_callS (As := [.int a2, .int (0 : Int32), .int (1 : Int32)]) (d2 := d - 1) dX10_makings_10 kX10_104 (by omega) rfl rfl (Nat.le_of_ble_eq_true rfl) (p_X10_within hn (by omega)  _ _ _ _) (fun r3 w4 _ => ?_)
    refine y_if_ne (tgt := 19) dX10_makings_13 (by decide) ?_ ?_
    · refine y_iconst (v := 0) dX10_makings_19 (by decide) ?_
      refine y_istore_n (lv' := [(3, .int (0 : Int32)), (0, .ref 0), (1, .int a1), (2, .int a2)]) dX10_makings_20 rfl (by decide) rfl ?_
      refine y_iconst (v := (-1)) dX10_makings_21 (by decide) ?_
      refine y_istore (lv' := [(4, .int (-1 : Int32)), (3, .int (0 : Int32)), (0, .ref 0), (1, .int a1), (2, .int a2)]) dX10_makings_22 (by decide) rfl ?_
      refine y_iconst (v := 1) dX10_makings_24 (by decide) ?_
      refine y_istore (lv' := [(5, .int (1 : Int32)), (4, .int (-1 : Int32)), (3, .int (0 : Int32)), (0, .ref 0), (1, .int a1), (2, .int a2)]) dX10_makings_25 (by decide) rfl ?_
      refine y_sub [(0, .ref 0), (1, .int a1), (2, .int a2), (3, .int (0 : Int32)), (4, .int (-1 : Int32)), (5, .int (1 : Int32))] [3, 4, 5, 2, 1, 0] rfl ?_
      refine p_X10_makings_L27 hn hd 2000 a1 a2 (0 : Int32) (-1 : Int32) (1 : Int32) w4 
    · refine y_bipush (v := (-2)) dX10_makings_16 (by decide) ?_
      exact y_ireturn dX10_makings_18 rfl rfl rfl
-- ===== X10_own: WeighedGate.own(II)I =====
set_option maxRecDepth 20000 in
set_option maxHeartbeats 2000000 in
theorem p_X10_own_L44 {G : xG} {d : Nat} {n t : Nat} (hn : 71 ≤ n) (hd : 3 ≤ d) : ∀ (fu : Nat) (v1 : Int32) (v2 : Int32) (v3 : Int32) (v4 : Int32) (v5 : Int32) (w : xI), xC G m_X10_own d 44 [(0, .ref 0), (1, .int v1), (2, .int v2), (3, .int v3), (4, .int v4), (5, .int v5)] [] (xFin n t) w (fun x : Int32 => some (Value.int x)) (xFin n t) (f_X10_own_L44 fu v1 v2 v3 v4 v5 w) := by
  intro fu
  induction fu with
  | zero => intro v1 v2 v3 v4 v5 w; exact xC.none
  | succ fu ih =>
    intro v1 v2 v3 v4 v5 w
    rw [f_X10_own_L44]
    refine y_iload dX10_own_44 5 rfl ?_
    refine y_bipush (v := 99) dX10_own_46 (by decide) ?_
    refine y_icmp_gt (tgt := 83) dX10_own_48 (by decide) ?_ ?_
    · refine y_iload_n dX10_own_83 rfl 2 rfl ?_
      refine y_if_ne (tgt := 91) dX10_own_84 (by decide) ?_ ?_
      · refine y_iload dX10_own_91 4 rfl ?_
        exact y_ireturn dX10_own_93 rfl rfl rfl
      · refine y_iload_n dX10_own_87 rfl 3 rfl ?_
        refine y_goto (tgt := 93) dX10_own_88 (by decide) ?_
        exact y_ireturn dX10_own_93 rfl rfl rfl
    · refine y_aload_n dX10_own_51 rfl 0 rfl ?_
      refine y_getr (q := 1) dX10_own_52 flX10_12 (xlt rfl hn) rfl rfl rfl ?_
      refine y_iload dX10_own_55 5 rfl ?_
      refine y_iload_n dX10_own_57 rfl 1 rfl ?_
      refine y_callV (As := [.int v5, .int v1]) (d2 := d - 1) dX10_own_58 kX10_194 (by omega) rfl rfl (Nat.le_of_ble_eq_true rfl) (xlt rfl hn) rfl rfl (p_X5_madeWith hn (by omega)  _ _ _) (fun r44001 w44002 _ => ?_)
      refine y_istore (lv' := [(6, .int r44001), (0, .ref 0), (1, .int v1), (2, .int v2), (3, .int v3), (4, .int v4), (5, .int v5)]) dX10_own_61 (by decide) rfl ?_
      refine y_iload dX10_own_63 0 rfl ?_
      refine y_iload dX10_own_65 5 rfl ?_
      refine y_icmp_le (tgt := 77) dX10_own_67 (by decide) ?_ ?_
      · refine z_iinc (j := 6) dX10_own_77 (by decide) rfl (by decide) (fun x44003 => ?_)
        refine y_loc (lv' := [(5, .int x44003), (6, .int r44001), (0, .ref 0), (1, .int v1), (2, .int v2), (3, .int v3), (4, .int v4)]) rfl ?_
        refine y_goto (tgt := 44) dX10_own_80 (by decide) ?_
        refine y_sub [(0, .ref 0), (1, .int v1), (2, .int v2), (3, .int v3), (4, .int v4), (5, .int x44003)] [2, 3, 4, 5, 6, 0] rfl ?_
        exact ih v1 v2 v3 v4 x44003 w44002 
      · refine y_iload dX10_own_70 0 rfl ?_
        refine y_istore (lv' := [(4, .int r44001), (6, .int r44001), (0, .ref 0), (1, .int v1), (2, .int v2), (3, .int v3), (5, .int v5)]) dX10_own_72 (by decide) rfl ?_
        refine y_iload dX10_own_74 6 rfl ?_
        refine y_istore_n (lv' := [(3, .int v5), (4, .int r44001), (6, .int r44001), (0, .ref 0), (1, .int v1), (2, .int v2), (5, .int v5)]) dX10_own_76 rfl (by decide) rfl ?_
        refine z_iinc (j := 6) dX10_own_77 (by decide) rfl (by decide) (fun x44004 => ?_)
        refine y_loc (lv' := [(5, .int x44004), (3, .int v5), (4, .int r44001), (6, .int r44001), (0, .ref 0), (1, .int v1), (2, .int v2)]) rfl ?_
        refine y_goto (tgt := 44) dX10_own_80 (by decide) ?_
        refine y_sub [(0, .ref 0), (1, .int v1), (2, .int v2), (3, .int v5), (4, .int r44001), (5, .int x44004)] [4, 5, 6, 1, 2, 0] rfl ?_
        exact ih v1 v2 v5 r44001 x44004 w44002 
set_option maxRecDepth 20000 in
set_option maxHeartbeats 2000000 in
theorem p_X10_own {G : xG} {d : Nat} {n t : Nat} (hn : 71 ≤ n) (hd : 3 ≤ d) (a1 : Int32) (a2 : Int32) (w : xI) : xMet G m_X10_own d [.ref 0, .int a1, .int a2] (xFin n t) w (fun x : Int32 => some (Value.int x)) (xFin n t) (f_X10_own a1 a2 w) := by
  refine xMet.of rfl (Nat.le_of_ble_eq_true rfl) ?_
  unfold f_X10_own
  show xC G m_X10_own d 0 [(0, .ref 0), (1, .int a1), (2, .int a2)] [] (xFin n t) w _ _ _
  refine y_iload_n dX10_own_0 rfl 1 rfl ?_
  refine y_iconst (v := 0) dX10_own_1 (by decide) ?_
  refine y_bipush (v := 99) dX10_own_2 (by decide) ?_
  refine y_callS (As := [.int a1, .int (0 : Int32), .int (99 : Int32)]) (d2 := d - 1) dX10_own_4 kX10_104 (by omega) rfl rfl (Nat.le_of_ble_eq_true rfl) (p_X10_within hn (by omega)  _ _ _ _) (fun r1 w2 _ => ?_)
  refine y_if_eq (tgt := 19) dX10_own_7 (by decide) ?_ ?_
  · refine y_bipush (v := (-2)) dX10_own_19 (by decide) ?_
    exact y_ireturn dX10_own_21 rfl rfl rfl
  · refine y_iload_n dX10_own_10 rfl 2 rfl ?_
    refine y_iconst (v := 0) dX10_own_11 (by decide) ?_
    refine y_iconst (v := 1) dX10_own_12 (by decide) ?_
    refine y_callS (As := [.int a2, .int (0 : Int32), .int (1 : Int32)]) (d2 := d - 1) dX10_own_13 kX10_104 (by omega) rfl rfl (Nat.le_of_ble_eq_true rfl) (p_X10_within hn (by omega)  _ _ _ _) (fun r3 w4 _ => ?_)
    refine y_if_ne (tgt := 22) dX10_own_16 (by decide) ?_ ?_
    · refine y_aload_n dX10_own_22 rfl 0 rfl ?_
      refine y_getr (q := 1) dX10_own_23 flX10_12 (xlt rfl hn) rfl rfl rfl ?_
      refine z_geti (v := (w4 1 2)) dX10_own_26 flX10_111 (xlt rfl hn) rfl rfl rfl ?_
      refine y_iconst (v := 5) dX10_own_29 (by decide) ?_
      refine y_icmp_lt (tgt := 36) dX10_own_30 (by decide) ?_ ?_
      · refine y_iconst (v := 1) dX10_own_36 (by decide) ?_
        refine y_istore_n (lv' := [(3, .int (1 : Int32)), (0, .ref 0), (1, .int a1), (2, .int a2)]) dX10_own_37 rfl (by decide) rfl ?_
        refine y_iconst (v := 0) dX10_own_38 (by decide) ?_
        refine y_istore (lv' := [(4, .int (0 : Int32)), (3, .int (1 : Int32)), (0, .ref 0), (1, .int a1), (2, .int a2)]) dX10_own_39 (by decide) rfl ?_
        refine y_iconst (v := 1) dX10_own_41 (by decide) ?_
        refine y_istore (lv' := [(5, .int (1 : Int32)), (4, .int (0 : Int32)), (3, .int (1 : Int32)), (0, .ref 0), (1, .int a1), (2, .int a2)]) dX10_own_42 (by decide) rfl ?_
        refine y_sub [(0, .ref 0), (1, .int a1), (2, .int a2), (3, .int (1 : Int32)), (4, .int (0 : Int32)), (5, .int (1 : Int32))] [3, 4, 5, 2, 1, 0] rfl ?_
        refine p_X10_own_L44 hn hd 2000 a1 a2 (1 : Int32) (0 : Int32) (1 : Int32) w4 
      · refine y_bipush (v := (-3)) dX10_own_33 (by decide) ?_
        exact y_ireturn dX10_own_35 rfl rfl rfl
    · refine y_bipush (v := (-2)) dX10_own_19 (by decide) ?_
      exact y_ireturn dX10_own_21 rfl rfl rfl
-- ===== X10_falsely: WeighedGate.falsely(I)I =====
set_option maxRecDepth 20000 in
set_option maxHeartbeats 2000000 in
theorem p_X10_falsely {G : xG} {d : Nat} {n t : Nat} (hn : 71 ≤ n) (hd : 40 ≤ d) (a1 : Int32) (w : xI) : xMet G m_X10_falsely d [.ref 0, .int a1] (xFin n t) w (fun x : Int32 => some (Value.int x)) (xFin n t) (f_X10_falsely a1 w) := by
  refine xMet.of rfl (Nat.le_of_ble_eq_true rfl) ?_
  unfold f_X10_falsely
  show xC G m_X10_falsely d 0 [(0, .ref 0), (1, .int a1)] [] (xFin n t) w _ _ _
  refine y_iload_n dX10_falsely_0 rfl 1 rfl ?_
  refine y_callS (As := [.int a1]) (d2 := d - 1) dX10_falsely_1 kX10_185 (by omega) rfl rfl (Nat.le_of_ble_eq_true rfl) (p_X10_isDifference hn (by omega)  _ _) (fun r1 w2 _ => ?_)
  refine y_if_eq (tgt := 18) dX10_falsely_4 (by decide) ?_ ?_
  · refine y_bipush (v := (-2)) dX10_falsely_18 (by decide) ?_
    exact y_ireturn dX10_falsely_20 rfl rfl rfl
  · refine y_aload_n dX10_falsely_7 rfl 0 rfl ?_
    refine y_getr (q := 1) dX10_falsely_8 flX10_12 (xlt rfl hn) rfl rfl rfl ?_
    refine y_iload_n dX10_falsely_11 rfl 1 rfl ?_
    refine y_callV (As := [.int a1]) (d2 := d - 1) dX10_falsely_12 kX10_197 (by omega) rfl rfl (Nat.le_of_ble_eq_true rfl) (xlt rfl hn) rfl rfl (p_X5_heavierFor hn (by omega)  _ _) (fun r3 w4 _ => ?_)
    refine y_goto (tgt := 20) dX10_falsely_15 (by decide) ?_
    exact y_ireturn dX10_falsely_20 rfl rfl rfl
-- ===== X10_scales: WeighedGate.scales(III)I =====
set_option maxRecDepth 20000 in
set_option maxHeartbeats 2000000 in
theorem p_X10_scales {G : xG} {d : Nat} {n t : Nat} (hn : 71 ≤ n) (hd : 4 ≤ d) (a1 : Int32) (a2 : Int32) (a3 : Int32) (w : xI) : xMet G m_X10_scales d [.ref 0, .int a1, .int a2, .int a3] (xFin n t) w (fun x : Int32 => some (Value.int x)) (xFin n t) (f_X10_scales a1 a2 a3 w) := by
  refine xMet.of rfl (Nat.le_of_ble_eq_true rfl) ?_
  unfold f_X10_scales
  show xC G m_X10_scales d 0 [(0, .ref 0), (1, .int a1), (2, .int a2), (3, .int a3)] [] (xFin n t) w _ _ _
  refine y_aload_n dX10_scales_0 rfl 0 rfl ?_
  refine y_getr (q := 5) dX10_scales_1 flX10_19 (xlt rfl hn) rfl rfl rfl ?_
  refine y_iload_n dX10_scales_4 rfl 1 rfl ?_
  refine y_callV (As := [.int a1]) (d2 := d - 1) dX10_scales_5 kX10_200 (by omega) rfl rfl (Nat.le_of_ble_eq_true rfl) (xlt rfl hn) rfl rfl (p_X9_hasAll hn (by omega)  _ _) (fun r1 w2 _ => ?_)
  refine y_if_ne (tgt := 14) dX10_scales_8 (by decide) ?_ ?_
  · refine y_iload_n dX10_scales_14 rfl 2 rfl ?_
    refine y_callS (As := [.int a2]) (d2 := d - 1) dX10_scales_15 kX10_167 (by omega) rfl rfl (Nat.le_of_ble_eq_true rfl) (p_X10_isHour hn (by omega)  _ _) (fun r3 w4 _ => ?_)
    refine y_if_eq (tgt := 30) dX10_scales_18 (by decide) ?_ ?_
    · refine y_bipush (v := (-7)) dX10_scales_30 (by decide) ?_
      exact y_ireturn dX10_scales_32 rfl rfl rfl
    · refine y_iload_n dX10_scales_21 rfl 3 rfl ?_
      refine y_iconst (v := 0) dX10_scales_22 (by decide) ?_
      refine y_iconst (v := 5) dX10_scales_23 (by decide) ?_
      refine y_callS (As := [.int a3, .int (0 : Int32), .int (5 : Int32)]) (d2 := d - 1) dX10_scales_24 kX10_104 (by omega) rfl rfl (Nat.le_of_ble_eq_true rfl) (p_X10_within hn (by omega)  _ _ _ _) (fun r5 w6 _ => ?_)
      refine y_if_ne (tgt := 33) dX10_scales_27 (by decide) ?_ ?_
      · refine y_aload_n dX10_scales_33 rfl 0 rfl ?_
        refine y_getr (q := 21) dX10_scales_34 flX10_41 (xlt rfl hn) rfl rfl rfl ?_
        refine y_iload_n dX10_scales_37 rfl 2 rfl ?_
        refine y_aload_n dX10_scales_38 rfl 0 rfl ?_
        refine y_getr (q := 5) dX10_scales_39 flX10_19 (xlt rfl hn) rfl rfl rfl ?_
        refine y_getr (q := 7) dX10_scales_42 flX10_161 (xlt rfl hn) rfl rfl rfl ?_
        refine y_callV (As := [.int a2, .ref 7]) (d2 := d - 1) dX10_scales_45 kX10_203 (by omega) rfl rfl (Nat.le_of_ble_eq_true rfl) (xlt rfl hn) rfl rfl (p_X8_prepare hn (by omega) (okA_c (by decide) rfl) _ _) (fun r7 w8 _ => ?_)
        refine y_aload_n dX10_scales_48 rfl 0 rfl ?_
        refine y_getr (q := 21) dX10_scales_49 flX10_41 (xlt rfl hn) rfl rfl rfl ?_
        refine y_iload_n dX10_scales_52 rfl 1 rfl ?_
        refine y_callV (As := [.int a1]) (d2 := d - 1) dX10_scales_53 kX10_207 (by omega) rfl rfl (Nat.le_of_ble_eq_true rfl) (xlt rfl hn) rfl rfl (p_X8_weigh hn (by omega)  _ _) (fun r9 w10 _ => ?_)
        refine y_iload_n dX10_scales_56 rfl 3 rfl ?_
        refine xC.ite (fun hs11 => ?_) (fun hs11 => ?_)
        · refine y_table (tgt := 92) (v := 0) dX10_scales_57 hs11 (by decide) (by decide) rfl (by decide) ?_
          refine y_aload_n dX10_scales_92 rfl 0 rfl ?_
          refine y_getr (q := 21) dX10_scales_93 flX10_41 (xlt rfl hn) rfl rfl rfl ?_
          refine y_aload_n dX10_scales_96 rfl 0 rfl ?_
          refine y_callV (As := []) (d2 := d - 1) dX10_scales_97 kX10_132 (by omega) rfl rfl (Nat.le_of_ble_eq_true rfl) (xlt rfl hn) rfl rfl (p_X10_law hn (by omega)   _) (fun r12 w13 _ => ?_)
          refine xC.chk (fun hz14 => ?_)
          have hok15 : okT r12 := isTxN_ok hz14
          refine y_callV (As := [.ref r12]) (d2 := d - 1) dX10_scales_100 kX10_210 (by omega) rfl rfl (Nat.le_of_ble_eq_true rfl) (xlt rfl hn) rfl rfl (p_X8_mayBe hn (by omega) hok15  _) (fun r16 w17 _ => ?_)
          refine y_if_eq (tgt := 110) dX10_scales_103 (by decide) ?_ ?_
          · refine y_iconst (v := 0) dX10_scales_110 (by decide) ?_
            exact y_ireturn dX10_scales_111 rfl rfl rfl
          · refine y_iconst (v := 1) dX10_scales_106 (by decide) ?_
            refine y_goto (tgt := 111) dX10_scales_107 (by decide) ?_
            exact y_ireturn dX10_scales_111 rfl rfl rfl
        · refine xC.ite (fun hs18 => ?_) (fun hs18 => ?_)
          · refine y_table (tgt := 112) (v := 1) dX10_scales_57 hs18 (by decide) (by decide) rfl (by decide) ?_
            refine y_aload_n dX10_scales_112 rfl 0 rfl ?_
            refine y_getr (q := 21) dX10_scales_113 flX10_41 (xlt rfl hn) rfl rfl rfl ?_
            refine z_geti (v := (w10 21 9)) dX10_scales_116 flX10_214 (xlt rfl hn) rfl rfl rfl ?_
            exact y_ireturn dX10_scales_119 rfl rfl rfl
          · refine xC.ite (fun hs19 => ?_) (fun hs19 => ?_)
            · refine y_table (tgt := 120) (v := 2) dX10_scales_57 hs19 (by decide) (by decide) rfl (by decide) ?_
              refine y_aload_n dX10_scales_120 rfl 0 rfl ?_
              refine y_getr (q := 21) dX10_scales_121 flX10_41 (xlt rfl hn) rfl rfl rfl ?_
              refine z_geti (v := (w10 21 10)) dX10_scales_124 flX10_217 (xlt rfl hn) rfl rfl rfl ?_
              exact y_ireturn dX10_scales_127 rfl rfl rfl
            · refine xC.ite (fun hs20 => ?_) (fun hs20 => ?_)
              · refine y_table (tgt := 128) (v := 3) dX10_scales_57 hs20 (by decide) (by decide) rfl (by decide) ?_
                refine y_aload_n dX10_scales_128 rfl 0 rfl ?_
                refine y_getr (q := 21) dX10_scales_129 flX10_41 (xlt rfl hn) rfl rfl rfl ?_
                refine z_geti (v := (w10 21 11)) dX10_scales_132 flX10_220 (xlt rfl hn) rfl rfl rfl ?_
                exact y_ireturn dX10_scales_135 rfl rfl rfl
              · refine xC.ite (fun hs21 => ?_) (fun hs21 => ?_)
                · refine y_table (tgt := 136) (v := 4) dX10_scales_57 hs21 (by decide) (by decide) rfl (by decide) ?_
                  refine y_aload_n dX10_scales_136 rfl 0 rfl ?_
                  refine y_getr (q := 21) dX10_scales_137 flX10_41 (xlt rfl hn) rfl rfl rfl ?_
                  refine z_geti (v := (w10 21 12)) dX10_scales_140 flX10_223 (xlt rfl hn) rfl rfl rfl ?_
                  exact y_ireturn dX10_scales_143 rfl rfl rfl
                · refine y_tableD (tgt := 144) dX10_scales_57 (by have z0 := lv_neT hs11 (show (0 : Int32).toInt = 0 from rfl); have z1 := lv_neT hs18 (show (1 : Int32).toInt = 1 from rfl); have z2 := lv_neT hs19 (show (2 : Int32).toInt = 2 from rfl); have z3 := lv_neT hs20 (show (3 : Int32).toInt = 3 from rfl); have z4 := lv_neT hs21 (show (4 : Int32).toInt = 4 from rfl); omega) (by decide) ?_
                  refine y_aload_n dX10_scales_144 rfl 0 rfl ?_
                  refine y_getr (q := 21) dX10_scales_145 flX10_41 (xlt rfl hn) rfl rfl rfl ?_
                  refine y_aload_n dX10_scales_148 rfl 0 rfl ?_
                  refine y_callV (As := []) (d2 := d - 1) dX10_scales_149 kX10_132 (by omega) rfl rfl (Nat.le_of_ble_eq_true rfl) (xlt rfl hn) rfl rfl (p_X10_law hn (by omega)   _) (fun r22 w23 _ => ?_)
                  refine xC.chk (fun hz24 => ?_)
                  have hok25 : okT r22 := isTxN_ok hz24
                  refine y_callV (As := [.ref r22]) (d2 := d - 1) dX10_scales_152 kX10_210 (by omega) rfl rfl (Nat.le_of_ble_eq_true rfl) (xlt rfl hn) rfl rfl (p_X8_mayBe hn (by omega) hok25  _) (fun r26 w27 _ => ?_)
                  refine y_if_eq (tgt := 172) dX10_scales_155 (by decide) ?_ ?_
                  · refine y_iconst (v := 0) dX10_scales_172 (by decide) ?_
                    exact y_ireturn dX10_scales_173 rfl rfl rfl
                  · refine y_aload_n dX10_scales_158 rfl 0 rfl ?_
                    refine y_getr (q := 21) dX10_scales_159 flX10_41 (xlt rfl hn) rfl rfl rfl ?_
                    refine y_aload_n dX10_scales_162 rfl 0 rfl ?_
                    refine y_callV (As := []) (d2 := d - 1) dX10_scales_163 kX10_132 (by omega) rfl rfl (Nat.le_of_ble_eq_true rfl) (xlt rfl hn) rfl rfl (p_X10_law hn (by omega)   _) (fun r28 w29 _ => ?_)
                    refine xC.chk (fun hz30 => ?_)
                    have hok31 : okT r28 := isTxN_ok hz30
                    refine y_callV (As := [.ref r28]) (d2 := d - 1) dX10_scales_166 kX10_225 (by omega) rfl rfl (Nat.le_of_ble_eq_true rfl) (xlt rfl hn) rfl rfl (p_X8_brings hn (by omega) hok31  _) (fun r32 w33 _ => ?_)
                    refine y_goto (tgt := 173) dX10_scales_169 (by decide) ?_
                    exact y_ireturn dX10_scales_173 rfl rfl rfl
      · refine y_bipush (v := (-7)) dX10_scales_30 (by decide) ?_
        exact y_ireturn dX10_scales_32 rfl rfl rfl
  · refine y_bipush (v := (-5)) dX10_scales_11 (by decide) ?_
    exact y_ireturn dX10_scales_13 rfl rfl rfl
-- ===== X10_pairs: WeighedGate.pairs(II)I =====
set_option maxRecDepth 20000 in
set_option maxHeartbeats 2000000 in
theorem p_X10_pairs {G : xG} {d : Nat} {n t : Nat} (hn : 71 ≤ n) (hd : 52 ≤ d) (a1 : Int32) (a2 : Int32) (w : xI) : xMet G m_X10_pairs d [.ref 0, .int a1, .int a2] (xFin n t) w (fun x : Int32 => some (Value.int x)) (xFin n t) (f_X10_pairs a1 a2 w) := by
  refine xMet.of rfl (Nat.le_of_ble_eq_true rfl) ?_
  unfold f_X10_pairs
  show xC G m_X10_pairs d 0 [(0, .ref 0), (1, .int a1), (2, .int a2)] [] (xFin n t) w _ _ _
  refine y_iload_n dX10_pairs_0 rfl 1 rfl ?_
  refine y_callS (As := [.int a1]) (d2 := d - 1) dX10_pairs_1 kX10_167 (by omega) rfl rfl (Nat.le_of_ble_eq_true rfl) (p_X10_isHour hn (by omega)  _ _) (fun r1 w2 _ => ?_)
  refine y_if_ne (tgt := 10) dX10_pairs_4 (by decide) ?_ ?_
  · refine y_iload_n dX10_pairs_10 rfl 2 rfl ?_
    refine y_iconst (v := 0) dX10_pairs_11 (by decide) ?_
    refine y_iconst (v := 1) dX10_pairs_12 (by decide) ?_
    refine y_callS (As := [.int a2, .int (0 : Int32), .int (1 : Int32)]) (d2 := d - 1) dX10_pairs_13 kX10_104 (by omega) rfl rfl (Nat.le_of_ble_eq_true rfl) (p_X10_within hn (by omega)  _ _ _ _) (fun r3 w4 _ => ?_)
    refine y_if_ne (tgt := 22) dX10_pairs_16 (by decide) ?_ ?_
    · refine y_aload_n dX10_pairs_22 rfl 0 rfl ?_
      refine y_getr (q := 25) dX10_pairs_23 flX10_50 (xlt rfl hn) rfl rfl rfl ?_
      refine y_iload_n dX10_pairs_26 rfl 1 rfl ?_
      refine y_aload_n dX10_pairs_27 rfl 0 rfl ?_
      refine y_callV (As := []) (d2 := d - 1) dX10_pairs_28 kX10_132 (by omega) rfl rfl (Nat.le_of_ble_eq_true rfl) (xlt rfl hn) rfl rfl (p_X10_law hn (by omega)   _) (fun r5 w6 _ => ?_)
      refine xC.chk (fun hz7 => ?_)
      have hok8 : okT r5 := isTxN_ok hz7
      refine y_callV (As := [.int a1, .ref r5]) (d2 := d - 1) dX10_pairs_31 kX10_228 (by omega) rfl rfl (Nat.le_of_ble_eq_true rfl) (xlt rfl hn) rfl rfl (p_X3_prepare hn (by omega) hok8 _ _) (fun r9 w10 _ => ?_)
      refine y_iload_n dX10_pairs_34 rfl 2 rfl ?_
      refine y_if_ne (tgt := 48) dX10_pairs_35 (by decide) ?_ ?_
      · refine y_aload_n dX10_pairs_48 rfl 0 rfl ?_
        refine y_getr (q := 25) dX10_pairs_49 flX10_50 (xlt rfl hn) rfl rfl rfl ?_
        refine y_callV (As := []) (d2 := d - 1) dX10_pairs_52 kX10_234 (by omega) rfl rfl (Nat.le_of_ble_eq_true rfl) (xlt rfl hn) rfl rfl (p_X3_mostBrought hn (by omega)   _) (fun r11 w12 _ => ?_)
        exact y_ireturn dX10_pairs_55 rfl rfl rfl
      · refine y_aload_n dX10_pairs_38 rfl 0 rfl ?_
        refine y_getr (q := 25) dX10_pairs_39 flX10_50 (xlt rfl hn) rfl rfl rfl ?_
        refine y_callV (As := []) (d2 := d - 1) dX10_pairs_42 kX10_231 (by omega) rfl rfl (Nat.le_of_ble_eq_true rfl) (xlt rfl hn) rfl rfl (p_X3_mostPairs hn (by omega)   _) (fun r13 w14 _ => ?_)
        refine y_goto (tgt := 55) dX10_pairs_45 (by decide) ?_
        exact y_ireturn dX10_pairs_55 rfl rfl rfl
    · refine y_bipush (v := (-7)) dX10_pairs_19 (by decide) ?_
      exact y_ireturn dX10_pairs_21 rfl rfl rfl
  · refine y_bipush (v := (-5)) dX10_pairs_7 (by decide) ?_
    exact y_ireturn dX10_pairs_9 rfl rfl rfl
-- ===== X10_against: WeighedGate.against(II)I =====
set_option maxRecDepth 20000 in
set_option maxHeartbeats 2000000 in
theorem p_X10_against {G : xG} {d : Nat} {n t : Nat} (hn : 71 ≤ n) (hd : 53 ≤ d) (a1 : Int32) (a2 : Int32) (w : xI) : xMet G m_X10_against d [.ref 0, .int a1, .int a2] (xFin n t) w (fun x : Int32 => some (Value.int x)) (xFin n t) (f_X10_against a1 a2 w) := by
  refine xMet.of rfl (Nat.le_of_ble_eq_true rfl) ?_
  unfold f_X10_against
  show xC G m_X10_against d 0 [(0, .ref 0), (1, .int a1), (2, .int a2)] [] (xFin n t) w _ _ _
  refine y_iload_n dX10_against_0 rfl 1 rfl ?_
  refine y_callS (As := [.int a1]) (d2 := d - 1) dX10_against_1 kX10_167 (by omega) rfl rfl (Nat.le_of_ble_eq_true rfl) (p_X10_isHour hn (by omega)  _ _) (fun r1 w2 _ => ?_)
  refine y_if_eq (tgt := 18) dX10_against_4 (by decide) ?_ ?_
  · refine y_bipush (v := (-5)) dX10_against_18 (by decide) ?_
    exact y_ireturn dX10_against_20 rfl rfl rfl
  · refine y_aload_n dX10_against_7 rfl 0 rfl ?_
    refine y_getr (q := 5) dX10_against_8 flX10_19 (xlt rfl hn) rfl rfl rfl ?_
    refine y_iload_n dX10_against_11 rfl 2 rfl ?_
    refine y_callV (As := [.int a2]) (d2 := d - 1) dX10_against_12 kX10_164 (by omega) rfl rfl (Nat.le_of_ble_eq_true rfl) (xlt rfl hn) rfl rfl (p_X9_has hn (by omega)  _ _) (fun r3 w4 _ => ?_)
    refine y_if_ne (tgt := 21) dX10_against_15 (by decide) ?_ ?_
    · refine y_aload_n dX10_against_21 rfl 0 rfl ?_
      refine y_getr (q := 25) dX10_against_22 flX10_50 (xlt rfl hn) rfl rfl rfl ?_
      refine y_iload_n dX10_against_25 rfl 1 rfl ?_
      refine y_aload_n dX10_against_26 rfl 0 rfl ?_
      refine y_callV (As := []) (d2 := d - 1) dX10_against_27 kX10_132 (by omega) rfl rfl (Nat.le_of_ble_eq_true rfl) (xlt rfl hn) rfl rfl (p_X10_law hn (by omega)   _) (fun r5 w6 _ => ?_)
      refine xC.chk (fun hz7 => ?_)
      have hok8 : okT r5 := isTxN_ok hz7
      refine y_callV (As := [.int a1, .ref r5]) (d2 := d - 1) dX10_against_30 kX10_228 (by omega) rfl rfl (Nat.le_of_ble_eq_true rfl) (xlt rfl hn) rfl rfl (p_X3_prepare hn (by omega) hok8 _ _) (fun r9 w10 _ => ?_)
      refine y_aload_n dX10_against_33 rfl 0 rfl ?_
      refine y_getr (q := 25) dX10_against_34 flX10_50 (xlt rfl hn) rfl rfl rfl ?_
      refine y_callV (As := []) (d2 := d - 1) dX10_against_37 kX10_237 (by omega) rfl rfl (Nat.le_of_ble_eq_true rfl) (xlt rfl hn) rfl rfl (p_X3_choose hn (by omega)   _) (fun r11 w12 _ => ?_)
      refine y_aload_n dX10_against_40 rfl 0 rfl ?_
      refine y_getr (q := 25) dX10_against_41 flX10_50 (xlt rfl hn) rfl rfl rfl ?_
      refine y_getr (q := 27) dX10_against_44 flX10_240 (xlt rfl hn) rfl rfl rfl ?_
      refine y_iload_n dX10_against_47 rfl 2 rfl ?_
      refine z_iald (v := (w12 27 a2.toNatClampNeg)) dX10_against_48 (xlt rfl hn) rfl rfl ?_
      exact y_ireturn dX10_against_49 rfl rfl rfl
    · refine y_bipush (v := (-5)) dX10_against_18 (by decide) ?_
      exact y_ireturn dX10_against_20 rfl rfl rfl
-- ===== X10_best: WeighedGate.best(II)I =====
set_option maxRecDepth 20000 in
set_option maxHeartbeats 2000000 in
theorem p_X10_best {G : xG} {d : Nat} {n t : Nat} (hn : 71 ≤ n) (hd : 4 ≤ d) (a1 : Int32) (a2 : Int32) (w : xI) : xMet G m_X10_best d [.ref 0, .int a1, .int a2] (xFin n t) w (fun x : Int32 => some (Value.int x)) (xFin n t) (f_X10_best a1 a2 w) := by
  refine xMet.of rfl (Nat.le_of_ble_eq_true rfl) ?_
  unfold f_X10_best
  show xC G m_X10_best d 0 [(0, .ref 0), (1, .int a1), (2, .int a2)] [] (xFin n t) w _ _ _
  refine y_iload_n dX10_best_0 rfl 1 rfl ?_
  refine y_callS (As := [.int a1]) (d2 := d - 1) dX10_best_1 kX10_167 (by omega) rfl rfl (Nat.le_of_ble_eq_true rfl) (p_X10_isHour hn (by omega)  _ _) (fun r1 w2 _ => ?_)
  refine y_if_ne (tgt := 10) dX10_best_4 (by decide) ?_ ?_
  · refine y_iload_n dX10_best_10 rfl 2 rfl ?_
    refine y_iconst (v := 0) dX10_best_11 (by decide) ?_
    refine y_iconst (v := 1) dX10_best_12 (by decide) ?_
    refine y_callS (As := [.int a2, .int (0 : Int32), .int (1 : Int32)]) (d2 := d - 1) dX10_best_13 kX10_104 (by omega) rfl rfl (Nat.le_of_ble_eq_true rfl) (p_X10_within hn (by omega)  _ _ _ _) (fun r3 w4 _ => ?_)
    refine y_if_ne (tgt := 22) dX10_best_16 (by decide) ?_ ?_
    · refine y_aload_n dX10_best_22 rfl 0 rfl ?_
      refine y_getr (q := 21) dX10_best_23 flX10_41 (xlt rfl hn) rfl rfl rfl ?_
      refine y_iload_n dX10_best_26 rfl 1 rfl ?_
      refine y_aload_n dX10_best_27 rfl 0 rfl ?_
      refine y_getr (q := 5) dX10_best_28 flX10_19 (xlt rfl hn) rfl rfl rfl ?_
      refine y_getr (q := 7) dX10_best_31 flX10_161 (xlt rfl hn) rfl rfl rfl ?_
      refine y_callV (As := [.int a1, .ref 7]) (d2 := d - 1) dX10_best_34 kX10_203 (by omega) rfl rfl (Nat.le_of_ble_eq_true rfl) (xlt rfl hn) rfl rfl (p_X8_prepare hn (by omega) (okA_c (by decide) rfl) _ _) (fun r5 w6 _ => ?_)
      refine y_aload_n dX10_best_37 rfl 0 rfl ?_
      refine y_getr (q := 21) dX10_best_38 flX10_41 (xlt rfl hn) rfl rfl rfl ?_
      refine y_sipush (v := 1023) dX10_best_41 (by decide) ?_
      refine y_aload_n dX10_best_44 rfl 0 rfl ?_
      refine y_callV (As := []) (d2 := d - 1) dX10_best_45 kX10_132 (by omega) rfl rfl (Nat.le_of_ble_eq_true rfl) (xlt rfl hn) rfl rfl (p_X10_law hn (by omega)   _) (fun r7 w8 _ => ?_)
      refine xC.chk (fun hz9 => ?_)
      have hok10 : okT r7 := isTxN_ok hz9
      refine y_callV (As := [.int (1023 : Int32), .ref r7]) (d2 := d - 1) dX10_best_48 kX10_243 (by omega) rfl rfl (Nat.le_of_ble_eq_true rfl) (xlt rfl hn) rfl rfl (p_X8_findBest hn (by omega) hok10 _ _) (fun r11 w12 _ => ?_)
      refine y_iload_n dX10_best_51 rfl 2 rfl ?_
      refine y_if_ne (tgt := 65) dX10_best_52 (by decide) ?_ ?_
      · refine y_aload_n dX10_best_65 rfl 0 rfl ?_
        refine y_getr (q := 21) dX10_best_66 flX10_41 (xlt rfl hn) rfl rfl rfl ?_
        refine z_geti (v := (w12 21 14)) dX10_best_69 flX10_249 (xlt rfl hn) rfl rfl rfl ?_
        exact y_ireturn dX10_best_72 rfl rfl rfl
      · refine y_aload_n dX10_best_55 rfl 0 rfl ?_
        refine y_getr (q := 21) dX10_best_56 flX10_41 (xlt rfl hn) rfl rfl rfl ?_
        refine z_geti (v := (w12 21 13)) dX10_best_59 flX10_246 (xlt rfl hn) rfl rfl rfl ?_
        refine y_goto (tgt := 72) dX10_best_62 (by decide) ?_
        exact y_ireturn dX10_best_72 rfl rfl rfl
    · refine y_bipush (v := (-7)) dX10_best_19 (by decide) ?_
      exact y_ireturn dX10_best_21 rfl rfl rfl
  · refine y_bipush (v := (-5)) dX10_best_7 (by decide) ?_
    exact y_ireturn dX10_best_9 rfl rfl rfl
-- ===== X10_dusk: WeighedGate.dusk(II)I =====
set_option maxRecDepth 20000 in
set_option maxHeartbeats 2000000 in
theorem p_X10_dusk {G : xG} {d : Nat} {n t : Nat} (hn : 71 ≤ n) (hd : 5 ≤ d) (a1 : Int32) (a2 : Int32) (w : xI) : xMet G m_X10_dusk d [.ref 0, .int a1, .int a2] (xFin n t) w (fun x : Int32 => some (Value.int x)) (xFin n t) (f_X10_dusk a1 a2 w) := by
  refine xMet.of rfl (Nat.le_of_ble_eq_true rfl) ?_
  unfold f_X10_dusk
  show xC G m_X10_dusk d 0 [(0, .ref 0), (1, .int a1), (2, .int a2)] [] (xFin n t) w _ _ _
  refine y_iload_n dX10_dusk_0 rfl 1 rfl ?_
  refine y_iconst (v := 0) dX10_dusk_1 (by decide) ?_
  refine y_bipush (v := 10) dX10_dusk_2 (by decide) ?_
  refine y_callS (As := [.int a1, .int (0 : Int32), .int (10 : Int32)]) (d2 := d - 1) dX10_dusk_4 kX10_104 (by omega) rfl rfl (Nat.le_of_ble_eq_true rfl) (p_X10_within hn (by omega)  _ _ _ _) (fun r1 w2 _ => ?_)
  refine y_if_ne (tgt := 13) dX10_dusk_7 (by decide) ?_ ?_
  · refine y_iload_n dX10_dusk_13 rfl 2 rfl ?_
    refine y_iconst (v := 0) dX10_dusk_14 (by decide) ?_
    refine y_iconst (v := 4) dX10_dusk_15 (by decide) ?_
    refine y_callS (As := [.int a2, .int (0 : Int32), .int (4 : Int32)]) (d2 := d - 1) dX10_dusk_16 kX10_104 (by omega) rfl rfl (Nat.le_of_ble_eq_true rfl) (p_X10_within hn (by omega)  _ _ _ _) (fun r3 w4 _ => ?_)
    refine y_if_ne (tgt := 25) dX10_dusk_19 (by decide) ?_ ?_
    · refine y_aload_n dX10_dusk_25 rfl 0 rfl ?_
      refine y_getr (q := 28) dX10_dusk_26 flX10_57 (xlt rfl hn) rfl rfl rfl ?_
      refine y_callV (As := []) (d2 := d - 1) dX10_dusk_29 kX10_252 (by omega) rfl rfl (Nat.le_of_ble_eq_true rfl) (xlt rfl hn) rfl rfl (p_X1_takeComes hn (by omega)   _) (fun r5 w6 _ => ?_)
      refine y_aload_n dX10_dusk_32 rfl 0 rfl ?_
      refine y_getr (q := 28) dX10_dusk_33 flX10_57 (xlt rfl hn) rfl rfl rfl ?_
      refine y_iload_n dX10_dusk_36 rfl 1 rfl ?_
      refine y_iconst (v := (-1)) dX10_dusk_37 (by decide) ?_
      refine y_sipush (v := 1023) dX10_dusk_38 (by decide) ?_
      refine y_aload_n dX10_dusk_41 rfl 0 rfl ?_
      refine y_callV (As := []) (d2 := d - 1) dX10_dusk_42 kX10_132 (by omega) rfl rfl (Nat.le_of_ble_eq_true rfl) (xlt rfl hn) rfl rfl (p_X10_law hn (by omega)   _) (fun r7 w8 _ => ?_)
      refine xC.chk (fun hz9 => ?_)
      have hok10 : okT r7 := isTxN_ok hz9
      refine y_callV (As := [.int a1, .int (-1 : Int32), .int (1023 : Int32), .ref r7]) (d2 := d - 1) dX10_dusk_45 kX10_255 (by omega) rfl rfl (Nat.le_of_ble_eq_true rfl) (xlt rfl hn) rfl rfl (p_X1_run hn (by omega) hok10 _ _ _ _) (fun r11 w12 _ => ?_)
      refine y_iload_n dX10_dusk_48 rfl 2 rfl ?_
      refine xC.ite (fun hs13 => ?_) (fun hs13 => ?_)
      · refine y_table (tgt := 80) (v := 0) dX10_dusk_49 hs13 (by decide) (by decide) rfl (by decide) ?_
        refine y_aload_n dX10_dusk_80 rfl 0 rfl ?_
        refine y_getr (q := 28) dX10_dusk_81 flX10_57 (xlt rfl hn) rfl rfl rfl ?_
        refine z_geti (v := (w12 28 6)) dX10_dusk_84 flX10_259 (xlt rfl hn) rfl rfl rfl ?_
        exact y_ireturn dX10_dusk_87 rfl rfl rfl
      · refine xC.ite (fun hs14 => ?_) (fun hs14 => ?_)
        · refine y_table (tgt := 88) (v := 1) dX10_dusk_49 hs14 (by decide) (by decide) rfl (by decide) ?_
          refine y_aload_n dX10_dusk_88 rfl 0 rfl ?_
          refine y_getr (q := 28) dX10_dusk_89 flX10_57 (xlt rfl hn) rfl rfl rfl ?_
          refine z_geti (v := (w12 28 7)) dX10_dusk_92 flX10_262 (xlt rfl hn) rfl rfl rfl ?_
          exact y_ireturn dX10_dusk_95 rfl rfl rfl
        · refine xC.ite (fun hs15 => ?_) (fun hs15 => ?_)
          · refine y_table (tgt := 96) (v := 2) dX10_dusk_49 hs15 (by decide) (by decide) rfl (by decide) ?_
            refine y_aload_n dX10_dusk_96 rfl 0 rfl ?_
            refine y_getr (q := 28) dX10_dusk_97 flX10_57 (xlt rfl hn) rfl rfl rfl ?_
            refine z_geti (v := (w12 28 8)) dX10_dusk_100 flX10_265 (xlt rfl hn) rfl rfl rfl ?_
            exact y_ireturn dX10_dusk_103 rfl rfl rfl
          · refine xC.ite (fun hs16 => ?_) (fun hs16 => ?_)
            · refine y_table (tgt := 104) (v := 3) dX10_dusk_49 hs16 (by decide) (by decide) rfl (by decide) ?_
              refine y_aload_n dX10_dusk_104 rfl 0 rfl ?_
              refine y_getr (q := 28) dX10_dusk_105 flX10_57 (xlt rfl hn) rfl rfl rfl ?_
              refine z_geti (v := (w12 28 9)) dX10_dusk_108 flX10_268 (xlt rfl hn) rfl rfl rfl ?_
              exact y_ireturn dX10_dusk_111 rfl rfl rfl
            · refine y_tableD (tgt := 112) dX10_dusk_49 (by have z0 := lv_neT hs13 (show (0 : Int32).toInt = 0 from rfl); have z1 := lv_neT hs14 (show (1 : Int32).toInt = 1 from rfl); have z2 := lv_neT hs15 (show (2 : Int32).toInt = 2 from rfl); have z3 := lv_neT hs16 (show (3 : Int32).toInt = 3 from rfl); omega) (by decide) ?_
              refine y_aload_n dX10_dusk_112 rfl 0 rfl ?_
              refine y_getr (q := 28) dX10_dusk_113 flX10_57 (xlt rfl hn) rfl rfl rfl ?_
              refine y_iload_n dX10_dusk_116 rfl 1 rfl ?_
              refine y_callV (As := [.int a1]) (d2 := d - 1) dX10_dusk_117 kX10_271 (by omega) rfl rfl (Nat.le_of_ble_eq_true rfl) (xlt rfl hn) rfl rfl (p_X1_longestLeft hn (by omega)  _ _) (fun r17 w18 _ => ?_)
              exact y_ireturn dX10_dusk_120 rfl rfl rfl
    · refine y_bipush (v := (-7)) dX10_dusk_22 (by decide) ?_
      exact y_ireturn dX10_dusk_24 rfl rfl rfl
  · refine y_bipush (v := (-5)) dX10_dusk_10 (by decide) ?_
    exact y_ireturn dX10_dusk_12 rfl rfl rfl
-- ===== X10_runTillDusk: WeighedGate.runTillDusk()V =====
set_option maxRecDepth 20000 in
set_option maxHeartbeats 2000000 in
theorem p_X10_runTillDusk {G : xG} {d : Nat} {n t : Nat} (hn : 71 ≤ n) (hd : 5 ≤ d) (w : xI) : xMet G m_X10_runTillDusk d [.ref 0] (xFin n t) w (fun _ : Unit => none) (xFin n t) (f_X10_runTillDusk  w) := by
  refine xMet.of rfl (Nat.le_of_ble_eq_true rfl) ?_
  unfold f_X10_runTillDusk
  show xC G m_X10_runTillDusk d 0 [(0, .ref 0)] [] (xFin n t) w _ _ _
  refine y_aload_n dX10_runTillDusk_0 rfl 0 rfl ?_
  refine y_getr (q := 28) dX10_runTillDusk_1 flX10_57 (xlt rfl hn) rfl rfl rfl ?_
  refine y_callV (As := []) (d2 := d - 1) dX10_runTillDusk_4 kX10_252 (by omega) rfl rfl (Nat.le_of_ble_eq_true rfl) (xlt rfl hn) rfl rfl (p_X1_takeComes hn (by omega)   _) (fun r1 w2 _ => ?_)
  refine y_aload_n dX10_runTillDusk_7 rfl 0 rfl ?_
  refine y_getr (q := 28) dX10_runTillDusk_8 flX10_57 (xlt rfl hn) rfl rfl rfl ?_
  refine y_bipush (v := 10) dX10_runTillDusk_11 (by decide) ?_
  refine y_iconst (v := (-1)) dX10_runTillDusk_13 (by decide) ?_
  refine y_sipush (v := 1023) dX10_runTillDusk_14 (by decide) ?_
  refine y_aload_n dX10_runTillDusk_17 rfl 0 rfl ?_
  refine y_callV (As := []) (d2 := d - 1) dX10_runTillDusk_18 kX10_132 (by omega) rfl rfl (Nat.le_of_ble_eq_true rfl) (xlt rfl hn) rfl rfl (p_X10_law hn (by omega)   _) (fun r3 w4 _ => ?_)
  refine xC.chk (fun hz5 => ?_)
  have hok6 : okT r3 := isTxN_ok hz5
  refine y_callV (As := [.int (10 : Int32), .int (-1 : Int32), .int (1023 : Int32), .ref r3]) (d2 := d - 1) dX10_runTillDusk_21 kX10_255 (by omega) rfl rfl (Nat.le_of_ble_eq_true rfl) (xlt rfl hn) rfl rfl (p_X1_run hn (by omega) hok6 _ _ _ _) (fun r7 w8 _ => ?_)
  exact y_return dX10_runTillDusk_24 rfl rfl
-- ===== X10_goes: WeighedGate.goes(II)I =====
set_option maxRecDepth 20000 in
set_option maxHeartbeats 2000000 in
theorem p_X10_goes_L31 {G : xG} {d : Nat} {n t : Nat} (hn : 71 ≤ n) (hd : 6 ≤ d) (v1 : Int32) (v2 : Int32) (s0 : Int32) (w : xI) : xC G m_X10_goes d 31 [(0, .ref 0), (1, .int v1), (2, .int v2)] [.int s0] (xFin n t) w (fun x : Int32 => some (Value.int x)) (xFin n t) (f_X10_goes_L31 v1 v2 s0 w) := by
  unfold f_X10_goes_L31
  refine y_istore_n (lv' := [(3, .int s0), (0, .ref 0), (1, .int v1), (2, .int v2)]) dX10_goes_31 rfl (by decide) rfl ?_
  refine y_iload_n dX10_goes_32 rfl 0 rfl ?_
  refine y_if_ne (tgt := 39) dX10_goes_33 (by decide) ?_ ?_
  · refine y_aload_n dX10_goes_39 rfl 1 rfl ?_
    refine y_callV (As := []) (d2 := d - 1) dX10_goes_40 kX10_274 (by omega) rfl rfl (Nat.le_of_ble_eq_true rfl) (xlt rfl hn) rfl rfl (p_X10_runTillDusk hn (by omega)   _) (fun r31001 w31002 _ => ?_)
    refine y_iload_n dX10_goes_43 rfl 3 rfl ?_
    refine y_if_ne (tgt := 58) dX10_goes_44 (by decide) ?_ ?_
    · refine y_aload_n dX10_goes_58 rfl 1 rfl ?_
      refine y_getr (q := 28) dX10_goes_59 flX10_57 (xlt rfl hn) rfl rfl rfl ?_
      refine y_iload_n dX10_goes_62 rfl 2 rfl ?_
      refine y_callV (As := [.int v1]) (d2 := d - 1) dX10_goes_63 kX10_280 (by omega) rfl rfl (Nat.le_of_ble_eq_true rfl) (xlt rfl hn) rfl rfl (p_X1_setAt hn (by omega)  _ _) (fun r31003 w31004 _ => ?_)
      exact y_ireturn dX10_goes_66 rfl rfl rfl
    · refine y_aload_n dX10_goes_47 rfl 1 rfl ?_
      refine y_getr (q := 28) dX10_goes_48 flX10_57 (xlt rfl hn) rfl rfl rfl ?_
      refine y_iload_n dX10_goes_51 rfl 2 rfl ?_
      refine y_callV (As := [.int v1]) (d2 := d - 1) dX10_goes_52 kX10_277 (by omega) rfl rfl (Nat.le_of_ble_eq_true rfl) (xlt rfl hn) rfl rfl (p_X1_hourOf hn (by omega)  _ _) (fun r31005 w31006 _ => ?_)
      refine y_goto (tgt := 66) dX10_goes_55 (by decide) ?_
      exact y_ireturn dX10_goes_66 rfl rfl rfl
  · refine y_bipush (v := (-5)) dX10_goes_36 (by decide) ?_
    exact y_ireturn dX10_goes_38 rfl rfl rfl
set_option maxRecDepth 20000 in
set_option maxHeartbeats 2000000 in
theorem p_X10_goes {G : xG} {d : Nat} {n t : Nat} (hn : 71 ≤ n) (hd : 6 ≤ d) (a1 : Int32) (a2 : Int32) (w : xI) : xMet G m_X10_goes d [.ref 0, .int a1, .int a2] (xFin n t) w (fun x : Int32 => some (Value.int x)) (xFin n t) (f_X10_goes a1 a2 w) := by
  refine xMet.of rfl (Nat.le_of_ble_eq_true rfl) ?_
  unfold f_X10_goes
  show xC G m_X10_goes d 0 [(0, .ref 0), (1, .int a1), (2, .int a2)] [] (xFin n t) w _ _ _
  refine y_iload_n dX10_goes_0 rfl 2 rfl ?_
  refine y_iconst (v := 0) dX10_goes_1 (by decide) ?_
  refine y_iconst (v := 1) dX10_goes_2 (by decide) ?_
  refine y_callS (As := [.int a2, .int (0 : Int32), .int (1 : Int32)]) (d2 := d - 1) dX10_goes_3 kX10_104 (by omega) rfl rfl (Nat.le_of_ble_eq_true rfl) (p_X10_within hn (by omega)  _ _ _ _) (fun r1 w2 _ => ?_)
  refine y_if_ne (tgt := 12) dX10_goes_6 (by decide) ?_ ?_
  · refine y_iload_n dX10_goes_12 rfl 2 rfl ?_
    refine y_if_ne (tgt := 27) dX10_goes_13 (by decide) ?_ ?_
    · refine y_iload_n dX10_goes_27 rfl 1 rfl ?_
      refine y_callS (As := [.int a1]) (d2 := d - 1) dX10_goes_28 kX10_167 (by omega) rfl rfl (Nat.le_of_ble_eq_true rfl) (p_X10_isHour hn (by omega)  _ _) (fun r3 w4 _ => ?_)
      refine p_X10_goes_L31 hn hd a1 a2 r3 w4 
    · refine y_aload_n dX10_goes_16 rfl 0 rfl ?_
      refine y_getr (q := 5) dX10_goes_17 flX10_19 (xlt rfl hn) rfl rfl rfl ?_
      refine y_iload_n dX10_goes_20 rfl 1 rfl ?_
      refine y_callV (As := [.int a1]) (d2 := d - 1) dX10_goes_21 kX10_164 (by omega) rfl rfl (Nat.le_of_ble_eq_true rfl) (xlt rfl hn) rfl rfl (p_X9_has hn (by omega)  _ _) (fun r5 w6 _ => ?_)
      refine y_goto (tgt := 31) dX10_goes_24 (by decide) ?_
      refine p_X10_goes_L31 hn hd a1 a2 r5 w6 
  · refine y_bipush (v := (-2)) dX10_goes_9 (by decide) ?_
    exact y_ireturn dX10_goes_11 rfl rfl rfl
-- ===== X10_hold: WeighedGate.hold(I)I =====
set_option maxRecDepth 20000 in
set_option maxHeartbeats 2000000 in
theorem p_X10_hold_L29 {G : xG} {d : Nat} {n t : Nat} (hn : 71 ≤ n) (hd : 6 ≤ d) : ∀ (fu : Nat) (v1 : Int32) (v2 : Int32) (v3 : Int32) (v4 : Int32) (w : xI), xC G m_X10_hold d 29 [(0, .ref 0), (1, .int v1), (2, .int v2), (3, .int v3), (4, .int v4)] [] (xFin n t) w (fun x : Int32 => some (Value.int x)) (xFin n t) (f_X10_hold_L29 fu v1 v2 v3 v4 w) := by
  intro fu
  induction fu with
  | zero => intro v1 v2 v3 v4 w; exact xC.none
  | succ fu ih =>
    intro v1 v2 v3 v4 w
    rw [f_X10_hold_L29]
    refine y_iload dX10_hold_29 4 rfl ?_
    refine y_bipush (v := 10) dX10_hold_31 (by decide) ?_
    refine y_icmp_ge (tgt := 82) dX10_hold_33 (by decide) ?_ ?_
    · refine y_iload_n dX10_hold_82 rfl 1 rfl ?_
      refine y_if_ne (tgt := 90) dX10_hold_83 (by decide) ?_ ?_
      · refine y_iload_n dX10_hold_90 rfl 3 rfl ?_
        exact y_ireturn dX10_hold_91 rfl rfl rfl
      · refine y_iload_n dX10_hold_86 rfl 2 rfl ?_
        refine y_goto (tgt := 91) dX10_hold_87 (by decide) ?_
        exact y_ireturn dX10_hold_91 rfl rfl rfl
    · refine y_aload_n dX10_hold_36 rfl 0 rfl ?_
      refine y_getr (q := 28) dX10_hold_37 flX10_57 (xlt rfl hn) rfl rfl rfl ?_
      refine y_bipush (v := 10) dX10_hold_40 (by decide) ?_
      refine y_iload dX10_hold_42 4 rfl ?_
      refine y_sipush (v := 1023) dX10_hold_44 (by decide) ?_
      refine y_aload_n dX10_hold_47 rfl 0 rfl ?_
      refine y_callV (As := []) (d2 := d - 1) dX10_hold_48 kX10_132 (by omega) rfl rfl (Nat.le_of_ble_eq_true rfl) (xlt rfl hn) rfl rfl (p_X10_law hn (by omega)   _) (fun r29001 w29002 _ => ?_)
      refine xC.chk (fun hz29003 => ?_)
      have hok29004 : okT r29001 := isTxN_ok hz29003
      refine y_callV (As := [.int (10 : Int32), .int v4, .int (1023 : Int32), .ref r29001]) (d2 := d - 1) dX10_hold_51 kX10_255 (by omega) rfl rfl (Nat.le_of_ble_eq_true rfl) (xlt rfl hn) rfl rfl (p_X1_run hn (by omega) hok29004 _ _ _ _) (fun r29005 w29006 _ => ?_)
      refine y_aload_n dX10_hold_54 rfl 0 rfl ?_
      refine y_getr (q := 28) dX10_hold_55 flX10_57 (xlt rfl hn) rfl rfl rfl ?_
      refine z_geti (v := (w29006 28 6)) dX10_hold_58 flX10_259 (xlt rfl hn) rfl rfl rfl ?_
      refine y_iload_n dX10_hold_61 rfl 3 rfl ?_
      refine y_icmp_le (tgt := 76) dX10_hold_62 (by decide) ?_ ?_
      · refine z_iinc (j := 4) dX10_hold_76 (by decide) rfl (by decide) (fun x29007 => ?_)
        refine y_loc (lv' := [(4, .int x29007), (0, .ref 0), (1, .int v1), (2, .int v2), (3, .int v3)]) rfl ?_
        refine y_goto (tgt := 29) dX10_hold_79 (by decide) ?_
        refine y_sub [(0, .ref 0), (1, .int v1), (2, .int v2), (3, .int v3), (4, .int x29007)] [1, 2, 3, 4, 0] rfl ?_
        exact ih v1 v2 v3 x29007 w29006 
      · refine y_aload_n dX10_hold_65 rfl 0 rfl ?_
        refine y_getr (q := 28) dX10_hold_66 flX10_57 (xlt rfl hn) rfl rfl rfl ?_
        refine z_geti (v := (w29006 28 6)) dX10_hold_69 flX10_259 (xlt rfl hn) rfl rfl rfl ?_
        refine y_let (fun x29008 => ?_)
        refine y_istore_n (lv' := [(3, .int x29008), (0, .ref 0), (1, .int v1), (2, .int v2), (4, .int v4)]) dX10_hold_72 rfl (by decide) rfl ?_
        refine y_iload dX10_hold_73 4 rfl ?_
        refine y_istore_n (lv' := [(2, .int v4), (3, .int x29008), (0, .ref 0), (1, .int v1), (4, .int v4)]) dX10_hold_75 rfl (by decide) rfl ?_
        refine z_iinc (j := 4) dX10_hold_76 (by decide) rfl (by decide) (fun x29009 => ?_)
        refine y_loc (lv' := [(4, .int x29009), (2, .int v4), (3, .int x29008), (0, .ref 0), (1, .int v1)]) rfl ?_
        refine y_goto (tgt := 29) dX10_hold_79 (by decide) ?_
        refine y_sub [(0, .ref 0), (1, .int v1), (2, .int v4), (3, .int x29008), (4, .int x29009)] [3, 4, 1, 2, 0] rfl ?_
        exact ih v1 v4 x29008 x29009 w29006 
set_option maxRecDepth 20000 in
set_option maxHeartbeats 2000000 in
theorem p_X10_hold {G : xG} {d : Nat} {n t : Nat} (hn : 71 ≤ n) (hd : 6 ≤ d) (a1 : Int32) (w : xI) : xMet G m_X10_hold d [.ref 0, .int a1] (xFin n t) w (fun x : Int32 => some (Value.int x)) (xFin n t) (f_X10_hold a1 w) := by
  refine xMet.of rfl (Nat.le_of_ble_eq_true rfl) ?_
  unfold f_X10_hold
  show xC G m_X10_hold d 0 [(0, .ref 0), (1, .int a1)] [] (xFin n t) w _ _ _
  refine y_iload_n dX10_hold_0 rfl 1 rfl ?_
  refine y_iconst (v := 0) dX10_hold_1 (by decide) ?_
  refine y_iconst (v := 1) dX10_hold_2 (by decide) ?_
  refine y_callS (As := [.int a1, .int (0 : Int32), .int (1 : Int32)]) (d2 := d - 1) dX10_hold_3 kX10_104 (by omega) rfl rfl (Nat.le_of_ble_eq_true rfl) (p_X10_within hn (by omega)  _ _ _ _) (fun r1 w2 _ => ?_)
  refine y_if_ne (tgt := 12) dX10_hold_6 (by decide) ?_ ?_
  · refine y_aload_n dX10_hold_12 rfl 0 rfl ?_
    refine y_callV (As := []) (d2 := d - 1) dX10_hold_13 kX10_274 (by omega) rfl rfl (Nat.le_of_ble_eq_true rfl) (xlt rfl hn) rfl rfl (p_X10_runTillDusk hn (by omega)   _) (fun r3 w4 _ => ?_)
    refine y_iconst (v := (-1)) dX10_hold_16 (by decide) ?_
    refine y_istore_n (lv' := [(2, .int (-1 : Int32)), (0, .ref 0), (1, .int a1)]) dX10_hold_17 rfl (by decide) rfl ?_
    refine y_aload_n dX10_hold_18 rfl 1 rfl ?_
    refine y_getr (q := 28) dX10_hold_19 flX10_57 (xlt rfl hn) rfl rfl rfl ?_
    refine z_geti (v := (w4 28 6)) dX10_hold_22 flX10_259 (xlt rfl hn) rfl rfl rfl ?_
    refine y_let (fun x5 => ?_)
    refine y_istore_n (lv' := [(3, .int x5), (2, .int (-1 : Int32)), (0, .ref 0), (1, .int a1)]) dX10_hold_25 rfl (by decide) rfl ?_
    refine y_iconst (v := 0) dX10_hold_26 (by decide) ?_
    refine y_istore (lv' := [(4, .int (0 : Int32)), (3, .int x5), (2, .int (-1 : Int32)), (0, .ref 0), (1, .int a1)]) dX10_hold_27 (by decide) rfl ?_
    refine y_sub [(0, .ref 0), (1, .int a1), (2, .int (-1 : Int32)), (3, .int x5), (4, .int (0 : Int32))] [3, 4, 2, 1, 0] rfl ?_
    refine p_X10_hold_L29 hn hd 2000 a1 (-1 : Int32) x5 (0 : Int32) w4 
  · refine y_bipush (v := (-2)) dX10_hold_9 (by decide) ?_
    exact y_ireturn dX10_hold_11 rfl rfl rfl
-- ===== X10_gain: WeighedGate.gain(I)I =====
set_option maxRecDepth 20000 in
set_option maxHeartbeats 2000000 in
theorem p_X10_gain {G : xG} {d : Nat} {n t : Nat} (hn : 71 ≤ n) (hd : 6 ≤ d) (a1 : Int32) (w : xI) : xMet G m_X10_gain d [.ref 0, .int a1] (xFin n t) w (fun x : Int32 => some (Value.int x)) (xFin n t) (f_X10_gain a1 w) := by
  refine xMet.of rfl (Nat.le_of_ble_eq_true rfl) ?_
  unfold f_X10_gain
  show xC G m_X10_gain d 0 [(0, .ref 0), (1, .int a1)] [] (xFin n t) w _ _ _
  refine y_aload_n dX10_gain_0 rfl 0 rfl ?_
  refine y_getr (q := 5) dX10_gain_1 flX10_19 (xlt rfl hn) rfl rfl rfl ?_
  refine y_iload_n dX10_gain_4 rfl 1 rfl ?_
  refine y_callV (As := [.int a1]) (d2 := d - 1) dX10_gain_5 kX10_164 (by omega) rfl rfl (Nat.le_of_ble_eq_true rfl) (xlt rfl hn) rfl rfl (p_X9_has hn (by omega)  _ _) (fun r1 w2 _ => ?_)
  refine y_if_ne (tgt := 15) dX10_gain_8 (by decide) ?_ ?_
  · refine y_aload_n dX10_gain_15 rfl 0 rfl ?_
    refine y_callV (As := []) (d2 := d - 1) dX10_gain_16 kX10_274 (by omega) rfl rfl (Nat.le_of_ble_eq_true rfl) (xlt rfl hn) rfl rfl (p_X10_runTillDusk hn (by omega)   _) (fun r3 w4 _ => ?_)
    refine y_aload_n dX10_gain_19 rfl 0 rfl ?_
    refine y_getr (q := 28) dX10_gain_20 flX10_57 (xlt rfl hn) rfl rfl rfl ?_
    refine z_geti (v := (w4 28 6)) dX10_gain_23 flX10_259 (xlt rfl hn) rfl rfl rfl ?_
    refine y_let (fun x5 => ?_)
    refine y_istore_n (lv' := [(2, .int x5), (0, .ref 0), (1, .int a1)]) dX10_gain_26 rfl (by decide) rfl ?_
    refine y_aload_n dX10_gain_27 rfl 1 rfl ?_
    refine y_getr (q := 28) dX10_gain_28 flX10_57 (xlt rfl hn) rfl rfl rfl ?_
    refine y_bipush (v := 10) dX10_gain_31 (by decide) ?_
    refine y_iconst (v := (-1)) dX10_gain_33 (by decide) ?_
    refine y_sipush (v := 1023) dX10_gain_34 (by decide) ?_
    refine y_iconst (v := 1) dX10_gain_37 (by decide) ?_
    refine y_iload_n dX10_gain_38 rfl 2 rfl ?_
    refine y_ishl dX10_gain_39 ?_
    refine y_iconst (v := (-1)) dX10_gain_40 (by decide) ?_
    refine y_ixor dX10_gain_41 ?_
    refine y_iand dX10_gain_42 ?_
    refine y_aload_n dX10_gain_43 rfl 1 rfl ?_
    refine y_callV (As := []) (d2 := d - 1) dX10_gain_44 kX10_132 (by omega) rfl rfl (Nat.le_of_ble_eq_true rfl) (xlt rfl hn) rfl rfl (p_X10_law hn (by omega)   _) (fun r6 w7 _ => ?_)
    refine xC.chk (fun hz8 => ?_)
    have hok9 : okT r6 := isTxN_ok hz8
    refine y_callV (As := [.int (10 : Int32), .int (-1 : Int32), .int ((1023 : Int32) &&& (((1 : Int32) <<< (a1 &&& 31)) ^^^ (-1 : Int32))), .ref r6]) (d2 := d - 1) dX10_gain_47 kX10_255 (by omega) rfl rfl (Nat.le_of_ble_eq_true rfl) (xlt rfl hn) rfl rfl (p_X1_run hn (by omega) hok9 _ _ _ _) (fun r10 w11 _ => ?_)
    refine y_iload_n dX10_gain_50 rfl 0 rfl ?_
    refine y_aload_n dX10_gain_51 rfl 1 rfl ?_
    refine y_getr (q := 28) dX10_gain_52 flX10_57 (xlt rfl hn) rfl rfl rfl ?_
    refine z_geti (v := (w11 28 6)) dX10_gain_55 flX10_259 (xlt rfl hn) rfl rfl rfl ?_
    refine y_isub dX10_gain_58 ?_
    exact y_ireturn dX10_gain_59 rfl rfl rfl
  · refine y_ldcw (v := (-100000)) dX10_gain_11 q851 ?_
    exact y_ireturn dX10_gain_14 rfl rfl rfl
-- ===== X10_bring: WeighedGate.bring(II)I =====
set_option maxRecDepth 20000 in
set_option maxHeartbeats 2000000 in
theorem p_X10_bring_L41 {G : xG} {d : Nat} {n t : Nat} (hn : 71 ≤ n) (hd : 5 ≤ d) : ∀ (fu : Nat) (v1 : Int32) (v2 : Int32) (v3 : Int32) (v4 : Int32) (v5 : Int32) (w : xI), xC G m_X10_bring d 41 [(0, .ref 0), (1, .int v1), (2, .int v2), (3, .int v3), (4, .int v4), (5, .int v5)] [] (xFin n t) w (fun x : Int32 => some (Value.int x)) (xFin n t) (f_X10_bring_L41 fu v1 v2 v3 v4 v5 w) := by
  intro fu
  induction fu with
  | zero => intro v1 v2 v3 v4 v5 w; exact xC.none
  | succ fu ih =>
    intro v1 v2 v3 v4 v5 w
    rw [f_X10_bring_L41]
    refine y_iload dX10_bring_41 5 rfl ?_
    refine y_bipush (v := 10) dX10_bring_43 (by decide) ?_
    refine y_icmp_ge (tgt := 106) dX10_bring_45 (by decide) ?_ ?_
    · refine y_iload_n dX10_bring_106 rfl 2 rfl ?_
      refine y_if_ne (tgt := 114) dX10_bring_107 (by decide) ?_ ?_
      · refine y_iload dX10_bring_114 4 rfl ?_
        exact y_ireturn dX10_bring_116 rfl rfl rfl
      · refine y_iload_n dX10_bring_110 rfl 3 rfl ?_
        refine y_goto (tgt := 116) dX10_bring_111 (by decide) ?_
        exact y_ireturn dX10_bring_116 rfl rfl rfl
    · refine y_aload_n dX10_bring_48 rfl 0 rfl ?_
      refine y_getr (q := 28) dX10_bring_49 flX10_57 (xlt rfl hn) rfl rfl rfl ?_
      refine y_getr (q := 29) dX10_bring_52 flX10_284 (xlt rfl hn) rfl rfl rfl ?_
      refine y_iload_n dX10_bring_55 rfl 1 rfl ?_
      refine y_iload dX10_bring_56 5 rfl ?_
      refine y_iast dX10_bring_58 (xlt rfl hn) rfl ?_
      refine y_aload_n dX10_bring_59 rfl 0 rfl ?_
      refine y_getr (q := 28) dX10_bring_60 flX10_57 (xlt rfl hn) rfl rfl rfl ?_
      refine y_bipush (v := 10) dX10_bring_63 (by decide) ?_
      refine y_iconst (v := (-1)) dX10_bring_65 (by decide) ?_
      refine y_sipush (v := 1023) dX10_bring_66 (by decide) ?_
      refine y_aload_n dX10_bring_69 rfl 0 rfl ?_
      refine y_callV (As := []) (d2 := d - 1) dX10_bring_70 kX10_132 (by omega) rfl rfl (Nat.le_of_ble_eq_true rfl) (xlt rfl hn) rfl rfl (p_X10_law hn (by omega)   _) (fun r41001 w41002 _ => ?_)
      refine xC.chk (fun hz41003 => ?_)
      have hok41004 : okT r41001 := isTxN_ok hz41003
      refine y_callV (As := [.int (10 : Int32), .int (-1 : Int32), .int (1023 : Int32), .ref r41001]) (d2 := d - 1) dX10_bring_73 kX10_255 (by omega) rfl rfl (Nat.le_of_ble_eq_true rfl) (xlt rfl hn) rfl rfl (p_X1_run hn (by omega) hok41004 _ _ _ _) (fun r41005 w41006 _ => ?_)
      refine y_aload_n dX10_bring_76 rfl 0 rfl ?_
      refine y_getr (q := 28) dX10_bring_77 flX10_57 (xlt rfl hn) rfl rfl rfl ?_
      refine z_geti (v := (w41006 28 6)) dX10_bring_80 flX10_259 (xlt rfl hn) rfl rfl rfl ?_
      refine y_iload dX10_bring_83 4 rfl ?_
      refine y_icmp_lt (tgt := 100) dX10_bring_85 (by decide) ?_ ?_
      · refine z_iinc (j := 5) dX10_bring_100 (by decide) rfl (by decide) (fun x41007 => ?_)
        refine y_loc (lv' := [(5, .int x41007), (0, .ref 0), (1, .int v1), (2, .int v2), (3, .int v3), (4, .int v4)]) rfl ?_
        refine y_goto (tgt := 41) dX10_bring_103 (by decide) ?_
        refine y_sub [(0, .ref 0), (1, .int v1), (2, .int v2), (3, .int v3), (4, .int v4), (5, .int x41007)] [1, 2, 3, 4, 5, 0] rfl ?_
        exact ih v1 v2 v3 v4 x41007 w41006 
      · refine y_aload_n dX10_bring_88 rfl 0 rfl ?_
        refine y_getr (q := 28) dX10_bring_89 flX10_57 (xlt rfl hn) rfl rfl rfl ?_
        refine z_geti (v := (w41006 28 6)) dX10_bring_92 flX10_259 (xlt rfl hn) rfl rfl rfl ?_
        refine y_let (fun x41008 => ?_)
        refine y_istore (lv' := [(4, .int x41008), (0, .ref 0), (1, .int v1), (2, .int v2), (3, .int v3), (5, .int v5)]) dX10_bring_95 (by decide) rfl ?_
        refine y_iload dX10_bring_97 5 rfl ?_
        refine y_istore_n (lv' := [(3, .int v5), (4, .int x41008), (0, .ref 0), (1, .int v1), (2, .int v2), (5, .int v5)]) dX10_bring_99 rfl (by decide) rfl ?_
        refine z_iinc (j := 5) dX10_bring_100 (by decide) rfl (by decide) (fun x41009 => ?_)
        refine y_loc (lv' := [(5, .int x41009), (3, .int v5), (4, .int x41008), (0, .ref 0), (1, .int v1), (2, .int v2)]) rfl ?_
        refine y_goto (tgt := 41) dX10_bring_103 (by decide) ?_
        refine y_sub [(0, .ref 0), (1, .int v1), (2, .int v2), (3, .int v5), (4, .int x41008), (5, .int x41009)] [3, 4, 5, 1, 2, 0] rfl ?_
        exact ih v1 v2 v5 x41008 x41009 w41006 
set_option maxRecDepth 20000 in
set_option maxHeartbeats 2000000 in
theorem p_X10_bring {G : xG} {d : Nat} {n t : Nat} (hn : 71 ≤ n) (hd : 5 ≤ d) (a1 : Int32) (a2 : Int32) (w : xI) : xMet G m_X10_bring d [.ref 0, .int a1, .int a2] (xFin n t) w (fun x : Int32 => some (Value.int x)) (xFin n t) (f_X10_bring a1 a2 w) := by
  refine xMet.of rfl (Nat.le_of_ble_eq_true rfl) ?_
  unfold f_X10_bring
  show xC G m_X10_bring d 0 [(0, .ref 0), (1, .int a1), (2, .int a2)] [] (xFin n t) w _ _ _
  refine y_aload_n dX10_bring_0 rfl 0 rfl ?_
  refine y_getr (q := 5) dX10_bring_1 flX10_19 (xlt rfl hn) rfl rfl rfl ?_
  refine y_iload_n dX10_bring_4 rfl 1 rfl ?_
  refine y_callV (As := [.int a1]) (d2 := d - 1) dX10_bring_5 kX10_164 (by omega) rfl rfl (Nat.le_of_ble_eq_true rfl) (xlt rfl hn) rfl rfl (p_X9_has hn (by omega)  _ _) (fun r1 w2 _ => ?_)
  refine y_if_ne (tgt := 14) dX10_bring_8 (by decide) ?_ ?_
  · refine y_iload_n dX10_bring_14 rfl 2 rfl ?_
    refine y_iconst (v := 0) dX10_bring_15 (by decide) ?_
    refine y_iconst (v := 1) dX10_bring_16 (by decide) ?_
    refine y_callS (As := [.int a2, .int (0 : Int32), .int (1 : Int32)]) (d2 := d - 1) dX10_bring_17 kX10_104 (by omega) rfl rfl (Nat.le_of_ble_eq_true rfl) (p_X10_within hn (by omega)  _ _ _ _) (fun r3 w4 _ => ?_)
    refine y_if_ne (tgt := 26) dX10_bring_20 (by decide) ?_ ?_
    · refine y_aload_n dX10_bring_26 rfl 0 rfl ?_
      refine y_getr (q := 28) dX10_bring_27 flX10_57 (xlt rfl hn) rfl rfl rfl ?_
      refine y_callV (As := []) (d2 := d - 1) dX10_bring_30 kX10_252 (by omega) rfl rfl (Nat.le_of_ble_eq_true rfl) (xlt rfl hn) rfl rfl (p_X1_takeComes hn (by omega)   _) (fun r5 w6 _ => ?_)
      refine y_iconst (v := 0) dX10_bring_33 (by decide) ?_
      refine y_istore_n (lv' := [(3, .int (0 : Int32)), (0, .ref 0), (1, .int a1), (2, .int a2)]) dX10_bring_34 rfl (by decide) rfl ?_
      refine y_iconst (v := 0) dX10_bring_35 (by decide) ?_
      refine y_istore (lv' := [(4, .int (0 : Int32)), (3, .int (0 : Int32)), (0, .ref 0), (1, .int a1), (2, .int a2)]) dX10_bring_36 (by decide) rfl ?_
      refine y_iconst (v := 0) dX10_bring_38 (by decide) ?_
      refine y_istore (lv' := [(5, .int (0 : Int32)), (4, .int (0 : Int32)), (3, .int (0 : Int32)), (0, .ref 0), (1, .int a1), (2, .int a2)]) dX10_bring_39 (by decide) rfl ?_
      refine y_sub [(0, .ref 0), (1, .int a1), (2, .int a2), (3, .int (0 : Int32)), (4, .int (0 : Int32)), (5, .int (0 : Int32))] [3, 4, 5, 2, 1, 0] rfl ?_
      refine p_X10_bring_L41 hn hd 2000 a1 a2 (0 : Int32) (0 : Int32) (0 : Int32) w6 
    · refine y_bipush (v := (-7)) dX10_bring_23 (by decide) ?_
      exact y_ireturn dX10_bring_25 rfl rfl rfl
  · refine y_bipush (v := (-5)) dX10_bring_11 (by decide) ?_
    exact y_ireturn dX10_bring_13 rfl rfl rfl
-- ===== X10_isSheet: WeighedGate.isSheet(I)Z =====
set_option maxRecDepth 20000 in
set_option maxHeartbeats 2000000 in
theorem p_X10_isSheet {G : xG} {d : Nat} {n t : Nat} (hn : 71 ≤ n) (hd : 1 ≤ d) (a1 : Int32) (w : xI) : xMet G m_X10_isSheet d [.int a1] (xFin n t) w (fun x : Int32 => some (Value.int x)) (xFin n t) (f_X10_isSheet a1 w) := by
  refine xMet.of rfl (Nat.le_of_ble_eq_true rfl) ?_
  unfold f_X10_isSheet
  show xC G m_X10_isSheet d 0 [(0, .int a1)] [] (xFin n t) w _ _ _
  refine y_iload_n dX10_isSheet_0 rfl 0 rfl ?_
  refine y_iconst (v := 0) dX10_isSheet_1 (by decide) ?_
  refine y_iconst (v := 3) dX10_isSheet_2 (by decide) ?_
  refine y_callS (As := [.int a1, .int (0 : Int32), .int (3 : Int32)]) (d2 := d - 1) dX10_isSheet_3 kX10_104 (by omega) rfl rfl (Nat.le_of_ble_eq_true rfl) (p_X10_within hn (by omega)  _ _ _ _) (fun r1 w2 _ => ?_)
  exact y_zreturn dX10_isSheet_6 rfl rfl
-- ===== X10_refusalOfRows: WeighedGate.refusalOfRows(I)I =====
set_option maxRecDepth 20000 in
set_option maxHeartbeats 2000000 in
theorem p_X10_refusalOfRows {G : xG} {d : Nat} {n t : Nat} (hn : 71 ≤ n) (hd : 2 ≤ d) (a1 : Int32) (w : xI) : xMet G m_X10_refusalOfRows d [.ref 0, .int a1] (xFin n t) w (fun x : Int32 => some (Value.int x)) (xFin n t) (f_X10_refusalOfRows a1 w) := by
  refine xMet.of rfl (Nat.le_of_ble_eq_true rfl) ?_
  unfold f_X10_refusalOfRows
  show xC G m_X10_refusalOfRows d 0 [(0, .ref 0), (1, .int a1)] [] (xFin n t) w _ _ _
  refine y_iload_n dX10_refusalOfRows_0 rfl 1 rfl ?_
  refine y_callS (As := [.int a1]) (d2 := d - 1) dX10_refusalOfRows_1 kX10_300 (by omega) rfl rfl (Nat.le_of_ble_eq_true rfl) (p_X10_isSheet hn (by omega)  _ _) (fun r1 w2 _ => ?_)
  refine y_if_ne (tgt := 10) dX10_refusalOfRows_4 (by decide) ?_ ?_
  · refine y_aload_n dX10_refusalOfRows_10 rfl 0 rfl ?_
    refine y_getr (q := 32) dX10_refusalOfRows_11 flX10_63 (xlt rfl hn) rfl rfl rfl ?_
    refine y_iload_n dX10_refusalOfRows_14 rfl 1 rfl ?_
    refine y_aaldS dX10_refusalOfRows_15 hn (fun o4 hok6 => ?_)
    refine z_geti (v := (w2 o4 0)) dX10_refusalOfRows_16 flX10_352 (okS_k hok6 hn) (okS_s hok6) rfl rfl ?_
    refine y_iconst (v := (-1)) dX10_refusalOfRows_19 (by decide) ?_
    refine y_icmp_ne (tgt := 26) dX10_refusalOfRows_20 (by decide) ?_ ?_
    · refine y_aload_n dX10_refusalOfRows_26 rfl 0 rfl ?_
      refine y_getr (q := 32) dX10_refusalOfRows_27 flX10_63 (xlt rfl hn) rfl rfl rfl ?_
      refine y_iload_n dX10_refusalOfRows_30 rfl 1 rfl ?_
      refine y_aaldS dX10_refusalOfRows_31 hn (fun o8 hok10 => ?_)
      refine z_geti (v := (w2 o8 1)) dX10_refusalOfRows_32 flX10_288 (okS_k hok10 hn) (okS_s hok10) rfl rfl ?_
      refine y_iconst (v := 2) dX10_refusalOfRows_35 (by decide) ?_
      refine y_irem dX10_refusalOfRows_36 (by decide) ?_
      refine y_if_ne (tgt := 44) dX10_refusalOfRows_37 (by decide) ?_ ?_
      · refine y_bipush (v := (-2)) dX10_refusalOfRows_44 (by decide) ?_
        exact y_ireturn dX10_refusalOfRows_46 rfl rfl rfl
      · refine y_iconst (v := 0) dX10_refusalOfRows_40 (by decide) ?_
        refine y_goto (tgt := 46) dX10_refusalOfRows_41 (by decide) ?_
        exact y_ireturn dX10_refusalOfRows_46 rfl rfl rfl
    · refine y_bipush (v := (-11)) dX10_refusalOfRows_23 (by decide) ?_
      exact y_ireturn dX10_refusalOfRows_25 rfl rfl rfl
  · refine y_bipush (v := (-2)) dX10_refusalOfRows_7 (by decide) ?_
    exact y_ireturn dX10_refusalOfRows_9 rfl rfl rfl
-- ===== X10_isWeighingThatMayBe: WeighedGate.isWeighingThatMayBe(II)Z =====
set_option maxRecDepth 20000 in
set_option maxHeartbeats 2000000 in
theorem p_X10_isWeighingThatMayBe {G : xG} {d : Nat} {n t : Nat} (hn : 71 ≤ n) (hd : 4 ≤ d) (a1 : Int32) (a2 : Int32) (w : xI) : xMet G m_X10_isWeighingThatMayBe d [.ref 0, .int a1, .int a2] (xFin n t) w (fun x : Int32 => some (Value.int x)) (xFin n t) (f_X10_isWeighingThatMayBe a1 a2 w) := by
  refine xMet.of rfl (Nat.le_of_ble_eq_true rfl) ?_
  unfold f_X10_isWeighingThatMayBe
  show xC G m_X10_isWeighingThatMayBe d 0 [(0, .ref 0), (1, .int a1), (2, .int a2)] [] (xFin n t) w _ _ _
  refine y_iload_n dX10_isWeighingThatMayBe_0 rfl 1 rfl ?_
  refine y_callS (As := [.int a1]) (d2 := d - 1) dX10_isWeighingThatMayBe_1 kX10_167 (by omega) rfl rfl (Nat.le_of_ble_eq_true rfl) (p_X10_isHour hn (by omega)  _ _) (fun r1 w2 _ => ?_)
  refine y_if_eq (tgt := 18) dX10_isWeighingThatMayBe_4 (by decide) ?_ ?_
  · refine y_iconst (v := 0) dX10_isWeighingThatMayBe_18 (by decide) ?_
    exact y_ireturn dX10_isWeighingThatMayBe_19 rfl rfl rfl
  · refine y_aload_n dX10_isWeighingThatMayBe_7 rfl 0 rfl ?_
    refine y_getr (q := 5) dX10_isWeighingThatMayBe_8 flX10_19 (xlt rfl hn) rfl rfl rfl ?_
    refine y_iload_n dX10_isWeighingThatMayBe_11 rfl 2 rfl ?_
    refine y_callV (As := [.int a2]) (d2 := d - 1) dX10_isWeighingThatMayBe_12 kX10_200 (by omega) rfl rfl (Nat.le_of_ble_eq_true rfl) (xlt rfl hn) rfl rfl (p_X9_hasAll hn (by omega)  _ _) (fun r3 w4 _ => ?_)
    refine y_if_ne (tgt := 20) dX10_isWeighingThatMayBe_15 (by decide) ?_ ?_
    · refine y_aload_n dX10_isWeighingThatMayBe_20 rfl 0 rfl ?_
      refine y_getr (q := 21) dX10_isWeighingThatMayBe_21 flX10_41 (xlt rfl hn) rfl rfl rfl ?_
      refine y_iload_n dX10_isWeighingThatMayBe_24 rfl 1 rfl ?_
      refine y_aload_n dX10_isWeighingThatMayBe_25 rfl 0 rfl ?_
      refine y_getr (q := 5) dX10_isWeighingThatMayBe_26 flX10_19 (xlt rfl hn) rfl rfl rfl ?_
      refine y_getr (q := 7) dX10_isWeighingThatMayBe_29 flX10_161 (xlt rfl hn) rfl rfl rfl ?_
      refine y_callV (As := [.int a1, .ref 7]) (d2 := d - 1) dX10_isWeighingThatMayBe_32 kX10_203 (by omega) rfl rfl (Nat.le_of_ble_eq_true rfl) (xlt rfl hn) rfl rfl (p_X8_prepare hn (by omega) (okA_c (by decide) rfl) _ _) (fun r5 w6 _ => ?_)
      refine y_aload_n dX10_isWeighingThatMayBe_35 rfl 0 rfl ?_
      refine y_getr (q := 21) dX10_isWeighingThatMayBe_36 flX10_41 (xlt rfl hn) rfl rfl rfl ?_
      refine y_iload_n dX10_isWeighingThatMayBe_39 rfl 2 rfl ?_
      refine y_callV (As := [.int a2]) (d2 := d - 1) dX10_isWeighingThatMayBe_40 kX10_207 (by omega) rfl rfl (Nat.le_of_ble_eq_true rfl) (xlt rfl hn) rfl rfl (p_X8_weigh hn (by omega)  _ _) (fun r7 w8 _ => ?_)
      refine y_aload_n dX10_isWeighingThatMayBe_43 rfl 0 rfl ?_
      refine y_getr (q := 21) dX10_isWeighingThatMayBe_44 flX10_41 (xlt rfl hn) rfl rfl rfl ?_
      refine y_aload_n dX10_isWeighingThatMayBe_47 rfl 0 rfl ?_
      refine y_callV (As := []) (d2 := d - 1) dX10_isWeighingThatMayBe_48 kX10_132 (by omega) rfl rfl (Nat.le_of_ble_eq_true rfl) (xlt rfl hn) rfl rfl (p_X10_law hn (by omega)   _) (fun r9 w10 _ => ?_)
      refine xC.chk (fun hz11 => ?_)
      have hok12 : okT r9 := isTxN_ok hz11
      refine y_callV (As := [.ref r9]) (d2 := d - 1) dX10_isWeighingThatMayBe_51 kX10_210 (by omega) rfl rfl (Nat.le_of_ble_eq_true rfl) (xlt rfl hn) rfl rfl (p_X8_mayBe hn (by omega) hok12  _) (fun r13 w14 _ => ?_)
      exact y_zreturn dX10_isWeighingThatMayBe_54 rfl rfl
    · refine y_iconst (v := 0) dX10_isWeighingThatMayBe_18 (by decide) ?_
      exact y_ireturn dX10_isWeighingThatMayBe_19 rfl rfl rfl
-- ===== X10_judge: WeighedGate.judge(I)I =====
set_option maxRecDepth 20000 in
set_option maxHeartbeats 2000000 in
theorem p_X10_judge_L28 {G : xG} {d : Nat} {n t : Nat} (hn : 71 ≤ n) (hd : 5 ≤ d) : ∀ (fu : Nat) (r3 : Nat) (v4 : Int32) (v5 : Int32) (v6 : Int32) (w : xI) (hr3 : okS r3), xC G m_X10_judge d 28 [(0, .ref 0), (3, .ref r3), (4, .int v4), (5, .int v5), (6, .int v6)] [] (xFin n t) w (fun x : Int32 => some (Value.int x)) (xFin n t) (f_X10_judge_L28 fu r3 v4 v5 v6 w) := by
  intro fu
  induction fu with
  | zero => intro r3 v4 v5 v6 w hr3; exact xC.none
  | succ fu ih =>
    intro r3 v4 v5 v6 w hr3
    rw [f_X10_judge_L28]
    refine y_iload dX10_judge_28 4 rfl ?_
    refine y_aload_n dX10_judge_30 rfl 1 rfl ?_
    refine z_geti (v := (w r3 1)) dX10_judge_31 flX10_288 (okS_k hr3 hn) (okS_s hr3) rfl rfl ?_
    refine y_iconst (v := 2) dX10_judge_34 (by decide) ?_
    refine y_idiv dX10_judge_35 (by decide) ?_
    refine y_icmp_ge (tgt := 109) dX10_judge_36 (by decide) ?_ ?_
    · refine y_iconst (v := (-1)) dX10_judge_109 (by decide) ?_
      exact y_ireturn dX10_judge_110 rfl rfl rfl
    · refine y_aload_n dX10_judge_39 rfl 1 rfl ?_
      refine y_getr (q := (r3 + 1)) dX10_judge_40 flX10_289 (okS_k hr3 hn) (okS_s hr3) rfl (okS_r1 hr3 _) ?_
      refine y_iconst (v := 2) dX10_judge_43 (by decide) ?_
      refine y_iload dX10_judge_44 4 rfl ?_
      refine y_imul dX10_judge_46 ?_
      refine z_iald (v := (w (r3 + 1) ((2 : Int32) * v6).toNatClampNeg)) dX10_judge_47 (okS_k1 hr3 hn) (okS_s1 hr3) rfl ?_
      refine y_let (fun x28001 => ?_)
      refine y_istore (lv' := [(7, .int x28001), (0, .ref 0), (3, .ref r3), (4, .int v4), (5, .int v5), (6, .int v6)]) dX10_judge_48 (by decide) rfl ?_
      refine y_aload_n dX10_judge_50 rfl 2 rfl ?_
      refine y_getr (q := (r3 + 1)) dX10_judge_51 flX10_289 (okS_k hr3 hn) (okS_s hr3) rfl (okS_r1 hr3 _) ?_
      refine y_iconst (v := 2) dX10_judge_54 (by decide) ?_
      refine y_iload dX10_judge_55 5 rfl ?_
      refine y_imul dX10_judge_57 ?_
      refine y_iconst (v := 1) dX10_judge_58 (by decide) ?_
      refine y_iadd dX10_judge_59 ?_
      refine z_iald (v := (w (r3 + 1) (((2 : Int32) * v6) + (1 : Int32)).toNatClampNeg)) dX10_judge_60 (okS_k1 hr3 hn) (okS_s1 hr3) rfl ?_
      refine y_let (fun x28002 => ?_)
      refine y_istore (lv' := [(8, .int x28002), (7, .int x28001), (0, .ref 0), (3, .ref r3), (4, .int v4), (5, .int v5), (6, .int v6)]) dX10_judge_61 (by decide) rfl ?_
      refine y_iload dX10_judge_63 1 rfl ?_
      refine y_iload dX10_judge_65 4 rfl ?_
      refine y_icmp_le (tgt := 89) dX10_judge_67 (by decide) ?_ ?_
      · refine y_iload dX10_judge_89 6 rfl ?_
        exact y_ireturn dX10_judge_91 rfl rfl rfl
      · refine y_iload dX10_judge_70 0 rfl ?_
        refine y_iload dX10_judge_72 5 rfl ?_
        refine y_iand dX10_judge_74 ?_
        refine y_if_ne (tgt := 89) dX10_judge_75 (by decide) ?_ ?_
        · refine y_iload dX10_judge_89 6 rfl ?_
          exact y_ireturn dX10_judge_91 rfl rfl rfl
        · refine y_aload_n dX10_judge_78 rfl 2 rfl ?_
          refine y_iload dX10_judge_79 1 rfl ?_
          refine y_iload dX10_judge_81 0 rfl ?_
          refine y_callV (As := [.int x28001, .int x28002]) (d2 := d - 1) dX10_judge_83 kX10_292 (by omega) rfl rfl (Nat.le_of_ble_eq_true rfl) (xlt rfl hn) rfl rfl (p_X10_isWeighingThatMayBe hn (by omega)  _ _ _) (fun r28003 w28004 _ => ?_)
          refine y_if_ne (tgt := 92) dX10_judge_86 (by decide) ?_ ?_
          · refine y_iload dX10_judge_92 1 rfl ?_
            refine y_istore (lv' := [(4, .int x28001), (8, .int x28002), (7, .int x28001), (0, .ref 0), (3, .ref r3), (5, .int v5), (6, .int v6)]) dX10_judge_94 (by decide) rfl ?_
            refine y_iload dX10_judge_96 5 rfl ?_
            refine y_iload dX10_judge_98 1 rfl ?_
            refine y_ior dX10_judge_100 ?_
            refine y_let (fun x28005 => ?_)
            refine y_istore (lv' := [(5, .int x28005), (4, .int x28001), (8, .int x28002), (7, .int x28001), (0, .ref 0), (3, .ref r3), (6, .int v6)]) dX10_judge_101 (by decide) rfl ?_
            refine z_iinc (j := 6) dX10_judge_103 (by decide) rfl (by decide) (fun x28006 => ?_)
            refine y_loc (lv' := [(6, .int x28006), (5, .int x28005), (4, .int x28001), (8, .int x28002), (7, .int x28001), (0, .ref 0), (3, .ref r3)]) rfl ?_
            refine y_goto (tgt := 28) dX10_judge_106 (by decide) ?_
            refine y_sub [(0, .ref 0), (3, .ref r3), (4, .int x28001), (5, .int x28005), (6, .int x28006)] [5, 6, 2, 1, 0] rfl ?_
            exact ih r3 x28001 x28005 x28006 w28004 hr3
          · refine y_iload dX10_judge_89 6 rfl ?_
            exact y_ireturn dX10_judge_91 rfl rfl rfl
set_option maxRecDepth 20000 in
set_option maxHeartbeats 2000000 in
theorem p_X10_judge {G : xG} {d : Nat} {n t : Nat} (hn : 71 ≤ n) (hd : 5 ≤ d) (a1 : Int32) (w : xI) : xMet G m_X10_judge d [.ref 0, .int a1] (xFin n t) w (fun x : Int32 => some (Value.int x)) (xFin n t) (f_X10_judge a1 w) := by
  refine xMet.of rfl (Nat.le_of_ble_eq_true rfl) ?_
  unfold f_X10_judge
  show xC G m_X10_judge d 0 [(0, .ref 0), (1, .int a1)] [] (xFin n t) w _ _ _
  refine y_aload_n dX10_judge_0 rfl 0 rfl ?_
  refine y_iload_n dX10_judge_1 rfl 1 rfl ?_
  refine y_callV (As := [.int a1]) (d2 := d - 1) dX10_judge_2 kX10_285 (by omega) rfl rfl (Nat.le_of_ble_eq_true rfl) (xlt rfl hn) rfl rfl (p_X10_refusalOfRows hn (by omega)  _ _) (fun r1 w2 _ => ?_)
  refine y_istore_n (lv' := [(2, .int r1), (0, .ref 0), (1, .int a1)]) dX10_judge_5 rfl (by decide) rfl ?_
  refine y_iload_n dX10_judge_6 rfl 0 rfl ?_
  refine y_if_eq (tgt := 12) dX10_judge_7 (by decide) ?_ ?_
  · refine y_aload_n dX10_judge_12 rfl 1 rfl ?_
    refine y_getr (q := 32) dX10_judge_13 flX10_63 (xlt rfl hn) rfl rfl rfl ?_
    refine y_iload_n dX10_judge_16 rfl 2 rfl ?_
    refine y_aaldS dX10_judge_17 hn (fun o4 hok6 => ?_)
    refine y_astore_n (lv' := [(3, .ref o4), (2, .int r1), (0, .ref 0), (1, .int a1)]) dX10_judge_18 rfl (by decide) rfl ?_
    refine y_iconst (v := (-1)) dX10_judge_19 (by decide) ?_
    refine y_istore (lv' := [(4, .int (-1 : Int32)), (3, .ref o4), (2, .int r1), (0, .ref 0), (1, .int a1)]) dX10_judge_20 (by decide) rfl ?_
    refine y_iconst (v := 0) dX10_judge_22 (by decide) ?_
    refine y_istore (lv' := [(5, .int (0 : Int32)), (4, .int (-1 : Int32)), (3, .ref o4), (2, .int r1), (0, .ref 0), (1, .int a1)]) dX10_judge_23 (by decide) rfl ?_
    refine y_iconst (v := 0) dX10_judge_25 (by decide) ?_
    refine y_istore (lv' := [(6, .int (0 : Int32)), (5, .int (0 : Int32)), (4, .int (-1 : Int32)), (3, .ref o4), (2, .int r1), (0, .ref 0), (1, .int a1)]) dX10_judge_26 (by decide) rfl ?_
    refine y_sub [(0, .ref 0), (3, .ref o4), (4, .int (-1 : Int32)), (5, .int (0 : Int32)), (6, .int (0 : Int32))] [5, 3, 2, 1, 0] rfl ?_
    refine p_X10_judge_L28 hn hd 2000 o4 (-1 : Int32) (0 : Int32) (0 : Int32) w2 hok6
  · refine y_iload_n dX10_judge_10 rfl 0 rfl ?_
    exact y_ireturn dX10_judge_11 rfl rfl rfl
-- ===== X10_laws: WeighedGate.laws(I)I =====
set_option maxRecDepth 20000 in
set_option maxHeartbeats 2000000 in
theorem p_X10_laws_L24 {G : xG} {d : Nat} {n t : Nat} (hn : 71 ≤ n) (hd : 5 ≤ d) : ∀ (fu : Nat) (v1 : Int32) (v3 : Int32) (v4 : Int32) (w : xI), xC G m_X10_laws d 24 [(0, .ref 0), (1, .int v1), (3, .int v3), (4, .int v4)] [] (xFin n t) w (fun x : Int32 => some (Value.int x)) (xFin n t) (f_X10_laws_L24 fu v1 v3 v4 w) := by
  intro fu
  induction fu with
  | zero => intro v1 v3 v4 w; exact xC.none
  | succ fu ih =>
    intro v1 v3 v4 w
    rw [f_X10_laws_L24]
    refine y_iload dX10_laws_24 3 rfl ?_
    refine y_aload_n dX10_laws_26 rfl 0 rfl ?_
    refine z_geti (v := (w 0 3)) dX10_laws_27 flX10_100 (xlt rfl hn) rfl rfl rfl ?_
    refine y_icmp_ge (tgt := 82) dX10_laws_30 (by decide) ?_ ?_
    · refine y_iload_n dX10_laws_82 rfl 2 rfl ?_
      exact y_ireturn dX10_laws_83 rfl rfl rfl
    · refine y_aload_n dX10_laws_33 rfl 0 rfl ?_
      refine y_getr (q := 28) dX10_laws_34 flX10_57 (xlt rfl hn) rfl rfl rfl ?_
      refine y_bipush (v := 10) dX10_laws_37 (by decide) ?_
      refine y_iconst (v := (-1)) dX10_laws_39 (by decide) ?_
      refine y_sipush (v := 1023) dX10_laws_40 (by decide) ?_
      refine y_aload_n dX10_laws_43 rfl 0 rfl ?_
      refine y_getr (q := 18) dX10_laws_44 flX10_25 (xlt rfl hn) rfl rfl rfl ?_
      refine y_iload dX10_laws_47 3 rfl ?_
      refine y_aaldT dX10_laws_49 hn (fun o24002 hok24004 => ?_)
      refine y_callV (As := [.int (10 : Int32), .int (-1 : Int32), .int (1023 : Int32), .ref o24002]) (d2 := d - 1) dX10_laws_50 kX10_255 (by omega) rfl rfl (Nat.le_of_ble_eq_true rfl) (xlt rfl hn) rfl rfl (p_X1_run hn (by omega) hok24004 _ _ _ _) (fun r24005 w24006 _ => ?_)
      refine y_aload_n dX10_laws_53 rfl 0 rfl ?_
      refine y_getr (q := 28) dX10_laws_54 flX10_57 (xlt rfl hn) rfl rfl rfl ?_
      refine y_aload_n dX10_laws_57 rfl 0 rfl ?_
      refine y_getr (q := 32) dX10_laws_58 flX10_63 (xlt rfl hn) rfl rfl rfl ?_
      refine y_iload_n dX10_laws_61 rfl 1 rfl ?_
      refine y_aaldS dX10_laws_62 hn (fun o24008 hok24010 => ?_)
      refine y_callV (As := [.ref o24008]) (d2 := d - 1) dX10_laws_63 kX10_296 (by omega) rfl rfl (Nat.le_of_ble_eq_true rfl) (xlt rfl hn) rfl rfl (p_X1_isToldBy hn (by omega) hok24010  _) (fun r24011 w24012 _ => ?_)
      refine y_if_eq (tgt := 76) dX10_laws_66 (by decide) ?_ ?_
      · refine z_iinc (j := 3) dX10_laws_76 (by decide) rfl (by decide) (fun x24013 => ?_)
        refine y_loc (lv' := [(4, .int x24013), (0, .ref 0), (1, .int v1), (3, .int v3)]) rfl ?_
        refine y_goto (tgt := 24) dX10_laws_79 (by decide) ?_
        refine y_sub [(0, .ref 0), (1, .int v1), (3, .int v3), (4, .int x24013)] [1, 2, 3, 0] rfl ?_
        exact ih v1 v3 x24013 w24012 
      · refine y_iload_n dX10_laws_69 rfl 2 rfl ?_
        refine y_iconst (v := 1) dX10_laws_70 (by decide) ?_
        refine y_iload dX10_laws_71 3 rfl ?_
        refine y_ishl dX10_laws_73 ?_
        refine y_ior dX10_laws_74 ?_
        refine y_let (fun x24014 => ?_)
        refine y_istore_n (lv' := [(3, .int x24014), (0, .ref 0), (1, .int v1), (4, .int v4)]) dX10_laws_75 rfl (by decide) rfl ?_
        refine z_iinc (j := 3) dX10_laws_76 (by decide) rfl (by decide) (fun x24015 => ?_)
        refine y_loc (lv' := [(4, .int x24015), (3, .int x24014), (0, .ref 0), (1, .int v1)]) rfl ?_
        refine y_goto (tgt := 24) dX10_laws_79 (by decide) ?_
        refine y_sub [(0, .ref 0), (1, .int v1), (3, .int x24014), (4, .int x24015)] [2, 3, 1, 0] rfl ?_
        exact ih v1 x24014 x24015 w24012 
set_option maxRecDepth 20000 in
set_option maxHeartbeats 2000000 in
theorem p_X10_laws {G : xG} {d : Nat} {n t : Nat} (hn : 71 ≤ n) (hd : 5 ≤ d) (a1 : Int32) (w : xI) : xMet G m_X10_laws d [.ref 0, .int a1] (xFin n t) w (fun x : Int32 => some (Value.int x)) (xFin n t) (f_X10_laws a1 w) := by
  refine xMet.of rfl (Nat.le_of_ble_eq_true rfl) ?_
  unfold f_X10_laws
  show xC G m_X10_laws d 0 [(0, .ref 0), (1, .int a1)] [] (xFin n t) w _ _ _
  refine y_aload_n dX10_laws_0 rfl 0 rfl ?_
  refine y_iload_n dX10_laws_1 rfl 1 rfl ?_
  refine y_callV (As := [.int a1]) (d2 := d - 1) dX10_laws_2 kX10_285 (by omega) rfl rfl (Nat.le_of_ble_eq_true rfl) (xlt rfl hn) rfl rfl (p_X10_refusalOfRows hn (by omega)  _ _) (fun r1 w2 _ => ?_)
  refine y_istore_n (lv' := [(2, .int r1), (0, .ref 0), (1, .int a1)]) dX10_laws_5 rfl (by decide) rfl ?_
  refine y_iload_n dX10_laws_6 rfl 0 rfl ?_
  refine y_if_eq (tgt := 12) dX10_laws_7 (by decide) ?_ ?_
  · refine y_aload_n dX10_laws_12 rfl 1 rfl ?_
    refine y_getr (q := 28) dX10_laws_13 flX10_57 (xlt rfl hn) rfl rfl rfl ?_
    refine y_callV (As := []) (d2 := d - 1) dX10_laws_16 kX10_252 (by omega) rfl rfl (Nat.le_of_ble_eq_true rfl) (xlt rfl hn) rfl rfl (p_X1_takeComes hn (by omega)   _) (fun r3 w4 _ => ?_)
    refine y_iconst (v := 0) dX10_laws_19 (by decide) ?_
    refine y_istore_n (lv' := [(3, .int (0 : Int32)), (2, .int r1), (0, .ref 0), (1, .int a1)]) dX10_laws_20 rfl (by decide) rfl ?_
    refine y_iconst (v := 0) dX10_laws_21 (by decide) ?_
    refine y_istore (lv' := [(4, .int (0 : Int32)), (3, .int (0 : Int32)), (2, .int r1), (0, .ref 0), (1, .int a1)]) dX10_laws_22 (by decide) rfl ?_
    refine y_sub [(0, .ref 0), (1, .int a1), (3, .int (0 : Int32)), (4, .int (0 : Int32))] [3, 4, 1, 0] rfl ?_
    refine p_X10_laws_L24 hn hd 2000 a1 (0 : Int32) (0 : Int32) w4 
  · refine y_iload_n dX10_laws_10 rfl 0 rfl ?_
    exact y_ireturn dX10_laws_11 rfl rfl rfl
-- ===== X10_film: WeighedGate.film(I)I =====
set_option maxRecDepth 20000 in
set_option maxHeartbeats 2000000 in
theorem p_X10_film_L37 {G : xG} {d : Nat} {n t : Nat} (hn : 71 ≤ n) (hd : 6 ≤ d) : ∀ (fu : Nat) (r2 : Nat) (v3 : Int32) (w : xI) (hr2 : okS r2), xC G m_X10_film d 37 [(0, .ref 0), (2, .ref r2), (3, .int v3)] [] (xFin n t) w (fun x : Int32 => some (Value.int x)) (xFin n t) (f_X10_film_L37 fu r2 v3 w) := by
  intro fu
  induction fu with
  | zero => intro r2 v3 w hr2; exact xC.none
  | succ fu ih =>
    intro r2 v3 w hr2
    rw [f_X10_film_L37]
    refine y_iload_n dX10_film_37 rfl 2 rfl ?_
    refine y_aload_n dX10_film_38 rfl 0 rfl ?_
    refine y_getr (q := 28) dX10_film_39 flX10_57 (xlt rfl hn) rfl rfl rfl ?_
    refine z_geti (v := (w 28 5)) dX10_film_42 flX10_303 (xlt rfl hn) rfl rfl rfl ?_
    refine y_icmp_ge (tgt := 88) dX10_film_45 (by decide) ?_ ?_
    · refine y_aload_n dX10_film_88 rfl 0 rfl ?_
      refine y_getr (q := 28) dX10_film_89 flX10_57 (xlt rfl hn) rfl rfl rfl ?_
      refine z_geti (v := (w 28 5)) dX10_film_92 flX10_303 (xlt rfl hn) rfl rfl rfl ?_
      exact y_ireturn dX10_film_95 rfl rfl rfl
    · refine y_aload_n dX10_film_48 rfl 1 rfl ?_
      refine y_iconst (v := 2) dX10_film_49 (by decide) ?_
      refine y_iload_n dX10_film_50 rfl 2 rfl ?_
      refine y_imul dX10_film_51 ?_
      refine y_aload_n dX10_film_52 rfl 0 rfl ?_
      refine y_getr (q := 28) dX10_film_53 flX10_57 (xlt rfl hn) rfl rfl rfl ?_
      refine y_getr (q := 30) dX10_film_56 flX10_310 (xlt rfl hn) rfl rfl rfl ?_
      refine y_iload_n dX10_film_59 rfl 2 rfl ?_
      refine z_iald (v := (w 30 v3.toNatClampNeg)) dX10_film_60 (xlt rfl hn) rfl rfl ?_
      refine y_callV (As := [.int ((2 : Int32) * v3), .int (w 30 v3.toNatClampNeg)]) (d2 := d - 1) dX10_film_61 kX10_313 (by omega) rfl rfl (Nat.le_of_ble_eq_true rfl) (okS_k hr2 hn) (okS_s hr2) rfl (p_X6_put hn (by omega) hr2 _ _ _) (fun r37001 w37002 _ => ?_)
      refine y_aload_n dX10_film_64 rfl 1 rfl ?_
      refine y_iconst (v := 2) dX10_film_65 (by decide) ?_
      refine y_iload_n dX10_film_66 rfl 2 rfl ?_
      refine y_imul dX10_film_67 ?_
      refine y_iconst (v := 1) dX10_film_68 (by decide) ?_
      refine y_iadd dX10_film_69 ?_
      refine y_aload_n dX10_film_70 rfl 0 rfl ?_
      refine y_getr (q := 28) dX10_film_71 flX10_57 (xlt rfl hn) rfl rfl rfl ?_
      refine y_getr (q := 31) dX10_film_74 flX10_315 (xlt rfl hn) rfl rfl rfl ?_
      refine y_iload_n dX10_film_77 rfl 2 rfl ?_
      refine z_iald (v := (w37002 31 v3.toNatClampNeg)) dX10_film_78 (xlt rfl hn) rfl rfl ?_
      refine y_callV (As := [.int (((2 : Int32) * v3) + (1 : Int32)), .int (w37002 31 v3.toNatClampNeg)]) (d2 := d - 1) dX10_film_79 kX10_313 (by omega) rfl rfl (Nat.le_of_ble_eq_true rfl) (okS_k hr2 hn) (okS_s hr2) rfl (p_X6_put hn (by omega) hr2 _ _ _) (fun r37003 w37004 _ => ?_)
      refine z_iinc (j := 2) dX10_film_82 (by decide) rfl (by decide) (fun x37005 => ?_)
      refine y_loc (lv' := [(3, .int x37005), (0, .ref 0), (2, .ref r2)]) rfl ?_
      refine y_goto (tgt := 37) dX10_film_85 (by decide) ?_
      refine y_sub [(0, .ref 0), (2, .ref r2), (3, .int x37005)] [1, 2, 0] rfl ?_
      exact ih r2 x37005 w37004 hr2
set_option maxRecDepth 20000 in
set_option maxHeartbeats 2000000 in
theorem p_X10_film {G : xG} {d : Nat} {n t : Nat} (hn : 71 ≤ n) (hd : 6 ≤ d) (a1 : Int32) (w : xI) : xMet G m_X10_film d [.ref 0, .int a1] (xFin n t) w (fun x : Int32 => some (Value.int x)) (xFin n t) (f_X10_film a1 w) := by
  refine xMet.of rfl (Nat.le_of_ble_eq_true rfl) ?_
  unfold f_X10_film
  show xC G m_X10_film d 0 [(0, .ref 0), (1, .int a1)] [] (xFin n t) w _ _ _
  refine y_iload_n dX10_film_0 rfl 1 rfl ?_
  refine y_callS (As := [.int a1]) (d2 := d - 1) dX10_film_1 kX10_300 (by omega) rfl rfl (Nat.le_of_ble_eq_true rfl) (p_X10_isSheet hn (by omega)  _ _) (fun r1 w2 _ => ?_)
  refine y_if_ne (tgt := 10) dX10_film_4 (by decide) ?_ ?_
  · refine y_aload_n dX10_film_10 rfl 0 rfl ?_
    refine y_callV (As := []) (d2 := d - 1) dX10_film_11 kX10_274 (by omega) rfl rfl (Nat.le_of_ble_eq_true rfl) (xlt rfl hn) rfl rfl (p_X10_runTillDusk hn (by omega)   _) (fun r3 w4 _ => ?_)
    refine y_aload_n dX10_film_14 rfl 0 rfl ?_
    refine y_getr (q := 32) dX10_film_15 flX10_63 (xlt rfl hn) rfl rfl rfl ?_
    refine y_iload_n dX10_film_18 rfl 1 rfl ?_
    refine y_aaldS dX10_film_19 hn (fun o6 hok8 => ?_)
    refine y_astore_n (lv' := [(2, .ref o6), (0, .ref 0), (1, .int a1)]) dX10_film_20 rfl (by decide) rfl ?_
    refine y_aload_n dX10_film_21 rfl 0 rfl ?_
    refine y_iconst (v := 2) dX10_film_22 (by decide) ?_
    refine y_iconst (v := 2) dX10_film_23 (by decide) ?_
    refine y_aload_n dX10_film_24 rfl 1 rfl ?_
    refine y_getr (q := 28) dX10_film_25 flX10_57 (xlt rfl hn) rfl rfl rfl ?_
    refine z_geti (v := (w4 28 5)) dX10_film_28 flX10_303 (xlt rfl hn) rfl rfl rfl ?_
    refine y_imul dX10_film_31 ?_
    refine y_callV (As := [.int (2 : Int32), .int ((2 : Int32) * (w4 28 5))]) (d2 := d - 1) dX10_film_32 kX10_306 (by omega) rfl rfl (Nat.le_of_ble_eq_true rfl) (okS_k hok8 hn) (okS_s hok8) rfl (p_X6_become hn (by omega) hok8 _ _ _) (fun r9 w10 _ => ?_)
    refine y_iconst (v := 0) dX10_film_35 (by decide) ?_
    refine y_istore_n (lv' := [(3, .int (0 : Int32)), (2, .ref o6), (0, .ref 0), (1, .int a1)]) dX10_film_36 rfl (by decide) rfl ?_
    refine y_sub [(0, .ref 0), (2, .ref o6), (3, .int (0 : Int32))] [2, 1, 0] rfl ?_
    refine p_X10_film_L37 hn hd 2000 o6 (0 : Int32) w10 hok8
  · refine y_bipush (v := (-2)) dX10_film_7 (by decide) ?_
    exact y_ireturn dX10_film_9 rfl rfl rfl
