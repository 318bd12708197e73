-- ===== X11_hold: WeighedGateModel.hold(I)I =====
set_option maxRecDepth 20000 in
set_option maxHeartbeats 2000000 in
theorem p_X11_hold_L22 {G : xG} {d : Nat} {n t : Nat} (hn : 102 ≤ n) (hd : 42 ≤ d) : ∀ (fu : Nat) (v1 : Int32) (v2 : Int32) (v3 : Int32) (v4 : Int32) (w : xI), xC G m_X11_hold d 22 [(0, .ref 71), (1, .int v1), (2, .int v2), (3, .int v3), (4, .int v4)] [] (xFin n t) w (fun x : Int32 => some (Value.int x)) (xFin n t) (f_X11_hold_L22 fu v1 v2 v3 v4 w) := by
  intro fu
  induction fu with
  | zero => intro v1 v2 v3 v4 w; exact xC.none
  | succ fu ih =>
    intro v1 v2 v3 v4 w
    rw [f_X11_hold_L22]
    refine y_iload dX11_hold_22 4 rfl ?_
    refine y_bipush (v := 10) dX11_hold_24 (by decide) ?_
    refine y_icmp_ge (tgt := 73) dX11_hold_26 (by decide) ?_ ?_
    · refine y_aload_n dX11_hold_73 rfl 0 rfl ?_
      refine y_iconst (v := (-1)) dX11_hold_74 (by decide) ?_
      refine y_puti dX11_hold_75 flX11_97 (xlt rfl hn) rfl rfl ?_
      refine y_iload_n dX11_hold_78 rfl 1 rfl ?_
      refine y_if_ne (tgt := 86) dX11_hold_79 (by decide) ?_ ?_
      · refine y_iload_n dX11_hold_86 rfl 3 rfl ?_
        exact y_ireturn dX11_hold_87 rfl rfl rfl
      · refine y_iload_n dX11_hold_82 rfl 2 rfl ?_
        refine y_goto (tgt := 87) dX11_hold_83 (by decide) ?_
        exact y_ireturn dX11_hold_87 rfl rfl rfl
    · refine y_aload_n dX11_hold_29 rfl 0 rfl ?_
      refine y_iload dX11_hold_30 4 rfl ?_
      refine y_puti dX11_hold_32 flX11_97 (xlt rfl hn) rfl rfl ?_
      refine y_aload_n dX11_hold_35 rfl 0 rfl ?_
      refine y_callV (As := []) (d2 := d - 1) dX11_hold_36 kX11_306 (by omega) rfl rfl (Nat.le_of_ble_eq_true rfl) (xlt rfl hn) rfl rfl (p_X11_earnedBy hn (by omega)   _) (fun r22001 w22002 _ => ?_)
      refine y_istore (lv' := [(5, .int r22001), (0, .ref 71), (1, .int v1), (2, .int v2), (3, .int v3), (4, .int v4)]) dX11_hold_39 (by decide) rfl ?_
      refine y_iload dX11_hold_41 0 rfl ?_
      refine y_iload_n dX11_hold_43 rfl 4 rfl ?_
      refine y_icmp_le (tgt := 52) dX11_hold_44 (by decide) ?_ ?_
      · refine y_iload_n dX11_hold_52 rfl 3 rfl ?_
        refine y_istore_n (lv' := [(2, .int v2), (5, .int r22001), (0, .ref 71), (1, .int v1), (3, .int v3), (4, .int v4)]) dX11_hold_53 rfl (by decide) rfl ?_
        refine y_iload dX11_hold_54 1 rfl ?_
        refine y_iload_n dX11_hold_56 rfl 4 rfl ?_
        refine y_icmp_le (tgt := 65) dX11_hold_57 (by decide) ?_ ?_
        · refine y_iload_n dX11_hold_65 rfl 4 rfl ?_
          refine y_istore_n (lv' := [(3, .int v3), (2, .int v2), (5, .int r22001), (0, .ref 71), (1, .int v1), (4, .int v4)]) dX11_hold_66 rfl (by decide) rfl ?_
          refine z_iinc (j := 5) dX11_hold_67 (by decide) rfl (by decide) (fun x22003 => ?_)
          refine y_loc (lv' := [(4, .int x22003), (3, .int v3), (2, .int v2), (5, .int r22001), (0, .ref 71), (1, .int v1)]) rfl ?_
          refine y_goto (tgt := 22) dX11_hold_70 (by decide) ?_
          refine y_sub [(0, .ref 71), (1, .int v1), (2, .int v2), (3, .int v3), (4, .int x22003)] [4, 5, 2, 1, 0] rfl ?_
          exact ih v1 v2 v3 x22003 w22002 
        · refine y_iload dX11_hold_60 1 rfl ?_
          refine y_goto (tgt := 66) dX11_hold_62 (by decide) ?_
          refine y_istore_n (lv' := [(3, .int r22001), (2, .int v2), (5, .int r22001), (0, .ref 71), (1, .int v1), (4, .int v4)]) dX11_hold_66 rfl (by decide) rfl ?_
          refine z_iinc (j := 5) dX11_hold_67 (by decide) rfl (by decide) (fun x22004 => ?_)
          refine y_loc (lv' := [(4, .int x22004), (3, .int r22001), (2, .int v2), (5, .int r22001), (0, .ref 71), (1, .int v1)]) rfl ?_
          refine y_goto (tgt := 22) dX11_hold_70 (by decide) ?_
          refine y_sub [(0, .ref 71), (1, .int v1), (2, .int v2), (3, .int r22001), (4, .int x22004)] [4, 5, 2, 1, 0] rfl ?_
          exact ih v1 v2 r22001 x22004 w22002 
      · refine y_iload dX11_hold_47 5 rfl ?_
        refine y_goto (tgt := 53) dX11_hold_49 (by decide) ?_
        refine y_istore_n (lv' := [(2, .int v4), (5, .int r22001), (0, .ref 71), (1, .int v1), (3, .int v3), (4, .int v4)]) dX11_hold_53 rfl (by decide) rfl ?_
        refine y_iload dX11_hold_54 1 rfl ?_
        refine y_iload_n dX11_hold_56 rfl 4 rfl ?_
        refine y_icmp_le (tgt := 65) dX11_hold_57 (by decide) ?_ ?_
        · refine y_iload_n dX11_hold_65 rfl 4 rfl ?_
          refine y_istore_n (lv' := [(3, .int v3), (2, .int v4), (5, .int r22001), (0, .ref 71), (1, .int v1), (4, .int v4)]) dX11_hold_66 rfl (by decide) rfl ?_
          refine z_iinc (j := 5) dX11_hold_67 (by decide) rfl (by decide) (fun x22005 => ?_)
          refine y_loc (lv' := [(4, .int x22005), (3, .int v3), (2, .int v4), (5, .int r22001), (0, .ref 71), (1, .int v1)]) rfl ?_
          refine y_goto (tgt := 22) dX11_hold_70 (by decide) ?_
          refine y_sub [(0, .ref 71), (1, .int v1), (2, .int v4), (3, .int v3), (4, .int x22005)] [4, 5, 2, 1, 0] rfl ?_
          exact ih v1 v4 v3 x22005 w22002 
        · refine y_iload dX11_hold_60 1 rfl ?_
          refine y_goto (tgt := 66) dX11_hold_62 (by decide) ?_
          refine y_istore_n (lv' := [(3, .int r22001), (2, .int v4), (5, .int r22001), (0, .ref 71), (1, .int v1), (4, .int v4)]) dX11_hold_66 rfl (by decide) rfl ?_
          refine z_iinc (j := 5) dX11_hold_67 (by decide) rfl (by decide) (fun x22006 => ?_)
          refine y_loc (lv' := [(4, .int x22006), (3, .int r22001), (2, .int v4), (5, .int r22001), (0, .ref 71), (1, .int v1)]) rfl ?_
          refine y_goto (tgt := 22) dX11_hold_70 (by decide) ?_
          refine y_sub [(0, .ref 71), (1, .int v1), (2, .int v4), (3, .int r22001), (4, .int x22006)] [4, 5, 2, 1, 0] rfl ?_
          exact ih v1 v4 r22001 x22006 w22002 
set_option maxRecDepth 20000 in
set_option maxHeartbeats 2000000 in
theorem p_X11_hold {G : xG} {d : Nat} {n t : Nat} (hn : 102 ≤ n) (hd : 42 ≤ d) (a1 : Int32) (w : xI) : xMet G m_X11_hold d [.ref 71, .int a1] (xFin n t) w (fun x : Int32 => some (Value.int x)) (xFin n t) (f_X11_hold a1 w) := by
  refine xMet.of rfl (Nat.le_of_ble_eq_true rfl) ?_
  unfold f_X11_hold
  show xC G m_X11_hold d 0 [(0, .ref 71), (1, .int a1)] [] (xFin n t) w _ _ _
  refine y_iload_n dX11_hold_0 rfl 1 rfl ?_
  refine y_iconst (v := 0) dX11_hold_1 (by decide) ?_
  refine y_iconst (v := 1) dX11_hold_2 (by decide) ?_
  refine y_callS (As := [.int a1, .int (0 : Int32), .int (1 : Int32)]) (d2 := d - 1) dX11_hold_3 kX11_114 (by omega) rfl rfl (Nat.le_of_ble_eq_true rfl) (p_X11_in hn (by omega)  _ _ _ _) (fun r1 w2 _ => ?_)
  refine y_if_ne (tgt := 12) dX11_hold_6 (by decide) ?_ ?_
  · refine y_iconst (v := (-1)) dX11_hold_12 (by decide) ?_
    refine y_istore_n (lv' := [(2, .int (-1 : Int32)), (0, .ref 71), (1, .int a1)]) dX11_hold_13 rfl (by decide) rfl ?_
    refine y_aload_n dX11_hold_14 rfl 1 rfl ?_
    refine y_callV (As := []) (d2 := d - 1) dX11_hold_15 kX11_306 (by omega) rfl rfl (Nat.le_of_ble_eq_true rfl) (xlt rfl hn) rfl rfl (p_X11_earnedBy hn (by omega)   _) (fun r3 w4 _ => ?_)
    refine y_istore_n (lv' := [(3, .int r3), (2, .int (-1 : Int32)), (0, .ref 71), (1, .int a1)]) dX11_hold_18 rfl (by decide) rfl ?_
    refine y_iconst (v := 0) dX11_hold_19 (by decide) ?_
    refine y_istore (lv' := [(4, .int (0 : Int32)), (3, .int r3), (2, .int (-1 : Int32)), (0, .ref 71), (1, .int a1)]) dX11_hold_20 (by decide) rfl ?_
    refine y_sub [(0, .ref 71), (1, .int a1), (2, .int (-1 : Int32)), (3, .int r3), (4, .int (0 : Int32))] [3, 4, 2, 1, 0] rfl ?_
    refine p_X11_hold_L22 hn hd 2000 a1 (-1 : Int32) r3 (0 : Int32) w4 
  · refine y_bipush (v := (-2)) dX11_hold_9 (by decide) ?_
    exact y_ireturn dX11_hold_11 rfl rfl rfl
-- ===== X11_gain: WeighedGateModel.gain(I)I =====
set_option maxRecDepth 20000 in
set_option maxHeartbeats 2000000 in
theorem p_X11_gain {G : xG} {d : Nat} {n t : Nat} (hn : 102 ≤ n) (hd : 42 ≤ d) (a1 : Int32) (w : xI) : xMet G m_X11_gain d [.ref 71, .int a1] (xFin n t) w (fun x : Int32 => some (Value.int x)) (xFin n t) (f_X11_gain a1 w) := by
  refine xMet.of rfl (Nat.le_of_ble_eq_true rfl) ?_
  unfold f_X11_gain
  show xC G m_X11_gain d 0 [(0, .ref 71), (1, .int a1)] [] (xFin n t) w _ _ _
  refine y_aload_n dX11_gain_0 rfl 0 rfl ?_
  refine y_iload_n dX11_gain_1 rfl 1 rfl ?_
  refine y_callV (As := [.int a1]) (d2 := d - 1) dX11_gain_2 kX11_202 (by omega) rfl rfl (Nat.le_of_ble_eq_true rfl) (xlt rfl hn) rfl rfl (p_X11_isCart hn (by omega)  _ _) (fun r1 w2 _ => ?_)
  refine y_if_ne (tgt := 12) dX11_gain_5 (by decide) ?_ ?_
  · refine y_aload_n dX11_gain_12 rfl 0 rfl ?_
    refine y_callV (As := []) (d2 := d - 1) dX11_gain_13 kX11_306 (by omega) rfl rfl (Nat.le_of_ble_eq_true rfl) (xlt rfl hn) rfl rfl (p_X11_earnedBy hn (by omega)   _) (fun r3 w4 _ => ?_)
    refine y_istore_n (lv' := [(2, .int r3), (0, .ref 71), (1, .int a1)]) dX11_gain_16 rfl (by decide) rfl ?_
    refine y_aload_n dX11_gain_17 rfl 1 rfl ?_
    refine y_iconst (v := 1) dX11_gain_18 (by decide) ?_
    refine y_iload_n dX11_gain_19 rfl 2 rfl ?_
    refine y_ishl dX11_gain_20 ?_
    refine y_puti dX11_gain_21 flX11_288 (xlt rfl hn) rfl rfl ?_
    refine y_aload_n dX11_gain_24 rfl 1 rfl ?_
    refine y_callV (As := []) (d2 := d - 1) dX11_gain_25 kX11_306 (by omega) rfl rfl (Nat.le_of_ble_eq_true rfl) (xlt rfl hn) rfl rfl (p_X11_earnedBy hn (by omega)   _) (fun r5 w6 _ => ?_)
    refine y_istore_n (lv' := [(3, .int r5), (2, .int r3), (0, .ref 71), (1, .int a1)]) dX11_gain_28 rfl (by decide) rfl ?_
    refine y_aload_n dX11_gain_29 rfl 2 rfl ?_
    refine y_iconst (v := 0) dX11_gain_30 (by decide) ?_
    refine y_puti dX11_gain_31 flX11_288 (xlt rfl hn) rfl rfl ?_
    refine y_iload_n dX11_gain_34 rfl 1 rfl ?_
    refine y_iload_n dX11_gain_35 rfl 0 rfl ?_
    refine y_isub dX11_gain_36 ?_
    exact y_ireturn dX11_gain_37 rfl rfl rfl
  · refine y_ldcw (v := (-100000)) dX11_gain_8 q1355 ?_
    exact y_ireturn dX11_gain_11 rfl rfl rfl
-- ===== X11_bring: WeighedGateModel.bring(II)I =====
set_option maxRecDepth 20000 in
set_option maxHeartbeats 2000000 in
theorem p_X11_bring_L41 {G : xG} {d : Nat} {n t : Nat} (hn : 102 ≤ n) (hd : 42 ≤ d) : ∀ (fu : Nat) (v1 : Int32) (v2 : Int32) (v3 : Int32) (v4 : Int32) (v5 : Int32) (v6 : Int32) (w : xI), xC G m_X11_bring d 41 [(0, .ref 71), (1, .int v1), (2, .int v2), (3, .int v3), (4, .int v4), (5, .int v5), (6, .int v6)] [] (xFin n t) w (fun x : Int32 => some (Value.int x)) (xFin n t) (f_X11_bring_L41 fu v1 v2 v3 v4 v5 v6 w) := by
  intro fu
  induction fu with
  | zero => intro v1 v2 v3 v4 v5 v6 w; exact xC.none
  | succ fu ih =>
    intro v1 v2 v3 v4 v5 v6 w
    rw [f_X11_bring_L41]
    refine y_iload dX11_bring_41 6 rfl ?_
    refine y_bipush (v := 10) dX11_bring_43 (by decide) ?_
    refine y_icmp_ge (tgt := 100) dX11_bring_45 (by decide) ?_ ?_
    · refine y_aload_n dX11_bring_100 rfl 0 rfl ?_
      refine y_getr (q := 79) dX11_bring_101 flX11_31 (xlt rfl hn) rfl rfl rfl ?_
      refine y_iload_n dX11_bring_104 rfl 1 rfl ?_
      refine y_iload_n dX11_bring_105 rfl 3 rfl ?_
      refine y_iast dX11_bring_106 (xlt rfl hn) rfl ?_
      refine y_iload_n dX11_bring_107 rfl 2 rfl ?_
      refine y_if_ne (tgt := 116) dX11_bring_108 (by decide) ?_ ?_
      · refine y_iload dX11_bring_116 5 rfl ?_
        exact y_ireturn dX11_bring_118 rfl rfl rfl
      · refine y_iload dX11_bring_111 4 rfl ?_
        refine y_goto (tgt := 118) dX11_bring_113 (by decide) ?_
        exact y_ireturn dX11_bring_118 rfl rfl rfl
    · refine y_aload_n dX11_bring_48 rfl 0 rfl ?_
      refine y_getr (q := 79) dX11_bring_49 flX11_31 (xlt rfl hn) rfl rfl rfl ?_
      refine y_iload_n dX11_bring_52 rfl 1 rfl ?_
      refine y_iload dX11_bring_53 6 rfl ?_
      refine y_iast dX11_bring_55 (xlt rfl hn) rfl ?_
      refine y_aload_n dX11_bring_56 rfl 0 rfl ?_
      refine y_callV (As := []) (d2 := d - 1) dX11_bring_57 kX11_306 (by omega) rfl rfl (Nat.le_of_ble_eq_true rfl) (xlt rfl hn) rfl rfl (p_X11_earnedBy hn (by omega)   _) (fun r41001 w41002 _ => ?_)
      refine y_istore (lv' := [(7, .int r41001), (0, .ref 71), (1, .int v1), (2, .int v2), (3, .int v3), (4, .int v4), (5, .int v5), (6, .int v6)]) dX11_bring_60 (by decide) rfl ?_
      refine y_iload dX11_bring_62 0 rfl ?_
      refine y_iload dX11_bring_64 6 rfl ?_
      refine y_icmp_lt (tgt := 74) dX11_bring_66 (by decide) ?_ ?_
      · refine y_iload dX11_bring_74 5 rfl ?_
        refine y_istore (lv' := [(4, .int v4), (7, .int r41001), (0, .ref 71), (1, .int v1), (2, .int v2), (3, .int v3), (5, .int v5), (6, .int v6)]) dX11_bring_76 (by decide) rfl ?_
        refine y_iload dX11_bring_78 1 rfl ?_
        refine y_iload dX11_bring_80 6 rfl ?_
        refine y_icmp_lt (tgt := 90) dX11_bring_82 (by decide) ?_ ?_
        · refine y_iload dX11_bring_90 6 rfl ?_
          refine y_istore (lv' := [(5, .int v5), (4, .int v4), (7, .int r41001), (0, .ref 71), (1, .int v1), (2, .int v2), (3, .int v3), (6, .int v6)]) dX11_bring_92 (by decide) rfl ?_
          refine z_iinc (j := 7) dX11_bring_94 (by decide) rfl (by decide) (fun x41003 => ?_)
          refine y_loc (lv' := [(6, .int x41003), (5, .int v5), (4, .int v4), (7, .int r41001), (0, .ref 71), (1, .int v1), (2, .int v2), (3, .int v3)]) rfl ?_
          refine y_goto (tgt := 41) dX11_bring_97 (by decide) ?_
          refine y_sub [(0, .ref 71), (1, .int v1), (2, .int v2), (3, .int v3), (4, .int v4), (5, .int v5), (6, .int x41003)] [4, 5, 6, 7, 2, 1, 0] rfl ?_
          exact ih v1 v2 v3 v4 v5 x41003 w41002 
        · refine y_iload dX11_bring_85 1 rfl ?_
          refine y_goto (tgt := 92) dX11_bring_87 (by decide) ?_
          refine y_istore (lv' := [(5, .int r41001), (4, .int v4), (7, .int r41001), (0, .ref 71), (1, .int v1), (2, .int v2), (3, .int v3), (6, .int v6)]) dX11_bring_92 (by decide) rfl ?_
          refine z_iinc (j := 7) dX11_bring_94 (by decide) rfl (by decide) (fun x41004 => ?_)
          refine y_loc (lv' := [(6, .int x41004), (5, .int r41001), (4, .int v4), (7, .int r41001), (0, .ref 71), (1, .int v1), (2, .int v2), (3, .int v3)]) rfl ?_
          refine y_goto (tgt := 41) dX11_bring_97 (by decide) ?_
          refine y_sub [(0, .ref 71), (1, .int v1), (2, .int v2), (3, .int v3), (4, .int v4), (5, .int r41001), (6, .int x41004)] [4, 5, 6, 7, 2, 1, 0] rfl ?_
          exact ih v1 v2 v3 v4 r41001 x41004 w41002 
      · refine y_iload dX11_bring_69 7 rfl ?_
        refine y_goto (tgt := 76) dX11_bring_71 (by decide) ?_
        refine y_istore (lv' := [(4, .int v6), (7, .int r41001), (0, .ref 71), (1, .int v1), (2, .int v2), (3, .int v3), (5, .int v5), (6, .int v6)]) dX11_bring_76 (by decide) rfl ?_
        refine y_iload dX11_bring_78 1 rfl ?_
        refine y_iload dX11_bring_80 6 rfl ?_
        refine y_icmp_lt (tgt := 90) dX11_bring_82 (by decide) ?_ ?_
        · refine y_iload dX11_bring_90 6 rfl ?_
          refine y_istore (lv' := [(5, .int v5), (4, .int v6), (7, .int r41001), (0, .ref 71), (1, .int v1), (2, .int v2), (3, .int v3), (6, .int v6)]) dX11_bring_92 (by decide) rfl ?_
          refine z_iinc (j := 7) dX11_bring_94 (by decide) rfl (by decide) (fun x41005 => ?_)
          refine y_loc (lv' := [(6, .int x41005), (5, .int v5), (4, .int v6), (7, .int r41001), (0, .ref 71), (1, .int v1), (2, .int v2), (3, .int v3)]) rfl ?_
          refine y_goto (tgt := 41) dX11_bring_97 (by decide) ?_
          refine y_sub [(0, .ref 71), (1, .int v1), (2, .int v2), (3, .int v3), (4, .int v6), (5, .int v5), (6, .int x41005)] [4, 5, 6, 7, 2, 1, 0] rfl ?_
          exact ih v1 v2 v3 v6 v5 x41005 w41002 
        · refine y_iload dX11_bring_85 1 rfl ?_
          refine y_goto (tgt := 92) dX11_bring_87 (by decide) ?_
          refine y_istore (lv' := [(5, .int r41001), (4, .int v6), (7, .int r41001), (0, .ref 71), (1, .int v1), (2, .int v2), (3, .int v3), (6, .int v6)]) dX11_bring_92 (by decide) rfl ?_
          refine z_iinc (j := 7) dX11_bring_94 (by decide) rfl (by decide) (fun x41006 => ?_)
          refine y_loc (lv' := [(6, .int x41006), (5, .int r41001), (4, .int v6), (7, .int r41001), (0, .ref 71), (1, .int v1), (2, .int v2), (3, .int v3)]) rfl ?_
          refine y_goto (tgt := 41) dX11_bring_97 (by decide) ?_
          refine y_sub [(0, .ref 71), (1, .int v1), (2, .int v2), (3, .int v3), (4, .int v6), (5, .int r41001), (6, .int x41006)] [4, 5, 6, 7, 2, 1, 0] rfl ?_
          exact ih v1 v2 v3 v6 r41001 x41006 w41002 
set_option maxRecDepth 20000 in
set_option maxHeartbeats 2000000 in
theorem p_X11_bring {G : xG} {d : Nat} {n t : Nat} (hn : 102 ≤ n) (hd : 42 ≤ d) (a1 : Int32) (a2 : Int32) (w : xI) : xMet G m_X11_bring d [.ref 71, .int a1, .int a2] (xFin n t) w (fun x : Int32 => some (Value.int x)) (xFin n t) (f_X11_bring a1 a2 w) := by
  refine xMet.of rfl (Nat.le_of_ble_eq_true rfl) ?_
  unfold f_X11_bring
  show xC G m_X11_bring d 0 [(0, .ref 71), (1, .int a1), (2, .int a2)] [] (xFin n t) w _ _ _
  refine y_aload_n dX11_bring_0 rfl 0 rfl ?_
  refine y_iload_n dX11_bring_1 rfl 1 rfl ?_
  refine y_callV (As := [.int a1]) (d2 := d - 1) dX11_bring_2 kX11_202 (by omega) rfl rfl (Nat.le_of_ble_eq_true rfl) (xlt rfl hn) rfl rfl (p_X11_isCart hn (by omega)  _ _) (fun r1 w2 _ => ?_)
  refine y_if_ne (tgt := 11) dX11_bring_5 (by decide) ?_ ?_
  · refine y_iload_n dX11_bring_11 rfl 2 rfl ?_
    refine y_iconst (v := 0) dX11_bring_12 (by decide) ?_
    refine y_iconst (v := 1) dX11_bring_13 (by decide) ?_
    refine y_callS (As := [.int a2, .int (0 : Int32), .int (1 : Int32)]) (d2 := d - 1) dX11_bring_14 kX11_114 (by omega) rfl rfl (Nat.le_of_ble_eq_true rfl) (p_X11_in hn (by omega)  _ _ _ _) (fun r3 w4 _ => ?_)
    refine y_if_ne (tgt := 23) dX11_bring_17 (by decide) ?_ ?_
    · refine y_aload_n dX11_bring_23 rfl 0 rfl ?_
      refine y_getr (q := 79) dX11_bring_24 flX11_31 (xlt rfl hn) rfl rfl rfl ?_
      refine y_iload_n dX11_bring_27 rfl 1 rfl ?_
      refine z_iald (v := (w4 79 a1.toNatClampNeg)) dX11_bring_28 (xlt rfl hn) rfl rfl ?_
      refine y_let (fun x5 => ?_)
      refine y_istore_n (lv' := [(3, .int x5), (0, .ref 71), (1, .int a1), (2, .int a2)]) dX11_bring_29 rfl (by decide) rfl ?_
      refine y_iconst (v := 0) dX11_bring_30 (by decide) ?_
      refine y_istore (lv' := [(4, .int (0 : Int32)), (3, .int x5), (0, .ref 71), (1, .int a1), (2, .int a2)]) dX11_bring_31 (by decide) rfl ?_
      refine y_ldcw (v := (-100000)) dX11_bring_33 q1355 ?_
      refine y_istore (lv' := [(5, .int (-100000 : Int32)), (4, .int (0 : Int32)), (3, .int x5), (0, .ref 71), (1, .int a1), (2, .int a2)]) dX11_bring_36 (by decide) rfl ?_
      refine y_iconst (v := 0) dX11_bring_38 (by decide) ?_
      refine y_istore (lv' := [(6, .int (0 : Int32)), (5, .int (-100000 : Int32)), (4, .int (0 : Int32)), (3, .int x5), (0, .ref 71), (1, .int a1), (2, .int a2)]) dX11_bring_39 (by decide) rfl ?_
      refine y_sub [(0, .ref 71), (1, .int a1), (2, .int a2), (3, .int x5), (4, .int (0 : Int32)), (5, .int (-100000 : Int32)), (6, .int (0 : Int32))] [4, 5, 6, 3, 2, 1, 0] rfl ?_
      refine p_X11_bring_L41 hn hd 2000 a1 a2 x5 (0 : Int32) (-100000 : Int32) (0 : Int32) w4 
    · refine y_bipush (v := (-7)) dX11_bring_20 (by decide) ?_
      exact y_ireturn dX11_bring_22 rfl rfl rfl
  · refine y_bipush (v := (-5)) dX11_bring_8 (by decide) ?_
    exact y_ireturn dX11_bring_10 rfl rfl rfl
-- ===== X11_sheetWrong: WeighedGateModel.sheetWrong(I)I =====
set_option maxRecDepth 20000 in
set_option maxHeartbeats 2000000 in
theorem p_X11_sheetWrong {G : xG} {d : Nat} {n t : Nat} (hn : 102 ≤ n) (hd : 1 ≤ d) (a1 : Int32) (w : xI) : xMet G m_X11_sheetWrong d [.ref 71, .int a1] (xFin n t) w (fun x : Int32 => some (Value.int x)) (xFin n t) (f_X11_sheetWrong a1 w) := by
  refine xMet.of rfl (Nat.le_of_ble_eq_true rfl) ?_
  unfold f_X11_sheetWrong
  show xC G m_X11_sheetWrong d 0 [(0, .ref 71), (1, .int a1)] [] (xFin n t) w _ _ _
  refine y_iload_n dX11_sheetWrong_0 rfl 1 rfl ?_
  refine y_iconst (v := 0) dX11_sheetWrong_1 (by decide) ?_
  refine y_iconst (v := 3) dX11_sheetWrong_2 (by decide) ?_
  refine y_callS (As := [.int a1, .int (0 : Int32), .int (3 : Int32)]) (d2 := d - 1) dX11_sheetWrong_3 kX11_114 (by omega) rfl rfl (Nat.le_of_ble_eq_true rfl) (p_X11_in hn (by omega)  _ _ _ _) (fun r1 w2 _ => ?_)
  refine y_if_ne (tgt := 12) dX11_sheetWrong_6 (by decide) ?_ ?_
  · refine y_aload_n dX11_sheetWrong_12 rfl 0 rfl ?_
    refine y_getr (q := 87) dX11_sheetWrong_13 flX11_55 (xlt rfl hn) rfl rfl rfl ?_
    refine y_iload_n dX11_sheetWrong_16 rfl 1 rfl ?_
    refine z_iald (v := (w2 87 a1.toNatClampNeg)) dX11_sheetWrong_17 (xlt rfl hn) rfl rfl ?_
    refine y_iconst (v := (-1)) dX11_sheetWrong_18 (by decide) ?_
    refine y_icmp_ne (tgt := 25) dX11_sheetWrong_19 (by decide) ?_ ?_
    · refine y_aload_n dX11_sheetWrong_25 rfl 0 rfl ?_
      refine y_getr (q := 88) dX11_sheetWrong_26 flX11_58 (xlt rfl hn) rfl rfl rfl ?_
      refine y_iload_n dX11_sheetWrong_29 rfl 1 rfl ?_
      refine z_iald (v := (w2 88 a1.toNatClampNeg)) dX11_sheetWrong_30 (xlt rfl hn) rfl rfl ?_
      refine y_iconst (v := 2) dX11_sheetWrong_31 (by decide) ?_
      refine y_irem dX11_sheetWrong_32 (by decide) ?_
      refine y_if_ne (tgt := 40) dX11_sheetWrong_33 (by decide) ?_ ?_
      · refine y_bipush (v := (-2)) dX11_sheetWrong_40 (by decide) ?_
        exact y_ireturn dX11_sheetWrong_42 rfl rfl rfl
      · refine y_iconst (v := 0) dX11_sheetWrong_36 (by decide) ?_
        refine y_goto (tgt := 42) dX11_sheetWrong_37 (by decide) ?_
        exact y_ireturn dX11_sheetWrong_42 rfl rfl rfl
    · refine y_bipush (v := (-11)) dX11_sheetWrong_22 (by decide) ?_
      exact y_ireturn dX11_sheetWrong_24 rfl rfl rfl
  · refine y_bipush (v := (-2)) dX11_sheetWrong_9 (by decide) ?_
    exact y_ireturn dX11_sheetWrong_11 rfl rfl rfl
-- ===== X11_isRow: WeighedGateModel.isRow(IIII)Z =====
set_option maxRecDepth 20000 in
set_option maxHeartbeats 2000000 in
theorem p_X11_isRow {G : xG} {d : Nat} {n t : Nat} (hn : 102 ≤ n) (hd : 4 ≤ d) (a1 : Int32) (a2 : Int32) (a3 : Int32) (a4 : Int32) (w : xI) : xMet G m_X11_isRow d [.ref 71, .int a1, .int a2, .int a3, .int a4] (xFin n t) w (fun x : Int32 => some (Value.int x)) (xFin n t) (f_X11_isRow a1 a2 a3 a4 w) := by
  refine xMet.of rfl (Nat.le_of_ble_eq_true rfl) ?_
  unfold f_X11_isRow
  show xC G m_X11_isRow d 0 [(0, .ref 71), (1, .int a1), (2, .int a2), (3, .int a3), (4, .int a4)] [] (xFin n t) w _ _ _
  refine y_aload_n dX11_isRow_0 rfl 0 rfl ?_
  refine y_getr (q := 89) dX11_isRow_1 flX11_61 (xlt rfl hn) rfl rfl rfl ?_
  refine y_bipush (v := 40) dX11_isRow_4 (by decide) ?_
  refine y_iload_n dX11_isRow_6 rfl 1 rfl ?_
  refine y_imul dX11_isRow_7 ?_
  refine y_iconst (v := 2) dX11_isRow_8 (by decide) ?_
  refine y_iload_n dX11_isRow_9 rfl 2 rfl ?_
  refine y_imul dX11_isRow_10 ?_
  refine y_iadd dX11_isRow_11 ?_
  refine z_iald (v := (w 89 (((40 : Int32) * a1) + ((2 : Int32) * a2)).toNatClampNeg)) dX11_isRow_12 (xlt rfl hn) rfl rfl ?_
  refine y_let (fun x1 => ?_)
  refine y_istore (lv' := [(5, .int x1), (0, .ref 71), (1, .int a1), (2, .int a2), (3, .int a3), (4, .int a4)]) dX11_isRow_13 (by decide) rfl ?_
  refine y_aload_n dX11_isRow_15 rfl 1 rfl ?_
  refine y_getr (q := 89) dX11_isRow_16 flX11_61 (xlt rfl hn) rfl rfl rfl ?_
  refine y_bipush (v := 40) dX11_isRow_19 (by decide) ?_
  refine y_iload_n dX11_isRow_21 rfl 2 rfl ?_
  refine y_imul dX11_isRow_22 ?_
  refine y_iconst (v := 2) dX11_isRow_23 (by decide) ?_
  refine y_iload_n dX11_isRow_24 rfl 3 rfl ?_
  refine y_imul dX11_isRow_25 ?_
  refine y_iadd dX11_isRow_26 ?_
  refine y_iconst (v := 1) dX11_isRow_27 (by decide) ?_
  refine y_iadd dX11_isRow_28 ?_
  refine z_iald (v := (w 89 ((((40 : Int32) * a1) + ((2 : Int32) * a2)) + (1 : Int32)).toNatClampNeg)) dX11_isRow_29 (xlt rfl hn) rfl rfl ?_
  refine y_let (fun x2 => ?_)
  refine y_istore (lv' := [(6, .int x2), (5, .int x1), (0, .ref 71), (1, .int a1), (2, .int a2), (3, .int a3), (4, .int a4)]) dX11_isRow_30 (by decide) rfl ?_
  refine y_iload dX11_isRow_32 1 rfl ?_
  refine y_callS (As := [.int x1]) (d2 := d - 1) dX11_isRow_34 kX11_208 (by omega) rfl rfl (Nat.le_of_ble_eq_true rfl) (p_X11_isHour hn (by omega)  _ _) (fun r3 w4 _ => ?_)
  refine y_if_eq (tgt := 67) dX11_isRow_37 (by decide) ?_ ?_
  · refine y_iconst (v := 0) dX11_isRow_67 (by decide) ?_
    exact y_ireturn dX11_isRow_68 rfl rfl rfl
  · refine y_iload dX11_isRow_40 0 rfl ?_
    refine y_iconst (v := 1) dX11_isRow_42 (by decide) ?_
    refine y_aload_n dX11_isRow_43 rfl 2 rfl ?_
    refine y_callV (As := []) (d2 := d - 1) dX11_isRow_44 kX11_252 (by omega) rfl rfl (Nat.le_of_ble_eq_true rfl) (xlt rfl hn) rfl rfl (p_X11_allCarts hn (by omega)   _) (fun r5 w6 _ => ?_)
    refine y_callS (As := [.int x2, .int (1 : Int32), .int r5]) (d2 := d - 1) dX11_isRow_47 kX11_114 (by omega) rfl rfl (Nat.le_of_ble_eq_true rfl) (p_X11_in hn (by omega)  _ _ _ _) (fun r7 w8 _ => ?_)
    refine y_if_eq (tgt := 67) dX11_isRow_50 (by decide) ?_ ?_
    · refine y_iconst (v := 0) dX11_isRow_67 (by decide) ?_
      exact y_ireturn dX11_isRow_68 rfl rfl rfl
    · refine y_iload dX11_isRow_53 1 rfl ?_
      refine y_iload_n dX11_isRow_55 rfl 5 rfl ?_
      refine y_icmp_le (tgt := 67) dX11_isRow_56 (by decide) ?_ ?_
      · refine y_iconst (v := 0) dX11_isRow_67 (by decide) ?_
        exact y_ireturn dX11_isRow_68 rfl rfl rfl
      · refine y_iload dX11_isRow_59 0 rfl ?_
        refine y_iload dX11_isRow_61 6 rfl ?_
        refine y_iand dX11_isRow_63 ?_
        refine y_if_eq (tgt := 69) dX11_isRow_64 (by decide) ?_ ?_
        · refine y_aload_n dX11_isRow_69 rfl 2 rfl ?_
          refine y_iload dX11_isRow_70 0 rfl ?_
          refine y_iload dX11_isRow_72 1 rfl ?_
          refine y_callV (As := [.int x2, .int x1]) (d2 := d - 1) dX11_isRow_74 kX11_255 (by omega) rfl rfl (Nat.le_of_ble_eq_true rfl) (xlt rfl hn) rfl rfl (p_X11_weighing hn (by omega)  _ _ _) (fun r9 w10 _ => ?_)
          refine y_aload_n dX11_isRow_77 rfl 2 rfl ?_
          refine z_geti (v := (w10 71 44)) dX11_isRow_78 flX11_245 (xlt rfl hn) rfl rfl rfl ?_
          exact y_zreturn dX11_isRow_81 rfl rfl
        · refine y_iconst (v := 0) dX11_isRow_67 (by decide) ?_
          exact y_ireturn dX11_isRow_68 rfl rfl rfl
-- ===== X11_judge: WeighedGateModel.judge(I)I =====
set_option maxRecDepth 20000 in
set_option maxHeartbeats 2000000 in
theorem p_X11_judge_L24 {G : xG} {d : Nat} {n t : Nat} (hn : 102 ≤ n) (hd : 40 ≤ d) : ∀ (fu : Nat) (v1 : Int32) (v3 : Int32) (v4 : Int32) (v5 : Int32) (w : xI), xC G m_X11_judge d 24 [(0, .ref 71), (1, .int v1), (3, .int v3), (4, .int v4), (5, .int v5)] [] (xFin n t) w (fun x : Int32 => some (Value.int x)) (xFin n t) (f_X11_judge_L24 fu v1 v3 v4 v5 w) := by
  intro fu
  induction fu with
  | zero => intro v1 v3 v4 v5 w; exact xC.none
  | succ fu ih =>
    intro v1 v3 v4 v5 w
    rw [f_X11_judge_L24]
    refine y_iload dX11_judge_24 4 rfl ?_
    refine y_aload_n dX11_judge_26 rfl 0 rfl ?_
    refine y_getr (q := 88) dX11_judge_27 flX11_58 (xlt rfl hn) rfl rfl rfl ?_
    refine y_iload_n dX11_judge_30 rfl 1 rfl ?_
    refine z_iald (v := (w 88 v1.toNatClampNeg)) dX11_judge_31 (xlt rfl hn) rfl rfl ?_
    refine y_iconst (v := 2) dX11_judge_32 (by decide) ?_
    refine y_idiv dX11_judge_33 (by decide) ?_
    refine y_icmp_ge (tgt := 95) dX11_judge_34 (by decide) ?_ ?_
    · refine y_iconst (v := (-1)) dX11_judge_95 (by decide) ?_
      exact y_ireturn dX11_judge_96 rfl rfl rfl
    · refine y_aload_n dX11_judge_37 rfl 0 rfl ?_
      refine y_iload_n dX11_judge_38 rfl 1 rfl ?_
      refine y_iload dX11_judge_39 4 rfl ?_
      refine y_iload_n dX11_judge_41 rfl 2 rfl ?_
      refine y_iload dX11_judge_42 3 rfl ?_
      refine y_callV (As := [.int v1, .int v5, .int v3, .int v4]) (d2 := d - 1) dX11_judge_44 kX11_312 (by omega) rfl rfl (Nat.le_of_ble_eq_true rfl) (xlt rfl hn) rfl rfl (p_X11_isRow hn (by omega)  _ _ _ _ _) (fun r24001 w24002 _ => ?_)
      refine y_if_ne (tgt := 53) dX11_judge_47 (by decide) ?_ ?_
      · refine y_aload_n dX11_judge_53 rfl 0 rfl ?_
        refine y_getr (q := 89) dX11_judge_54 flX11_61 (xlt rfl hn) rfl rfl rfl ?_
        refine y_bipush (v := 40) dX11_judge_57 (by decide) ?_
        refine y_iload_n dX11_judge_59 rfl 1 rfl ?_
        refine y_imul dX11_judge_60 ?_
        refine y_iconst (v := 2) dX11_judge_61 (by decide) ?_
        refine y_iload dX11_judge_62 4 rfl ?_
        refine y_imul dX11_judge_64 ?_
        refine y_iadd dX11_judge_65 ?_
        refine z_iald (v := (w24002 89 (((40 : Int32) * v1) + ((2 : Int32) * v5)).toNatClampNeg)) dX11_judge_66 (xlt rfl hn) rfl rfl ?_
        refine y_let (fun x24003 => ?_)
        refine y_istore_n (lv' := [(3, .int x24003), (0, .ref 71), (1, .int v1), (4, .int v4), (5, .int v5)]) dX11_judge_67 rfl (by decide) rfl ?_
        refine y_iload dX11_judge_68 3 rfl ?_
        refine y_aload_n dX11_judge_70 rfl 1 rfl ?_
        refine y_getr (q := 89) dX11_judge_71 flX11_61 (xlt rfl hn) rfl rfl rfl ?_
        refine y_bipush (v := 40) dX11_judge_74 (by decide) ?_
        refine y_iload_n dX11_judge_76 rfl 2 rfl ?_
        refine y_imul dX11_judge_77 ?_
        refine y_iconst (v := 2) dX11_judge_78 (by decide) ?_
        refine y_iload dX11_judge_79 4 rfl ?_
        refine y_imul dX11_judge_81 ?_
        refine y_iadd dX11_judge_82 ?_
        refine y_iconst (v := 1) dX11_judge_83 (by decide) ?_
        refine y_iadd dX11_judge_84 ?_
        refine z_iald (v := (w24002 89 ((((40 : Int32) * v1) + ((2 : Int32) * v5)) + (1 : Int32)).toNatClampNeg)) dX11_judge_85 (xlt rfl hn) rfl rfl ?_
        refine y_ior dX11_judge_86 ?_
        refine y_let (fun x24004 => ?_)
        refine y_istore (lv' := [(4, .int x24004), (3, .int x24003), (0, .ref 71), (1, .int v1), (5, .int v5)]) dX11_judge_87 (by decide) rfl ?_
        refine z_iinc (j := 4) dX11_judge_89 (by decide) rfl (by decide) (fun x24005 => ?_)
        refine y_loc (lv' := [(5, .int x24005), (4, .int x24004), (3, .int x24003), (0, .ref 71), (1, .int v1)]) rfl ?_
        refine y_goto (tgt := 24) dX11_judge_92 (by decide) ?_
        refine y_sub [(0, .ref 71), (1, .int v1), (3, .int x24003), (4, .int x24004), (5, .int x24005)] [3, 4, 2, 1, 0] rfl ?_
        exact ih v1 x24003 x24004 x24005 w24002 
      · refine y_iload dX11_judge_50 4 rfl ?_
        exact y_ireturn dX11_judge_52 rfl rfl rfl
set_option maxRecDepth 20000 in
set_option maxHeartbeats 2000000 in
theorem p_X11_judge {G : xG} {d : Nat} {n t : Nat} (hn : 102 ≤ n) (hd : 40 ≤ d) (a1 : Int32) (w : xI) : xMet G m_X11_judge d [.ref 71, .int a1] (xFin n t) w (fun x : Int32 => some (Value.int x)) (xFin n t) (f_X11_judge a1 w) := by
  refine xMet.of rfl (Nat.le_of_ble_eq_true rfl) ?_
  unfold f_X11_judge
  show xC G m_X11_judge d 0 [(0, .ref 71), (1, .int a1)] [] (xFin n t) w _ _ _
  refine y_aload_n dX11_judge_0 rfl 0 rfl ?_
  refine y_iload_n dX11_judge_1 rfl 1 rfl ?_
  refine y_callV (As := [.int a1]) (d2 := d - 1) dX11_judge_2 kX11_309 (by omega) rfl rfl (Nat.le_of_ble_eq_true rfl) (xlt rfl hn) rfl rfl (p_X11_sheetWrong hn (by omega)  _ _) (fun r1 w2 _ => ?_)
  refine y_istore_n (lv' := [(2, .int r1), (0, .ref 71), (1, .int a1)]) dX11_judge_5 rfl (by decide) rfl ?_
  refine y_iload_n dX11_judge_6 rfl 0 rfl ?_
  refine y_if_eq (tgt := 12) dX11_judge_7 (by decide) ?_ ?_
  · refine y_aload_n dX11_judge_12 rfl 1 rfl ?_
    refine y_callV (As := []) (d2 := d - 1) dX11_judge_13 kX11_224 (by omega) rfl rfl (Nat.le_of_ble_eq_true rfl) (xlt rfl hn) rfl rfl (p_X11_findsMade hn (by omega)   _) (fun r3 w4 _ => ?_)
    refine y_iconst (v := (-1)) dX11_judge_16 (by decide) ?_
    refine y_istore_n (lv' := [(3, .int (-1 : Int32)), (2, .int r1), (0, .ref 71), (1, .int a1)]) dX11_judge_17 rfl (by decide) rfl ?_
    refine y_iconst (v := 0) dX11_judge_18 (by decide) ?_
    refine y_istore (lv' := [(4, .int (0 : Int32)), (3, .int (-1 : Int32)), (2, .int r1), (0, .ref 71), (1, .int a1)]) dX11_judge_19 (by decide) rfl ?_
    refine y_iconst (v := 0) dX11_judge_21 (by decide) ?_
    refine y_istore (lv' := [(5, .int (0 : Int32)), (4, .int (0 : Int32)), (3, .int (-1 : Int32)), (2, .int r1), (0, .ref 71), (1, .int a1)]) dX11_judge_22 (by decide) rfl ?_
    refine y_sub [(0, .ref 71), (1, .int a1), (3, .int (-1 : Int32)), (4, .int (0 : Int32)), (5, .int (0 : Int32))] [4, 5, 2, 1, 0] rfl ?_
    refine p_X11_judge_L24 hn hd 2000 a1 (-1 : Int32) (0 : Int32) (0 : Int32) w4 
  · refine y_iload_n dX11_judge_10 rfl 0 rfl ?_
    exact y_ireturn dX11_judge_11 rfl rfl rfl
-- ===== X11_rowsOfDay: WeighedGateModel.rowsOfDay()I =====
set_option maxRecDepth 20000 in
set_option maxHeartbeats 2000000 in
theorem p_X11_rowsOfDay_L4 {G : xG} {d : Nat} {n t : Nat} (hn : 102 ≤ n) (hd : 0 ≤ d) : ∀ (fu : Nat) (v1 : Int32) (v2 : Int32) (w : xI), xC G m_X11_rowsOfDay d 4 [(0, .ref 71), (1, .int v1), (2, .int v2)] [] (xFin n t) w (fun x : Int32 => some (Value.int x)) (xFin n t) (f_X11_rowsOfDay_L4 fu v1 v2 w) := by
  intro fu
  induction fu with
  | zero => intro v1 v2 w; exact xC.none
  | succ fu ih =>
    intro v1 v2 w
    rw [f_X11_rowsOfDay_L4]
    refine y_iload_n dX11_rowsOfDay_4 rfl 2 rfl ?_
    refine y_bipush (v := 10) dX11_rowsOfDay_5 (by decide) ?_
    refine y_icmp_ge (tgt := 33) dX11_rowsOfDay_7 (by decide) ?_ ?_
    · refine y_iload_n dX11_rowsOfDay_33 rfl 1 rfl ?_
      exact y_ireturn dX11_rowsOfDay_34 rfl rfl rfl
    · refine y_iload_n dX11_rowsOfDay_10 rfl 1 rfl ?_
      refine y_aload_n dX11_rowsOfDay_11 rfl 0 rfl ?_
      refine y_getr (q := 100) dX11_rowsOfDay_12 flX11_94 (xlt rfl hn) rfl rfl rfl ?_
      refine y_iload_n dX11_rowsOfDay_15 rfl 2 rfl ?_
      refine z_iald (v := (w 100 v2.toNatClampNeg)) dX11_rowsOfDay_16 (xlt rfl hn) rfl rfl ?_
      refine y_if_eq (tgt := 24) dX11_rowsOfDay_17 (by decide) ?_ ?_
      · refine y_iconst (v := 0) dX11_rowsOfDay_24 (by decide) ?_
        refine y_iadd dX11_rowsOfDay_25 ?_
        refine y_let (fun x4001 => ?_)
        refine y_istore_n (lv' := [(1, .int x4001), (0, .ref 71), (2, .int v2)]) dX11_rowsOfDay_26 rfl (by decide) rfl ?_
        refine z_iinc (j := 2) dX11_rowsOfDay_27 (by decide) rfl (by decide) (fun x4002 => ?_)
        refine y_loc (lv' := [(2, .int x4002), (1, .int x4001), (0, .ref 71)]) rfl ?_
        refine y_goto (tgt := 4) dX11_rowsOfDay_30 (by decide) ?_
        refine y_sub [(0, .ref 71), (1, .int x4001), (2, .int x4002)] [2, 1, 0] rfl ?_
        exact ih x4001 x4002 w 
      · refine y_iconst (v := 1) dX11_rowsOfDay_20 (by decide) ?_
        refine y_goto (tgt := 25) dX11_rowsOfDay_21 (by decide) ?_
        refine y_iadd dX11_rowsOfDay_25 ?_
        refine y_let (fun x4003 => ?_)
        refine y_istore_n (lv' := [(1, .int x4003), (0, .ref 71), (2, .int v2)]) dX11_rowsOfDay_26 rfl (by decide) rfl ?_
        refine z_iinc (j := 2) dX11_rowsOfDay_27 (by decide) rfl (by decide) (fun x4004 => ?_)
        refine y_loc (lv' := [(2, .int x4004), (1, .int x4003), (0, .ref 71)]) rfl ?_
        refine y_goto (tgt := 4) dX11_rowsOfDay_30 (by decide) ?_
        refine y_sub [(0, .ref 71), (1, .int x4003), (2, .int x4004)] [2, 1, 0] rfl ?_
        exact ih x4003 x4004 w 
set_option maxRecDepth 20000 in
set_option maxHeartbeats 2000000 in
theorem p_X11_rowsOfDay {G : xG} {d : Nat} {n t : Nat} (hn : 102 ≤ n) (hd : 0 ≤ d) (w : xI) : xMet G m_X11_rowsOfDay d [.ref 71] (xFin n t) w (fun x : Int32 => some (Value.int x)) (xFin n t) (f_X11_rowsOfDay  w) := by
  refine xMet.of rfl (Nat.le_of_ble_eq_true rfl) ?_
  unfold f_X11_rowsOfDay
  show xC G m_X11_rowsOfDay d 0 [(0, .ref 71)] [] (xFin n t) w _ _ _
  refine y_iconst (v := 0) dX11_rowsOfDay_0 (by decide) ?_
  refine y_istore_n (lv' := [(1, .int (0 : Int32)), (0, .ref 71)]) dX11_rowsOfDay_1 rfl (by decide) rfl ?_
  refine y_iconst (v := 0) dX11_rowsOfDay_2 (by decide) ?_
  refine y_istore_n (lv' := [(2, .int (0 : Int32)), (1, .int (0 : Int32)), (0, .ref 71)]) dX11_rowsOfDay_3 rfl (by decide) rfl ?_
  refine y_sub [(0, .ref 71), (1, .int (0 : Int32)), (2, .int (0 : Int32))] [2, 1, 0] rfl ?_
  refine p_X11_rowsOfDay_L4 hn hd 2000 (0 : Int32) (0 : Int32) w 
-- ===== X11_areRows: WeighedGateModel.areRows(I)Z =====
set_option maxRecDepth 20000 in
set_option maxHeartbeats 2000000 in
theorem p_X11_areRows_L10 {G : xG} {d : Nat} {n t : Nat} (hn : 102 ≤ n) (hd : 41 ≤ d) : ∀ (fu : Nat) (v1 : Int32) (v2 : Int32) (v3 : Int32) (w : xI), xC G m_X11_areRows d 10 [(0, .ref 71), (1, .int v1), (2, .int v2), (3, .int v3)] [] (xFin n t) w (fun x : Int32 => some (Value.int x)) (xFin n t) (f_X11_areRows_L10 fu v1 v2 v3 w) := by
  intro fu
  induction fu with
  | zero => intro v1 v2 v3 w; exact xC.none
  | succ fu ih =>
    intro v1 v2 v3 w
    rw [f_X11_areRows_L10]
    refine y_iload_n dX11_areRows_10 rfl 3 rfl ?_
    refine y_bipush (v := 10) dX11_areRows_11 (by decide) ?_
    refine y_icmp_ge (tgt := 89) dX11_areRows_13 (by decide) ?_ ?_
    · refine y_iconst (v := 2) dX11_areRows_89 (by decide) ?_
      refine y_iload_n dX11_areRows_90 rfl 2 rfl ?_
      refine y_imul dX11_areRows_91 ?_
      refine y_aload_n dX11_areRows_92 rfl 0 rfl ?_
      refine y_getr (q := 88) dX11_areRows_93 flX11_58 (xlt rfl hn) rfl rfl rfl ?_
      refine y_iload_n dX11_areRows_96 rfl 1 rfl ?_
      refine z_iald (v := (w 88 v1.toNatClampNeg)) dX11_areRows_97 (xlt rfl hn) rfl rfl ?_
      refine y_icmp_ne (tgt := 105) dX11_areRows_98 (by decide) ?_ ?_
      · refine y_iconst (v := 0) dX11_areRows_105 (by decide) ?_
        exact y_ireturn dX11_areRows_106 rfl rfl rfl
      · refine y_iconst (v := 1) dX11_areRows_101 (by decide) ?_
        refine y_goto (tgt := 106) dX11_areRows_102 (by decide) ?_
        exact y_ireturn dX11_areRows_106 rfl rfl rfl
    · refine y_aload_n dX11_areRows_16 rfl 0 rfl ?_
      refine y_getr (q := 100) dX11_areRows_17 flX11_94 (xlt rfl hn) rfl rfl rfl ?_
      refine y_iload_n dX11_areRows_20 rfl 3 rfl ?_
      refine z_iald (v := (w 100 v3.toNatClampNeg)) dX11_areRows_21 (xlt rfl hn) rfl rfl ?_
      refine y_if_eq (tgt := 83) dX11_areRows_22 (by decide) ?_ ?_
      · refine z_iinc (j := 3) dX11_areRows_83 (by decide) rfl (by decide) (fun x10001 => ?_)
        refine y_loc (lv' := [(3, .int x10001), (0, .ref 71), (1, .int v1), (2, .int v2)]) rfl ?_
        refine y_goto (tgt := 10) dX11_areRows_86 (by decide) ?_
        refine y_sub [(0, .ref 71), (1, .int v1), (2, .int v2), (3, .int x10001)] [1, 2, 3, 0] rfl ?_
        exact ih v1 v2 x10001 w 
      · refine y_iconst (v := 2) dX11_areRows_25 (by decide) ?_
        refine y_iload_n dX11_areRows_26 rfl 2 rfl ?_
        refine y_imul dX11_areRows_27 ?_
        refine y_aload_n dX11_areRows_28 rfl 0 rfl ?_
        refine y_getr (q := 88) dX11_areRows_29 flX11_58 (xlt rfl hn) rfl rfl rfl ?_
        refine y_iload_n dX11_areRows_32 rfl 1 rfl ?_
        refine z_iald (v := (w 88 v1.toNatClampNeg)) dX11_areRows_33 (xlt rfl hn) rfl rfl ?_
        refine y_icmp_ge (tgt := 78) dX11_areRows_34 (by decide) ?_ ?_
        · refine y_iconst (v := 0) dX11_areRows_78 (by decide) ?_
          exact y_ireturn dX11_areRows_79 rfl rfl rfl
        · refine y_aload_n dX11_areRows_37 rfl 0 rfl ?_
          refine y_getr (q := 89) dX11_areRows_38 flX11_61 (xlt rfl hn) rfl rfl rfl ?_
          refine y_bipush (v := 40) dX11_areRows_41 (by decide) ?_
          refine y_iload_n dX11_areRows_43 rfl 1 rfl ?_
          refine y_imul dX11_areRows_44 ?_
          refine y_iconst (v := 2) dX11_areRows_45 (by decide) ?_
          refine y_iload_n dX11_areRows_46 rfl 2 rfl ?_
          refine y_imul dX11_areRows_47 ?_
          refine y_iadd dX11_areRows_48 ?_
          refine z_iald (v := (w 89 (((40 : Int32) * v1) + ((2 : Int32) * v2)).toNatClampNeg)) dX11_areRows_49 (xlt rfl hn) rfl rfl ?_
          refine y_iload_n dX11_areRows_50 rfl 3 rfl ?_
          refine y_icmp_ne (tgt := 78) dX11_areRows_51 (by decide) ?_ ?_
          · refine y_iconst (v := 0) dX11_areRows_78 (by decide) ?_
            exact y_ireturn dX11_areRows_79 rfl rfl rfl
          · refine y_aload_n dX11_areRows_54 rfl 0 rfl ?_
            refine y_getr (q := 89) dX11_areRows_55 flX11_61 (xlt rfl hn) rfl rfl rfl ?_
            refine y_bipush (v := 40) dX11_areRows_58 (by decide) ?_
            refine y_iload_n dX11_areRows_60 rfl 1 rfl ?_
            refine y_imul dX11_areRows_61 ?_
            refine y_iconst (v := 2) dX11_areRows_62 (by decide) ?_
            refine y_iload_n dX11_areRows_63 rfl 2 rfl ?_
            refine y_imul dX11_areRows_64 ?_
            refine y_iadd dX11_areRows_65 ?_
            refine y_iconst (v := 1) dX11_areRows_66 (by decide) ?_
            refine y_iadd dX11_areRows_67 ?_
            refine z_iald (v := (w 89 ((((40 : Int32) * v1) + ((2 : Int32) * v2)) + (1 : Int32)).toNatClampNeg)) dX11_areRows_68 (xlt rfl hn) rfl rfl ?_
            refine y_aload_n dX11_areRows_69 rfl 0 rfl ?_
            refine y_getr (q := 100) dX11_areRows_70 flX11_94 (xlt rfl hn) rfl rfl rfl ?_
            refine y_iload_n dX11_areRows_73 rfl 3 rfl ?_
            refine z_iald (v := (w 100 v3.toNatClampNeg)) dX11_areRows_74 (xlt rfl hn) rfl rfl ?_
            refine y_icmp_eq (tgt := 80) dX11_areRows_75 (by decide) ?_ ?_
            · refine z_iinc (j := 2) dX11_areRows_80 (by decide) rfl (by decide) (fun x10002 => ?_)
              refine y_loc (lv' := [(2, .int x10002), (0, .ref 71), (1, .int v1), (3, .int v3)]) rfl ?_
              refine z_iinc (j := 3) dX11_areRows_83 (by decide) rfl (by decide) (fun x10003 => ?_)
              refine y_loc (lv' := [(3, .int x10003), (2, .int x10002), (0, .ref 71), (1, .int v1)]) rfl ?_
              refine y_goto (tgt := 10) dX11_areRows_86 (by decide) ?_
              refine y_sub [(0, .ref 71), (1, .int v1), (2, .int x10002), (3, .int x10003)] [2, 3, 1, 0] rfl ?_
              exact ih v1 x10002 x10003 w 
            · refine y_iconst (v := 0) dX11_areRows_78 (by decide) ?_
              exact y_ireturn dX11_areRows_79 rfl rfl rfl
set_option maxRecDepth 20000 in
set_option maxHeartbeats 2000000 in
theorem p_X11_areRows {G : xG} {d : Nat} {n t : Nat} (hn : 102 ≤ n) (hd : 41 ≤ d) (a1 : Int32) (w : xI) : xMet G m_X11_areRows d [.ref 71, .int a1] (xFin n t) w (fun x : Int32 => some (Value.int x)) (xFin n t) (f_X11_areRows a1 w) := by
  refine xMet.of rfl (Nat.le_of_ble_eq_true rfl) ?_
  unfold f_X11_areRows
  show xC G m_X11_areRows d 0 [(0, .ref 71), (1, .int a1)] [] (xFin n t) w _ _ _
  refine y_aload_n dX11_areRows_0 rfl 0 rfl ?_
  refine y_bipush (v := 10) dX11_areRows_1 (by decide) ?_
  refine y_callV (As := [.int (10 : Int32)]) (d2 := d - 1) dX11_areRows_3 kX11_303 (by omega) rfl rfl (Nat.le_of_ble_eq_true rfl) (xlt rfl hn) rfl rfl (p_X11_lives hn (by omega)  _ _) (fun r1 w2 _ => ?_)
  refine y_iconst (v := 0) dX11_areRows_6 (by decide) ?_
  refine y_istore_n (lv' := [(2, .int (0 : Int32)), (0, .ref 71), (1, .int a1)]) dX11_areRows_7 rfl (by decide) rfl ?_
  refine y_iconst (v := 0) dX11_areRows_8 (by decide) ?_
  refine y_istore_n (lv' := [(3, .int (0 : Int32)), (2, .int (0 : Int32)), (0, .ref 71), (1, .int a1)]) dX11_areRows_9 rfl (by decide) rfl ?_
  refine y_sub [(0, .ref 71), (1, .int a1), (2, .int (0 : Int32)), (3, .int (0 : Int32))] [2, 3, 1, 0] rfl ?_
  refine p_X11_areRows_L10 hn hd 2000 a1 (0 : Int32) (0 : Int32) w2 
-- ===== X11_laws: WeighedGateModel.laws(I)I =====
set_option maxRecDepth 20000 in
set_option maxHeartbeats 2000000 in
theorem p_X11_laws_L23 {G : xG} {d : Nat} {n t : Nat} (hn : 102 ≤ n) (hd : 42 ≤ d) : ∀ (fu : Nat) (v1 : Int32) (v3 : Int32) (v4 : Int32) (v5 : Int32) (w : xI), xC G m_X11_laws d 23 [(0, .ref 71), (1, .int v1), (3, .int v3), (4, .int v4), (5, .int v5)] [] (xFin n t) w (fun x : Int32 => some (Value.int x)) (xFin n t) (f_X11_laws_L23 fu v1 v3 v4 v5 w) := by
  intro fu
  induction fu with
  | zero => intro v1 v3 v4 v5 w; exact xC.none
  | succ fu ih =>
    intro v1 v3 v4 v5 w
    rw [f_X11_laws_L23]
    refine y_iload dX11_laws_23 4 rfl ?_
    refine y_aload_n dX11_laws_25 rfl 0 rfl ?_
    refine z_geti (v := (w 71 14)) dX11_laws_26 flX11_121 (xlt rfl hn) rfl rfl rfl ?_
    refine y_icmp_ge (tgt := 65) dX11_laws_29 (by decide) ?_ ?_
    · refine y_aload_n dX11_laws_65 rfl 0 rfl ?_
      refine y_iload_n dX11_laws_66 rfl 2 rfl ?_
      refine y_puti dX11_laws_67 flX11_124 (xlt rfl hn) rfl rfl ?_
      refine y_iload dX11_laws_70 3 rfl ?_
      exact y_ireturn dX11_laws_72 rfl rfl rfl
    · refine y_aload_n dX11_laws_32 rfl 0 rfl ?_
      refine y_iload dX11_laws_33 4 rfl ?_
      refine y_puti dX11_laws_35 flX11_124 (xlt rfl hn) rfl rfl ?_
      refine y_iload dX11_laws_38 3 rfl ?_
      refine y_aload_n dX11_laws_40 rfl 0 rfl ?_
      refine y_iload_n dX11_laws_41 rfl 1 rfl ?_
      refine y_callV (As := [.int v1]) (d2 := d - 1) dX11_laws_42 kX11_316 (by omega) rfl rfl (Nat.le_of_ble_eq_true rfl) (xlt rfl hn) rfl rfl (p_X11_areRows hn (by omega)  _ _) (fun r23001 w23002 _ => ?_)
      refine y_if_eq (tgt := 55) dX11_laws_45 (by decide) ?_ ?_
      · refine y_iconst (v := 0) dX11_laws_55 (by decide) ?_
        refine y_ior dX11_laws_56 ?_
        refine y_let (fun x23003 => ?_)
        refine y_istore (lv' := [(4, .int x23003), (0, .ref 71), (1, .int v1), (3, .int v3), (5, .int v5)]) dX11_laws_57 (by decide) rfl ?_
        refine z_iinc (j := 4) dX11_laws_59 (by decide) rfl (by decide) (fun x23004 => ?_)
        refine y_loc (lv' := [(5, .int x23004), (4, .int x23003), (0, .ref 71), (1, .int v1), (3, .int v3)]) rfl ?_
        refine y_goto (tgt := 23) dX11_laws_62 (by decide) ?_
        refine y_sub [(0, .ref 71), (1, .int v1), (3, .int v3), (4, .int x23003), (5, .int x23004)] [2, 3, 4, 1, 0] rfl ?_
        exact ih v1 v3 x23003 x23004 w23002 
      · refine y_iconst (v := 1) dX11_laws_48 (by decide) ?_
        refine y_iload dX11_laws_49 4 rfl ?_
        refine y_ishl dX11_laws_51 ?_
        refine y_goto (tgt := 56) dX11_laws_52 (by decide) ?_
        refine y_ior dX11_laws_56 ?_
        refine y_let (fun x23005 => ?_)
        refine y_istore (lv' := [(4, .int x23005), (0, .ref 71), (1, .int v1), (3, .int v3), (5, .int v5)]) dX11_laws_57 (by decide) rfl ?_
        refine z_iinc (j := 4) dX11_laws_59 (by decide) rfl (by decide) (fun x23006 => ?_)
        refine y_loc (lv' := [(5, .int x23006), (4, .int x23005), (0, .ref 71), (1, .int v1), (3, .int v3)]) rfl ?_
        refine y_goto (tgt := 23) dX11_laws_62 (by decide) ?_
        refine y_sub [(0, .ref 71), (1, .int v1), (3, .int v3), (4, .int x23005), (5, .int x23006)] [2, 3, 4, 1, 0] rfl ?_
        exact ih v1 v3 x23005 x23006 w23002 
set_option maxRecDepth 20000 in
set_option maxHeartbeats 2000000 in
theorem p_X11_laws {G : xG} {d : Nat} {n t : Nat} (hn : 102 ≤ n) (hd : 42 ≤ d) (a1 : Int32) (w : xI) : xMet G m_X11_laws d [.ref 71, .int a1] (xFin n t) w (fun x : Int32 => some (Value.int x)) (xFin n t) (f_X11_laws a1 w) := by
  refine xMet.of rfl (Nat.le_of_ble_eq_true rfl) ?_
  unfold f_X11_laws
  show xC G m_X11_laws d 0 [(0, .ref 71), (1, .int a1)] [] (xFin n t) w _ _ _
  refine y_aload_n dX11_laws_0 rfl 0 rfl ?_
  refine y_iload_n dX11_laws_1 rfl 1 rfl ?_
  refine y_callV (As := [.int a1]) (d2 := d - 1) dX11_laws_2 kX11_309 (by omega) rfl rfl (Nat.le_of_ble_eq_true rfl) (xlt rfl hn) rfl rfl (p_X11_sheetWrong hn (by omega)  _ _) (fun r1 w2 _ => ?_)
  refine y_istore_n (lv' := [(2, .int r1), (0, .ref 71), (1, .int a1)]) dX11_laws_5 rfl (by decide) rfl ?_
  refine y_iload_n dX11_laws_6 rfl 0 rfl ?_
  refine y_if_eq (tgt := 12) dX11_laws_7 (by decide) ?_ ?_
  · refine y_aload_n dX11_laws_12 rfl 1 rfl ?_
    refine z_geti (v := (w2 71 15)) dX11_laws_13 flX11_124 (xlt rfl hn) rfl rfl rfl ?_
    refine y_let (fun x3 => ?_)
    refine y_istore_n (lv' := [(3, .int x3), (2, .int r1), (0, .ref 71), (1, .int a1)]) dX11_laws_16 rfl (by decide) rfl ?_
    refine y_iconst (v := 0) dX11_laws_17 (by decide) ?_
    refine y_istore (lv' := [(4, .int (0 : Int32)), (3, .int x3), (2, .int r1), (0, .ref 71), (1, .int a1)]) dX11_laws_18 (by decide) rfl ?_
    refine y_iconst (v := 0) dX11_laws_20 (by decide) ?_
    refine y_istore (lv' := [(5, .int (0 : Int32)), (4, .int (0 : Int32)), (3, .int x3), (2, .int r1), (0, .ref 71), (1, .int a1)]) dX11_laws_21 (by decide) rfl ?_
    refine y_sub [(0, .ref 71), (1, .int a1), (3, .int x3), (4, .int (0 : Int32)), (5, .int (0 : Int32))] [4, 5, 2, 1, 0] rfl ?_
    refine p_X11_laws_L23 hn hd 2000 a1 x3 (0 : Int32) (0 : Int32) w2 
  · refine y_iload_n dX11_laws_10 rfl 0 rfl ?_
    exact y_ireturn dX11_laws_11 rfl rfl rfl
-- ===== X11_film: WeighedGateModel.film(I)I =====
set_option maxRecDepth 20000 in
set_option maxHeartbeats 2000000 in
theorem p_X11_film_L48 {G : xG} {d : Nat} {n t : Nat} (hn : 102 ≤ n) (hd : 41 ≤ d) : ∀ (fu : Nat) (v1 : Int32) (v2 : Int32) (v3 : Int32) (w : xI), xC G m_X11_film d 48 [(0, .ref 71), (1, .int v1), (2, .int v2), (3, .int v3)] [] (xFin n t) w (fun x : Int32 => some (Value.int x)) (xFin n t) (f_X11_film_L48 fu v1 v2 v3 w) := by
  intro fu
  induction fu with
  | zero => intro v1 v2 v3 w; exact xC.none
  | succ fu ih =>
    intro v1 v2 v3 w
    rw [f_X11_film_L48]
    refine y_iload_n dX11_film_48 rfl 3 rfl ?_
    refine y_bipush (v := 10) dX11_film_49 (by decide) ?_
    refine y_icmp_ge (tgt := 107) dX11_film_51 (by decide) ?_ ?_
    · refine y_aload_n dX11_film_107 rfl 0 rfl ?_
      refine y_getr (q := 87) dX11_film_108 flX11_55 (xlt rfl hn) rfl rfl rfl ?_
      refine y_iload_n dX11_film_111 rfl 1 rfl ?_
      refine y_iconst (v := 2) dX11_film_112 (by decide) ?_
      refine y_iast dX11_film_113 (xlt rfl hn) rfl ?_
      refine y_aload_n dX11_film_114 rfl 0 rfl ?_
      refine y_getr (q := 88) dX11_film_115 flX11_58 (xlt rfl hn) rfl rfl rfl ?_
      refine y_iload_n dX11_film_118 rfl 1 rfl ?_
      refine y_iconst (v := 2) dX11_film_119 (by decide) ?_
      refine y_iload_n dX11_film_120 rfl 2 rfl ?_
      refine y_imul dX11_film_121 ?_
      refine y_iast dX11_film_122 (xlt rfl hn) rfl ?_
      refine y_aload_n dX11_film_123 rfl 0 rfl ?_
      refine y_callV (As := []) (d2 := d - 1) dX11_film_124 kX11_319 (by omega) rfl rfl (Nat.le_of_ble_eq_true rfl) (xlt rfl hn) rfl rfl (p_X11_rowsOfDay hn (by omega)   _) (fun r48001 w48002 _ => ?_)
      exact y_ireturn dX11_film_127 rfl rfl rfl
    · refine y_aload_n dX11_film_54 rfl 0 rfl ?_
      refine y_getr (q := 100) dX11_film_55 flX11_94 (xlt rfl hn) rfl rfl rfl ?_
      refine y_iload_n dX11_film_58 rfl 3 rfl ?_
      refine z_iald (v := (w 100 v3.toNatClampNeg)) dX11_film_59 (xlt rfl hn) rfl rfl ?_
      refine y_if_eq (tgt := 101) dX11_film_60 (by decide) ?_ ?_
      · refine z_iinc (j := 3) dX11_film_101 (by decide) rfl (by decide) (fun x48003 => ?_)
        refine y_loc (lv' := [(3, .int x48003), (0, .ref 71), (1, .int v1), (2, .int v2)]) rfl ?_
        refine y_goto (tgt := 48) dX11_film_104 (by decide) ?_
        refine y_sub [(0, .ref 71), (1, .int v1), (2, .int v2), (3, .int x48003)] [1, 2, 3, 0] rfl ?_
        exact ih v1 v2 x48003 w 
      · refine y_aload_n dX11_film_63 rfl 0 rfl ?_
        refine y_getr (q := 89) dX11_film_64 flX11_61 (xlt rfl hn) rfl rfl rfl ?_
        refine y_bipush (v := 40) dX11_film_67 (by decide) ?_
        refine y_iload_n dX11_film_69 rfl 1 rfl ?_
        refine y_imul dX11_film_70 ?_
        refine y_iconst (v := 2) dX11_film_71 (by decide) ?_
        refine y_iload_n dX11_film_72 rfl 2 rfl ?_
        refine y_imul dX11_film_73 ?_
        refine y_iadd dX11_film_74 ?_
        refine y_iload_n dX11_film_75 rfl 3 rfl ?_
        refine y_iast dX11_film_76 (xlt rfl hn) rfl ?_
        refine y_aload_n dX11_film_77 rfl 0 rfl ?_
        refine y_getr (q := 89) dX11_film_78 flX11_61 (xlt rfl hn) rfl rfl rfl ?_
        refine y_bipush (v := 40) dX11_film_81 (by decide) ?_
        refine y_iload_n dX11_film_83 rfl 1 rfl ?_
        refine y_imul dX11_film_84 ?_
        refine y_iconst (v := 2) dX11_film_85 (by decide) ?_
        refine y_iload_n dX11_film_86 rfl 2 rfl ?_
        refine y_imul dX11_film_87 ?_
        refine y_iadd dX11_film_88 ?_
        refine y_iconst (v := 1) dX11_film_89 (by decide) ?_
        refine y_iadd dX11_film_90 ?_
        refine y_aload_n dX11_film_91 rfl 0 rfl ?_
        refine y_getr (q := 100) dX11_film_92 flX11_94 (xlt rfl hn) rfl rfl rfl ?_
        refine y_iload_n dX11_film_95 rfl 3 rfl ?_
        refine z_iald (v := (w 100 v3.toNatClampNeg)) dX11_film_96 (xlt rfl hn) rfl rfl ?_
        refine y_iast dX11_film_97 (xlt rfl hn) rfl ?_
        refine z_iinc (j := 2) dX11_film_98 (by decide) rfl (by decide) (fun x48004 => ?_)
        refine y_loc (lv' := [(2, .int x48004), (0, .ref 71), (1, .int v1), (3, .int v3)]) rfl ?_
        refine z_iinc (j := 3) dX11_film_101 (by decide) rfl (by decide) (fun x48005 => ?_)
        refine y_loc (lv' := [(3, .int x48005), (2, .int x48004), (0, .ref 71), (1, .int v1)]) rfl ?_
        refine y_goto (tgt := 48) dX11_film_104 (by decide) ?_
        refine y_sub [(0, .ref 71), (1, .int v1), (2, .int x48004), (3, .int x48005)] [2, 3, 1, 0] rfl ?_
        exact ih v1 x48004 x48005 (xup (xup w 89 (((40 : Int32) * v1) + ((2 : Int32) * v2)).toNatClampNeg v3) 89 ((((40 : Int32) * v1) + ((2 : Int32) * v2)) + (1 : Int32)).toNatClampNeg (w 100 v3.toNatClampNeg)) 
set_option maxRecDepth 20000 in
set_option maxHeartbeats 2000000 in
theorem p_X11_film_L20 {G : xG} {d : Nat} {n t : Nat} (hn : 102 ≤ n) (hd : 41 ≤ d) : ∀ (fu : Nat) (v1 : Int32) (v2 : Int32) (w : xI), xC G m_X11_film d 20 [(0, .ref 71), (1, .int v1), (2, .int v2)] [] (xFin n t) w (fun x : Int32 => some (Value.int x)) (xFin n t) (f_X11_film_L20 fu v1 v2 w) := by
  intro fu
  induction fu with
  | zero => intro v1 v2 w; exact xC.none
  | succ fu ih =>
    intro v1 v2 w
    rw [f_X11_film_L20]
    refine y_iload_n dX11_film_20 rfl 2 rfl ?_
    refine y_bipush (v := 40) dX11_film_21 (by decide) ?_
    refine y_icmp_ge (tgt := 44) dX11_film_23 (by decide) ?_ ?_
    · refine y_iconst (v := 0) dX11_film_44 (by decide) ?_
      refine y_istore_n (lv' := [(2, .int (0 : Int32)), (0, .ref 71), (1, .int v1)]) dX11_film_45 rfl (by decide) rfl ?_
      refine y_iconst (v := 0) dX11_film_46 (by decide) ?_
      refine y_istore_n (lv' := [(3, .int (0 : Int32)), (2, .int (0 : Int32)), (0, .ref 71), (1, .int v1)]) dX11_film_47 rfl (by decide) rfl ?_
      refine y_sub [(0, .ref 71), (1, .int v1), (2, .int (0 : Int32)), (3, .int (0 : Int32))] [2, 3, 1, 0] rfl ?_
      refine p_X11_film_L48 hn hd 2000 v1 (0 : Int32) (0 : Int32) w 
    · refine y_aload_n dX11_film_26 rfl 0 rfl ?_
      refine y_getr (q := 89) dX11_film_27 flX11_61 (xlt rfl hn) rfl rfl rfl ?_
      refine y_bipush (v := 40) dX11_film_30 (by decide) ?_
      refine y_iload_n dX11_film_32 rfl 1 rfl ?_
      refine y_imul dX11_film_33 ?_
      refine y_iload_n dX11_film_34 rfl 2 rfl ?_
      refine y_iadd dX11_film_35 ?_
      refine y_iconst (v := 0) dX11_film_36 (by decide) ?_
      refine y_iast dX11_film_37 (xlt rfl hn) rfl ?_
      refine z_iinc (j := 2) dX11_film_38 (by decide) rfl (by decide) (fun x20001 => ?_)
      refine y_loc (lv' := [(2, .int x20001), (0, .ref 71), (1, .int v1)]) rfl ?_
      refine y_goto (tgt := 20) dX11_film_41 (by decide) ?_
      refine y_sub [(0, .ref 71), (1, .int v1), (2, .int x20001)] [1, 2, 0] rfl ?_
      exact ih v1 x20001 (xup w 89 (((40 : Int32) * v1) + v2).toNatClampNeg (0 : Int32)) 
set_option maxRecDepth 20000 in
set_option maxHeartbeats 2000000 in
theorem p_X11_film {G : xG} {d : Nat} {n t : Nat} (hn : 102 ≤ n) (hd : 41 ≤ d) (a1 : Int32) (w : xI) : xMet G m_X11_film d [.ref 71, .int a1] (xFin n t) w (fun x : Int32 => some (Value.int x)) (xFin n t) (f_X11_film a1 w) := by
  refine xMet.of rfl (Nat.le_of_ble_eq_true rfl) ?_
  unfold f_X11_film
  show xC G m_X11_film d 0 [(0, .ref 71), (1, .int a1)] [] (xFin n t) w _ _ _
  refine y_iload_n dX11_film_0 rfl 1 rfl ?_
  refine y_iconst (v := 0) dX11_film_1 (by decide) ?_
  refine y_iconst (v := 3) dX11_film_2 (by decide) ?_
  refine y_callS (As := [.int a1, .int (0 : Int32), .int (3 : Int32)]) (d2 := d - 1) dX11_film_3 kX11_114 (by omega) rfl rfl (Nat.le_of_ble_eq_true rfl) (p_X11_in hn (by omega)  _ _ _ _) (fun r1 w2 _ => ?_)
  refine y_if_ne (tgt := 12) dX11_film_6 (by decide) ?_ ?_
  · refine y_aload_n dX11_film_12 rfl 0 rfl ?_
    refine y_bipush (v := 10) dX11_film_13 (by decide) ?_
    refine y_callV (As := [.int (10 : Int32)]) (d2 := d - 1) dX11_film_15 kX11_303 (by omega) rfl rfl (Nat.le_of_ble_eq_true rfl) (xlt rfl hn) rfl rfl (p_X11_lives hn (by omega)  _ _) (fun r3 w4 _ => ?_)
    refine y_iconst (v := 0) dX11_film_18 (by decide) ?_
    refine y_istore_n (lv' := [(2, .int (0 : Int32)), (0, .ref 71), (1, .int a1)]) dX11_film_19 rfl (by decide) rfl ?_
    refine y_sub [(0, .ref 71), (1, .int a1), (2, .int (0 : Int32))] [1, 2, 0] rfl ?_
    refine p_X11_film_L20 hn hd 2000 a1 (0 : Int32) w4 
  · refine y_bipush (v := (-2)) dX11_film_9 (by decide) ?_
    exact y_ireturn dX11_film_11 rfl rfl rfl
-- ===== X11_lost: WeighedGateModel.lost(IIII)I =====
set_option maxRecDepth 20000 in
set_option maxHeartbeats 2000000 in
theorem p_X11_lost_L73 {G : xG} {d : Nat} {n t : Nat} (hn : 102 ≤ n) (hd : 2 ≤ d) {K58 : Int32 → Int32 → Int32 → Int32 → Int32 → Int32 → Int32 → Int32 → xI → Option (Int32 × xI)} (hK58 : ∀ (v1 : Int32) (v2 : Int32) (v3 : Int32) (v4 : Int32) (v5 : Int32) (v6 : Int32) (v7 : Int32) (v8 : Int32) (w : xI), xC G m_X11_lost d 58 [(0, .ref 71), (1, .int v1), (2, .int v2), (3, .int v3), (4, .int v4), (5, .int v5), (6, .int v6), (7, .int v7), (8, .int v8)] [] (xFin n t) w (fun x : Int32 => some (Value.int x)) (xFin n t) (K58 v1 v2 v3 v4 v5 v6 v7 v8 w)) : ∀ (fu : Nat) (v1 : Int32) (v2 : Int32) (v3 : Int32) (v4 : Int32) (v5 : Int32) (v6 : Int32) (v7 : Int32) (v8 : Int32) (v9 : Int32) (v10 : Int32) (w : xI), xC G m_X11_lost d 73 [(0, .ref 71), (1, .int v1), (2, .int v2), (3, .int v3), (4, .int v4), (5, .int v5), (6, .int v6), (7, .int v7), (8, .int v8), (9, .int v9), (10, .int v10)] [] (xFin n t) w (fun x : Int32 => some (Value.int x)) (xFin n t) (f_X11_lost_L73 K58 fu v1 v2 v3 v4 v5 v6 v7 v8 v9 v10 w) := by
  intro fu
  induction fu with
  | zero => intro v1 v2 v3 v4 v5 v6 v7 v8 v9 v10 w; exact xC.none
  | succ fu ih =>
    intro v1 v2 v3 v4 v5 v6 v7 v8 v9 v10 w
    rw [f_X11_lost_L73]
    refine y_iload dX11_lost_73 10 rfl ?_
    refine y_aload_n dX11_lost_75 rfl 0 rfl ?_
    refine z_geti (v := (w 71 3)) dX11_lost_76 flX11_111 (xlt rfl hn) rfl rfl rfl ?_
    refine y_icmp_ge (tgt := 115) dX11_lost_79 (by decide) ?_ ?_
    · refine y_iload dX11_lost_115 8 rfl ?_
      refine y_callS (As := [.int v8]) (d2 := d - 1) dX11_lost_117 kX11_282 (by omega) rfl rfl (Nat.le_of_ble_eq_true rfl) (p_X11_ones hn (by omega)  _ _) (fun r73001 w73002 _ => ?_)
      refine y_iload_n dX11_lost_120 rfl 2 rfl ?_
      refine y_icmp_ne (tgt := 147) dX11_lost_121 (by decide) ?_ ?_
      · refine z_iinc (j := 8) dX11_lost_147 (by decide) rfl (by decide) (fun x73003 => ?_)
        refine y_loc (lv' := [(8, .int x73003), (0, .ref 71), (1, .int v1), (2, .int v2), (3, .int v3), (4, .int v4), (5, .int v5), (6, .int v6), (7, .int v7), (9, .int v9), (10, .int v10)]) rfl ?_
        refine y_goto (tgt := 58) dX11_lost_150 (by decide) ?_
        refine y_sub [(0, .ref 71), (1, .int v1), (2, .int v2), (3, .int v3), (4, .int v4), (5, .int v5), (6, .int v6), (7, .int v7), (8, .int x73003)] [1, 2, 3, 4, 5, 6, 7, 8, 0] rfl ?_
        exact hK58 v1 v2 v3 v4 v5 v6 v7 x73003 w73002 
      · refine y_iload dX11_lost_124 9 rfl ?_
        refine y_iload_n dX11_lost_126 rfl 3 rfl ?_
        refine y_icmp_ne (tgt := 147) dX11_lost_127 (by decide) ?_ ?_
        · refine z_iinc (j := 8) dX11_lost_147 (by decide) rfl (by decide) (fun x73004 => ?_)
          refine y_loc (lv' := [(8, .int x73004), (0, .ref 71), (1, .int v1), (2, .int v2), (3, .int v3), (4, .int v4), (5, .int v5), (6, .int v6), (7, .int v7), (9, .int v9), (10, .int v10)]) rfl ?_
          refine y_goto (tgt := 58) dX11_lost_150 (by decide) ?_
          refine y_sub [(0, .ref 71), (1, .int v1), (2, .int v2), (3, .int v3), (4, .int v4), (5, .int v5), (6, .int v6), (7, .int v7), (8, .int x73004)] [1, 2, 3, 4, 5, 6, 7, 8, 0] rfl ?_
          exact hK58 v1 v2 v3 v4 v5 v6 v7 x73004 w73002 
        · refine z_iinc (j := 5) dX11_lost_130 (by decide) rfl (by decide) (fun x73005 => ?_)
          refine y_loc (lv' := [(5, .int x73005), (0, .ref 71), (1, .int v1), (2, .int v2), (3, .int v3), (4, .int v4), (6, .int v6), (7, .int v7), (8, .int v8), (9, .int v9), (10, .int v10)]) rfl ?_
          refine y_iload dX11_lost_133 6 rfl ?_
          refine y_iload dX11_lost_135 8 rfl ?_
          refine y_iand dX11_lost_137 ?_
          refine y_let (fun x73006 => ?_)
          refine y_istore (lv' := [(6, .int x73006), (5, .int x73005), (0, .ref 71), (1, .int v1), (2, .int v2), (3, .int v3), (4, .int v4), (7, .int v7), (8, .int v8), (9, .int v9), (10, .int v10)]) dX11_lost_138 (by decide) rfl ?_
          refine y_iload dX11_lost_140 7 rfl ?_
          refine y_iload dX11_lost_142 8 rfl ?_
          refine y_ior dX11_lost_144 ?_
          refine y_let (fun x73007 => ?_)
          refine y_istore (lv' := [(7, .int x73007), (6, .int x73006), (5, .int x73005), (0, .ref 71), (1, .int v1), (2, .int v2), (3, .int v3), (4, .int v4), (8, .int v8), (9, .int v9), (10, .int v10)]) dX11_lost_145 (by decide) rfl ?_
          refine z_iinc (j := 8) dX11_lost_147 (by decide) rfl (by decide) (fun x73008 => ?_)
          refine y_loc (lv' := [(8, .int x73008), (7, .int x73007), (6, .int x73006), (5, .int x73005), (0, .ref 71), (1, .int v1), (2, .int v2), (3, .int v3), (4, .int v4), (9, .int v9), (10, .int v10)]) rfl ?_
          refine y_goto (tgt := 58) dX11_lost_150 (by decide) ?_
          refine y_sub [(0, .ref 71), (1, .int v1), (2, .int v2), (3, .int v3), (4, .int v4), (5, .int x73005), (6, .int x73006), (7, .int x73007), (8, .int x73008)] [4, 5, 6, 7, 8, 3, 2, 1, 0] rfl ?_
          exact hK58 v1 v2 v3 v4 x73005 x73006 x73007 x73008 w73002 
    · refine y_iload dX11_lost_82 9 rfl ?_
      refine y_iload dX11_lost_84 8 rfl ?_
      refine y_iload dX11_lost_86 10 rfl ?_
      refine y_ishr dX11_lost_88 ?_
      refine y_iconst (v := 1) dX11_lost_89 (by decide) ?_
      refine y_iand dX11_lost_90 ?_
      refine y_iconst (v := 1) dX11_lost_91 (by decide) ?_
      refine y_icmp_ne (tgt := 105) dX11_lost_92 (by decide) ?_ ?_
      · refine y_iconst (v := 0) dX11_lost_105 (by decide) ?_
        refine y_iadd dX11_lost_106 ?_
        refine y_let (fun x73009 => ?_)
        refine y_istore (lv' := [(9, .int x73009), (0, .ref 71), (1, .int v1), (2, .int v2), (3, .int v3), (4, .int v4), (5, .int v5), (6, .int v6), (7, .int v7), (8, .int v8), (10, .int v10)]) dX11_lost_107 (by decide) rfl ?_
        refine z_iinc (j := 10) dX11_lost_109 (by decide) rfl (by decide) (fun x73010 => ?_)
        refine y_loc (lv' := [(10, .int x73010), (9, .int x73009), (0, .ref 71), (1, .int v1), (2, .int v2), (3, .int v3), (4, .int v4), (5, .int v5), (6, .int v6), (7, .int v7), (8, .int v8)]) rfl ?_
        refine y_goto (tgt := 73) dX11_lost_112 (by decide) ?_
        refine y_sub [(0, .ref 71), (1, .int v1), (2, .int v2), (3, .int v3), (4, .int v4), (5, .int v5), (6, .int v6), (7, .int v7), (8, .int v8), (9, .int x73009), (10, .int x73010)] [2, 3, 4, 5, 6, 7, 8, 9, 10, 1, 0] rfl ?_
        exact ih v1 v2 v3 v4 v5 v6 v7 v8 x73009 x73010 w 
      · refine y_aload_n dX11_lost_95 rfl 0 rfl ?_
        refine y_iload dX11_lost_96 10 rfl ?_
        refine y_iload_n dX11_lost_98 rfl 1 rfl ?_
        refine y_callV (As := [.int v10, .int v1]) (d2 := d - 1) dX11_lost_99 kX11_211 (by omega) rfl rfl (Nat.le_of_ble_eq_true rfl) (xlt rfl hn) rfl rfl (p_X11_weighs hn (by omega)  _ _ _) (fun r73011 w73012 _ => ?_)
        refine y_goto (tgt := 106) dX11_lost_102 (by decide) ?_
        refine y_iadd dX11_lost_106 ?_
        refine y_let (fun x73013 => ?_)
        refine y_istore (lv' := [(9, .int x73013), (0, .ref 71), (1, .int v1), (2, .int v2), (3, .int v3), (4, .int v4), (5, .int v5), (6, .int v6), (7, .int v7), (8, .int v8), (10, .int v10)]) dX11_lost_107 (by decide) rfl ?_
        refine z_iinc (j := 10) dX11_lost_109 (by decide) rfl (by decide) (fun x73014 => ?_)
        refine y_loc (lv' := [(10, .int x73014), (9, .int x73013), (0, .ref 71), (1, .int v1), (2, .int v2), (3, .int v3), (4, .int v4), (5, .int v5), (6, .int v6), (7, .int v7), (8, .int v8)]) rfl ?_
        refine y_goto (tgt := 73) dX11_lost_112 (by decide) ?_
        refine y_sub [(0, .ref 71), (1, .int v1), (2, .int v2), (3, .int v3), (4, .int v4), (5, .int v5), (6, .int v6), (7, .int v7), (8, .int v8), (9, .int x73013), (10, .int x73014)] [2, 3, 4, 5, 6, 7, 8, 9, 10, 1, 0] rfl ?_
        exact ih v1 v2 v3 v4 v5 v6 v7 v8 x73013 x73014 w73012 
set_option maxRecDepth 20000 in
set_option maxHeartbeats 2000000 in
theorem p_X11_lost_L58 {G : xG} {d : Nat} {n t : Nat} (hn : 102 ≤ n) (hd : 2 ≤ d) : ∀ (fu : Nat) (v1 : Int32) (v2 : Int32) (v3 : Int32) (v4 : Int32) (v5 : Int32) (v6 : Int32) (v7 : Int32) (v8 : Int32) (w : xI), xC G m_X11_lost d 58 [(0, .ref 71), (1, .int v1), (2, .int v2), (3, .int v3), (4, .int v4), (5, .int v5), (6, .int v6), (7, .int v7), (8, .int v8)] [] (xFin n t) w (fun x : Int32 => some (Value.int x)) (xFin n t) (f_X11_lost_L58 fu v1 v2 v3 v4 v5 v6 v7 v8 w) := by
  intro fu
  induction fu with
  | zero => intro v1 v2 v3 v4 v5 v6 v7 v8 w; exact xC.none
  | succ fu ih =>
    intro v1 v2 v3 v4 v5 v6 v7 v8 w
    rw [f_X11_lost_L58]
    refine y_iload dX11_lost_58 8 rfl ?_
    refine y_aload_n dX11_lost_60 rfl 0 rfl ?_
    refine y_callV (As := []) (d2 := d - 1) dX11_lost_61 kX11_252 (by omega) rfl rfl (Nat.le_of_ble_eq_true rfl) (xlt rfl hn) rfl rfl (p_X11_allCarts hn (by omega)   _) (fun r58001 w58002 _ => ?_)
    refine y_icmp_gt (tgt := 153) dX11_lost_64 (by decide) ?_ ?_
    · refine y_iload dX11_lost_153 4 rfl ?_
      refine y_if_ne (tgt := 163) dX11_lost_155 (by decide) ?_ ?_
      · refine y_iload dX11_lost_163 4 rfl ?_
        refine y_iconst (v := 2) dX11_lost_165 (by decide) ?_
        refine y_icmp_ne (tgt := 174) dX11_lost_166 (by decide) ?_ ?_
        · refine y_iload dX11_lost_174 5 rfl ?_
          refine y_if_ne (tgt := 183) dX11_lost_176 (by decide) ?_ ?_
          · refine y_iload dX11_lost_183 6 rfl ?_
            exact y_ireturn dX11_lost_185 rfl rfl rfl
          · refine y_iconst (v := 0) dX11_lost_179 (by decide) ?_
            refine y_goto (tgt := 185) dX11_lost_180 (by decide) ?_
            exact y_ireturn dX11_lost_185 rfl rfl rfl
        · refine y_iload dX11_lost_169 7 rfl ?_
          refine y_goto (tgt := 185) dX11_lost_171 (by decide) ?_
          exact y_ireturn dX11_lost_185 rfl rfl rfl
      · refine y_iload dX11_lost_158 5 rfl ?_
        refine y_goto (tgt := 185) dX11_lost_160 (by decide) ?_
        exact y_ireturn dX11_lost_185 rfl rfl rfl
    · refine y_iconst (v := 0) dX11_lost_67 (by decide) ?_
      refine y_istore (lv' := [(9, .int (0 : Int32)), (0, .ref 71), (1, .int v1), (2, .int v2), (3, .int v3), (4, .int v4), (5, .int v5), (6, .int v6), (7, .int v7), (8, .int v8)]) dX11_lost_68 (by decide) rfl ?_
      refine y_iconst (v := 0) dX11_lost_70 (by decide) ?_
      refine y_istore (lv' := [(10, .int (0 : Int32)), (9, .int (0 : Int32)), (0, .ref 71), (1, .int v1), (2, .int v2), (3, .int v3), (4, .int v4), (5, .int v5), (6, .int v6), (7, .int v7), (8, .int v8)]) dX11_lost_71 (by decide) rfl ?_
      refine y_sub [(0, .ref 71), (1, .int v1), (2, .int v2), (3, .int v3), (4, .int v4), (5, .int v5), (6, .int v6), (7, .int v7), (8, .int v8), (9, .int (0 : Int32)), (10, .int (0 : Int32))] [2, 3, 4, 5, 6, 7, 8, 9, 10, 1, 0] rfl ?_
      refine p_X11_lost_L73 hn hd ?_ 2000 v1 v2 v3 v4 v5 v6 v7 v8 (0 : Int32) (0 : Int32) w58002 
      · intro v1_58003 v2_58003 v3_58003 v4_58003 v5_58003 v6_58003 v7_58003 v8_58003 w58003 
        exact ih v1_58003 v2_58003 v3_58003 v4_58003 v5_58003 v6_58003 v7_58003 v8_58003 w58003 
set_option maxRecDepth 20000 in
set_option maxHeartbeats 2000000 in
theorem p_X11_lost {G : xG} {d : Nat} {n t : Nat} (hn : 102 ≤ n) (hd : 2 ≤ d) (a1 : Int32) (a2 : Int32) (a3 : Int32) (a4 : Int32) (w : xI) : xMet G m_X11_lost d [.ref 71, .int a1, .int a2, .int a3, .int a4] (xFin n t) w (fun x : Int32 => some (Value.int x)) (xFin n t) (f_X11_lost a1 a2 a3 a4 w) := by
  refine xMet.of rfl (Nat.le_of_ble_eq_true rfl) ?_
  unfold f_X11_lost
  show xC G m_X11_lost d 0 [(0, .ref 71), (1, .int a1), (2, .int a2), (3, .int a3), (4, .int a4)] [] (xFin n t) w _ _ _
  refine y_iload_n dX11_lost_0 rfl 1 rfl ?_
  refine y_callS (As := [.int a1]) (d2 := d - 1) dX11_lost_1 kX11_208 (by omega) rfl rfl (Nat.le_of_ble_eq_true rfl) (p_X11_isHour hn (by omega)  _ _) (fun r1 w2 _ => ?_)
  refine y_if_ne (tgt := 10) dX11_lost_4 (by decide) ?_ ?_
  · refine y_iload_n dX11_lost_10 rfl 2 rfl ?_
    refine y_iconst (v := 0) dX11_lost_11 (by decide) ?_
    refine y_bipush (v := 10) dX11_lost_12 (by decide) ?_
    refine y_callS (As := [.int a2, .int (0 : Int32), .int (10 : Int32)]) (d2 := d - 1) dX11_lost_14 kX11_114 (by omega) rfl rfl (Nat.le_of_ble_eq_true rfl) (p_X11_in hn (by omega)  _ _ _ _) (fun r3 w4 _ => ?_)
    refine y_if_eq (tgt := 41) dX11_lost_17 (by decide) ?_ ?_
    · refine y_bipush (v := (-7)) dX11_lost_41 (by decide) ?_
      exact y_ireturn dX11_lost_43 rfl rfl rfl
    · refine y_iload_n dX11_lost_20 rfl 3 rfl ?_
      refine y_iconst (v := 0) dX11_lost_21 (by decide) ?_
      refine y_sipush (v := 9999) dX11_lost_22 (by decide) ?_
      refine y_callS (As := [.int a3, .int (0 : Int32), .int (9999 : Int32)]) (d2 := d - 1) dX11_lost_25 kX11_114 (by omega) rfl rfl (Nat.le_of_ble_eq_true rfl) (p_X11_in hn (by omega)  _ _ _ _) (fun r5 w6 _ => ?_)
      refine y_if_eq (tgt := 41) dX11_lost_28 (by decide) ?_ ?_
      · refine y_bipush (v := (-7)) dX11_lost_41 (by decide) ?_
        exact y_ireturn dX11_lost_43 rfl rfl rfl
      · refine y_iload dX11_lost_31 4 rfl ?_
        refine y_iconst (v := 0) dX11_lost_33 (by decide) ?_
        refine y_iconst (v := 2) dX11_lost_34 (by decide) ?_
        refine y_callS (As := [.int a4, .int (0 : Int32), .int (2 : Int32)]) (d2 := d - 1) dX11_lost_35 kX11_114 (by omega) rfl rfl (Nat.le_of_ble_eq_true rfl) (p_X11_in hn (by omega)  _ _ _ _) (fun r7 w8 _ => ?_)
        refine y_if_ne (tgt := 44) dX11_lost_38 (by decide) ?_ ?_
        · refine y_iconst (v := 0) dX11_lost_44 (by decide) ?_
          refine y_istore (lv' := [(5, .int (0 : Int32)), (0, .ref 71), (1, .int a1), (2, .int a2), (3, .int a3), (4, .int a4)]) dX11_lost_45 (by decide) rfl ?_
          refine y_sipush (v := 1023) dX11_lost_47 (by decide) ?_
          refine y_istore (lv' := [(6, .int (1023 : Int32)), (5, .int (0 : Int32)), (0, .ref 71), (1, .int a1), (2, .int a2), (3, .int a3), (4, .int a4)]) dX11_lost_50 (by decide) rfl ?_
          refine y_iconst (v := 0) dX11_lost_52 (by decide) ?_
          refine y_istore (lv' := [(7, .int (0 : Int32)), (6, .int (1023 : Int32)), (5, .int (0 : Int32)), (0, .ref 71), (1, .int a1), (2, .int a2), (3, .int a3), (4, .int a4)]) dX11_lost_53 (by decide) rfl ?_
          refine y_iconst (v := 0) dX11_lost_55 (by decide) ?_
          refine y_istore (lv' := [(8, .int (0 : Int32)), (7, .int (0 : Int32)), (6, .int (1023 : Int32)), (5, .int (0 : Int32)), (0, .ref 71), (1, .int a1), (2, .int a2), (3, .int a3), (4, .int a4)]) dX11_lost_56 (by decide) rfl ?_
          refine y_sub [(0, .ref 71), (1, .int a1), (2, .int a2), (3, .int a3), (4, .int a4), (5, .int (0 : Int32)), (6, .int (1023 : Int32)), (7, .int (0 : Int32)), (8, .int (0 : Int32))] [4, 5, 6, 7, 8, 3, 2, 1, 0] rfl ?_
          refine p_X11_lost_L58 hn hd 2000 a1 a2 a3 a4 (0 : Int32) (1023 : Int32) (0 : Int32) (0 : Int32) w8 
        · refine y_bipush (v := (-7)) dX11_lost_41 (by decide) ?_
          exact y_ireturn dX11_lost_43 rfl rfl rfl
  · refine y_bipush (v := (-5)) dX11_lost_7 (by decide) ?_
    exact y_ireturn dX11_lost_9 rfl rfl rfl
-- ===== X11_draws: WeighedGateModel.draws(I)V =====
set_option maxRecDepth 20000 in
set_option maxHeartbeats 2000000 in
theorem p_X11_draws_L85 {G : xG} {d : Nat} {n t : Nat} (hn : 102 ≤ n) (hd : 41 ≤ d) : ∀ (fu : Nat) (v4 : Int32) (w : xI), xC G m_X11_draws d 85 [(0, .ref 71), (4, .int v4)] [] (xFin n t) w (fun _ : Unit => none) (xFin n t) (f_X11_draws_L85 fu v4 w) := by
  intro fu
  induction fu with
  | zero => intro v4 w; exact xC.none
  | succ fu ih =>
    intro v4 w
    rw [f_X11_draws_L85]
    refine y_iload dX11_draws_85 1 rfl ?_
    refine y_bipush (v := 10) dX11_draws_87 (by decide) ?_
    refine y_icmp_ge (tgt := 112) dX11_draws_89 (by decide) ?_ ?_
    · exact y_return dX11_draws_112 rfl rfl
    · refine y_aload_n dX11_draws_92 rfl 0 rfl ?_
      refine y_getr (q := 79) dX11_draws_93 flX11_31 (xlt rfl hn) rfl rfl rfl ?_
      refine y_iload dX11_draws_96 1 rfl ?_
      refine y_aload_n dX11_draws_98 rfl 0 rfl ?_
      refine y_getr (q := 101) dX11_draws_99 flX11_101 (xlt rfl hn) rfl rfl rfl ?_
      refine y_iload dX11_draws_102 1 rfl ?_
      refine z_iald (v := (w 101 v4.toNatClampNeg)) dX11_draws_104 (xlt rfl hn) rfl rfl ?_
      refine y_iast dX11_draws_105 (xlt rfl hn) rfl ?_
      refine z_iinc (j := 1) dX11_draws_106 (by decide) rfl (by decide) (fun x85001 => ?_)
      refine y_loc (lv' := [(4, .int x85001), (0, .ref 71)]) rfl ?_
      refine y_goto (tgt := 85) dX11_draws_109 (by decide) ?_
      refine y_sub [(0, .ref 71), (4, .int x85001)] [1, 0] rfl ?_
      exact ih x85001 (xup w 79 v4.toNatClampNeg (w 101 v4.toNatClampNeg)) 
set_option maxRecDepth 20000 in
set_option maxHeartbeats 2000000 in
theorem p_X11_draws_L38 {G : xG} {d : Nat} {n t : Nat} (hn : 102 ≤ n) (hd : 41 ≤ d) : ∀ (fu : Nat) (v2 : Int64) (v4 : Int32) (w : xI), xC G m_X11_draws d 38 [(0, .ref 71), (2, .long v2), (4, .int v4)] [] (xFin n t) w (fun _ : Unit => none) (xFin n t) (f_X11_draws_L38 fu v2 v4 w) := by
  intro fu
  induction fu with
  | zero => intro v2 v4 w; exact xC.none
  | succ fu ih =>
    intro v2 v4 w
    rw [f_X11_draws_L38]
    refine y_iload dX11_draws_38 2 rfl ?_
    refine y_aload_n dX11_draws_40 rfl 0 rfl ?_
    refine z_geti (v := (w 71 3)) dX11_draws_41 flX11_111 (xlt rfl hn) rfl rfl rfl ?_
    refine y_icmp_ge (tgt := 76) dX11_draws_44 (by decide) ?_ ?_
    · refine y_aload_n dX11_draws_76 rfl 0 rfl ?_
      refine y_bipush (v := 10) dX11_draws_77 (by decide) ?_
      refine y_callV (As := [.int (10 : Int32)]) (d2 := d - 1) dX11_draws_79 kX11_303 (by omega) rfl rfl (Nat.le_of_ble_eq_true rfl) (xlt rfl hn) rfl rfl (p_X11_lives hn (by omega)  _ _) (fun r38001 w38002 _ => ?_)
      refine y_iconst (v := 0) dX11_draws_82 (by decide) ?_
      refine y_istore (lv' := [(4, .int (0 : Int32)), (0, .ref 71), (2, .long v2)]) dX11_draws_83 (by decide) rfl ?_
      refine y_sub [(0, .ref 71), (4, .int (0 : Int32))] [1, 0] rfl ?_
      refine p_X11_draws_L85 hn hd 2000 (0 : Int32) w38002 
    · refine y_lload_n dX11_draws_47 rfl 1 rfl ?_
      refine y_ldc2 (v := 48271) dX11_draws_48 q1448 ?_
      refine y_lmul dX11_draws_51 ?_
      refine y_ldc2 (v := 2147483647) dX11_draws_52 q1449 ?_
      refine y_lrem dX11_draws_55 (by decide) ?_
      refine y_letL (fun x38003 => ?_)
      refine y_lstore_n (lv' := [(2, .long x38003), (0, .ref 71), (4, .int v4)]) dX11_draws_56 rfl (by decide) rfl ?_
      refine y_aload_n dX11_draws_57 rfl 1 rfl ?_
      refine y_getr (q := 79) dX11_draws_58 flX11_31 (xlt rfl hn) rfl rfl rfl ?_
      refine y_iload dX11_draws_61 2 rfl ?_
      refine y_lload_n dX11_draws_63 rfl 0 rfl ?_
      refine y_ldc2 (v := 10) dX11_draws_64 q1450 ?_
      refine y_lrem dX11_draws_67 (by decide) ?_
      refine y_l2i dX11_draws_68 ?_
      refine y_iast dX11_draws_69 (xlt rfl hn) rfl ?_
      refine z_iinc (j := 2) dX11_draws_70 (by decide) rfl (by decide) (fun x38004 => ?_)
      refine y_loc (lv' := [(4, .int x38004), (2, .long x38003), (0, .ref 71)]) rfl ?_
      refine y_goto (tgt := 38) dX11_draws_73 (by decide) ?_
      refine y_sub [(0, .ref 71), (2, .long x38003), (4, .int x38004)] [2, 1, 0] rfl ?_
      exact ih x38003 x38004 (xup w 79 v4.toNatClampNeg ((x38003 - x38003 / (10 : Int64) * (10 : Int64)).toInt32)) 
set_option maxRecDepth 20000 in
set_option maxHeartbeats 2000000 in
theorem p_X11_draws_L8 {G : xG} {d : Nat} {n t : Nat} (hn : 102 ≤ n) (hd : 41 ≤ d) : ∀ (fu : Nat) (v2 : Int64) (v4 : Int32) (w : xI), xC G m_X11_draws d 8 [(0, .ref 71), (2, .long v2), (4, .int v4)] [] (xFin n t) w (fun _ : Unit => none) (xFin n t) (f_X11_draws_L8 fu v2 v4 w) := by
  intro fu
  induction fu with
  | zero => intro v2 v4 w; exact xC.none
  | succ fu ih =>
    intro v2 v4 w
    rw [f_X11_draws_L8]
    refine y_iload dX11_draws_8 2 rfl ?_
    refine y_bipush (v := 10) dX11_draws_10 (by decide) ?_
    refine y_icmp_ge (tgt := 35) dX11_draws_12 (by decide) ?_ ?_
    · refine y_iconst (v := 0) dX11_draws_35 (by decide) ?_
      refine y_istore (lv' := [(4, .int (0 : Int32)), (0, .ref 71), (2, .long v2)]) dX11_draws_36 (by decide) rfl ?_
      refine y_sub [(0, .ref 71), (2, .long v2), (4, .int (0 : Int32))] [1, 2, 0] rfl ?_
      refine p_X11_draws_L38 hn hd 2000 v2 (0 : Int32) w 
    · refine y_aload_n dX11_draws_15 rfl 0 rfl ?_
      refine y_getr (q := 101) dX11_draws_16 flX11_101 (xlt rfl hn) rfl rfl rfl ?_
      refine y_iload dX11_draws_19 2 rfl ?_
      refine y_aload_n dX11_draws_21 rfl 0 rfl ?_
      refine y_getr (q := 79) dX11_draws_22 flX11_31 (xlt rfl hn) rfl rfl rfl ?_
      refine y_iload dX11_draws_25 2 rfl ?_
      refine z_iald (v := (w 79 v4.toNatClampNeg)) dX11_draws_27 (xlt rfl hn) rfl rfl ?_
      refine y_iast dX11_draws_28 (xlt rfl hn) rfl ?_
      refine z_iinc (j := 2) dX11_draws_29 (by decide) rfl (by decide) (fun x8001 => ?_)
      refine y_loc (lv' := [(4, .int x8001), (0, .ref 71), (2, .long v2)]) rfl ?_
      refine y_goto (tgt := 8) dX11_draws_32 (by decide) ?_
      refine y_sub [(0, .ref 71), (2, .long v2), (4, .int x8001)] [1, 2, 0] rfl ?_
      exact ih v2 x8001 (xup w 101 v4.toNatClampNeg (w 79 v4.toNatClampNeg)) 
set_option maxRecDepth 20000 in
set_option maxHeartbeats 2000000 in
theorem p_X11_draws {G : xG} {d : Nat} {n t : Nat} (hn : 102 ≤ n) (hd : 41 ≤ d) (a1 : Int32) (w : xI) : xMet G m_X11_draws d [.ref 71, .int a1] (xFin n t) w (fun _ : Unit => none) (xFin n t) (f_X11_draws a1 w) := by
  refine xMet.of rfl (Nat.le_of_ble_eq_true rfl) ?_
  unfold f_X11_draws
  show xC G m_X11_draws d 0 [(0, .ref 71), (1, .int a1)] [] (xFin n t) w _ _ _
  refine y_iload_n dX11_draws_0 rfl 1 rfl ?_
  refine y_i2l dX11_draws_1 ?_
  refine y_lconst (v := 1) dX11_draws_2 (by decide) ?_
  refine y_ladd dX11_draws_3 ?_
  refine y_letL (fun x1 => ?_)
  refine y_lstore_n (lv' := [(2, .long x1), (0, .ref 71), (1, .int a1)]) dX11_draws_4 rfl (by decide) rfl ?_
  refine y_iconst (v := 0) dX11_draws_5 (by decide) ?_
  refine y_istore (lv' := [(4, .int (0 : Int32)), (2, .long x1), (0, .ref 71), (1, .int a1)]) dX11_draws_6 (by decide) rfl ?_
  refine y_sub [(0, .ref 71), (2, .long x1), (4, .int (0 : Int32))] [2, 1, 0] rfl ?_
  refine p_X11_draws_L8 hn hd 2000 x1 (0 : Int32) w 
-- ===== X11_drawn: WeighedGateModel.drawn(II)I =====
set_option maxRecDepth 20000 in
set_option maxHeartbeats 2000000 in
theorem p_X11_drawn {G : xG} {d : Nat} {n t : Nat} (hn : 102 ≤ n) (hd : 42 ≤ d) (a1 : Int32) (a2 : Int32) (w : xI) : xMet G m_X11_drawn d [.ref 71, .int a1, .int a2] (xFin n t) w (fun x : Int32 => some (Value.int x)) (xFin n t) (f_X11_drawn a1 a2 w) := by
  refine xMet.of rfl (Nat.le_of_ble_eq_true rfl) ?_
  unfold f_X11_drawn
  show xC G m_X11_drawn d 0 [(0, .ref 71), (1, .int a1), (2, .int a2)] [] (xFin n t) w _ _ _
  refine y_iload_n dX11_drawn_0 rfl 1 rfl ?_
  refine y_iconst (v := 0) dX11_drawn_1 (by decide) ?_
  refine y_ldcw (v := 99999) dX11_drawn_2 q1443 ?_
  refine y_callS (As := [.int a1, .int (0 : Int32), .int (99999 : Int32)]) (d2 := d - 1) dX11_drawn_5 kX11_114 (by omega) rfl rfl (Nat.le_of_ble_eq_true rfl) (p_X11_in hn (by omega)  _ _ _ _) (fun r1 w2 _ => ?_)
  refine y_if_eq (tgt := 20) dX11_drawn_8 (by decide) ?_ ?_
  · refine y_bipush (v := (-2)) dX11_drawn_20 (by decide) ?_
    exact y_ireturn dX11_drawn_22 rfl rfl rfl
  · refine y_iload_n dX11_drawn_11 rfl 2 rfl ?_
    refine y_iconst (v := 0) dX11_drawn_12 (by decide) ?_
    refine y_iconst (v := 1) dX11_drawn_13 (by decide) ?_
    refine y_callS (As := [.int a2, .int (0 : Int32), .int (1 : Int32)]) (d2 := d - 1) dX11_drawn_14 kX11_114 (by omega) rfl rfl (Nat.le_of_ble_eq_true rfl) (p_X11_in hn (by omega)  _ _ _ _) (fun r3 w4 _ => ?_)
    refine y_if_ne (tgt := 23) dX11_drawn_17 (by decide) ?_ ?_
    · refine y_aload_n dX11_drawn_23 rfl 0 rfl ?_
      refine y_iload_n dX11_drawn_24 rfl 1 rfl ?_
      refine y_callV (As := [.int a1]) (d2 := d - 1) dX11_drawn_25 kX11_329 (by omega) rfl rfl (Nat.le_of_ble_eq_true rfl) (xlt rfl hn) rfl rfl (p_X11_draws hn (by omega)  _ _) (fun r5 w6 _ => ?_)
      refine y_iload_n dX11_drawn_28 rfl 2 rfl ?_
      refine y_if_ne (tgt := 39) dX11_drawn_29 (by decide) ?_ ?_
      · refine y_aload_n dX11_drawn_39 rfl 0 rfl ?_
        refine z_geti (v := (w6 71 55)) dX11_drawn_40 flX11_291 (xlt rfl hn) rfl rfl rfl ?_
        exact y_ireturn dX11_drawn_43 rfl rfl rfl
      · refine y_aload_n dX11_drawn_32 rfl 0 rfl ?_
        refine z_geti (v := (w6 71 56)) dX11_drawn_33 flX11_294 (xlt rfl hn) rfl rfl rfl ?_
        refine y_goto (tgt := 43) dX11_drawn_36 (by decide) ?_
        exact y_ireturn dX11_drawn_43 rfl rfl rfl
    · refine y_bipush (v := (-2)) dX11_drawn_20 (by decide) ?_
      exact y_ireturn dX11_drawn_22 rfl rfl rfl
-- ===== X11_lowest: WeighedGateModel.lowest(JJI)J =====
set_option maxRecDepth 20000 in
set_option maxHeartbeats 2000000 in
theorem p_X11_lowest_L16 {G : xG} {d : Nat} {n t : Nat} (hn : 102 ≤ n) (hd : 0 ≤ d) : ∀ (fu : Nat) (v0 : Int64) (v2 : Int64) (v4 : Int32) (v5 : Int64) (v7 : Int64) (w : xI), xC G m_X11_lowest d 16 [(0, .long v0), (2, .long v2), (4, .int v4), (5, .long v5), (7, .long v7)] [] (xFin n t) w (fun x : Int64 => some (Value.long x)) (xFin n t) (f_X11_lowest_L16 fu v0 v2 v4 v5 v7 w) := by
  intro fu
  induction fu with
  | zero => intro v0 v2 v4 v5 v7 w; exact xC.none
  | succ fu ih =>
    intro v0 v2 v4 v5 v7 w
    rw [f_X11_lowest_L16]
    refine y_lload dX11_lowest_16 4 rfl ?_
    refine y_lconst (v := 0) dX11_lowest_18 (by decide) ?_
    refine y_lcmp dX11_lowest_19 ?_
    refine y_if_eq (tgt := 41) dX11_lowest_20 (by decide) ?_ ?_
    · refine y_iload dX11_lowest_41 2 rfl ?_
      refine y_if_ne (tgt := 50) dX11_lowest_43 (by decide) ?_ ?_
      · refine y_lload_n dX11_lowest_50 rfl 1 rfl ?_
        refine y_lload dX11_lowest_51 3 rfl ?_
        refine xC.chk (fun hz16001 => ?_)
        refine y_ldiv dX11_lowest_53 (of_decide_eq_true hz16001) ?_
        exact y_lreturn dX11_lowest_54 rfl rfl
      · refine y_lload_n dX11_lowest_46 rfl 0 rfl ?_
        refine y_goto (tgt := 51) dX11_lowest_47 (by decide) ?_
        refine y_lload dX11_lowest_51 3 rfl ?_
        refine xC.chk (fun hz16002 => ?_)
        refine y_ldiv dX11_lowest_53 (of_decide_eq_true hz16002) ?_
        exact y_lreturn dX11_lowest_54 rfl rfl
    · refine y_lload dX11_lowest_23 3 rfl ?_
      refine y_lload dX11_lowest_25 4 rfl ?_
      refine xC.chk (fun hz16003 => ?_)
      refine y_lrem dX11_lowest_27 (of_decide_eq_true hz16003) ?_
      refine y_letL (fun x16004 => ?_)
      refine y_lstore (lv' := [(9, .long x16004), (0, .long v0), (2, .long v2), (4, .int v4), (5, .long v5), (7, .long v7)]) dX11_lowest_28 (by decide) rfl ?_
      refine y_lload dX11_lowest_30 5 rfl ?_
      refine y_lstore (lv' := [(5, .long v7), (9, .long x16004), (0, .long v0), (2, .long v2), (4, .int v4), (7, .long v7)]) dX11_lowest_32 (by decide) rfl ?_
      refine y_lload dX11_lowest_34 1 rfl ?_
      refine y_lstore (lv' := [(7, .long x16004), (5, .long v7), (9, .long x16004), (0, .long v0), (2, .long v2), (4, .int v4)]) dX11_lowest_36 (by decide) rfl ?_
      refine y_goto (tgt := 16) dX11_lowest_38 (by decide) ?_
      refine y_sub [(0, .long v0), (2, .long v2), (4, .int v4), (5, .long v7), (7, .long x16004)] [3, 4, 5, 1, 0] rfl ?_
      exact ih v0 v2 v4 v7 x16004 w 
set_option maxRecDepth 20000 in
set_option maxHeartbeats 2000000 in
theorem p_X11_lowest {G : xG} {d : Nat} {n t : Nat} (hn : 102 ≤ n) (hd : 0 ≤ d) (a1 : Int64) (a2 : Int64) (a3 : Int32) (w : xI) : xMet G m_X11_lowest d [.long a1, .long a2, .int a3] (xFin n t) w (fun x : Int64 => some (Value.long x)) (xFin n t) (f_X11_lowest a1 a2 a3 w) := by
  refine xMet.of rfl (Nat.le_of_ble_eq_true rfl) ?_
  unfold f_X11_lowest
  show xC G m_X11_lowest d 0 [(0, .long a1), (2, .long a2), (4, .int a3)] [] (xFin n t) w _ _ _
  refine y_lload_n dX11_lowest_0 rfl 0 rfl ?_
  refine y_lconst (v := 0) dX11_lowest_1 (by decide) ?_
  refine y_lcmp dX11_lowest_2 ?_
  refine y_if_ne (tgt := 10) dX11_lowest_3 (by decide) ?_ ?_
  · refine y_lload_n dX11_lowest_10 rfl 0 rfl ?_
    refine y_lstore (lv' := [(5, .long a1), (0, .long a1), (2, .long a2), (4, .int a3)]) dX11_lowest_11 (by decide) rfl ?_
    refine y_lload_n dX11_lowest_13 rfl 2 rfl ?_
    refine y_lstore (lv' := [(7, .long a2), (5, .long a1), (0, .long a1), (2, .long a2), (4, .int a3)]) dX11_lowest_14 (by decide) rfl ?_
    refine y_sub [(0, .long a1), (2, .long a2), (4, .int a3), (5, .long a1), (7, .long a2)] [2, 3, 4, 1, 0] rfl ?_
    refine p_X11_lowest_L16 hn hd 2000 a1 a2 a3 a1 a2 w 
  · refine y_iload dX11_lowest_6 2 rfl ?_
    refine y_i2l dX11_lowest_8 ?_
    exact y_lreturn dX11_lowest_9 rfl rfl
