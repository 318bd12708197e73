-- ===== X10_lost: WeighedGate.lost(IIII)I =====
set_option maxRecDepth 20000 in
set_option maxHeartbeats 2000000 in
theorem p_X10_lost_L77 {G : xG} {d : Nat} {n t : Nat} (hn : 71 ≤ n) (hd : 4 ≤ d) : ∀ (fu : Nat) (v2 : Int32) (v3 : Int32) (v4 : Int32) (v5 : Int32) (v6 : Int32) (v7 : Int32) (v8 : Int32) (w : xI), xC G m_X10_lost d 77 [(0, .ref 0), (2, .int v2), (3, .int v3), (4, .int v4), (5, .int v5), (6, .int v6), (7, .int v7), (8, .int v8)] [] (xFin n t) w (fun x : Int32 => some (Value.int x)) (xFin n t) (f_X10_lost_L77 fu v2 v3 v4 v5 v6 v7 v8 w) := by
  intro fu
  induction fu with
  | zero => intro v2 v3 v4 v5 v6 v7 v8 w; exact xC.none
  | succ fu ih =>
    intro v2 v3 v4 v5 v6 v7 v8 w
    rw [f_X10_lost_L77]
    refine y_iload dX10_lost_77 7 rfl ?_
    refine y_aload_n dX10_lost_79 rfl 0 rfl ?_
    refine y_getr (q := 5) dX10_lost_80 flX10_19 (xlt rfl hn) rfl rfl rfl ?_
    refine y_callV (As := []) (d2 := d - 1) dX10_lost_83 kX10_318 (by omega) rfl rfl (Nat.le_of_ble_eq_true rfl) (xlt rfl hn) rfl rfl (p_X9_all hn (by omega)   _) (fun r77001 w77002 _ => ?_)
    refine y_icmp_gt (tgt := 134) dX10_lost_86 (by decide) ?_ ?_
    · refine y_iload dX10_lost_134 3 rfl ?_
      refine y_if_ne (tgt := 142) dX10_lost_136 (by decide) ?_ ?_
      · refine y_iload dX10_lost_142 3 rfl ?_
        refine y_iconst (v := 1) dX10_lost_144 (by decide) ?_
        refine y_icmp_ne (tgt := 158) dX10_lost_145 (by decide) ?_ ?_
        · refine y_iload dX10_lost_158 6 rfl ?_
          exact y_ireturn dX10_lost_160 rfl rfl rfl
        · refine y_iload dX10_lost_148 4 rfl ?_
          refine y_if_le (tgt := 158) dX10_lost_150 (by decide) ?_ ?_
          · refine y_iload dX10_lost_158 6 rfl ?_
            exact y_ireturn dX10_lost_160 rfl rfl rfl
          · refine y_iload dX10_lost_153 5 rfl ?_
            refine y_goto (tgt := 160) dX10_lost_155 (by decide) ?_
            exact y_ireturn dX10_lost_160 rfl rfl rfl
      · refine y_iload dX10_lost_139 4 rfl ?_
        exact y_ireturn dX10_lost_141 rfl rfl rfl
    · refine y_iload dX10_lost_89 7 rfl ?_
      refine y_callS (As := [.int v8]) (d2 := d - 1) dX10_lost_91 kX10_321 (by omega) rfl rfl (Nat.le_of_ble_eq_true rfl) (p_J6_bitCount_0f7a4 hn (by omega)  _ _) (fun r77003 w77004 _ => ?_)
      refine y_iload_n dX10_lost_94 rfl 1 rfl ?_
      refine y_icmp_ne (tgt := 128) dX10_lost_95 (by decide) ?_ ?_
      · refine z_iinc (j := 7) dX10_lost_128 (by decide) rfl (by decide) (fun x77005 => ?_)
        refine y_loc (lv' := [(8, .int x77005), (0, .ref 0), (2, .int v2), (3, .int v3), (4, .int v4), (5, .int v5), (6, .int v6), (7, .int v7)]) rfl ?_
        refine y_goto (tgt := 77) dX10_lost_131 (by decide) ?_
        refine y_sub [(0, .ref 0), (2, .int v2), (3, .int v3), (4, .int v4), (5, .int v5), (6, .int v6), (7, .int v7), (8, .int x77005)] [1, 2, 3, 4, 5, 6, 7, 0] rfl ?_
        exact ih v2 v3 v4 v5 v6 v7 x77005 w77004 
      · refine y_aload_n dX10_lost_98 rfl 0 rfl ?_
        refine y_getr (q := 21) dX10_lost_99 flX10_41 (xlt rfl hn) rfl rfl rfl ?_
        refine y_iload dX10_lost_102 7 rfl ?_
        refine y_callV (As := [.int v8]) (d2 := d - 1) dX10_lost_104 kX10_326 (by omega) rfl rfl (Nat.le_of_ble_eq_true rfl) (xlt rfl hn) rfl rfl (p_X8_weightOf hn (by omega)  _ _) (fun r77006 w77007 _ => ?_)
        refine y_iload_n dX10_lost_107 rfl 2 rfl ?_
        refine y_icmp_ne (tgt := 128) dX10_lost_108 (by decide) ?_ ?_
        · refine z_iinc (j := 7) dX10_lost_128 (by decide) rfl (by decide) (fun x77008 => ?_)
          refine y_loc (lv' := [(8, .int x77008), (0, .ref 0), (2, .int v2), (3, .int v3), (4, .int v4), (5, .int v5), (6, .int v6), (7, .int v7)]) rfl ?_
          refine y_goto (tgt := 77) dX10_lost_131 (by decide) ?_
          refine y_sub [(0, .ref 0), (2, .int v2), (3, .int v3), (4, .int v4), (5, .int v5), (6, .int v6), (7, .int v7), (8, .int x77008)] [1, 2, 3, 4, 5, 6, 7, 0] rfl ?_
          exact ih v2 v3 v4 v5 v6 v7 x77008 w77007 
        · refine z_iinc (j := 4) dX10_lost_111 (by decide) rfl (by decide) (fun x77009 => ?_)
          refine y_loc (lv' := [(5, .int x77009), (0, .ref 0), (2, .int v2), (3, .int v3), (4, .int v4), (6, .int v6), (7, .int v7), (8, .int v8)]) rfl ?_
          refine y_iload dX10_lost_114 5 rfl ?_
          refine y_iload dX10_lost_116 7 rfl ?_
          refine y_iand dX10_lost_118 ?_
          refine y_let (fun x77010 => ?_)
          refine y_istore (lv' := [(6, .int x77010), (5, .int x77009), (0, .ref 0), (2, .int v2), (3, .int v3), (4, .int v4), (7, .int v7), (8, .int v8)]) dX10_lost_119 (by decide) rfl ?_
          refine y_iload dX10_lost_121 6 rfl ?_
          refine y_iload dX10_lost_123 7 rfl ?_
          refine y_ior dX10_lost_125 ?_
          refine y_let (fun x77011 => ?_)
          refine y_istore (lv' := [(7, .int x77011), (6, .int x77010), (5, .int x77009), (0, .ref 0), (2, .int v2), (3, .int v3), (4, .int v4), (8, .int v8)]) dX10_lost_126 (by decide) rfl ?_
          refine z_iinc (j := 7) dX10_lost_128 (by decide) rfl (by decide) (fun x77012 => ?_)
          refine y_loc (lv' := [(8, .int x77012), (7, .int x77011), (6, .int x77010), (5, .int x77009), (0, .ref 0), (2, .int v2), (3, .int v3), (4, .int v4)]) rfl ?_
          refine y_goto (tgt := 77) dX10_lost_131 (by decide) ?_
          refine y_sub [(0, .ref 0), (2, .int v2), (3, .int v3), (4, .int v4), (5, .int x77009), (6, .int x77010), (7, .int x77011), (8, .int x77012)] [4, 5, 6, 7, 3, 2, 1, 0] rfl ?_
          exact ih v2 v3 v4 x77009 x77010 x77011 x77012 w77007 
set_option maxRecDepth 20000 in
set_option maxHeartbeats 2000000 in
theorem p_X10_lost {G : xG} {d : Nat} {n t : Nat} (hn : 71 ≤ n) (hd : 4 ≤ d) (a1 : Int32) (a2 : Int32) (a3 : Int32) (a4 : Int32) (w : xI) : xMet G m_X10_lost d [.ref 0, .int a1, .int a2, .int a3, .int a4] (xFin n t) w (fun x : Int32 => some (Value.int x)) (xFin n t) (f_X10_lost a1 a2 a3 a4 w) := by
  refine xMet.of rfl (Nat.le_of_ble_eq_true rfl) ?_
  unfold f_X10_lost
  show xC G m_X10_lost d 0 [(0, .ref 0), (1, .int a1), (2, .int a2), (3, .int a3), (4, .int a4)] [] (xFin n t) w _ _ _
  refine y_iload_n dX10_lost_0 rfl 1 rfl ?_
  refine y_callS (As := [.int a1]) (d2 := d - 1) dX10_lost_1 kX10_167 (by omega) rfl rfl (Nat.le_of_ble_eq_true rfl) (p_X10_isHour hn (by omega)  _ _) (fun r1 w2 _ => ?_)
  refine y_if_ne (tgt := 10) dX10_lost_4 (by decide) ?_ ?_
  · refine y_iload_n dX10_lost_10 rfl 2 rfl ?_
    refine y_iconst (v := 0) dX10_lost_11 (by decide) ?_
    refine y_bipush (v := 10) dX10_lost_12 (by decide) ?_
    refine y_callS (As := [.int a2, .int (0 : Int32), .int (10 : Int32)]) (d2 := d - 1) dX10_lost_14 kX10_104 (by omega) rfl rfl (Nat.le_of_ble_eq_true rfl) (p_X10_within hn (by omega)  _ _ _ _) (fun r3 w4 _ => ?_)
    refine y_if_eq (tgt := 41) dX10_lost_17 (by decide) ?_ ?_
    · refine y_bipush (v := (-7)) dX10_lost_41 (by decide) ?_
      exact y_ireturn dX10_lost_43 rfl rfl rfl
    · refine y_iload_n dX10_lost_20 rfl 3 rfl ?_
      refine y_iconst (v := 0) dX10_lost_21 (by decide) ?_
      refine y_sipush (v := 9999) dX10_lost_22 (by decide) ?_
      refine y_callS (As := [.int a3, .int (0 : Int32), .int (9999 : Int32)]) (d2 := d - 1) dX10_lost_25 kX10_104 (by omega) rfl rfl (Nat.le_of_ble_eq_true rfl) (p_X10_within hn (by omega)  _ _ _ _) (fun r5 w6 _ => ?_)
      refine y_if_eq (tgt := 41) dX10_lost_28 (by decide) ?_ ?_
      · refine y_bipush (v := (-7)) dX10_lost_41 (by decide) ?_
        exact y_ireturn dX10_lost_43 rfl rfl rfl
      · refine y_iload dX10_lost_31 4 rfl ?_
        refine y_iconst (v := 0) dX10_lost_33 (by decide) ?_
        refine y_iconst (v := 2) dX10_lost_34 (by decide) ?_
        refine y_callS (As := [.int a4, .int (0 : Int32), .int (2 : Int32)]) (d2 := d - 1) dX10_lost_35 kX10_104 (by omega) rfl rfl (Nat.le_of_ble_eq_true rfl) (p_X10_within hn (by omega)  _ _ _ _) (fun r7 w8 _ => ?_)
        refine y_if_ne (tgt := 44) dX10_lost_38 (by decide) ?_ ?_
        · refine y_aload_n dX10_lost_44 rfl 0 rfl ?_
          refine y_getr (q := 21) dX10_lost_45 flX10_41 (xlt rfl hn) rfl rfl rfl ?_
          refine y_iload_n dX10_lost_48 rfl 1 rfl ?_
          refine y_aload_n dX10_lost_49 rfl 0 rfl ?_
          refine y_getr (q := 5) dX10_lost_50 flX10_19 (xlt rfl hn) rfl rfl rfl ?_
          refine y_getr (q := 7) dX10_lost_53 flX10_161 (xlt rfl hn) rfl rfl rfl ?_
          refine y_callV (As := [.int a1, .ref 7]) (d2 := d - 1) dX10_lost_56 kX10_203 (by omega) rfl rfl (Nat.le_of_ble_eq_true rfl) (xlt rfl hn) rfl rfl (p_X8_prepare hn (by omega) (okA_c (by decide) rfl) _ _) (fun r9 w10 _ => ?_)
          refine y_iconst (v := 0) dX10_lost_59 (by decide) ?_
          refine y_istore (lv' := [(5, .int (0 : Int32)), (0, .ref 0), (1, .int a1), (2, .int a2), (3, .int a3), (4, .int a4)]) dX10_lost_60 (by decide) rfl ?_
          refine y_aload_n dX10_lost_62 rfl 1 rfl ?_
          refine y_getr (q := 5) dX10_lost_63 flX10_19 (xlt rfl hn) rfl rfl rfl ?_
          refine y_callV (As := []) (d2 := d - 1) dX10_lost_66 kX10_318 (by omega) rfl rfl (Nat.le_of_ble_eq_true rfl) (xlt rfl hn) rfl rfl (p_X9_all hn (by omega)   _) (fun r11 w12 _ => ?_)
          refine y_istore (lv' := [(6, .int r11), (5, .int (0 : Int32)), (0, .ref 0), (1, .int a1), (2, .int a2), (3, .int a3), (4, .int a4)]) dX10_lost_69 (by decide) rfl ?_
          refine y_iconst (v := 0) dX10_lost_71 (by decide) ?_
          refine y_istore (lv' := [(7, .int (0 : Int32)), (6, .int r11), (5, .int (0 : Int32)), (0, .ref 0), (1, .int a1), (2, .int a2), (3, .int a3), (4, .int a4)]) dX10_lost_72 (by decide) rfl ?_
          refine y_iconst (v := 0) dX10_lost_74 (by decide) ?_
          refine y_istore (lv' := [(8, .int (0 : Int32)), (7, .int (0 : Int32)), (6, .int r11), (5, .int (0 : Int32)), (0, .ref 0), (1, .int a1), (2, .int a2), (3, .int a3), (4, .int a4)]) dX10_lost_75 (by decide) rfl ?_
          refine y_sub [(0, .ref 0), (2, .int a2), (3, .int a3), (4, .int a4), (5, .int (0 : Int32)), (6, .int r11), (7, .int (0 : Int32)), (8, .int (0 : Int32))] [4, 6, 7, 8, 3, 2, 1, 0] rfl ?_
          refine p_X10_lost_L77 hn hd 2000 a2 a3 a4 (0 : Int32) r11 (0 : Int32) (0 : Int32) w12 
        · refine y_bipush (v := (-7)) dX10_lost_41 (by decide) ?_
          exact y_ireturn dX10_lost_43 rfl rfl rfl
  · refine y_bipush (v := (-5)) dX10_lost_7 (by decide) ?_
    exact y_ireturn dX10_lost_9 rfl rfl rfl
-- ===== X10_isSeed: WeighedGate.isSeed(I)Z =====
set_option maxRecDepth 20000 in
set_option maxHeartbeats 2000000 in
theorem p_X10_isSeed {G : xG} {d : Nat} {n t : Nat} (hn : 71 ≤ n) (hd : 1 ≤ d) (a1 : Int32) (w : xI) : xMet G m_X10_isSeed d [.int a1] (xFin n t) w (fun x : Int32 => some (Value.int x)) (xFin n t) (f_X10_isSeed a1 w) := by
  refine xMet.of rfl (Nat.le_of_ble_eq_true rfl) ?_
  unfold f_X10_isSeed
  show xC G m_X10_isSeed d 0 [(0, .int a1)] [] (xFin n t) w _ _ _
  refine y_iload_n dX10_isSeed_0 rfl 0 rfl ?_
  refine y_iconst (v := 0) dX10_isSeed_1 (by decide) ?_
  refine y_ldcw (v := 99999) dX10_isSeed_2 q906 ?_
  refine y_callS (As := [.int a1, .int (0 : Int32), .int (99999 : Int32)]) (d2 := d - 1) dX10_isSeed_5 kX10_104 (by omega) rfl rfl (Nat.le_of_ble_eq_true rfl) (p_X10_within hn (by omega)  _ _ _ _) (fun r1 w2 _ => ?_)
  exact y_zreturn dX10_isSeed_8 rfl rfl
-- ===== X10_runDrawn: WeighedGate.runDrawn(I)V =====
set_option maxRecDepth 20000 in
set_option maxHeartbeats 2000000 in
theorem p_X10_runDrawn {G : xG} {d : Nat} {n t : Nat} (hn : 71 ≤ n) (hd : 5 ≤ d) (a1 : Int32) (w : xI) : xMet G m_X10_runDrawn d [.ref 0, .int a1] (xFin n t) w (fun _ : Unit => none) (xFin n t) (f_X10_runDrawn a1 w) := by
  refine xMet.of rfl (Nat.le_of_ble_eq_true rfl) ?_
  unfold f_X10_runDrawn
  show xC G m_X10_runDrawn d 0 [(0, .ref 0), (1, .int a1)] [] (xFin n t) w _ _ _
  refine y_aload_n dX10_runDrawn_0 rfl 0 rfl ?_
  refine y_getr (q := 28) dX10_runDrawn_1 flX10_57 (xlt rfl hn) rfl rfl rfl ?_
  refine y_iload_n dX10_runDrawn_4 rfl 1 rfl ?_
  refine y_callV (As := [.int a1]) (d2 := d - 1) dX10_runDrawn_5 kX10_377 (by omega) rfl rfl (Nat.le_of_ble_eq_true rfl) (xlt rfl hn) rfl rfl (p_X1_drawComes hn (by omega)  _ _) (fun r1 w2 _ => ?_)
  refine y_aload_n dX10_runDrawn_8 rfl 0 rfl ?_
  refine y_getr (q := 28) dX10_runDrawn_9 flX10_57 (xlt rfl hn) rfl rfl rfl ?_
  refine y_bipush (v := 10) dX10_runDrawn_12 (by decide) ?_
  refine y_iconst (v := (-1)) dX10_runDrawn_14 (by decide) ?_
  refine y_sipush (v := 1023) dX10_runDrawn_15 (by decide) ?_
  refine y_aload_n dX10_runDrawn_18 rfl 0 rfl ?_
  refine y_callV (As := []) (d2 := d - 1) dX10_runDrawn_19 kX10_132 (by omega) rfl rfl (Nat.le_of_ble_eq_true rfl) (xlt rfl hn) rfl rfl (p_X10_law hn (by omega)   _) (fun r3 w4 _ => ?_)
  refine xC.chk (fun hz5 => ?_)
  have hok6 : okT r3 := isTxN_ok hz5
  refine y_callV (As := [.int (10 : Int32), .int (-1 : Int32), .int (1023 : Int32), .ref r3]) (d2 := d - 1) dX10_runDrawn_22 kX10_255 (by omega) rfl rfl (Nat.le_of_ble_eq_true rfl) (xlt rfl hn) rfl rfl (p_X1_run hn (by omega) hok6 _ _ _ _) (fun r7 w8 _ => ?_)
  exact y_return dX10_runDrawn_25 rfl rfl
-- ===== X10_drawn: WeighedGate.drawn(II)I =====
set_option maxRecDepth 20000 in
set_option maxHeartbeats 2000000 in
theorem p_X10_drawn {G : xG} {d : Nat} {n t : Nat} (hn : 71 ≤ n) (hd : 6 ≤ d) (a1 : Int32) (a2 : Int32) (w : xI) : xMet G m_X10_drawn d [.ref 0, .int a1, .int a2] (xFin n t) w (fun x : Int32 => some (Value.int x)) (xFin n t) (f_X10_drawn a1 a2 w) := by
  refine xMet.of rfl (Nat.le_of_ble_eq_true rfl) ?_
  unfold f_X10_drawn
  show xC G m_X10_drawn d 0 [(0, .ref 0), (1, .int a1), (2, .int a2)] [] (xFin n t) w _ _ _
  refine y_iload_n dX10_drawn_0 rfl 1 rfl ?_
  refine y_callS (As := [.int a1]) (d2 := d - 1) dX10_drawn_1 kX10_329 (by omega) rfl rfl (Nat.le_of_ble_eq_true rfl) (p_X10_isSeed hn (by omega)  _ _) (fun r1 w2 _ => ?_)
  refine y_if_eq (tgt := 16) dX10_drawn_4 (by decide) ?_ ?_
  · refine y_bipush (v := (-2)) dX10_drawn_16 (by decide) ?_
    exact y_ireturn dX10_drawn_18 rfl rfl rfl
  · refine y_iload_n dX10_drawn_7 rfl 2 rfl ?_
    refine y_iconst (v := 0) dX10_drawn_8 (by decide) ?_
    refine y_iconst (v := 1) dX10_drawn_9 (by decide) ?_
    refine y_callS (As := [.int a2, .int (0 : Int32), .int (1 : Int32)]) (d2 := d - 1) dX10_drawn_10 kX10_104 (by omega) rfl rfl (Nat.le_of_ble_eq_true rfl) (p_X10_within hn (by omega)  _ _ _ _) (fun r3 w4 _ => ?_)
    refine y_if_ne (tgt := 19) dX10_drawn_13 (by decide) ?_ ?_
    · refine y_aload_n dX10_drawn_19 rfl 0 rfl ?_
      refine y_iload_n dX10_drawn_20 rfl 1 rfl ?_
      refine y_callV (As := [.int a1]) (d2 := d - 1) dX10_drawn_21 kX10_332 (by omega) rfl rfl (Nat.le_of_ble_eq_true rfl) (xlt rfl hn) rfl rfl (p_X10_runDrawn hn (by omega)  _ _) (fun r5 w6 _ => ?_)
      refine y_iload_n dX10_drawn_24 rfl 2 rfl ?_
      refine y_if_ne (tgt := 38) dX10_drawn_25 (by decide) ?_ ?_
      · refine y_aload_n dX10_drawn_38 rfl 0 rfl ?_
        refine y_getr (q := 28) dX10_drawn_39 flX10_57 (xlt rfl hn) rfl rfl rfl ?_
        refine z_geti (v := (w6 28 7)) dX10_drawn_42 flX10_262 (xlt rfl hn) rfl rfl rfl ?_
        exact y_ireturn dX10_drawn_45 rfl rfl rfl
      · refine y_aload_n dX10_drawn_28 rfl 0 rfl ?_
        refine y_getr (q := 28) dX10_drawn_29 flX10_57 (xlt rfl hn) rfl rfl rfl ?_
        refine z_geti (v := (w6 28 6)) dX10_drawn_32 flX10_259 (xlt rfl hn) rfl rfl rfl ?_
        refine y_goto (tgt := 45) dX10_drawn_35 (by decide) ?_
        exact y_ireturn dX10_drawn_45 rfl rfl rfl
    · refine y_bipush (v := (-2)) dX10_drawn_16 (by decide) ?_
      exact y_ireturn dX10_drawn_18 rfl rfl rfl
-- ===== X10_commonDivisor: WeighedGate.commonDivisor(II)I =====
set_option maxRecDepth 20000 in
set_option maxHeartbeats 2000000 in
theorem p_X10_commonDivisor_L2 {G : xG} {d : Nat} {n t : Nat} (hn : 71 ≤ n) (hd : 0 ≤ d) : ∀ (fu : Nat) (v0 : Int32) (v1 : Int32) (v2 : Int32) (w : xI), xC G m_X10_commonDivisor d 2 [(0, .int v0), (1, .int v1), (2, .int v2)] [] (xFin n t) w (fun x : Int32 => some (Value.int x)) (xFin n t) (f_X10_commonDivisor_L2 fu v0 v1 v2 w) := by
  intro fu
  induction fu with
  | zero => intro v0 v1 v2 w; exact xC.none
  | succ fu ih =>
    intro v0 v1 v2 w
    rw [f_X10_commonDivisor_L2]
    refine y_iload_n dX10_commonDivisor_2 rfl 2 rfl ?_
    refine y_iconst (v := 1) dX10_commonDivisor_3 (by decide) ?_
    refine y_icmp_le (tgt := 27) dX10_commonDivisor_4 (by decide) ?_ ?_
    · refine y_iconst (v := 1) dX10_commonDivisor_27 (by decide) ?_
      exact y_ireturn dX10_commonDivisor_28 rfl rfl rfl
    · refine y_iload_n dX10_commonDivisor_7 rfl 0 rfl ?_
      refine y_iload_n dX10_commonDivisor_8 rfl 2 rfl ?_
      refine xC.chk (fun hz2001 => ?_)
      refine y_irem dX10_commonDivisor_9 (of_decide_eq_true hz2001) ?_
      refine y_if_ne (tgt := 21) dX10_commonDivisor_10 (by decide) ?_ ?_
      · refine z_iinc (j := 2) dX10_commonDivisor_21 (by decide) rfl (by decide) (fun x2002 => ?_)
        refine y_loc (lv' := [(2, .int x2002), (0, .int v0), (1, .int v1)]) rfl ?_
        refine y_goto (tgt := 2) dX10_commonDivisor_24 (by decide) ?_
        refine y_sub [(0, .int v0), (1, .int v1), (2, .int x2002)] [1, 2, 0] rfl ?_
        exact ih v0 v1 x2002 w 
      · refine y_iload_n dX10_commonDivisor_13 rfl 1 rfl ?_
        refine y_iload_n dX10_commonDivisor_14 rfl 2 rfl ?_
        refine xC.chk (fun hz2003 => ?_)
        refine y_irem dX10_commonDivisor_15 (of_decide_eq_true hz2003) ?_
        refine y_if_ne (tgt := 21) dX10_commonDivisor_16 (by decide) ?_ ?_
        · refine z_iinc (j := 2) dX10_commonDivisor_21 (by decide) rfl (by decide) (fun x2004 => ?_)
          refine y_loc (lv' := [(2, .int x2004), (0, .int v0), (1, .int v1)]) rfl ?_
          refine y_goto (tgt := 2) dX10_commonDivisor_24 (by decide) ?_
          refine y_sub [(0, .int v0), (1, .int v1), (2, .int x2004)] [1, 2, 0] rfl ?_
          exact ih v0 v1 x2004 w 
        · refine y_iload_n dX10_commonDivisor_19 rfl 2 rfl ?_
          exact y_ireturn dX10_commonDivisor_20 rfl rfl rfl
set_option maxRecDepth 20000 in
set_option maxHeartbeats 2000000 in
theorem p_X10_commonDivisor {G : xG} {d : Nat} {n t : Nat} (hn : 71 ≤ n) (hd : 0 ≤ d) (a1 : Int32) (a2 : Int32) (w : xI) : xMet G m_X10_commonDivisor d [.int a1, .int a2] (xFin n t) w (fun x : Int32 => some (Value.int x)) (xFin n t) (f_X10_commonDivisor a1 a2 w) := by
  refine xMet.of rfl (Nat.le_of_ble_eq_true rfl) ?_
  unfold f_X10_commonDivisor
  show xC G m_X10_commonDivisor d 0 [(0, .int a1), (1, .int a2)] [] (xFin n t) w _ _ _
  refine y_iload_n dX10_commonDivisor_0 rfl 1 rfl ?_
  refine y_istore_n (lv' := [(2, .int a2), (0, .int a1), (1, .int a2)]) dX10_commonDivisor_1 rfl (by decide) rfl ?_
  refine y_sub [(0, .int a1), (1, .int a2), (2, .int a2)] [1, 2, 0] rfl ?_
  refine p_X10_commonDivisor_L2 hn hd 2000 a1 a2 a2 w 
-- ===== X10_odds: WeighedGate.odds(IIII)J =====
set_option maxRecDepth 20000 in
set_option maxHeartbeats 2000000 in
theorem p_X10_odds_L48 {G : xG} {d : Nat} {n t : Nat} (hn : 71 ≤ n) (hd : 6 ≤ d) : ∀ (fu : Nat) (v1 : Int32) (v2 : Int32) (v3 : Int32) (v4 : Int32) (v5 : Int32) (v6 : Int32) (w : xI), xC G m_X10_odds d 48 [(0, .ref 0), (1, .int v1), (2, .int v2), (3, .int v3), (4, .int v4), (5, .int v5), (6, .int v6)] [] (xFin n t) w (fun x : Int64 => some (Value.long x)) (xFin n t) (f_X10_odds_L48 fu v1 v2 v3 v4 v5 v6 w) := by
  intro fu
  induction fu with
  | zero => intro v1 v2 v3 v4 v5 v6 w; exact xC.none
  | succ fu ih =>
    intro v1 v2 v3 v4 v5 v6 w
    rw [f_X10_odds_L48]
    refine y_iload dX10_odds_48 6 rfl ?_
    refine y_iload_n dX10_odds_50 rfl 3 rfl ?_
    refine y_icmp_ge (tgt := 84) dX10_odds_51 (by decide) ?_ ?_
    · refine y_iload dX10_odds_84 5 rfl ?_
      refine y_iload_n dX10_odds_86 rfl 3 rfl ?_
      refine y_callS (As := [.int v5, .int v3]) (d2 := d - 1) dX10_odds_87 kX10_337 (by omega) rfl rfl (Nat.le_of_ble_eq_true rfl) (p_X10_commonDivisor hn (by omega)  _ _ _) (fun r48001 w48002 _ => ?_)
      refine y_istore (lv' := [(6, .int r48001), (0, .ref 0), (1, .int v1), (2, .int v2), (3, .int v3), (4, .int v4), (5, .int v5)]) dX10_odds_90 (by decide) rfl ?_
      refine y_iload dX10_odds_92 5 rfl ?_
      refine y_if_ne (tgt := 106) dX10_odds_94 (by decide) ?_ ?_
      · refine y_iload_n dX10_odds_106 rfl 4 rfl ?_
        refine y_iload dX10_odds_107 0 rfl ?_
        refine xC.chk (fun hz48003 => ?_)
        refine y_idiv dX10_odds_109 (of_decide_eq_true hz48003) ?_
        refine y_i2l dX10_odds_110 ?_
        exact y_lreturn dX10_odds_111 rfl rfl
      · refine y_iload dX10_odds_97 6 rfl ?_
        refine y_iload dX10_odds_99 0 rfl ?_
        refine xC.chk (fun hz48004 => ?_)
        refine y_idiv dX10_odds_101 (of_decide_eq_true hz48004) ?_
        refine y_i2l dX10_odds_102 ?_
        refine y_goto (tgt := 111) dX10_odds_103 (by decide) ?_
        exact y_lreturn dX10_odds_111 rfl rfl
    · refine y_aload_n dX10_odds_54 rfl 0 rfl ?_
      refine y_iload_n dX10_odds_55 rfl 2 rfl ?_
      refine y_iload dX10_odds_56 6 rfl ?_
      refine y_iadd dX10_odds_58 ?_
      refine y_callV (As := [.int (v2 + v6)]) (d2 := d - 1) dX10_odds_59 kX10_332 (by omega) rfl rfl (Nat.le_of_ble_eq_true rfl) (xlt rfl hn) rfl rfl (p_X10_runDrawn hn (by omega)  _ _) (fun r48005 w48006 _ => ?_)
      refine y_iload dX10_odds_62 5 rfl ?_
      refine y_aload_n dX10_odds_64 rfl 0 rfl ?_
      refine y_getr (q := 28) dX10_odds_65 flX10_57 (xlt rfl hn) rfl rfl rfl ?_
      refine z_geti (v := (w48006 28 7)) dX10_odds_68 flX10_262 (xlt rfl hn) rfl rfl rfl ?_
      refine y_iload_n dX10_odds_71 rfl 1 rfl ?_
      refine y_ishr dX10_odds_72 ?_
      refine y_iconst (v := 1) dX10_odds_73 (by decide) ?_
      refine y_iand dX10_odds_74 ?_
      refine y_iadd dX10_odds_75 ?_
      refine y_let (fun x48007 => ?_)
      refine y_istore (lv' := [(5, .int x48007), (0, .ref 0), (1, .int v1), (2, .int v2), (3, .int v3), (4, .int v4), (6, .int v6)]) dX10_odds_76 (by decide) rfl ?_
      refine z_iinc (j := 6) dX10_odds_78 (by decide) rfl (by decide) (fun x48008 => ?_)
      refine y_loc (lv' := [(6, .int x48008), (5, .int x48007), (0, .ref 0), (1, .int v1), (2, .int v2), (3, .int v3), (4, .int v4)]) rfl ?_
      refine y_goto (tgt := 48) dX10_odds_81 (by decide) ?_
      refine y_sub [(0, .ref 0), (1, .int v1), (2, .int v2), (3, .int v3), (4, .int v4), (5, .int x48007), (6, .int x48008)] [2, 3, 4, 5, 6, 1, 0] rfl ?_
      exact ih v1 v2 v3 v4 x48007 x48008 w48006 
set_option maxRecDepth 20000 in
set_option maxHeartbeats 2000000 in
theorem p_X10_odds {G : xG} {d : Nat} {n t : Nat} (hn : 71 ≤ n) (hd : 6 ≤ d) (a1 : Int32) (a2 : Int32) (a3 : Int32) (a4 : Int32) (w : xI) : xMet G m_X10_odds d [.ref 0, .int a1, .int a2, .int a3, .int a4] (xFin n t) w (fun x : Int64 => some (Value.long x)) (xFin n t) (f_X10_odds a1 a2 a3 a4 w) := by
  refine xMet.of rfl (Nat.le_of_ble_eq_true rfl) ?_
  unfold f_X10_odds
  show xC G m_X10_odds d 0 [(0, .ref 0), (1, .int a1), (2, .int a2), (3, .int a3), (4, .int a4)] [] (xFin n t) w _ _ _
  refine y_aload_n dX10_odds_0 rfl 0 rfl ?_
  refine y_getr (q := 5) dX10_odds_1 flX10_19 (xlt rfl hn) rfl rfl rfl ?_
  refine y_iload_n dX10_odds_4 rfl 1 rfl ?_
  refine y_callV (As := [.int a1]) (d2 := d - 1) dX10_odds_5 kX10_164 (by omega) rfl rfl (Nat.le_of_ble_eq_true rfl) (xlt rfl hn) rfl rfl (p_X9_has hn (by omega)  _ _) (fun r1 w2 _ => ?_)
  refine y_if_eq (tgt := 38) dX10_odds_8 (by decide) ?_ ?_
  · refine y_ldc2 (v := (-4611686018427387904)) dX10_odds_38 q922 ?_
    exact y_lreturn dX10_odds_41 rfl rfl
  · refine y_iload_n dX10_odds_11 rfl 2 rfl ?_
    refine y_callS (As := [.int a2]) (d2 := d - 1) dX10_odds_12 kX10_329 (by omega) rfl rfl (Nat.le_of_ble_eq_true rfl) (p_X10_isSeed hn (by omega)  _ _) (fun r3 w4 _ => ?_)
    refine y_if_eq (tgt := 38) dX10_odds_15 (by decide) ?_ ?_
    · refine y_ldc2 (v := (-4611686018427387904)) dX10_odds_38 q922 ?_
      exact y_lreturn dX10_odds_41 rfl rfl
    · refine y_iload_n dX10_odds_18 rfl 3 rfl ?_
      refine y_iconst (v := 1) dX10_odds_19 (by decide) ?_
      refine y_bipush (v := 10) dX10_odds_20 (by decide) ?_
      refine y_callS (As := [.int a3, .int (1 : Int32), .int (10 : Int32)]) (d2 := d - 1) dX10_odds_22 kX10_104 (by omega) rfl rfl (Nat.le_of_ble_eq_true rfl) (p_X10_within hn (by omega)  _ _ _ _) (fun r5 w6 _ => ?_)
      refine y_if_eq (tgt := 38) dX10_odds_25 (by decide) ?_ ?_
      · refine y_ldc2 (v := (-4611686018427387904)) dX10_odds_38 q922 ?_
        exact y_lreturn dX10_odds_41 rfl rfl
      · refine y_iload dX10_odds_28 4 rfl ?_
        refine y_iconst (v := 0) dX10_odds_30 (by decide) ?_
        refine y_iconst (v := 1) dX10_odds_31 (by decide) ?_
        refine y_callS (As := [.int a4, .int (0 : Int32), .int (1 : Int32)]) (d2 := d - 1) dX10_odds_32 kX10_104 (by omega) rfl rfl (Nat.le_of_ble_eq_true rfl) (p_X10_within hn (by omega)  _ _ _ _) (fun r7 w8 _ => ?_)
        refine y_if_ne (tgt := 42) dX10_odds_35 (by decide) ?_ ?_
        · refine y_iconst (v := 0) dX10_odds_42 (by decide) ?_
          refine y_istore (lv' := [(5, .int (0 : Int32)), (0, .ref 0), (1, .int a1), (2, .int a2), (3, .int a3), (4, .int a4)]) dX10_odds_43 (by decide) rfl ?_
          refine y_iconst (v := 0) dX10_odds_45 (by decide) ?_
          refine y_istore (lv' := [(6, .int (0 : Int32)), (5, .int (0 : Int32)), (0, .ref 0), (1, .int a1), (2, .int a2), (3, .int a3), (4, .int a4)]) dX10_odds_46 (by decide) rfl ?_
          refine y_sub [(0, .ref 0), (1, .int a1), (2, .int a2), (3, .int a3), (4, .int a4), (5, .int (0 : Int32)), (6, .int (0 : Int32))] [2, 3, 4, 5, 6, 1, 0] rfl ?_
          refine p_X10_odds_L48 hn hd 2000 a1 a2 a3 a4 (0 : Int32) (0 : Int32) w8 
        · refine y_ldc2 (v := (-4611686018427387904)) dX10_odds_38 q922 ?_
          exact y_lreturn dX10_odds_41 rfl rfl
-- ===== X10_image: WeighedGate.image()I =====
set_option maxRecDepth 20000 in
set_option maxHeartbeats 2000000 in
theorem p_X10_image {G : xG} {d : Nat} {n t : Nat} (hn : 71 ≤ n) (hd : 2 ≤ d) (w : xI) : xMet G m_X10_image d [.ref 0] (xFin n t) w (fun x : Int32 => some (Value.int x)) (xFin n t) (f_X10_image  w) := by
  refine xMet.of rfl (Nat.le_of_ble_eq_true rfl) ?_
  unfold f_X10_image
  show xC G m_X10_image d 0 [(0, .ref 0)] [] (xFin n t) w _ _ _
  refine y_aload_n dX10_image_0 rfl 0 rfl ?_
  refine y_getr (q := 33) dX10_image_1 flX10_70 (xlt rfl hn) rfl rfl rfl ?_
  refine y_aload_n dX10_image_4 rfl 0 rfl ?_
  refine y_getr (q := 1) dX10_image_5 flX10_12 (xlt rfl hn) rfl rfl rfl ?_
  refine y_aload_n dX10_image_8 rfl 0 rfl ?_
  refine y_getr (q := 5) dX10_image_9 flX10_19 (xlt rfl hn) rfl rfl rfl ?_
  refine y_aload_n dX10_image_12 rfl 0 rfl ?_
  refine z_geti (v := (w 0 4)) dX10_image_13 flX10_123 (xlt rfl hn) rfl rfl rfl ?_
  refine y_callV (As := [.ref 1, .ref 5, .int (w 0 4)]) (d2 := d - 1) dX10_image_16 kX10_340 (by omega) rfl rfl (Nat.le_of_ble_eq_true rfl) (xlt rfl hn) rfl rfl (p_X2_keep hn (by omega)  _ _) (fun r1 w2 _ => ?_)
  refine y_aload_n dX10_image_19 rfl 0 rfl ?_
  refine y_getr (q := 5) dX10_image_20 flX10_19 (xlt rfl hn) rfl rfl rfl ?_
  refine z_geti (v := (w2 5 2)) dX10_image_23 flX10_120 (xlt rfl hn) rfl rfl rfl ?_
  exact y_ireturn dX10_image_26 rfl rfl rfl
-- ===== X10_back: WeighedGate.back()I =====
set_option maxRecDepth 20000 in
set_option maxHeartbeats 2000000 in
theorem p_X10_back {G : xG} {d : Nat} {n t : Nat} (hn : 71 ≤ n) (hd : 41 ≤ d) (w : xI) : xMet G m_X10_back d [.ref 0] (xFin n t) w (fun x : Int32 => some (Value.int x)) (xFin n t) (f_X10_back  w) := by
  refine xMet.of rfl (Nat.le_of_ble_eq_true rfl) ?_
  unfold f_X10_back
  show xC G m_X10_back d 0 [(0, .ref 0)] [] (xFin n t) w _ _ _
  refine y_aload_n dX10_back_0 rfl 0 rfl ?_
  refine y_getr (q := 33) dX10_back_1 flX10_70 (xlt rfl hn) rfl rfl rfl ?_
  refine z_geti (v := (w 33 0)) dX10_back_4 flX10_344 (xlt rfl hn) rfl rfl rfl ?_
  refine y_if_ne (tgt := 13) dX10_back_7 (by decide) ?_ ?_
  · refine y_aload_n dX10_back_13 rfl 0 rfl ?_
    refine y_getr (q := 33) dX10_back_14 flX10_70 (xlt rfl hn) rfl rfl rfl ?_
    refine y_aload_n dX10_back_17 rfl 0 rfl ?_
    refine y_getr (q := 1) dX10_back_18 flX10_12 (xlt rfl hn) rfl rfl rfl ?_
    refine y_aload_n dX10_back_21 rfl 0 rfl ?_
    refine y_getr (q := 5) dX10_back_22 flX10_19 (xlt rfl hn) rfl rfl rfl ?_
    refine y_callV (As := [.ref 1, .ref 5]) (d2 := d - 1) dX10_back_25 kX10_348 (by omega) rfl rfl (Nat.le_of_ble_eq_true rfl) (xlt rfl hn) rfl rfl (p_X2_giveBack hn (by omega)   _) (fun r1 w2 _ => ?_)
    refine y_aload_n dX10_back_28 rfl 0 rfl ?_
    refine y_aload_n dX10_back_29 rfl 0 rfl ?_
    refine y_getr (q := 33) dX10_back_30 flX10_70 (xlt rfl hn) rfl rfl rfl ?_
    refine z_geti (v := (w2 33 1)) dX10_back_33 flX10_351 (xlt rfl hn) rfl rfl rfl ?_
    refine y_puti dX10_back_36 flX10_123 (xlt rfl hn) rfl rfl ?_
    refine y_aload_n dX10_back_39 rfl 0 rfl ?_
    refine y_getr (q := 5) dX10_back_40 flX10_19 (xlt rfl hn) rfl rfl rfl ?_
    refine z_geti (v := (w2 5 2)) dX10_back_43 flX10_120 (xlt rfl hn) rfl rfl rfl ?_
    exact y_ireturn dX10_back_46 rfl rfl rfl
  · refine y_bipush (v := (-3)) dX10_back_10 (by decide) ?_
    exact y_ireturn dX10_back_12 rfl rfl rfl
-- ===== X10_sheet: WeighedGate.sheet(III)I =====
set_option maxRecDepth 20000 in
set_option maxHeartbeats 2000000 in
theorem p_X10_sheet {G : xG} {d : Nat} {n t : Nat} (hn : 71 ≤ n) (hd : 2 ≤ d) (a1 : Int32) (a2 : Int32) (a3 : Int32) (w : xI) : xMet G m_X10_sheet d [.ref 0, .int a1, .int a2, .int a3] (xFin n t) w (fun x : Int32 => some (Value.int x)) (xFin n t) (f_X10_sheet a1 a2 a3 w) := by
  refine xMet.of rfl (Nat.le_of_ble_eq_true rfl) ?_
  unfold f_X10_sheet
  show xC G m_X10_sheet d 0 [(0, .ref 0), (1, .int a1), (2, .int a2), (3, .int a3)] [] (xFin n t) w _ _ _
  refine y_iload_n dX10_sheet_0 rfl 1 rfl ?_
  refine y_callS (As := [.int a1]) (d2 := d - 1) dX10_sheet_1 kX10_300 (by omega) rfl rfl (Nat.le_of_ble_eq_true rfl) (p_X10_isSheet hn (by omega)  _ _) (fun r1 w2 _ => ?_)
  refine y_if_eq (tgt := 16) dX10_sheet_4 (by decide) ?_ ?_
  · refine y_bipush (v := (-2)) dX10_sheet_16 (by decide) ?_
    exact y_ireturn dX10_sheet_18 rfl rfl rfl
  · refine y_iload_n dX10_sheet_7 rfl 2 rfl ?_
    refine y_iconst (v := (-1)) dX10_sheet_8 (by decide) ?_
    refine y_iconst (v := 2) dX10_sheet_9 (by decide) ?_
    refine y_callS (As := [.int a2, .int (-1 : Int32), .int (2 : Int32)]) (d2 := d - 1) dX10_sheet_10 kX10_104 (by omega) rfl rfl (Nat.le_of_ble_eq_true rfl) (p_X10_within hn (by omega)  _ _ _ _) (fun r3 w4 _ => ?_)
    refine y_if_ne (tgt := 19) dX10_sheet_13 (by decide) ?_ ?_
    · refine y_iload_n dX10_sheet_19 rfl 2 rfl ?_
      refine y_iconst (v := (-1)) dX10_sheet_20 (by decide) ?_
      refine y_icmp_ne (tgt := 37) dX10_sheet_21 (by decide) ?_ ?_
      · refine y_iload_n dX10_sheet_37 rfl 3 rfl ?_
        refine y_bipush (v := 40) dX10_sheet_38 (by decide) ?_
        refine y_icmp_le (tgt := 46) dX10_sheet_40 (by decide) ?_ ?_
        · refine y_iload_n dX10_sheet_46 rfl 3 rfl ?_
          refine y_if_ge (tgt := 53) dX10_sheet_47 (by decide) ?_ ?_
          · refine y_aload_n dX10_sheet_53 rfl 0 rfl ?_
            refine y_getr (q := 32) dX10_sheet_54 flX10_63 (xlt rfl hn) rfl rfl rfl ?_
            refine y_iload_n dX10_sheet_57 rfl 1 rfl ?_
            refine y_aaldS dX10_sheet_58 hn (fun o6 hok8 => ?_)
            refine y_iload_n dX10_sheet_59 rfl 2 rfl ?_
            refine y_iload_n dX10_sheet_60 rfl 3 rfl ?_
            refine y_callV (As := [.int a2, .int a3]) (d2 := d - 1) dX10_sheet_61 kX10_306 (by omega) rfl rfl (Nat.le_of_ble_eq_true rfl) (okS_k hok8 hn) (okS_s hok8) rfl (p_X6_become hn (by omega) hok8 _ _ _) (fun r9 w10 _ => ?_)
            refine y_iconst (v := 1) dX10_sheet_64 (by decide) ?_
            exact y_ireturn dX10_sheet_65 rfl rfl rfl
          · refine y_bipush (v := (-14)) dX10_sheet_50 (by decide) ?_
            exact y_ireturn dX10_sheet_52 rfl rfl rfl
        · refine y_bipush (v := (-2)) dX10_sheet_43 (by decide) ?_
          exact y_ireturn dX10_sheet_45 rfl rfl rfl
      · refine y_aload_n dX10_sheet_24 rfl 0 rfl ?_
        refine y_getr (q := 32) dX10_sheet_25 flX10_63 (xlt rfl hn) rfl rfl rfl ?_
        refine y_iload_n dX10_sheet_28 rfl 1 rfl ?_
        refine y_aaldS dX10_sheet_29 hn (fun o12 hok14 => ?_)
        refine y_iconst (v := (-1)) dX10_sheet_30 (by decide) ?_
        refine y_iconst (v := 0) dX10_sheet_31 (by decide) ?_
        refine y_callV (As := [.int (-1 : Int32), .int (0 : Int32)]) (d2 := d - 1) dX10_sheet_32 kX10_306 (by omega) rfl rfl (Nat.le_of_ble_eq_true rfl) (okS_k hok14 hn) (okS_s hok14) rfl (p_X6_become hn (by omega) hok14 _ _ _) (fun r15 w16 _ => ?_)
        refine y_iconst (v := 1) dX10_sheet_35 (by decide) ?_
        exact y_ireturn dX10_sheet_36 rfl rfl rfl
    · refine y_bipush (v := (-2)) dX10_sheet_16 (by decide) ?_
      exact y_ireturn dX10_sheet_18 rfl rfl rfl
-- ===== X10_cell: WeighedGate.cell(III)I =====
set_option maxRecDepth 20000 in
set_option maxHeartbeats 2000000 in
theorem p_X10_cell {G : xG} {d : Nat} {n t : Nat} (hn : 71 ≤ n) (hd : 2 ≤ d) (a1 : Int32) (a2 : Int32) (a3 : Int32) (w : xI) : xMet G m_X10_cell d [.ref 0, .int a1, .int a2, .int a3] (xFin n t) w (fun x : Int32 => some (Value.int x)) (xFin n t) (f_X10_cell a1 a2 a3 w) := by
  refine xMet.of rfl (Nat.le_of_ble_eq_true rfl) ?_
  unfold f_X10_cell
  show xC G m_X10_cell d 0 [(0, .ref 0), (1, .int a1), (2, .int a2), (3, .int a3)] [] (xFin n t) w _ _ _
  refine y_iload_n dX10_cell_0 rfl 1 rfl ?_
  refine y_callS (As := [.int a1]) (d2 := d - 1) dX10_cell_1 kX10_300 (by omega) rfl rfl (Nat.le_of_ble_eq_true rfl) (p_X10_isSheet hn (by omega)  _ _) (fun r1 w2 _ => ?_)
  refine y_if_ne (tgt := 10) dX10_cell_4 (by decide) ?_ ?_
  · refine y_aload_n dX10_cell_10 rfl 0 rfl ?_
    refine y_getr (q := 32) dX10_cell_11 flX10_63 (xlt rfl hn) rfl rfl rfl ?_
    refine y_iload_n dX10_cell_14 rfl 1 rfl ?_
    refine y_aaldS dX10_cell_15 hn (fun o4 hok6 => ?_)
    refine y_astore (lv' := [(4, .ref o4), (0, .ref 0), (1, .int a1), (2, .int a2), (3, .int a3)]) dX10_cell_16 (by decide) rfl ?_
    refine y_aload dX10_cell_18 0 rfl ?_
    refine z_geti (v := (w2 o4 0)) dX10_cell_20 flX10_352 (okS_k hok6 hn) (okS_s hok6) rfl rfl ?_
    refine y_iconst (v := (-1)) dX10_cell_23 (by decide) ?_
    refine y_icmp_ne (tgt := 30) dX10_cell_24 (by decide) ?_ ?_
    · refine y_iload_n dX10_cell_30 rfl 3 rfl ?_
      refine y_iconst (v := 0) dX10_cell_31 (by decide) ?_
      refine y_aload dX10_cell_32 0 rfl ?_
      refine z_geti (v := (w2 o4 1)) dX10_cell_34 flX10_288 (okS_k hok6 hn) (okS_s hok6) rfl rfl ?_
      refine y_iconst (v := 1) dX10_cell_37 (by decide) ?_
      refine y_isub dX10_cell_38 ?_
      refine y_callS (As := [.int a2, .int (0 : Int32), .int ((w2 o4 1) - (1 : Int32))]) (d2 := d - 1) dX10_cell_39 kX10_104 (by omega) rfl rfl (Nat.le_of_ble_eq_true rfl) (p_X10_within hn (by omega)  _ _ _ _) (fun r7 w8 _ => ?_)
      refine y_if_ne (tgt := 48) dX10_cell_42 (by decide) ?_ ?_
      · refine y_aload dX10_cell_48 0 rfl ?_
        refine y_iload_n dX10_cell_50 rfl 3 rfl ?_
        refine y_iload_n dX10_cell_51 rfl 4 rfl ?_
        refine y_callV (As := [.int a2, .int a3]) (d2 := d - 1) dX10_cell_52 kX10_313 (by omega) rfl rfl (Nat.le_of_ble_eq_true rfl) (okS_k hok6 hn) (okS_s hok6) rfl (p_X6_put hn (by omega) hok6 _ _ _) (fun r9 w10 _ => ?_)
        refine y_iconst (v := 1) dX10_cell_55 (by decide) ?_
        exact y_ireturn dX10_cell_56 rfl rfl rfl
      · refine y_bipush (v := (-12)) dX10_cell_45 (by decide) ?_
        exact y_ireturn dX10_cell_47 rfl rfl rfl
    · refine y_bipush (v := (-11)) dX10_cell_27 (by decide) ?_
      exact y_ireturn dX10_cell_29 rfl rfl rfl
  · refine y_bipush (v := (-2)) dX10_cell_7 (by decide) ?_
    exact y_ireturn dX10_cell_9 rfl rfl rfl
-- ===== X10_copy: WeighedGate.copy(IIIII)I =====
set_option maxRecDepth 20000 in
set_option maxHeartbeats 2000000 in
theorem p_X10_copy {G : xG} {d : Nat} {n t : Nat} (hn : 71 ≤ n) (hd : 2 ≤ d) (a1 : Int32) (a2 : Int32) (a3 : Int32) (a4 : Int32) (a5 : Int32) (w : xI) : xMet G m_X10_copy d [.ref 0, .int a1, .int a2, .int a3, .int a4, .int a5] (xFin n t) w (fun x : Int32 => some (Value.int x)) (xFin n t) (f_X10_copy a1 a2 a3 a4 a5 w) := by
  refine xMet.of rfl (Nat.le_of_ble_eq_true rfl) ?_
  unfold f_X10_copy
  show xC G m_X10_copy d 0 [(0, .ref 0), (1, .int a1), (2, .int a2), (3, .int a3), (4, .int a4), (5, .int a5)] [] (xFin n t) w _ _ _
  refine y_iload_n dX10_copy_0 rfl 1 rfl ?_
  refine y_callS (As := [.int a1]) (d2 := d - 1) dX10_copy_1 kX10_300 (by omega) rfl rfl (Nat.le_of_ble_eq_true rfl) (p_X10_isSheet hn (by omega)  _ _) (fun r1 w2 _ => ?_)
  refine y_if_eq (tgt := 14) dX10_copy_4 (by decide) ?_ ?_
  · refine y_bipush (v := (-2)) dX10_copy_14 (by decide) ?_
    exact y_ireturn dX10_copy_16 rfl rfl rfl
  · refine y_iload_n dX10_copy_7 rfl 3 rfl ?_
    refine y_callS (As := [.int a3]) (d2 := d - 1) dX10_copy_8 kX10_300 (by omega) rfl rfl (Nat.le_of_ble_eq_true rfl) (p_X10_isSheet hn (by omega)  _ _) (fun r3 w4 _ => ?_)
    refine y_if_ne (tgt := 17) dX10_copy_11 (by decide) ?_ ?_
    · refine y_aload_n dX10_copy_17 rfl 0 rfl ?_
      refine y_getr (q := 32) dX10_copy_18 flX10_63 (xlt rfl hn) rfl rfl rfl ?_
      refine y_iload_n dX10_copy_21 rfl 1 rfl ?_
      refine y_aaldS dX10_copy_22 hn (fun o6 hok8 => ?_)
      refine y_astore (lv' := [(6, .ref o6), (0, .ref 0), (1, .int a1), (2, .int a2), (3, .int a3), (4, .int a4), (5, .int a5)]) dX10_copy_23 (by decide) rfl ?_
      refine y_aload_n dX10_copy_25 rfl 1 rfl ?_
      refine y_getr (q := 32) dX10_copy_26 flX10_63 (xlt rfl hn) rfl rfl rfl ?_
      refine y_iload_n dX10_copy_29 rfl 4 rfl ?_
      refine y_aaldS dX10_copy_30 hn (fun o10 hok12 => ?_)
      refine y_astore (lv' := [(7, .ref o10), (6, .ref o6), (0, .ref 0), (1, .int a1), (2, .int a2), (3, .int a3), (4, .int a4), (5, .int a5)]) dX10_copy_31 (by decide) rfl ?_
      refine y_aload dX10_copy_33 1 rfl ?_
      refine z_geti (v := (w4 o6 0)) dX10_copy_35 flX10_352 (okS_k hok8 hn) (okS_s hok8) rfl rfl ?_
      refine y_iconst (v := (-1)) dX10_copy_38 (by decide) ?_
      refine y_icmp_eq (tgt := 51) dX10_copy_39 (by decide) ?_ ?_
      · refine y_bipush (v := (-11)) dX10_copy_51 (by decide) ?_
        exact y_ireturn dX10_copy_53 rfl rfl rfl
      · refine y_aload dX10_copy_42 0 rfl ?_
        refine z_geti (v := (w4 o10 0)) dX10_copy_44 flX10_352 (okS_k hok12 hn) (okS_s hok12) rfl rfl ?_
        refine y_iconst (v := (-1)) dX10_copy_47 (by decide) ?_
        refine y_icmp_ne (tgt := 54) dX10_copy_48 (by decide) ?_ ?_
        · refine y_aload dX10_copy_54 1 rfl ?_
          refine z_geti (v := (w4 o6 0)) dX10_copy_56 flX10_352 (okS_k hok8 hn) (okS_s hok8) rfl rfl ?_
          refine y_aload dX10_copy_59 0 rfl ?_
          refine z_geti (v := (w4 o10 0)) dX10_copy_61 flX10_352 (okS_k hok12 hn) (okS_s hok12) rfl rfl ?_
          refine y_icmp_eq (tgt := 70) dX10_copy_64 (by decide) ?_ ?_
          · refine y_aload dX10_copy_70 1 rfl ?_
            refine y_iload_n dX10_copy_72 rfl 4 rfl ?_
            refine y_iload dX10_copy_73 7 rfl ?_
            refine y_callV (As := [.int a2, .int a5]) (d2 := d - 1) dX10_copy_75 kX10_355 (by omega) rfl rfl (Nat.le_of_ble_eq_true rfl) (okS_k hok8 hn) (okS_s hok8) rfl (p_X6_holds hn (by omega) hok8 _ _ _) (fun r13 w14 _ => ?_)
            refine y_if_eq (tgt := 93) dX10_copy_78 (by decide) ?_ ?_
            · refine y_bipush (v := (-12)) dX10_copy_93 (by decide) ?_
              exact y_ireturn dX10_copy_95 rfl rfl rfl
            · refine y_aload dX10_copy_81 0 rfl ?_
              refine y_iload dX10_copy_83 6 rfl ?_
              refine y_iload dX10_copy_85 7 rfl ?_
              refine y_callV (As := [.int a4, .int a5]) (d2 := d - 1) dX10_copy_87 kX10_355 (by omega) rfl rfl (Nat.le_of_ble_eq_true rfl) (okS_k hok12 hn) (okS_s hok12) rfl (p_X6_holds hn (by omega) hok12 _ _ _) (fun r15 w16 _ => ?_)
              refine y_if_ne (tgt := 96) dX10_copy_90 (by decide) ?_ ?_
              · refine y_aload dX10_copy_96 1 rfl ?_
                refine y_getr (q := (o6 + 1)) dX10_copy_98 flX10_289 (okS_k hok8 hn) (okS_s hok8) rfl (okS_r1 hok8 _) ?_
                refine y_iload_n dX10_copy_101 rfl 4 rfl ?_
                refine y_aload dX10_copy_102 0 rfl ?_
                refine y_getr (q := (o10 + 1)) dX10_copy_104 flX10_289 (okS_k hok12 hn) (okS_s hok12) rfl (okS_r1 hok12 _) ?_
                refine y_iload dX10_copy_107 6 rfl ?_
                refine y_iload dX10_copy_109 7 rfl ?_
                refine y_copy dX10_copy_111 q960 (Nat.le_of_ble_eq_true rfl) (by omega) (okS_k1 hok8 hn) (okS_k1 hok12 hn) (okS_s1 hok8) (okS_s1 hok12) ?_
                refine y_iload dX10_copy_114 7 rfl ?_
                exact y_ireturn dX10_copy_116 rfl rfl rfl
              · refine y_bipush (v := (-12)) dX10_copy_93 (by decide) ?_
                exact y_ireturn dX10_copy_95 rfl rfl rfl
          · refine y_bipush (v := (-13)) dX10_copy_67 (by decide) ?_
            exact y_ireturn dX10_copy_69 rfl rfl rfl
        · refine y_bipush (v := (-11)) dX10_copy_51 (by decide) ?_
          exact y_ireturn dX10_copy_53 rfl rfl rfl
    · refine y_bipush (v := (-2)) dX10_copy_14 (by decide) ?_
      exact y_ireturn dX10_copy_16 rfl rfl rfl
-- ===== X10_cartsBy: WeighedGate.cartsBy(IIII)I =====
set_option maxRecDepth 20000 in
set_option maxHeartbeats 2000000 in
theorem p_X10_cartsBy_L71 {G : xG} {d : Nat} {n t : Nat} (hn : 71 ≤ n) (hd : 2 ≤ d) : ∀ (fu : Nat) (v4 : Int32) (r5 : Nat) (v6 : Int32) (v7 : Int32) (v8 : Int32) (w : xI) (hr5 : okS r5), xC G m_X10_cartsBy d 71 [(0, .ref 0), (4, .int v4), (5, .ref r5), (6, .int v6), (7, .int v7), (8, .int v8)] [] (xFin n t) w (fun x : Int32 => some (Value.int x)) (xFin n t) (f_X10_cartsBy_L71 fu v4 r5 v6 v7 v8 w) := by
  intro fu
  induction fu with
  | zero => intro v4 r5 v6 v7 v8 w hr5; exact xC.none
  | succ fu ih =>
    intro v4 r5 v6 v7 v8 w hr5
    rw [f_X10_cartsBy_L71]
    refine y_iload dX10_cartsBy_71 5 rfl ?_
    refine y_iload dX10_cartsBy_73 1 rfl ?_
    refine y_icmp_ge (tgt := 151) dX10_cartsBy_75 (by decide) ?_ ?_
    · refine y_iload dX10_cartsBy_151 3 rfl ?_
      exact y_ireturn dX10_cartsBy_153 rfl rfl rfl
    · refine y_aload dX10_cartsBy_78 2 rfl ?_
      refine y_iload dX10_cartsBy_80 4 rfl ?_
      refine y_iconst (v := 5) dX10_cartsBy_82 (by decide) ?_
      refine y_callV (As := [.int v7, .int (5 : Int32)]) (d2 := d - 1) dX10_cartsBy_83 kX10_355 (by omega) rfl rfl (Nat.le_of_ble_eq_true rfl) (okS_k hr5 hn) (okS_s hr5) rfl (p_X6_holds hn (by omega) hr5 _ _ _) (fun r71001 w71002 _ => ?_)
      refine y_if_ne (tgt := 92) dX10_cartsBy_86 (by decide) ?_ ?_
      · refine y_aload dX10_cartsBy_92 2 rfl ?_
        refine y_getr (q := (r5 + 1)) dX10_cartsBy_94 flX10_289 (okS_k hr5 hn) (okS_s hr5) rfl (okS_r1 hr5 _) ?_
        refine y_astore (lv' := [(9, .ref (r5 + 1)), (0, .ref 0), (4, .int v4), (5, .ref r5), (6, .int v6), (7, .int v7), (8, .int v8)]) dX10_cartsBy_97 (by decide) rfl ?_
        refine y_aload_n dX10_cartsBy_99 rfl 1 rfl ?_
        refine y_aload dX10_cartsBy_100 0 rfl ?_
        refine y_iload dX10_cartsBy_102 5 rfl ?_
        refine z_iald (v := (w71002 (r5 + 1) v7.toNatClampNeg)) dX10_cartsBy_104 (okS_k1 hr5 hn) (okS_s1 hr5) rfl ?_
        refine y_aload dX10_cartsBy_105 0 rfl ?_
        refine y_iload dX10_cartsBy_107 5 rfl ?_
        refine y_iconst (v := 1) dX10_cartsBy_109 (by decide) ?_
        refine y_iadd dX10_cartsBy_110 ?_
        refine z_iald (v := (w71002 (r5 + 1) (v7 + (1 : Int32)).toNatClampNeg)) dX10_cartsBy_111 (okS_k1 hr5 hn) (okS_s1 hr5) rfl ?_
        refine y_aload dX10_cartsBy_112 0 rfl ?_
        refine y_iload dX10_cartsBy_114 5 rfl ?_
        refine y_iconst (v := 2) dX10_cartsBy_116 (by decide) ?_
        refine y_iadd dX10_cartsBy_117 ?_
        refine z_iald (v := (w71002 (r5 + 1) (v7 + (2 : Int32)).toNatClampNeg)) dX10_cartsBy_118 (okS_k1 hr5 hn) (okS_s1 hr5) rfl ?_
        refine y_aload dX10_cartsBy_119 0 rfl ?_
        refine y_iload dX10_cartsBy_121 5 rfl ?_
        refine y_iconst (v := 3) dX10_cartsBy_123 (by decide) ?_
        refine y_iadd dX10_cartsBy_124 ?_
        refine z_iald (v := (w71002 (r5 + 1) (v7 + (3 : Int32)).toNatClampNeg)) dX10_cartsBy_125 (okS_k1 hr5 hn) (okS_s1 hr5) rfl ?_
        refine y_aload dX10_cartsBy_126 0 rfl ?_
        refine y_iload dX10_cartsBy_128 5 rfl ?_
        refine y_iconst (v := 4) dX10_cartsBy_130 (by decide) ?_
        refine y_iadd dX10_cartsBy_131 ?_
        refine z_iald (v := (w71002 (r5 + 1) (v7 + (4 : Int32)).toNatClampNeg)) dX10_cartsBy_132 (okS_k1 hr5 hn) (okS_s1 hr5) rfl ?_
        refine y_callV (As := [.int (w71002 (r5 + 1) v7.toNatClampNeg), .int (w71002 (r5 + 1) (v7 + (1 : Int32)).toNatClampNeg), .int (w71002 (r5 + 1) (v7 + (2 : Int32)).toNatClampNeg), .int (w71002 (r5 + 1) (v7 + (3 : Int32)).toNatClampNeg), .int (w71002 (r5 + 1) (v7 + (4 : Int32)).toNatClampNeg)]) (d2 := d - 1) dX10_cartsBy_133 kX10_364 (by omega) rfl rfl (Nat.le_of_ble_eq_true rfl) (xlt rfl hn) rfl rfl (p_X10_cart hn (by omega)  _ _ _ _ _ _) (fun r71003 w71004 _ => ?_)
        refine y_if_lt (tgt := 142) dX10_cartsBy_136 (by decide) ?_ ?_
        · refine z_iinc (j := 5) dX10_cartsBy_142 (by decide) rfl (by decide) (fun x71005 => ?_)
          refine y_loc (lv' := [(7, .int x71005), (9, .ref (r5 + 1)), (0, .ref 0), (4, .int v4), (5, .ref r5), (6, .int v6), (8, .int v8)]) rfl ?_
          refine z_iinc (j := 6) dX10_cartsBy_145 (by decide) rfl (by decide) (fun x71006 => ?_)
          refine y_loc (lv' := [(8, .int x71006), (7, .int x71005), (9, .ref (r5 + 1)), (0, .ref 0), (4, .int v4), (5, .ref r5), (6, .int v6)]) rfl ?_
          refine y_goto (tgt := 71) dX10_cartsBy_148 (by decide) ?_
          refine y_sub [(0, .ref 0), (4, .int v4), (5, .ref r5), (6, .int v6), (7, .int x71005), (8, .int x71006)] [3, 4, 5, 6, 1, 0] rfl ?_
          exact ih v4 r5 v6 x71005 x71006 w71004 hr5
        · refine z_iinc (j := 4) dX10_cartsBy_139 (by decide) rfl (by decide) (fun x71007 => ?_)
          refine y_loc (lv' := [(6, .int x71007), (9, .ref (r5 + 1)), (0, .ref 0), (4, .int v4), (5, .ref r5), (7, .int v7), (8, .int v8)]) rfl ?_
          refine z_iinc (j := 5) dX10_cartsBy_142 (by decide) rfl (by decide) (fun x71008 => ?_)
          refine y_loc (lv' := [(7, .int x71008), (6, .int x71007), (9, .ref (r5 + 1)), (0, .ref 0), (4, .int v4), (5, .ref r5), (8, .int v8)]) rfl ?_
          refine z_iinc (j := 6) dX10_cartsBy_145 (by decide) rfl (by decide) (fun x71009 => ?_)
          refine y_loc (lv' := [(8, .int x71009), (7, .int x71008), (6, .int x71007), (9, .ref (r5 + 1)), (0, .ref 0), (4, .int v4), (5, .ref r5)]) rfl ?_
          refine y_goto (tgt := 71) dX10_cartsBy_148 (by decide) ?_
          refine y_sub [(0, .ref 0), (4, .int v4), (5, .ref r5), (6, .int x71007), (7, .int x71008), (8, .int x71009)] [4, 5, 6, 2, 1, 0] rfl ?_
          exact ih v4 r5 x71007 x71008 x71009 w71004 hr5
      · refine y_bipush (v := (-12)) dX10_cartsBy_89 (by decide) ?_
        exact y_ireturn dX10_cartsBy_91 rfl rfl rfl
set_option maxRecDepth 20000 in
set_option maxHeartbeats 2000000 in
theorem p_X10_cartsBy {G : xG} {d : Nat} {n t : Nat} (hn : 71 ≤ n) (hd : 2 ≤ d) (a1 : Int32) (a2 : Int32) (a3 : Int32) (a4 : Int32) (w : xI) : xMet G m_X10_cartsBy d [.ref 0, .int a1, .int a2, .int a3, .int a4] (xFin n t) w (fun x : Int32 => some (Value.int x)) (xFin n t) (f_X10_cartsBy a1 a2 a3 a4 w) := by
  refine xMet.of rfl (Nat.le_of_ble_eq_true rfl) ?_
  unfold f_X10_cartsBy
  show xC G m_X10_cartsBy d 0 [(0, .ref 0), (1, .int a1), (2, .int a2), (3, .int a3), (4, .int a4)] [] (xFin n t) w _ _ _
  refine y_iload_n dX10_cartsBy_0 rfl 1 rfl ?_
  refine y_callS (As := [.int a1]) (d2 := d - 1) dX10_cartsBy_1 kX10_300 (by omega) rfl rfl (Nat.le_of_ble_eq_true rfl) (p_X10_isSheet hn (by omega)  _ _) (fun r1 w2 _ => ?_)
  refine y_if_eq (tgt := 27) dX10_cartsBy_4 (by decide) ?_ ?_
  · refine y_bipush (v := (-2)) dX10_cartsBy_27 (by decide) ?_
    exact y_ireturn dX10_cartsBy_29 rfl rfl rfl
  · refine y_iload_n dX10_cartsBy_7 rfl 2 rfl ?_
    refine y_iconst (v := 0) dX10_cartsBy_8 (by decide) ?_
    refine y_iconst (v := 2) dX10_cartsBy_9 (by decide) ?_
    refine y_callS (As := [.int a2, .int (0 : Int32), .int (2 : Int32)]) (d2 := d - 1) dX10_cartsBy_10 kX10_104 (by omega) rfl rfl (Nat.le_of_ble_eq_true rfl) (p_X10_within hn (by omega)  _ _ _ _) (fun r3 w4 _ => ?_)
    refine y_if_eq (tgt := 27) dX10_cartsBy_13 (by decide) ?_ ?_
    · refine y_bipush (v := (-2)) dX10_cartsBy_27 (by decide) ?_
      exact y_ireturn dX10_cartsBy_29 rfl rfl rfl
    · refine y_iload dX10_cartsBy_16 4 rfl ?_
      refine y_iconst (v := 0) dX10_cartsBy_18 (by decide) ?_
      refine y_bipush (v := 8) dX10_cartsBy_19 (by decide) ?_
      refine y_callS (As := [.int a4, .int (0 : Int32), .int (8 : Int32)]) (d2 := d - 1) dX10_cartsBy_21 kX10_104 (by omega) rfl rfl (Nat.le_of_ble_eq_true rfl) (p_X10_within hn (by omega)  _ _ _ _) (fun r5 w6 _ => ?_)
      refine y_if_ne (tgt := 30) dX10_cartsBy_24 (by decide) ?_ ?_
      · refine y_aload_n dX10_cartsBy_30 rfl 0 rfl ?_
        refine y_getr (q := 32) dX10_cartsBy_31 flX10_63 (xlt rfl hn) rfl rfl rfl ?_
        refine y_iload_n dX10_cartsBy_34 rfl 1 rfl ?_
        refine y_aaldS dX10_cartsBy_35 hn (fun o8 hok10 => ?_)
        refine y_astore (lv' := [(5, .ref o8), (0, .ref 0), (1, .int a1), (2, .int a2), (3, .int a3), (4, .int a4)]) dX10_cartsBy_36 (by decide) rfl ?_
        refine y_aload dX10_cartsBy_38 0 rfl ?_
        refine z_geti (v := (w6 o8 0)) dX10_cartsBy_40 flX10_352 (okS_k hok10 hn) (okS_s hok10) rfl rfl ?_
        refine y_iconst (v := (-1)) dX10_cartsBy_43 (by decide) ?_
        refine y_icmp_ne (tgt := 50) dX10_cartsBy_44 (by decide) ?_ ?_
        · refine y_aload dX10_cartsBy_50 0 rfl ?_
          refine z_geti (v := (w6 o8 0)) dX10_cartsBy_52 flX10_352 (okS_k hok10 hn) (okS_s hok10) rfl rfl ?_
          refine y_iload_n dX10_cartsBy_55 rfl 3 rfl ?_
          refine y_icmp_eq (tgt := 62) dX10_cartsBy_56 (by decide) ?_ ?_
          · refine y_iconst (v := 0) dX10_cartsBy_62 (by decide) ?_
            refine y_istore (lv' := [(6, .int (0 : Int32)), (5, .ref o8), (0, .ref 0), (1, .int a1), (2, .int a2), (3, .int a3), (4, .int a4)]) dX10_cartsBy_63 (by decide) rfl ?_
            refine y_iload_n dX10_cartsBy_65 rfl 5 rfl ?_
            refine y_istore (lv' := [(7, .int a3), (6, .int (0 : Int32)), (5, .ref o8), (0, .ref 0), (1, .int a1), (2, .int a2), (3, .int a3), (4, .int a4)]) dX10_cartsBy_66 (by decide) rfl ?_
            refine y_iconst (v := 0) dX10_cartsBy_68 (by decide) ?_
            refine y_istore (lv' := [(8, .int (0 : Int32)), (7, .int a3), (6, .int (0 : Int32)), (5, .ref o8), (0, .ref 0), (1, .int a1), (2, .int a2), (3, .int a3), (4, .int a4)]) dX10_cartsBy_69 (by decide) rfl ?_
            refine y_sub [(0, .ref 0), (4, .int a4), (5, .ref o8), (6, .int (0 : Int32)), (7, .int a3), (8, .int (0 : Int32))] [4, 8, 3, 2, 1, 0] rfl ?_
            refine p_X10_cartsBy_L71 hn hd 2000 a4 o8 (0 : Int32) a3 (0 : Int32) w6 hok10
          · refine y_bipush (v := (-13)) dX10_cartsBy_59 (by decide) ?_
            exact y_ireturn dX10_cartsBy_61 rfl rfl rfl
        · refine y_bipush (v := (-11)) dX10_cartsBy_47 (by decide) ?_
          exact y_ireturn dX10_cartsBy_49 rfl rfl rfl
      · refine y_bipush (v := (-2)) dX10_cartsBy_27 (by decide) ?_
        exact y_ireturn dX10_cartsBy_29 rfl rfl rfl
-- ===== X10_taken: WeighedGate.taken(II)I =====
set_option maxRecDepth 20000 in
set_option maxHeartbeats 2000000 in
theorem p_X10_taken {G : xG} {d : Nat} {n t : Nat} (hn : 71 ≤ n) (hd : 1 ≤ d) (a1 : Int32) (a2 : Int32) (w : xI) : xMet G m_X10_taken d [.ref 0, .int a1, .int a2] (xFin n t) w (fun x : Int32 => some (Value.int x)) (xFin n t) (f_X10_taken a1 a2 w) := by
  refine xMet.of rfl (Nat.le_of_ble_eq_true rfl) ?_
  unfold f_X10_taken
  show xC G m_X10_taken d 0 [(0, .ref 0), (1, .int a1), (2, .int a2)] [] (xFin n t) w _ _ _
  refine y_iload_n dX10_taken_0 rfl 2 rfl ?_
  refine y_iconst (v := 0) dX10_taken_1 (by decide) ?_
  refine y_bipush (v := 6) dX10_taken_2 (by decide) ?_
  refine y_callS (As := [.int a2, .int (0 : Int32), .int (6 : Int32)]) (d2 := d - 1) dX10_taken_4 kX10_104 (by omega) rfl rfl (Nat.le_of_ble_eq_true rfl) (p_X10_within hn (by omega)  _ _ _ _) (fun r1 w2 _ => ?_)
  refine y_if_ne (tgt := 13) dX10_taken_7 (by decide) ?_ ?_
  · refine y_iload_n dX10_taken_13 rfl 1 rfl ?_
    refine y_iconst (v := 0) dX10_taken_14 (by decide) ?_
    refine y_bipush (v := 14) dX10_taken_15 (by decide) ?_
    refine y_callS (As := [.int a1, .int (0 : Int32), .int (14 : Int32)]) (d2 := d - 1) dX10_taken_17 kX10_104 (by omega) rfl rfl (Nat.le_of_ble_eq_true rfl) (p_X10_within hn (by omega)  _ _ _ _) (fun r3 w4 _ => ?_)
    refine y_if_ne (tgt := 26) dX10_taken_20 (by decide) ?_ ?_
    · refine y_iload_n dX10_taken_26 rfl 1 rfl ?_
      refine y_iconst (v := 5) dX10_taken_27 (by decide) ?_
      refine y_icmp_ge (tgt := 66) dX10_taken_28 (by decide) ?_ ?_
      · refine y_iload_n dX10_taken_66 rfl 1 rfl ?_
        refine y_iconst (v := 5) dX10_taken_67 (by decide) ?_
        refine y_isub dX10_taken_68 ?_
        refine y_let (fun x5 => ?_)
        refine y_istore_n (lv' := [(3, .int x5), (0, .ref 0), (1, .int a1), (2, .int a2)]) dX10_taken_69 rfl (by decide) rfl ?_
        refine y_aload_n dX10_taken_70 rfl 1 rfl ?_
        refine y_getr (q := 5) dX10_taken_71 flX10_19 (xlt rfl hn) rfl rfl rfl ?_
        refine y_iload_n dX10_taken_74 rfl 0 rfl ?_
        refine y_callV (As := [.int x5]) (d2 := d - 1) dX10_taken_75 kX10_164 (by omega) rfl rfl (Nat.le_of_ble_eq_true rfl) (xlt rfl hn) rfl rfl (p_X9_has hn (by omega)  _ _) (fun r6 w7 _ => ?_)
        refine y_if_ne (tgt := 84) dX10_taken_78 (by decide) ?_ ?_
        · refine y_aload_n dX10_taken_84 rfl 1 rfl ?_
          refine y_getr (q := 5) dX10_taken_85 flX10_19 (xlt rfl hn) rfl rfl rfl ?_
          refine y_getr (q := 6) dX10_taken_88 flX10_140 (xlt rfl hn) rfl rfl rfl ?_
          refine y_iload_n dX10_taken_91 rfl 0 rfl ?_
          refine y_aaldC dX10_taken_92 hn (fun o9 hok11 => ?_)
          refine y_iload_n dX10_taken_93 rfl 3 rfl ?_
          refine y_callV (As := [.int a2]) (d2 := d - 1) dX10_taken_94 kX10_368 (by omega) rfl rfl (Nat.le_of_ble_eq_true rfl) (okC_k hok11 hn) (okC_s hok11) rfl (p_X0_isA hn (by omega) hok11 _ _) (fun r12 w13 _ => ?_)
          refine y_if_eq (tgt := 104) dX10_taken_97 (by decide) ?_ ?_
          · refine y_bipush (v := (-13)) dX10_taken_104 (by decide) ?_
            exact y_ireturn dX10_taken_106 rfl rfl rfl
          · refine y_iload_n dX10_taken_100 rfl 0 rfl ?_
            refine y_goto (tgt := 106) dX10_taken_101 (by decide) ?_
            exact y_ireturn dX10_taken_106 rfl rfl rfl
        · refine y_bipush (v := (-11)) dX10_taken_81 (by decide) ?_
          exact y_ireturn dX10_taken_83 rfl rfl rfl
      · refine y_iload_n dX10_taken_31 rfl 1 rfl ?_
        refine y_aload_n dX10_taken_32 rfl 0 rfl ?_
        refine y_getr (q := 1) dX10_taken_33 flX10_12 (xlt rfl hn) rfl rfl rfl ?_
        refine z_geti (v := (w4 1 2)) dX10_taken_36 flX10_111 (xlt rfl hn) rfl rfl rfl ?_
        refine y_icmp_lt (tgt := 45) dX10_taken_39 (by decide) ?_ ?_
        · refine y_iload_n dX10_taken_45 rfl 2 rfl ?_
          refine y_bipush (v := 6) dX10_taken_46 (by decide) ?_
          refine y_icmp_ne (tgt := 63) dX10_taken_48 (by decide) ?_ ?_
          · refine y_bipush (v := (-13)) dX10_taken_63 (by decide) ?_
            exact y_ireturn dX10_taken_65 rfl rfl rfl
          · refine y_aload_n dX10_taken_51 rfl 0 rfl ?_
            refine y_getr (q := 1) dX10_taken_52 flX10_12 (xlt rfl hn) rfl rfl rfl ?_
            refine y_getr (q := 3) dX10_taken_55 flX10_114 (xlt rfl hn) rfl rfl rfl ?_
            refine y_iload_n dX10_taken_58 rfl 1 rfl ?_
            refine z_iald (v := (w4 3 a1.toNatClampNeg)) dX10_taken_59 (xlt rfl hn) rfl rfl ?_
            refine y_goto (tgt := 65) dX10_taken_60 (by decide) ?_
            exact y_ireturn dX10_taken_65 rfl rfl rfl
        · refine y_bipush (v := (-11)) dX10_taken_42 (by decide) ?_
          exact y_ireturn dX10_taken_44 rfl rfl rfl
    · refine y_bipush (v := (-12)) dX10_taken_23 (by decide) ?_
      exact y_ireturn dX10_taken_25 rfl rfl rfl
  · refine y_bipush (v := (-2)) dX10_taken_10 (by decide) ?_
    exact y_ireturn dX10_taken_12 rfl rfl rfl
