-- ===== X8_findBest: WeighedGate$Weighing.findBest(ILWeighedGate$Text;)V =====
set_option maxRecDepth 20000 in
set_option maxHeartbeats 2000000 in
theorem p_X8_findBest_L23 {G : xG} {d : Nat} {n t : Nat} (hn : 71 ≤ n) (hd : 3 ≤ d) {o2 : Nat} (ho2 : okT o2) : ∀ (fu : Nat) (v1 : Int32) (v3 : Int32) (v4 : Int32) (w : xI), xC G m_X8_findBest d 23 [(0, .ref 21), (1, .int v1), (2, .ref o2), (3, .int v3), (4, .int v4)] [] (xFin n t) w (fun _ : Unit => none) (xFin n t) (f_X8_findBest_L23 o2 fu v1 v3 v4 w) := by
  intro fu
  induction fu with
  | zero => intro v1 v3 v4 w; exact xC.none
  | succ fu ih =>
    intro v1 v3 v4 w
    rw [f_X8_findBest_L23]
    refine y_iload dX8_findBest_23 4 rfl ?_
    refine y_iload_n dX8_findBest_25 rfl 3 rfl ?_
    refine y_icmp_ge (tgt := 115) dX8_findBest_26 (by decide) ?_ ?_
    · exact y_return dX8_findBest_115 rfl rfl
    · refine y_iload dX8_findBest_29 4 rfl ?_
      refine y_iload_n dX8_findBest_31 rfl 1 rfl ?_
      refine y_aload_n dX8_findBest_32 rfl 0 rfl ?_
      refine z_geti (v := (w 21 5)) dX8_findBest_33 flX8_29 (xlt rfl hn) rfl rfl rfl ?_
      refine y_iand dX8_findBest_36 ?_
      refine y_iconst (v := (-1)) dX8_findBest_37 (by decide) ?_
      refine y_ixor dX8_findBest_38 ?_
      refine y_iand dX8_findBest_39 ?_
      refine y_if_ne (tgt := 109) dX8_findBest_40 (by decide) ?_ ?_
      · refine z_iinc (j := 4) dX8_findBest_109 (by decide) rfl (by decide) (fun x23001 => ?_)
        refine y_loc (lv' := [(4, .int x23001), (0, .ref 21), (1, .int v1), (2, .ref o2), (3, .int v3)]) rfl ?_
        refine y_goto (tgt := 23) dX8_findBest_112 (by decide) ?_
        refine y_sub [(0, .ref 21), (1, .int v1), (2, .ref o2), (3, .int v3), (4, .int x23001)] [1, 2, 3, 4, 0] rfl ?_
        exact ih v1 v3 x23001 w 
      · refine y_aload_n dX8_findBest_43 rfl 0 rfl ?_
        refine y_iload dX8_findBest_44 4 rfl ?_
        refine y_callV (As := [.int v4]) (d2 := d - 1) dX8_findBest_46 kX8_107 (by omega) rfl rfl (Nat.le_of_ble_eq_true rfl) (xlt rfl hn) rfl rfl (p_X8_fillsPans hn (by omega)  _ _) (fun r23002 w23003 _ => ?_)
        refine y_if_eq (tgt := 109) dX8_findBest_49 (by decide) ?_ ?_
        · refine z_iinc (j := 4) dX8_findBest_109 (by decide) rfl (by decide) (fun x23004 => ?_)
          refine y_loc (lv' := [(4, .int x23004), (0, .ref 21), (1, .int v1), (2, .ref o2), (3, .int v3)]) rfl ?_
          refine y_goto (tgt := 23) dX8_findBest_112 (by decide) ?_
          refine y_sub [(0, .ref 21), (1, .int v1), (2, .ref o2), (3, .int v3), (4, .int x23004)] [1, 2, 3, 4, 0] rfl ?_
          exact ih v1 v3 x23004 w23003 
        · refine y_aload_n dX8_findBest_52 rfl 0 rfl ?_
          refine y_iload dX8_findBest_53 4 rfl ?_
          refine y_callV (As := [.int v4]) (d2 := d - 1) dX8_findBest_55 kX8_62 (by omega) rfl rfl (Nat.le_of_ble_eq_true rfl) (xlt rfl hn) rfl rfl (p_X8_worthOf hn (by omega)  _ _) (fun r23005 w23006 _ => ?_)
          refine y_aload_n dX8_findBest_58 rfl 0 rfl ?_
          refine z_geti (v := (w23006 21 14)) dX8_findBest_59 flX8_120 (xlt rfl hn) rfl rfl rfl ?_
          refine y_icmp_gt (tgt := 68) dX8_findBest_62 (by decide) ?_ ?_
          · refine y_aload_n dX8_findBest_68 rfl 0 rfl ?_
            refine y_iload dX8_findBest_69 4 rfl ?_
            refine y_callV (As := [.int v4]) (d2 := d - 1) dX8_findBest_71 kX8_123 (by omega) rfl rfl (Nat.le_of_ble_eq_true rfl) (xlt rfl hn) rfl rfl (p_X8_weigh hn (by omega)  _ _) (fun r23007 w23008 _ => ?_)
            refine y_aload_n dX8_findBest_74 rfl 0 rfl ?_
            refine y_aload_n dX8_findBest_75 rfl 2 rfl ?_
            refine y_callV (As := [.ref o2]) (d2 := d - 1) dX8_findBest_76 kX8_127 (by omega) rfl rfl (Nat.le_of_ble_eq_true rfl) (xlt rfl hn) rfl rfl (p_X8_mayBe hn (by omega) ho2  _) (fun r23009 w23010 _ => ?_)
            refine y_if_eq (tgt := 109) dX8_findBest_79 (by decide) ?_ ?_
            · refine z_iinc (j := 4) dX8_findBest_109 (by decide) rfl (by decide) (fun x23011 => ?_)
              refine y_loc (lv' := [(4, .int x23011), (0, .ref 21), (1, .int v1), (2, .ref o2), (3, .int v3)]) rfl ?_
              refine y_goto (tgt := 23) dX8_findBest_112 (by decide) ?_
              refine y_sub [(0, .ref 21), (1, .int v1), (2, .ref o2), (3, .int v3), (4, .int x23011)] [1, 2, 3, 4, 0] rfl ?_
              exact ih v1 v3 x23011 w23010 
            · refine y_aload_n dX8_findBest_82 rfl 0 rfl ?_
              refine y_aload_n dX8_findBest_83 rfl 2 rfl ?_
              refine y_callV (As := [.ref o2]) (d2 := d - 1) dX8_findBest_84 kX8_131 (by omega) rfl rfl (Nat.le_of_ble_eq_true rfl) (xlt rfl hn) rfl rfl (p_X8_brings hn (by omega) ho2  _) (fun r23012 w23013 _ => ?_)
              refine y_aload_n dX8_findBest_87 rfl 0 rfl ?_
              refine z_geti (v := (w23013 21 14)) dX8_findBest_88 flX8_120 (xlt rfl hn) rfl rfl rfl ?_
              refine y_icmp_le (tgt := 109) dX8_findBest_91 (by decide) ?_ ?_
              · refine z_iinc (j := 4) dX8_findBest_109 (by decide) rfl (by decide) (fun x23014 => ?_)
                refine y_loc (lv' := [(4, .int x23014), (0, .ref 21), (1, .int v1), (2, .ref o2), (3, .int v3)]) rfl ?_
                refine y_goto (tgt := 23) dX8_findBest_112 (by decide) ?_
                refine y_sub [(0, .ref 21), (1, .int v1), (2, .ref o2), (3, .int v3), (4, .int x23014)] [1, 2, 3, 4, 0] rfl ?_
                exact ih v1 v3 x23014 w23013 
              · refine y_aload_n dX8_findBest_94 rfl 0 rfl ?_
                refine y_iload dX8_findBest_95 4 rfl ?_
                refine y_puti dX8_findBest_97 flX8_117 (xlt rfl hn) rfl rfl ?_
                refine y_aload_n dX8_findBest_100 rfl 0 rfl ?_
                refine y_aload_n dX8_findBest_101 rfl 0 rfl ?_
                refine y_aload_n dX8_findBest_102 rfl 2 rfl ?_
                refine y_callV (As := [.ref o2]) (d2 := d - 1) dX8_findBest_103 kX8_131 (by omega) rfl rfl (Nat.le_of_ble_eq_true rfl) (xlt rfl hn) rfl rfl (p_X8_brings hn (by omega) ho2  _) (fun r23015 w23016 _ => ?_)
                refine y_puti dX8_findBest_106 flX8_120 (xlt rfl hn) rfl rfl ?_
                refine z_iinc (j := 4) dX8_findBest_109 (by decide) rfl (by decide) (fun x23017 => ?_)
                refine y_loc (lv' := [(4, .int x23017), (0, .ref 21), (1, .int v1), (2, .ref o2), (3, .int v3)]) rfl ?_
                refine y_goto (tgt := 23) dX8_findBest_112 (by decide) ?_
                refine y_sub [(0, .ref 21), (1, .int v1), (2, .ref o2), (3, .int v3), (4, .int x23017)] [1, 2, 3, 4, 0] rfl ?_
                exact ih v1 v3 x23017 (xup w23016 21 14 r23015) 
          · refine y_goto (tgt := 109) dX8_findBest_65 (by decide) ?_
            refine z_iinc (j := 4) dX8_findBest_109 (by decide) rfl (by decide) (fun x23018 => ?_)
            refine y_loc (lv' := [(4, .int x23018), (0, .ref 21), (1, .int v1), (2, .ref o2), (3, .int v3)]) rfl ?_
            refine y_goto (tgt := 23) dX8_findBest_112 (by decide) ?_
            refine y_sub [(0, .ref 21), (1, .int v1), (2, .ref o2), (3, .int v3), (4, .int x23018)] [1, 2, 3, 4, 0] rfl ?_
            exact ih v1 v3 x23018 w23006 
set_option maxRecDepth 20000 in
set_option maxHeartbeats 2000000 in
theorem p_X8_findBest {G : xG} {d : Nat} {n t : Nat} (hn : 71 ≤ n) (hd : 3 ≤ d) {o2 : Nat} (ho2 : okT o2) (a1 : Int32) (w : xI) : xMet G m_X8_findBest d [.ref 21, .int a1, .ref o2] (xFin n t) w (fun _ : Unit => none) (xFin n t) (f_X8_findBest a1 o2 w) := by
  refine xMet.of rfl (Nat.le_of_ble_eq_true rfl) ?_
  unfold f_X8_findBest
  show xC G m_X8_findBest d 0 [(0, .ref 21), (1, .int a1), (2, .ref o2)] [] (xFin n t) w _ _ _
  refine y_aload_n dX8_findBest_0 rfl 0 rfl ?_
  refine y_iconst (v := 0) dX8_findBest_1 (by decide) ?_
  refine y_puti dX8_findBest_2 flX8_117 (xlt rfl hn) rfl rfl ?_
  refine y_aload_n dX8_findBest_5 rfl 0 rfl ?_
  refine y_iconst (v := 0) dX8_findBest_6 (by decide) ?_
  refine y_puti dX8_findBest_7 flX8_120 (xlt rfl hn) rfl rfl ?_
  refine y_iconst (v := 1) dX8_findBest_10 (by decide) ?_
  refine y_aload_n dX8_findBest_11 rfl 0 rfl ?_
  refine y_getr (q := 5) dX8_findBest_12 flX8_25 (xlt rfl hn) rfl rfl rfl ?_
  refine z_geti (v := (w 5 2)) dX8_findBest_15 flX8_36 (xlt rfl hn) rfl rfl rfl ?_
  refine y_ishl dX8_findBest_18 ?_
  refine y_let (fun x1 => ?_)
  refine y_istore_n (lv' := [(3, .int x1), (0, .ref 21), (1, .int a1), (2, .ref o2)]) dX8_findBest_19 rfl (by decide) rfl ?_
  refine y_iconst (v := 1) dX8_findBest_20 (by decide) ?_
  refine y_istore (lv' := [(4, .int (1 : Int32)), (3, .int x1), (0, .ref 21), (1, .int a1), (2, .ref o2)]) dX8_findBest_21 (by decide) rfl ?_
  refine y_sub [(0, .ref 21), (1, .int a1), (2, .ref o2), (3, .int x1), (4, .int (1 : Int32))] [2, 3, 4, 1, 0] rfl ?_
  refine p_X8_findBest_L23 hn hd ho2 2000 a1 x1 (1 : Int32) (xup (xup w 21 13 (0 : Int32)) 21 14 (0 : Int32)) 
-- ===== X1_noteBest: WeighedGate$Day.noteBest(I)V =====
set_option maxRecDepth 20000 in
set_option maxHeartbeats 2000000 in
theorem p_X1_noteBest_L112 {G : xG} {d : Nat} {n t : Nat} (hn : 71 ≤ n) (hd : 3 ≤ d) : ∀ (fu : Nat) (v1 : Int32) (v2 : Int32) (v3 : Int32) (w : xI), xC G m_X1_noteBest d 112 [(0, .ref 28), (1, .int v1), (2, .int v2), (3, .int v3)] [] (xFin n t) w (fun _ : Unit => none) (xFin n t) (f_X1_noteBest_L112 fu v1 v2 v3 w) := by
  intro fu
  induction fu with
  | zero => intro v1 v2 v3 w; exact xC.none
  | succ fu ih =>
    intro v1 v2 v3 w
    rw [f_X1_noteBest_L112]
    refine y_iload_n dX1_noteBest_112 rfl 3 rfl ?_
    refine y_aload_n dX1_noteBest_113 rfl 0 rfl ?_
    refine y_getr (q := 5) dX1_noteBest_114 flX1_25 (xlt rfl hn) rfl rfl rfl ?_
    refine z_geti (v := (w 5 2)) dX1_noteBest_117 flX1_38 (xlt rfl hn) rfl rfl rfl ?_
    refine y_icmp_ge (tgt := 159) dX1_noteBest_120 (by decide) ?_ ?_
    · exact y_return dX1_noteBest_159 rfl rfl
    · refine y_iload_n dX1_noteBest_123 rfl 2 rfl ?_
      refine y_iload_n dX1_noteBest_124 rfl 3 rfl ?_
      refine y_ishr dX1_noteBest_125 ?_
      refine y_iconst (v := 1) dX1_noteBest_126 (by decide) ?_
      refine y_iand dX1_noteBest_127 ?_
      refine y_iconst (v := 1) dX1_noteBest_128 (by decide) ?_
      refine y_icmp_ne (tgt := 153) dX1_noteBest_129 (by decide) ?_ ?_
      · refine z_iinc (j := 3) dX1_noteBest_153 (by decide) rfl (by decide) (fun x112001 => ?_)
        refine y_loc (lv' := [(3, .int x112001), (0, .ref 28), (1, .int v1), (2, .int v2)]) rfl ?_
        refine y_goto (tgt := 112) dX1_noteBest_156 (by decide) ?_
        refine y_sub [(0, .ref 28), (1, .int v1), (2, .int v2), (3, .int x112001)] [1, 2, 3, 0] rfl ?_
        exact ih v1 v2 x112001 w 
      · refine y_aload_n dX1_noteBest_132 rfl 0 rfl ?_
        refine y_aload_n dX1_noteBest_133 rfl 0 rfl ?_
        refine z_geti (v := (w 28 9)) dX1_noteBest_134 flX1_60 (xlt rfl hn) rfl rfl rfl ?_
        refine y_iload_n dX1_noteBest_137 rfl 1 rfl ?_
        refine y_aload_n dX1_noteBest_138 rfl 0 rfl ?_
        refine y_getr (q := 29) dX1_noteBest_139 flX1_9 (xlt rfl hn) rfl rfl rfl ?_
        refine y_iload_n dX1_noteBest_142 rfl 3 rfl ?_
        refine z_iald (v := (w 29 v3.toNatClampNeg)) dX1_noteBest_143 (xlt rfl hn) rfl rfl ?_
        refine y_callS (As := [.int v1, .int (w 29 v3.toNatClampNeg)]) (d2 := d - 1) dX1_noteBest_144 kX1_92 (by omega) rfl rfl (Nat.le_of_ble_eq_true rfl) (p_X10_waited hn (by omega)  _ _ _) (fun r112002 w112003 _ => ?_)
        refine y_mmax dX1_noteBest_147 q822 (Nat.le_of_ble_eq_true rfl) (by omega) ?_
        refine y_puti dX1_noteBest_150 flX1_60 (xlt rfl hn) rfl rfl ?_
        refine z_iinc (j := 3) dX1_noteBest_153 (by decide) rfl (by decide) (fun x112004 => ?_)
        refine y_loc (lv' := [(3, .int x112004), (0, .ref 28), (1, .int v1), (2, .int v2)]) rfl ?_
        refine y_goto (tgt := 112) dX1_noteBest_156 (by decide) ?_
        refine y_sub [(0, .ref 28), (1, .int v1), (2, .int v2), (3, .int x112004)] [1, 2, 3, 0] rfl ?_
        exact ih v1 v2 x112004 (xup w112003 28 9 (if (w 28 9) < r112002 then r112002 else (w 28 9))) 
set_option maxRecDepth 20000 in
set_option maxHeartbeats 2000000 in
theorem p_X1_noteBest {G : xG} {d : Nat} {n t : Nat} (hn : 71 ≤ n) (hd : 3 ≤ d) (a1 : Int32) (w : xI) : xMet G m_X1_noteBest d [.ref 28, .int a1] (xFin n t) w (fun _ : Unit => none) (xFin n t) (f_X1_noteBest a1 w) := by
  refine xMet.of rfl (Nat.le_of_ble_eq_true rfl) ?_
  unfold f_X1_noteBest
  show xC G m_X1_noteBest d 0 [(0, .ref 28), (1, .int a1)] [] (xFin n t) w _ _ _
  refine y_aload_n dX1_noteBest_0 rfl 0 rfl ?_
  refine y_getr (q := 21) dX1_noteBest_1 flX1_21 (xlt rfl hn) rfl rfl rfl ?_
  refine z_geti (v := (w 21 13)) dX1_noteBest_4 flX1_77 (xlt rfl hn) rfl rfl rfl ?_
  refine y_let (fun x1 => ?_)
  refine y_istore_n (lv' := [(2, .int x1), (0, .ref 28), (1, .int a1)]) dX1_noteBest_7 rfl (by decide) rfl ?_
  refine y_iload_n dX1_noteBest_8 rfl 0 rfl ?_
  refine y_if_eq (tgt := 21) dX1_noteBest_9 (by decide) ?_ ?_
  · exact y_return dX1_noteBest_21 rfl rfl
  · refine y_aload_n dX1_noteBest_12 rfl 1 rfl ?_
    refine z_geti (v := (w 28 5)) dX1_noteBest_13 flX1_48 (xlt rfl hn) rfl rfl rfl ?_
    refine y_bipush (v := 10) dX1_noteBest_16 (by decide) ?_
    refine y_icmp_lt (tgt := 22) dX1_noteBest_18 (by decide) ?_ ?_
    · refine y_aload_n dX1_noteBest_22 rfl 1 rfl ?_
      refine y_getr (q := 21) dX1_noteBest_23 flX1_21 (xlt rfl hn) rfl rfl rfl ?_
      refine y_iload_n dX1_noteBest_26 rfl 0 rfl ?_
      refine y_callV (As := [.int x1]) (d2 := d - 1) dX1_noteBest_27 kX1_80 (by omega) rfl rfl (Nat.le_of_ble_eq_true rfl) (xlt rfl hn) rfl rfl (p_X8_weigh hn (by omega)  _ _) (fun r2 w3 _ => ?_)
      refine y_aload_n dX1_noteBest_30 rfl 1 rfl ?_
      refine y_getr (q := 30) dX1_noteBest_31 flX1_15 (xlt rfl hn) rfl rfl rfl ?_
      refine y_aload_n dX1_noteBest_34 rfl 1 rfl ?_
      refine z_geti (v := (w3 28 5)) dX1_noteBest_35 flX1_48 (xlt rfl hn) rfl rfl rfl ?_
      refine y_iload_n dX1_noteBest_38 rfl 2 rfl ?_
      refine y_iast dX1_noteBest_39 (xlt rfl hn) rfl ?_
      refine y_aload_n dX1_noteBest_40 rfl 1 rfl ?_
      refine y_getr (q := 31) dX1_noteBest_41 flX1_18 (xlt rfl hn) rfl rfl rfl ?_
      refine y_aload_n dX1_noteBest_44 rfl 1 rfl ?_
      refine z_geti (v := (w3 28 5)) dX1_noteBest_45 flX1_48 (xlt rfl hn) rfl rfl rfl ?_
      refine y_iload_n dX1_noteBest_48 rfl 0 rfl ?_
      refine y_iast dX1_noteBest_49 (xlt rfl hn) rfl ?_
      refine y_aload_n dX1_noteBest_50 rfl 1 rfl ?_
      refine y_dup dX1_noteBest_51 rfl ?_
      refine z_geti (v := (w3 28 5)) dX1_noteBest_52 flX1_48 (xlt rfl hn) rfl rfl rfl ?_
      refine y_iconst (v := 1) dX1_noteBest_55 (by decide) ?_
      refine y_iadd dX1_noteBest_56 ?_
      refine y_puti dX1_noteBest_57 flX1_48 (xlt rfl hn) rfl rfl ?_
      refine y_aload_n dX1_noteBest_60 rfl 1 rfl ?_
      refine y_dup dX1_noteBest_61 rfl ?_
      refine z_geti (v := (w3 28 6)) dX1_noteBest_62 flX1_51 (xlt rfl hn) rfl rfl rfl ?_
      refine y_aload_n dX1_noteBest_65 rfl 1 rfl ?_
      refine y_getr (q := 21) dX1_noteBest_66 flX1_21 (xlt rfl hn) rfl rfl rfl ?_
      refine z_geti (v := (w3 21 14)) dX1_noteBest_69 flX1_83 (xlt rfl hn) rfl rfl rfl ?_
      refine y_iadd dX1_noteBest_72 ?_
      refine y_puti dX1_noteBest_73 flX1_51 (xlt rfl hn) rfl rfl ?_
      refine y_aload_n dX1_noteBest_76 rfl 1 rfl ?_
      refine y_dup dX1_noteBest_77 rfl ?_
      refine z_geti (v := (w3 28 7)) dX1_noteBest_78 flX1_54 (xlt rfl hn) rfl rfl rfl ?_
      refine y_iload_n dX1_noteBest_81 rfl 0 rfl ?_
      refine y_ior dX1_noteBest_82 ?_
      refine y_puti dX1_noteBest_83 flX1_54 (xlt rfl hn) rfl rfl ?_
      refine y_aload_n dX1_noteBest_86 rfl 1 rfl ?_
      refine y_dup dX1_noteBest_87 rfl ?_
      refine z_geti (v := (w3 28 8)) dX1_noteBest_88 flX1_57 (xlt rfl hn) rfl rfl rfl ?_
      refine y_aload_n dX1_noteBest_91 rfl 1 rfl ?_
      refine y_getr (q := 21) dX1_noteBest_92 flX1_21 (xlt rfl hn) rfl rfl rfl ?_
      refine z_geti (v := (w3 21 9)) dX1_noteBest_95 flX1_86 (xlt rfl hn) rfl rfl rfl ?_
      refine y_aload_n dX1_noteBest_98 rfl 1 rfl ?_
      refine y_getr (q := 21) dX1_noteBest_99 flX1_21 (xlt rfl hn) rfl rfl rfl ?_
      refine z_geti (v := (w3 21 10)) dX1_noteBest_102 flX1_89 (xlt rfl hn) rfl rfl rfl ?_
      refine y_isub dX1_noteBest_105 ?_
      refine y_iadd dX1_noteBest_106 ?_
      refine y_puti dX1_noteBest_107 flX1_57 (xlt rfl hn) rfl rfl ?_
      refine y_iconst (v := 0) dX1_noteBest_110 (by decide) ?_
      refine y_istore_n (lv' := [(3, .int (0 : Int32)), (2, .int x1), (0, .ref 28), (1, .int a1)]) dX1_noteBest_111 rfl (by decide) rfl ?_
      refine y_sub [(0, .ref 28), (1, .int a1), (2, .int x1), (3, .int (0 : Int32))] [2, 3, 1, 0] rfl ?_
      refine p_X1_noteBest_L112 hn hd 2000 a1 x1 (0 : Int32) (xup (xup (xup (xup (xup (xup w3 30 (w3 28 5).toNatClampNeg a1) 31 (w3 28 5).toNatClampNeg x1) 28 5 ((w3 28 5) + (1 : Int32))) 28 6 ((w3 28 6) + (w3 21 14))) 28 7 ((w3 28 7) ||| x1)) 28 8 ((w3 28 8) + ((w3 21 9) - (w3 21 10)))) 
    · exact y_return dX1_noteBest_21 rfl rfl
-- ===== X1_run: WeighedGate$Day.run(IIILWeighedGate$Text;)V =====
set_option maxRecDepth 20000 in
set_option maxHeartbeats 2000000 in
theorem p_X1_run_L28 {G : xG} {d : Nat} {n t : Nat} (hn : 71 ≤ n) (hd : 4 ≤ d) {o4 : Nat} (ho4 : okT o4) : ∀ (fu : Nat) (v1 : Int32) (v2 : Int32) (v3 : Int32) (v5 : Int32) (w : xI), xC G m_X1_run d 28 [(0, .ref 28), (1, .int v1), (2, .int v2), (3, .int v3), (4, .ref o4), (5, .int v5)] [] (xFin n t) w (fun _ : Unit => none) (xFin n t) (f_X1_run_L28 o4 fu v1 v2 v3 v5 w) := by
  intro fu
  induction fu with
  | zero => intro v1 v2 v3 v5 w; exact xC.none
  | succ fu ih =>
    intro v1 v2 v3 v5 w
    rw [f_X1_run_L28]
    refine y_iload dX1_run_28 5 rfl ?_
    refine y_iload_n dX1_run_30 rfl 1 rfl ?_
    refine y_icmp_ge (tgt := 89) dX1_run_31 (by decide) ?_ ?_
    · exact y_return dX1_run_89 rfl rfl
    · refine y_iload dX1_run_34 5 rfl ?_
      refine y_bipush (v := 10) dX1_run_36 (by decide) ?_
      refine y_icmp_ge (tgt := 89) dX1_run_38 (by decide) ?_ ?_
      · exact y_return dX1_run_89 rfl rfl
      · refine y_iload dX1_run_41 5 rfl ?_
        refine y_iload_n dX1_run_43 rfl 2 rfl ?_
        refine y_icmp_eq (tgt := 83) dX1_run_44 (by decide) ?_ ?_
        · refine z_iinc (j := 5) dX1_run_83 (by decide) rfl (by decide) (fun x28001 => ?_)
          refine y_loc (lv' := [(5, .int x28001), (0, .ref 28), (1, .int v1), (2, .int v2), (3, .int v3), (4, .ref o4)]) rfl ?_
          refine y_goto (tgt := 28) dX1_run_86 (by decide) ?_
          refine y_sub [(0, .ref 28), (1, .int v1), (2, .int v2), (3, .int v3), (4, .ref o4), (5, .int x28001)] [1, 2, 3, 4, 5, 0] rfl ?_
          exact ih v1 v2 v3 x28001 w 
        · refine y_aload_n dX1_run_47 rfl 0 rfl ?_
          refine y_getr (q := 21) dX1_run_48 flX1_21 (xlt rfl hn) rfl rfl rfl ?_
          refine y_iload dX1_run_51 5 rfl ?_
          refine y_aload_n dX1_run_53 rfl 0 rfl ?_
          refine y_getr (q := 29) dX1_run_54 flX1_9 (xlt rfl hn) rfl rfl rfl ?_
          refine y_callV (As := [.int v5, .ref 29]) (d2 := d - 1) dX1_run_57 kX1_63 (by omega) rfl rfl (Nat.le_of_ble_eq_true rfl) (xlt rfl hn) rfl rfl (p_X8_prepare hn (by omega) (okA_c (by decide) rfl) _ _) (fun r28002 w28003 _ => ?_)
          refine y_aload_n dX1_run_60 rfl 0 rfl ?_
          refine y_getr (q := 21) dX1_run_61 flX1_21 (xlt rfl hn) rfl rfl rfl ?_
          refine y_iload_n dX1_run_64 rfl 3 rfl ?_
          refine y_aload_n dX1_run_65 rfl 0 rfl ?_
          refine z_geti (v := (w28003 28 7)) dX1_run_66 flX1_54 (xlt rfl hn) rfl rfl rfl ?_
          refine y_iconst (v := (-1)) dX1_run_69 (by decide) ?_
          refine y_ixor dX1_run_70 ?_
          refine y_iand dX1_run_71 ?_
          refine y_aload dX1_run_72 4 rfl ?_
          refine y_callV (As := [.int (v3 &&& ((w28003 28 7) ^^^ (-1 : Int32))), .ref o4]) (d2 := d - 1) dX1_run_74 kX1_69 (by omega) rfl rfl (Nat.le_of_ble_eq_true rfl) (xlt rfl hn) rfl rfl (p_X8_findBest hn (by omega) ho4 _ _) (fun r28004 w28005 _ => ?_)
          refine y_aload_n dX1_run_77 rfl 0 rfl ?_
          refine y_iload dX1_run_78 5 rfl ?_
          refine y_callV (As := [.int v5]) (d2 := d - 1) dX1_run_80 kX1_73 (by omega) rfl rfl (Nat.le_of_ble_eq_true rfl) (xlt rfl hn) rfl rfl (p_X1_noteBest hn (by omega)  _ _) (fun r28006 w28007 _ => ?_)
          refine z_iinc (j := 5) dX1_run_83 (by decide) rfl (by decide) (fun x28008 => ?_)
          refine y_loc (lv' := [(5, .int x28008), (0, .ref 28), (1, .int v1), (2, .int v2), (3, .int v3), (4, .ref o4)]) rfl ?_
          refine y_goto (tgt := 28) dX1_run_86 (by decide) ?_
          refine y_sub [(0, .ref 28), (1, .int v1), (2, .int v2), (3, .int v3), (4, .ref o4), (5, .int x28008)] [1, 2, 3, 4, 5, 0] rfl ?_
          exact ih v1 v2 v3 x28008 w28007 
set_option maxRecDepth 20000 in
set_option maxHeartbeats 2000000 in
theorem p_X1_run {G : xG} {d : Nat} {n t : Nat} (hn : 71 ≤ n) (hd : 4 ≤ d) {o4 : Nat} (ho4 : okT o4) (a1 : Int32) (a2 : Int32) (a3 : Int32) (w : xI) : xMet G m_X1_run d [.ref 28, .int a1, .int a2, .int a3, .ref o4] (xFin n t) w (fun _ : Unit => none) (xFin n t) (f_X1_run a1 a2 a3 o4 w) := by
  refine xMet.of rfl (Nat.le_of_ble_eq_true rfl) ?_
  unfold f_X1_run
  show xC G m_X1_run d 0 [(0, .ref 28), (1, .int a1), (2, .int a2), (3, .int a3), (4, .ref o4)] [] (xFin n t) w _ _ _
  refine y_aload_n dX1_run_0 rfl 0 rfl ?_
  refine y_iconst (v := 0) dX1_run_1 (by decide) ?_
  refine y_puti dX1_run_2 flX1_48 (xlt rfl hn) rfl rfl ?_
  refine y_aload_n dX1_run_5 rfl 0 rfl ?_
  refine y_iconst (v := 0) dX1_run_6 (by decide) ?_
  refine y_puti dX1_run_7 flX1_51 (xlt rfl hn) rfl rfl ?_
  refine y_aload_n dX1_run_10 rfl 0 rfl ?_
  refine y_iconst (v := 0) dX1_run_11 (by decide) ?_
  refine y_puti dX1_run_12 flX1_54 (xlt rfl hn) rfl rfl ?_
  refine y_aload_n dX1_run_15 rfl 0 rfl ?_
  refine y_iconst (v := 0) dX1_run_16 (by decide) ?_
  refine y_puti dX1_run_17 flX1_57 (xlt rfl hn) rfl rfl ?_
  refine y_aload_n dX1_run_20 rfl 0 rfl ?_
  refine y_iconst (v := 0) dX1_run_21 (by decide) ?_
  refine y_puti dX1_run_22 flX1_60 (xlt rfl hn) rfl rfl ?_
  refine y_iconst (v := 0) dX1_run_25 (by decide) ?_
  refine y_istore (lv' := [(5, .int (0 : Int32)), (0, .ref 28), (1, .int a1), (2, .int a2), (3, .int a3), (4, .ref o4)]) dX1_run_26 (by decide) rfl ?_
  refine y_sub [(0, .ref 28), (1, .int a1), (2, .int a2), (3, .int a3), (4, .ref o4), (5, .int (0 : Int32))] [1, 2, 3, 4, 5, 0] rfl ?_
  refine p_X1_run_L28 hn hd ho4 2000 a1 a2 a3 (0 : Int32) (xup (xup (xup (xup (xup w 28 5 (0 : Int32)) 28 6 (0 : Int32)) 28 7 (0 : Int32)) 28 8 (0 : Int32)) 28 9 (0 : Int32)) 
-- ===== X1_longestLeft: WeighedGate$Day.longestLeft(I)I =====
set_option maxRecDepth 20000 in
set_option maxHeartbeats 2000000 in
theorem p_X1_longestLeft_L4 {G : xG} {d : Nat} {n t : Nat} (hn : 71 ≤ n) (hd : 2 ≤ d) : ∀ (fu : Nat) (v1 : Int32) (v2 : Int32) (v3 : Int32) (w : xI), xC G m_X1_longestLeft d 4 [(0, .ref 28), (1, .int v1), (2, .int v2), (3, .int v3)] [] (xFin n t) w (fun x : Int32 => some (Value.int x)) (xFin n t) (f_X1_longestLeft_L4 fu v1 v2 v3 w) := by
  intro fu
  induction fu with
  | zero => intro v1 v2 v3 w; exact xC.none
  | succ fu ih =>
    intro v1 v2 v3 w
    rw [f_X1_longestLeft_L4]
    refine y_iload_n dX1_longestLeft_4 rfl 3 rfl ?_
    refine y_aload_n dX1_longestLeft_5 rfl 0 rfl ?_
    refine y_getr (q := 5) dX1_longestLeft_6 flX1_25 (xlt rfl hn) rfl rfl rfl ?_
    refine z_geti (v := (w 5 2)) dX1_longestLeft_9 flX1_38 (xlt rfl hn) rfl rfl rfl ?_
    refine y_icmp_ge (tgt := 47) dX1_longestLeft_12 (by decide) ?_ ?_
    · refine y_iload_n dX1_longestLeft_47 rfl 2 rfl ?_
      exact y_ireturn dX1_longestLeft_48 rfl rfl rfl
    · refine y_aload_n dX1_longestLeft_15 rfl 0 rfl ?_
      refine z_geti (v := (w 28 7)) dX1_longestLeft_16 flX1_54 (xlt rfl hn) rfl rfl rfl ?_
      refine y_iload_n dX1_longestLeft_19 rfl 3 rfl ?_
      refine y_ishr dX1_longestLeft_20 ?_
      refine y_iconst (v := 1) dX1_longestLeft_21 (by decide) ?_
      refine y_iand dX1_longestLeft_22 ?_
      refine y_if_ne (tgt := 41) dX1_longestLeft_23 (by decide) ?_ ?_
      · refine z_iinc (j := 3) dX1_longestLeft_41 (by decide) rfl (by decide) (fun x4001 => ?_)
        refine y_loc (lv' := [(3, .int x4001), (0, .ref 28), (1, .int v1), (2, .int v2)]) rfl ?_
        refine y_goto (tgt := 4) dX1_longestLeft_44 (by decide) ?_
        refine y_sub [(0, .ref 28), (1, .int v1), (2, .int v2), (3, .int x4001)] [1, 2, 3, 0] rfl ?_
        exact ih v1 v2 x4001 w 
      · refine y_iload_n dX1_longestLeft_26 rfl 2 rfl ?_
        refine y_iload_n dX1_longestLeft_27 rfl 1 rfl ?_
        refine y_aload_n dX1_longestLeft_28 rfl 0 rfl ?_
        refine y_getr (q := 29) dX1_longestLeft_29 flX1_9 (xlt rfl hn) rfl rfl rfl ?_
        refine y_iload_n dX1_longestLeft_32 rfl 3 rfl ?_
        refine z_iald (v := (w 29 v3.toNatClampNeg)) dX1_longestLeft_33 (xlt rfl hn) rfl rfl ?_
        refine y_callS (As := [.int v1, .int (w 29 v3.toNatClampNeg)]) (d2 := d - 1) dX1_longestLeft_34 kX1_92 (by omega) rfl rfl (Nat.le_of_ble_eq_true rfl) (p_X10_waited hn (by omega)  _ _ _) (fun r4002 w4003 _ => ?_)
        refine y_mmax dX1_longestLeft_37 q822 (Nat.le_of_ble_eq_true rfl) (by omega) ?_
        refine y_let (fun x4004 => ?_)
        refine y_istore_n (lv' := [(2, .int x4004), (0, .ref 28), (1, .int v1), (3, .int v3)]) dX1_longestLeft_40 rfl (by decide) rfl ?_
        refine z_iinc (j := 3) dX1_longestLeft_41 (by decide) rfl (by decide) (fun x4005 => ?_)
        refine y_loc (lv' := [(3, .int x4005), (2, .int x4004), (0, .ref 28), (1, .int v1)]) rfl ?_
        refine y_goto (tgt := 4) dX1_longestLeft_44 (by decide) ?_
        refine y_sub [(0, .ref 28), (1, .int v1), (2, .int x4004), (3, .int x4005)] [2, 3, 1, 0] rfl ?_
        exact ih v1 x4004 x4005 w4003 
set_option maxRecDepth 20000 in
set_option maxHeartbeats 2000000 in
theorem p_X1_longestLeft {G : xG} {d : Nat} {n t : Nat} (hn : 71 ≤ n) (hd : 2 ≤ d) (a1 : Int32) (w : xI) : xMet G m_X1_longestLeft d [.ref 28, .int a1] (xFin n t) w (fun x : Int32 => some (Value.int x)) (xFin n t) (f_X1_longestLeft a1 w) := by
  refine xMet.of rfl (Nat.le_of_ble_eq_true rfl) ?_
  unfold f_X1_longestLeft
  show xC G m_X1_longestLeft d 0 [(0, .ref 28), (1, .int a1)] [] (xFin n t) w _ _ _
  refine y_iconst (v := 0) dX1_longestLeft_0 (by decide) ?_
  refine y_istore_n (lv' := [(2, .int (0 : Int32)), (0, .ref 28), (1, .int a1)]) dX1_longestLeft_1 rfl (by decide) rfl ?_
  refine y_iconst (v := 0) dX1_longestLeft_2 (by decide) ?_
  refine y_istore_n (lv' := [(3, .int (0 : Int32)), (2, .int (0 : Int32)), (0, .ref 28), (1, .int a1)]) dX1_longestLeft_3 rfl (by decide) rfl ?_
  refine y_sub [(0, .ref 28), (1, .int a1), (2, .int (0 : Int32)), (3, .int (0 : Int32))] [2, 3, 1, 0] rfl ?_
  refine p_X1_longestLeft_L4 hn hd 2000 a1 (0 : Int32) (0 : Int32) w 
-- ===== X1_hourOf: WeighedGate$Day.hourOf(I)I =====
set_option maxRecDepth 20000 in
set_option maxHeartbeats 2000000 in
theorem p_X1_hourOf_L2 {G : xG} {d : Nat} {n t : Nat} (hn : 71 ≤ n) (hd : 0 ≤ d) : ∀ (fu : Nat) (v1 : Int32) (v2 : Int32) (w : xI), xC G m_X1_hourOf d 2 [(0, .ref 28), (1, .int v1), (2, .int v2)] [] (xFin n t) w (fun x : Int32 => some (Value.int x)) (xFin n t) (f_X1_hourOf_L2 fu v1 v2 w) := by
  intro fu
  induction fu with
  | zero => intro v1 v2 w; exact xC.none
  | succ fu ih =>
    intro v1 v2 w
    rw [f_X1_hourOf_L2]
    refine y_iload_n dX1_hourOf_2 rfl 2 rfl ?_
    refine y_aload_n dX1_hourOf_3 rfl 0 rfl ?_
    refine z_geti (v := (w 28 5)) dX1_hourOf_4 flX1_48 (xlt rfl hn) rfl rfl rfl ?_
    refine y_icmp_ge (tgt := 37) dX1_hourOf_7 (by decide) ?_ ?_
    · refine y_iconst (v := (-1)) dX1_hourOf_37 (by decide) ?_
      exact y_ireturn dX1_hourOf_38 rfl rfl rfl
    · refine y_aload_n dX1_hourOf_10 rfl 0 rfl ?_
      refine y_getr (q := 31) dX1_hourOf_11 flX1_18 (xlt rfl hn) rfl rfl rfl ?_
      refine y_iload_n dX1_hourOf_14 rfl 2 rfl ?_
      refine z_iald (v := (w 31 v2.toNatClampNeg)) dX1_hourOf_15 (xlt rfl hn) rfl rfl ?_
      refine y_iload_n dX1_hourOf_16 rfl 1 rfl ?_
      refine y_ishr dX1_hourOf_17 ?_
      refine y_iconst (v := 1) dX1_hourOf_18 (by decide) ?_
      refine y_iand dX1_hourOf_19 ?_
      refine y_iconst (v := 1) dX1_hourOf_20 (by decide) ?_
      refine y_icmp_ne (tgt := 31) dX1_hourOf_21 (by decide) ?_ ?_
      · refine z_iinc (j := 2) dX1_hourOf_31 (by decide) rfl (by decide) (fun x2001 => ?_)
        refine y_loc (lv' := [(2, .int x2001), (0, .ref 28), (1, .int v1)]) rfl ?_
        refine y_goto (tgt := 2) dX1_hourOf_34 (by decide) ?_
        refine y_sub [(0, .ref 28), (1, .int v1), (2, .int x2001)] [1, 2, 0] rfl ?_
        exact ih v1 x2001 w 
      · refine y_aload_n dX1_hourOf_24 rfl 0 rfl ?_
        refine y_getr (q := 30) dX1_hourOf_25 flX1_15 (xlt rfl hn) rfl rfl rfl ?_
        refine y_iload_n dX1_hourOf_28 rfl 2 rfl ?_
        refine z_iald (v := (w 30 v2.toNatClampNeg)) dX1_hourOf_29 (xlt rfl hn) rfl rfl ?_
        exact y_ireturn dX1_hourOf_30 rfl rfl rfl
set_option maxRecDepth 20000 in
set_option maxHeartbeats 2000000 in
theorem p_X1_hourOf {G : xG} {d : Nat} {n t : Nat} (hn : 71 ≤ n) (hd : 0 ≤ d) (a1 : Int32) (w : xI) : xMet G m_X1_hourOf d [.ref 28, .int a1] (xFin n t) w (fun x : Int32 => some (Value.int x)) (xFin n t) (f_X1_hourOf a1 w) := by
  refine xMet.of rfl (Nat.le_of_ble_eq_true rfl) ?_
  unfold f_X1_hourOf
  show xC G m_X1_hourOf d 0 [(0, .ref 28), (1, .int a1)] [] (xFin n t) w _ _ _
  refine y_iconst (v := 0) dX1_hourOf_0 (by decide) ?_
  refine y_istore_n (lv' := [(2, .int (0 : Int32)), (0, .ref 28), (1, .int a1)]) dX1_hourOf_1 rfl (by decide) rfl ?_
  refine y_sub [(0, .ref 28), (1, .int a1), (2, .int (0 : Int32))] [1, 2, 0] rfl ?_
  refine p_X1_hourOf_L2 hn hd 2000 a1 (0 : Int32) w 
-- ===== X1_setAt: WeighedGate$Day.setAt(I)I =====
set_option maxRecDepth 20000 in
set_option maxHeartbeats 2000000 in
theorem p_X1_setAt_L2 {G : xG} {d : Nat} {n t : Nat} (hn : 71 ≤ n) (hd : 0 ≤ d) : ∀ (fu : Nat) (v1 : Int32) (v2 : Int32) (w : xI), xC G m_X1_setAt d 2 [(0, .ref 28), (1, .int v1), (2, .int v2)] [] (xFin n t) w (fun x : Int32 => some (Value.int x)) (xFin n t) (f_X1_setAt_L2 fu v1 v2 w) := by
  intro fu
  induction fu with
  | zero => intro v1 v2 w; exact xC.none
  | succ fu ih =>
    intro v1 v2 w
    rw [f_X1_setAt_L2]
    refine y_iload_n dX1_setAt_2 rfl 2 rfl ?_
    refine y_aload_n dX1_setAt_3 rfl 0 rfl ?_
    refine z_geti (v := (w 28 5)) dX1_setAt_4 flX1_48 (xlt rfl hn) rfl rfl rfl ?_
    refine y_icmp_ge (tgt := 33) dX1_setAt_7 (by decide) ?_ ?_
    · refine y_iconst (v := 0) dX1_setAt_33 (by decide) ?_
      exact y_ireturn dX1_setAt_34 rfl rfl rfl
    · refine y_aload_n dX1_setAt_10 rfl 0 rfl ?_
      refine y_getr (q := 30) dX1_setAt_11 flX1_15 (xlt rfl hn) rfl rfl rfl ?_
      refine y_iload_n dX1_setAt_14 rfl 2 rfl ?_
      refine z_iald (v := (w 30 v2.toNatClampNeg)) dX1_setAt_15 (xlt rfl hn) rfl rfl ?_
      refine y_iload_n dX1_setAt_16 rfl 1 rfl ?_
      refine y_icmp_ne (tgt := 27) dX1_setAt_17 (by decide) ?_ ?_
      · refine z_iinc (j := 2) dX1_setAt_27 (by decide) rfl (by decide) (fun x2001 => ?_)
        refine y_loc (lv' := [(2, .int x2001), (0, .ref 28), (1, .int v1)]) rfl ?_
        refine y_goto (tgt := 2) dX1_setAt_30 (by decide) ?_
        refine y_sub [(0, .ref 28), (1, .int v1), (2, .int x2001)] [1, 2, 0] rfl ?_
        exact ih v1 x2001 w 
      · refine y_aload_n dX1_setAt_20 rfl 0 rfl ?_
        refine y_getr (q := 31) dX1_setAt_21 flX1_18 (xlt rfl hn) rfl rfl rfl ?_
        refine y_iload_n dX1_setAt_24 rfl 2 rfl ?_
        refine z_iald (v := (w 31 v2.toNatClampNeg)) dX1_setAt_25 (xlt rfl hn) rfl rfl ?_
        exact y_ireturn dX1_setAt_26 rfl rfl rfl
set_option maxRecDepth 20000 in
set_option maxHeartbeats 2000000 in
theorem p_X1_setAt {G : xG} {d : Nat} {n t : Nat} (hn : 71 ≤ n) (hd : 0 ≤ d) (a1 : Int32) (w : xI) : xMet G m_X1_setAt d [.ref 28, .int a1] (xFin n t) w (fun x : Int32 => some (Value.int x)) (xFin n t) (f_X1_setAt a1 w) := by
  refine xMet.of rfl (Nat.le_of_ble_eq_true rfl) ?_
  unfold f_X1_setAt
  show xC G m_X1_setAt d 0 [(0, .ref 28), (1, .int a1)] [] (xFin n t) w _ _ _
  refine y_iconst (v := 0) dX1_setAt_0 (by decide) ?_
  refine y_istore_n (lv' := [(2, .int (0 : Int32)), (0, .ref 28), (1, .int a1)]) dX1_setAt_1 rfl (by decide) rfl ?_
  refine y_sub [(0, .ref 28), (1, .int a1), (2, .int (0 : Int32))] [1, 2, 0] rfl ?_
  refine p_X1_setAt_L2 hn hd 2000 a1 (0 : Int32) w 
-- ===== X1_isToldBy: WeighedGate$Day.isToldBy(LWeighedGate$Sheet;)Z =====
set_option maxRecDepth 20000 in
set_option maxHeartbeats 2000000 in
theorem p_X1_isToldBy_L17 {G : xG} {d : Nat} {n t : Nat} (hn : 71 ≤ n) (hd : 0 ≤ d) {o1 : Nat} (ho1 : okS o1) : ∀ (fu : Nat) (v2 : Int32) (w : xI), xC G m_X1_isToldBy d 17 [(0, .ref 28), (1, .ref o1), (2, .int v2)] [] (xFin n t) w (fun x : Int32 => some (Value.int x)) (xFin n t) (f_X1_isToldBy_L17 o1 fu v2 w) := by
  intro fu
  induction fu with
  | zero => intro v2 w; exact xC.none
  | succ fu ih =>
    intro v2 w
    rw [f_X1_isToldBy_L17]
    refine y_iload_n dX1_isToldBy_17 rfl 2 rfl ?_
    refine y_aload_n dX1_isToldBy_18 rfl 0 rfl ?_
    refine z_geti (v := (w 28 5)) dX1_isToldBy_19 flX1_48 (xlt rfl hn) rfl rfl rfl ?_
    refine y_icmp_ge (tgt := 69) dX1_isToldBy_22 (by decide) ?_ ?_
    · refine y_iconst (v := 1) dX1_isToldBy_69 (by decide) ?_
      exact y_ireturn dX1_isToldBy_70 rfl rfl rfl
    · refine y_aload_n dX1_isToldBy_25 rfl 1 rfl ?_
      refine y_getr (q := (o1 + 1)) dX1_isToldBy_26 flX1_104 (okS_k ho1 hn) (okS_s ho1) rfl (okS_r1 ho1 _) ?_
      refine y_iconst (v := 2) dX1_isToldBy_29 (by decide) ?_
      refine y_iload_n dX1_isToldBy_30 rfl 2 rfl ?_
      refine y_imul dX1_isToldBy_31 ?_
      refine z_iald (v := (w (o1 + 1) ((2 : Int32) * v2).toNatClampNeg)) dX1_isToldBy_32 (okS_k1 ho1 hn) (okS_s1 ho1) rfl ?_
      refine y_aload_n dX1_isToldBy_33 rfl 0 rfl ?_
      refine y_getr (q := 30) dX1_isToldBy_34 flX1_15 (xlt rfl hn) rfl rfl rfl ?_
      refine y_iload_n dX1_isToldBy_37 rfl 2 rfl ?_
      refine z_iald (v := (w 30 v2.toNatClampNeg)) dX1_isToldBy_38 (xlt rfl hn) rfl rfl ?_
      refine y_icmp_ne (tgt := 61) dX1_isToldBy_39 (by decide) ?_ ?_
      · refine y_iconst (v := 0) dX1_isToldBy_61 (by decide) ?_
        exact y_ireturn dX1_isToldBy_62 rfl rfl rfl
      · refine y_aload_n dX1_isToldBy_42 rfl 1 rfl ?_
        refine y_getr (q := (o1 + 1)) dX1_isToldBy_43 flX1_104 (okS_k ho1 hn) (okS_s ho1) rfl (okS_r1 ho1 _) ?_
        refine y_iconst (v := 2) dX1_isToldBy_46 (by decide) ?_
        refine y_iload_n dX1_isToldBy_47 rfl 2 rfl ?_
        refine y_imul dX1_isToldBy_48 ?_
        refine y_iconst (v := 1) dX1_isToldBy_49 (by decide) ?_
        refine y_iadd dX1_isToldBy_50 ?_
        refine z_iald (v := (w (o1 + 1) (((2 : Int32) * v2) + (1 : Int32)).toNatClampNeg)) dX1_isToldBy_51 (okS_k1 ho1 hn) (okS_s1 ho1) rfl ?_
        refine y_aload_n dX1_isToldBy_52 rfl 0 rfl ?_
        refine y_getr (q := 31) dX1_isToldBy_53 flX1_18 (xlt rfl hn) rfl rfl rfl ?_
        refine y_iload_n dX1_isToldBy_56 rfl 2 rfl ?_
        refine z_iald (v := (w 31 v2.toNatClampNeg)) dX1_isToldBy_57 (xlt rfl hn) rfl rfl ?_
        refine y_icmp_eq (tgt := 63) dX1_isToldBy_58 (by decide) ?_ ?_
        · refine z_iinc (j := 2) dX1_isToldBy_63 (by decide) rfl (by decide) (fun x17001 => ?_)
          refine y_loc (lv' := [(2, .int x17001), (0, .ref 28), (1, .ref o1)]) rfl ?_
          refine y_goto (tgt := 17) dX1_isToldBy_66 (by decide) ?_
          refine y_sub [(0, .ref 28), (1, .ref o1), (2, .int x17001)] [1, 2, 0] rfl ?_
          exact ih x17001 w 
        · refine y_iconst (v := 0) dX1_isToldBy_61 (by decide) ?_
          exact y_ireturn dX1_isToldBy_62 rfl rfl rfl
set_option maxRecDepth 20000 in
set_option maxHeartbeats 2000000 in
theorem p_X1_isToldBy {G : xG} {d : Nat} {n t : Nat} (hn : 71 ≤ n) (hd : 0 ≤ d) {o1 : Nat} (ho1 : okS o1) (w : xI) : xMet G m_X1_isToldBy d [.ref 28, .ref o1] (xFin n t) w (fun x : Int32 => some (Value.int x)) (xFin n t) (f_X1_isToldBy o1 w) := by
  refine xMet.of rfl (Nat.le_of_ble_eq_true rfl) ?_
  unfold f_X1_isToldBy
  show xC G m_X1_isToldBy d 0 [(0, .ref 28), (1, .ref o1)] [] (xFin n t) w _ _ _
  refine y_aload_n dX1_isToldBy_0 rfl 1 rfl ?_
  refine z_geti (v := (w o1 1)) dX1_isToldBy_1 flX1_101 (okS_k ho1 hn) (okS_s ho1) rfl rfl ?_
  refine y_iconst (v := 2) dX1_isToldBy_4 (by decide) ?_
  refine y_aload_n dX1_isToldBy_5 rfl 0 rfl ?_
  refine z_geti (v := (w 28 5)) dX1_isToldBy_6 flX1_48 (xlt rfl hn) rfl rfl rfl ?_
  refine y_imul dX1_isToldBy_9 ?_
  refine y_icmp_eq (tgt := 15) dX1_isToldBy_10 (by decide) ?_ ?_
  · refine y_iconst (v := 0) dX1_isToldBy_15 (by decide) ?_
    refine y_istore_n (lv' := [(2, .int (0 : Int32)), (0, .ref 28), (1, .ref o1)]) dX1_isToldBy_16 rfl (by decide) rfl ?_
    refine y_sub [(0, .ref 28), (1, .ref o1), (2, .int (0 : Int32))] [1, 2, 0] rfl ?_
    refine p_X1_isToldBy_L17 hn hd ho1 2000 (0 : Int32) w 
  · refine y_iconst (v := 0) dX1_isToldBy_13 (by decide) ?_
    exact y_ireturn dX1_isToldBy_14 rfl rfl rfl
-- ===== X2_keep: WeighedGate$Image.keep(LWeighedGate$Scale;LWeighedGate$Yard;I)V =====
set_option maxRecDepth 20000 in
set_option maxHeartbeats 2000000 in
theorem p_X2_keep_L64 {G : xG} {d : Nat} {n t : Nat} (hn : 71 ≤ n) (hd : 1 ≤ d) : ∀ (fu : Nat) (v4 : Int32) (w : xI), xC G m_X2_keep d 64 [(0, .ref 33), (2, .ref 5), (4, .int v4)] [] (xFin n t) w (fun _ : Unit => none) (xFin n t) (f_X2_keep_L64 fu v4 w) := by
  intro fu
  induction fu with
  | zero => intro v4 w; exact xC.none
  | succ fu ih =>
    intro v4 w
    rw [f_X2_keep_L64]
    refine y_iload dX2_keep_64 2 rfl ?_
    refine y_bipush (v := 10) dX2_keep_66 (by decide) ?_
    refine y_icmp_ge (tgt := 94) dX2_keep_68 (by decide) ?_ ?_
    · refine y_aload_n dX2_keep_94 rfl 0 rfl ?_
      refine y_aload_n dX2_keep_95 rfl 1 rfl ?_
      refine z_geti (v := (w 5 2)) dX2_keep_96 flX2_57 (xlt rfl hn) rfl rfl rfl ?_
      refine y_puti dX2_keep_99 flX2_60 (xlt rfl hn) rfl rfl ?_
      exact y_return dX2_keep_102 rfl rfl
    · refine y_aload_n dX2_keep_71 rfl 0 rfl ?_
      refine y_getr (q := 37) dX2_keep_72 flX2_21 (xlt rfl hn) rfl rfl rfl ?_
      refine y_iload dX2_keep_75 2 rfl ?_
      refine y_aload_n dX2_keep_77 rfl 1 rfl ?_
      refine y_getr (q := 6) dX2_keep_78 flX2_49 (xlt rfl hn) rfl rfl rfl ?_
      refine y_iload dX2_keep_81 2 rfl ?_
      refine y_aaldC dX2_keep_83 hn (fun o64002 hok64004 => ?_)
      refine z_geti (v := (w o64002 0)) dX2_keep_84 flX2_53 (okC_k hok64004 hn) (okC_s hok64004) rfl rfl ?_
      refine y_iast dX2_keep_87 (xlt rfl hn) rfl ?_
      refine z_iinc (j := 2) dX2_keep_88 (by decide) rfl (by decide) (fun x64005 => ?_)
      refine y_loc (lv' := [(4, .int x64005), (0, .ref 33), (2, .ref 5)]) rfl ?_
      refine y_goto (tgt := 64) dX2_keep_91 (by decide) ?_
      refine y_sub [(0, .ref 33), (2, .ref 5), (4, .int x64005)] [1, 2, 0] rfl ?_
      exact ih x64005 (xup w 37 v4.toNatClampNeg (w o64002 0)) 
set_option maxRecDepth 20000 in
set_option maxHeartbeats 2000000 in
theorem p_X2_keep {G : xG} {d : Nat} {n t : Nat} (hn : 71 ≤ n) (hd : 1 ≤ d) (a3 : Int32) (w : xI) : xMet G m_X2_keep d [.ref 33, .ref 1, .ref 5, .int a3] (xFin n t) w (fun _ : Unit => none) (xFin n t) (f_X2_keep a3 w) := by
  refine xMet.of rfl (Nat.le_of_ble_eq_true rfl) ?_
  unfold f_X2_keep
  show xC G m_X2_keep d 0 [(0, .ref 33), (1, .ref 1), (2, .ref 5), (3, .int a3)] [] (xFin n t) w _ _ _
  refine y_aload_n dX2_keep_0 rfl 0 rfl ?_
  refine y_iconst (v := 1) dX2_keep_1 (by decide) ?_
  refine y_putz0 dX2_keep_2 flX2_24 (xlt rfl hn) rfl rfl (by decide) ?_
  refine y_aload_n dX2_keep_5 rfl 0 rfl ?_
  refine y_iload_n dX2_keep_6 rfl 3 rfl ?_
  refine y_puti dX2_keep_7 flX2_28 (xlt rfl hn) rfl rfl ?_
  refine y_aload_n dX2_keep_10 rfl 1 rfl ?_
  refine y_getr (q := 2) dX2_keep_11 flX2_32 (xlt rfl hn) rfl rfl rfl ?_
  refine y_iconst (v := 0) dX2_keep_14 (by decide) ?_
  refine y_aload_n dX2_keep_15 rfl 0 rfl ?_
  refine y_getr (q := 34) dX2_keep_16 flX2_9 (xlt rfl hn) rfl rfl rfl ?_
  refine y_iconst (v := 0) dX2_keep_19 (by decide) ?_
  refine y_iconst (v := 3) dX2_keep_20 (by decide) ?_
  refine y_copy dX2_keep_21 q934 (Nat.le_of_ble_eq_true rfl) (by omega) (xlt rfl hn) (xlt rfl hn) rfl rfl ?_
  refine y_aload_n dX2_keep_24 rfl 1 rfl ?_
  refine y_getr (q := 3) dX2_keep_25 flX2_41 (xlt rfl hn) rfl rfl rfl ?_
  refine y_iconst (v := 0) dX2_keep_28 (by decide) ?_
  refine y_aload_n dX2_keep_29 rfl 0 rfl ?_
  refine y_getr (q := 35) dX2_keep_30 flX2_15 (xlt rfl hn) rfl rfl rfl ?_
  refine y_iconst (v := 0) dX2_keep_33 (by decide) ?_
  refine y_iconst (v := 5) dX2_keep_34 (by decide) ?_
  refine y_copy dX2_keep_35 q934 (Nat.le_of_ble_eq_true rfl) (by omega) (xlt rfl hn) (xlt rfl hn) rfl rfl ?_
  refine y_aload_n dX2_keep_38 rfl 0 rfl ?_
  refine y_aload_n dX2_keep_39 rfl 1 rfl ?_
  refine z_geti (v := ((xcopy (xcopy (xup (xup w 33 0 (1 : Int32)) 33 1 a3) 2 34 (0 : Int32) (0 : Int32) (3 : Int32)) 3 35 (0 : Int32) (0 : Int32) (5 : Int32)) 1 2)) dX2_keep_40 flX2_42 (xlt rfl hn) rfl rfl rfl ?_
  refine y_puti dX2_keep_43 flX2_45 (xlt rfl hn) rfl rfl ?_
  refine y_aload_n dX2_keep_46 rfl 2 rfl ?_
  refine y_getr (q := 7) dX2_keep_47 flX2_46 (xlt rfl hn) rfl rfl rfl ?_
  refine y_iconst (v := 0) dX2_keep_50 (by decide) ?_
  refine y_aload_n dX2_keep_51 rfl 0 rfl ?_
  refine y_getr (q := 36) dX2_keep_52 flX2_18 (xlt rfl hn) rfl rfl rfl ?_
  refine y_iconst (v := 0) dX2_keep_55 (by decide) ?_
  refine y_bipush (v := 10) dX2_keep_56 (by decide) ?_
  refine y_copy dX2_keep_58 q934 (Nat.le_of_ble_eq_true rfl) (by omega) (xlt rfl hn) (xlt rfl hn) rfl rfl ?_
  refine y_iconst (v := 0) dX2_keep_61 (by decide) ?_
  refine y_istore (lv' := [(4, .int (0 : Int32)), (0, .ref 33), (1, .ref 1), (2, .ref 5), (3, .int a3)]) dX2_keep_62 (by decide) rfl ?_
  refine y_sub [(0, .ref 33), (2, .ref 5), (4, .int (0 : Int32))] [1, 3, 0] rfl ?_
  refine p_X2_keep_L64 hn hd 2000 (0 : Int32) (xcopy (xup (xcopy (xcopy (xup (xup w 33 0 (1 : Int32)) 33 1 a3) 2 34 (0 : Int32) (0 : Int32) (3 : Int32)) 3 35 (0 : Int32) (0 : Int32) (5 : Int32)) 33 4 ((xcopy (xcopy (xup (xup w 33 0 (1 : Int32)) 33 1 a3) 2 34 (0 : Int32) (0 : Int32) (3 : Int32)) 3 35 (0 : Int32) (0 : Int32) (5 : Int32)) 1 2)) 7 36 (0 : Int32) (0 : Int32) (10 : Int32)) 
-- ===== X5_lay: WeighedGate$Scale.lay(III)V =====
set_option maxRecDepth 20000 in
set_option maxHeartbeats 2000000 in
theorem p_X5_lay_L13 {G : xG} {d : Nat} {F : xF} (hF1 : 5 ≤ F.1) (hF2 : F.2.2.1 = xSH) (hF3 : ∀ x, F.2.2.2 1 1 x = some 3) (hF4 : ∀ x, F.2.2.2 1 3 x = some 4) (hd : 14 ≤ d) {rec : Int32 → Int32 → Int32 → xI → Option (Unit × xI)} {d0 : Nat} (hd0 : d0 + 1 ≤ d) (hrec : ∀ (a1 : Int32) (a2 : Int32) (a3 : Int32) (w : xI), xMet G m_X5_lay d0 [.ref 1, .int a1, .int a2, .int a3] F w (fun _ : Unit => none) F (rec a1 a2 a3 w)) (v2 : Int32) (v3 : Int32) (w : xI) : xC G m_X5_lay d 13 [(0, .ref 1), (2, .int v2), (3, .int v3)] [] F w (fun _ : Unit => none) F (f_X5_lay_L13 rec v2 v3 w) := by
  unfold f_X5_lay_L13
  refine y_iload_n dX5_lay_13 rfl 1 rfl ?_
  refine y_mabs dX5_lay_14 q42 (Nat.le_of_ble_eq_true rfl) (by omega) ?_
  refine y_let (fun x13001 => ?_)
  refine y_istore (lv' := [(4, .int x13001), (0, .ref 1), (2, .int v2), (3, .int v3)]) dX5_lay_17 (by decide) rfl ?_
  refine y_iload dX5_lay_19 0 rfl ?_
  refine y_sipush (v := 999) dX5_lay_21 (by decide) ?_
  refine y_icmp_gt (tgt := 57) dX5_lay_24 (by decide) ?_ ?_
  · exact y_return dX5_lay_57 rfl rfl
  · refine y_aload_n dX5_lay_27 rfl 1 rfl ?_
    refine y_getr (q := 4) dX5_lay_28 flX5_18 (xlt rfl hF1) ((congrFun hF2 _).trans rfl) rfl (hF4 _) ?_
    refine y_iload dX5_lay_31 0 rfl ?_
    refine z_iald (v := (w 4 x13001.toNatClampNeg)) dX5_lay_33 (xlt rfl hF1) ((congrFun hF2 _).trans rfl) rfl ?_
    refine y_iconst (v := (-1)) dX5_lay_34 (by decide) ?_
    refine y_icmp_eq (tgt := 49) dX5_lay_35 (by decide) ?_ ?_
    · refine y_aload_n dX5_lay_49 rfl 1 rfl ?_
      refine y_getr (q := 4) dX5_lay_50 flX5_18 (xlt rfl hF1) ((congrFun hF2 _).trans rfl) rfl (hF4 _) ?_
      refine y_iload dX5_lay_53 0 rfl ?_
      refine y_iload_n dX5_lay_55 rfl 3 rfl ?_
      refine y_iast dX5_lay_56 (xlt rfl hF1) ((congrFun hF2 _).trans rfl) ?_
      exact y_return dX5_lay_57 rfl rfl
    · refine y_iload_n dX5_lay_38 rfl 3 rfl ?_
      refine y_aload_n dX5_lay_39 rfl 1 rfl ?_
      refine y_getr (q := 4) dX5_lay_40 flX5_18 (xlt rfl hF1) ((congrFun hF2 _).trans rfl) rfl (hF4 _) ?_
      refine y_iload dX5_lay_43 0 rfl ?_
      refine z_iald (v := (w 4 x13001.toNatClampNeg)) dX5_lay_45 (xlt rfl hF1) ((congrFun hF2 _).trans rfl) rfl ?_
      refine y_icmp_ge (tgt := 57) dX5_lay_46 (by decide) ?_ ?_
      · exact y_return dX5_lay_57 rfl rfl
      · refine y_aload_n dX5_lay_49 rfl 1 rfl ?_
        refine y_getr (q := 4) dX5_lay_50 flX5_18 (xlt rfl hF1) ((congrFun hF2 _).trans rfl) rfl (hF4 _) ?_
        refine y_iload dX5_lay_53 0 rfl ?_
        refine y_iload_n dX5_lay_55 rfl 3 rfl ?_
        refine y_iast dX5_lay_56 (xlt rfl hF1) ((congrFun hF2 _).trans rfl) ?_
        exact y_return dX5_lay_57 rfl rfl
set_option maxRecDepth 20000 in
set_option maxHeartbeats 2000000 in
theorem p_X5_lay_o {G : xG} {d : Nat} {F : xF} (hF1 : 5 ≤ F.1) (hF2 : F.2.2.1 = xSH) (hF3 : ∀ x, F.2.2.2 1 1 x = some 3) (hF4 : ∀ x, F.2.2.2 1 3 x = some 4) (hd : 14 ≤ d) {rec : Int32 → Int32 → Int32 → xI → Option (Unit × xI)} {d0 : Nat} (hd0 : d0 + 1 ≤ d) (hrec : ∀ (a1 : Int32) (a2 : Int32) (a3 : Int32) (w : xI), xMet G m_X5_lay d0 [.ref 1, .int a1, .int a2, .int a3] F w (fun _ : Unit => none) F (rec a1 a2 a3 w)) (a1 : Int32) (a2 : Int32) (a3 : Int32) (w : xI) : xMet G m_X5_lay d [.ref 1, .int a1, .int a2, .int a3] F w (fun _ : Unit => none) F (f_X5_lay_o rec a1 a2 a3 w) := by
  refine xMet.of rfl (Nat.le_of_ble_eq_true rfl) ?_
  unfold f_X5_lay_o
  show xC G m_X5_lay d 0 [(0, .ref 1), (1, .int a1), (2, .int a2), (3, .int a3)] [] F w _ _ _
  refine y_iload_n dX5_lay_0 rfl 1 rfl ?_
  refine y_aload_n dX5_lay_1 rfl 0 rfl ?_
  refine z_geti (v := (w 1 2)) dX5_lay_2 flX5_28 (xlt rfl hF1) ((congrFun hF2 _).trans rfl) rfl rfl ?_
  refine y_icmp_ge (tgt := 13) dX5_lay_5 (by decide) ?_ ?_
  · refine y_sub [(0, .ref 1), (2, .int a2), (3, .int a3)] [0, 2, 3] rfl ?_
    refine p_X5_lay_L13 hF1 hF2 hF3 hF4 hd hd0 hrec a2 a3 w 
  · refine y_iload_n dX5_lay_8 rfl 1 rfl ?_
    refine y_iconst (v := 5) dX5_lay_9 (by decide) ?_
    refine y_icmp_lt (tgt := 58) dX5_lay_10 (by decide) ?_ ?_
    · refine y_aload_n dX5_lay_58 rfl 0 rfl ?_
      refine y_iload_n dX5_lay_59 rfl 1 rfl ?_
      refine y_iconst (v := 1) dX5_lay_60 (by decide) ?_
      refine y_iadd dX5_lay_61 ?_
      refine y_iload_n dX5_lay_62 rfl 2 rfl ?_
      refine y_iload_n dX5_lay_63 rfl 3 rfl ?_
      refine y_callV (As := [.int (a1 + (1 : Int32)), .int a2, .int a3]) (d2 := d0) dX5_lay_64 kX5_24 (by omega) rfl rfl (Nat.le_of_ble_eq_true rfl) (xlt rfl hF1) ((congrFun hF2 _).trans rfl) rfl (hrec _ _ _ _) (fun r1 w2 _ => ?_)
      refine y_aload_n dX5_lay_67 rfl 0 rfl ?_
      refine y_iload_n dX5_lay_68 rfl 1 rfl ?_
      refine y_iconst (v := 1) dX5_lay_69 (by decide) ?_
      refine y_iadd dX5_lay_70 ?_
      refine y_iload_n dX5_lay_71 rfl 2 rfl ?_
      refine y_aload_n dX5_lay_72 rfl 0 rfl ?_
      refine y_getr (q := 3) dX5_lay_73 flX5_15 (xlt rfl hF1) ((congrFun hF2 _).trans rfl) rfl (hF3 _) ?_
      refine y_iload_n dX5_lay_76 rfl 1 rfl ?_
      refine z_iald (v := (w2 3 a1.toNatClampNeg)) dX5_lay_77 (xlt rfl hF1) ((congrFun hF2 _).trans rfl) rfl ?_
      refine y_iadd dX5_lay_78 ?_
      refine y_iload_n dX5_lay_79 rfl 3 rfl ?_
      refine y_iconst (v := 1) dX5_lay_80 (by decide) ?_
      refine y_iadd dX5_lay_81 ?_
      refine y_callV (As := [.int (a1 + (1 : Int32)), .int (a2 + (w2 3 a1.toNatClampNeg)), .int (a3 + (1 : Int32))]) (d2 := d0) dX5_lay_82 kX5_24 (by omega) rfl rfl (Nat.le_of_ble_eq_true rfl) (xlt rfl hF1) ((congrFun hF2 _).trans rfl) rfl (hrec _ _ _ _) (fun r3 w4 _ => ?_)
      refine y_aload_n dX5_lay_85 rfl 0 rfl ?_
      refine y_iload_n dX5_lay_86 rfl 1 rfl ?_
      refine y_iconst (v := 1) dX5_lay_87 (by decide) ?_
      refine y_iadd dX5_lay_88 ?_
      refine y_iload_n dX5_lay_89 rfl 2 rfl ?_
      refine y_aload_n dX5_lay_90 rfl 0 rfl ?_
      refine y_getr (q := 3) dX5_lay_91 flX5_15 (xlt rfl hF1) ((congrFun hF2 _).trans rfl) rfl (hF3 _) ?_
      refine y_iload_n dX5_lay_94 rfl 1 rfl ?_
      refine z_iald (v := (w4 3 a1.toNatClampNeg)) dX5_lay_95 (xlt rfl hF1) ((congrFun hF2 _).trans rfl) rfl ?_
      refine y_isub dX5_lay_96 ?_
      refine y_iload_n dX5_lay_97 rfl 3 rfl ?_
      refine y_iconst (v := 1) dX5_lay_98 (by decide) ?_
      refine y_iadd dX5_lay_99 ?_
      refine y_callV (As := [.int (a1 + (1 : Int32)), .int (a2 - (w4 3 a1.toNatClampNeg)), .int (a3 + (1 : Int32))]) (d2 := d0) dX5_lay_100 kX5_24 (by omega) rfl rfl (Nat.le_of_ble_eq_true rfl) (xlt rfl hF1) ((congrFun hF2 _).trans rfl) rfl (hrec _ _ _ _) (fun r5 w6 _ => ?_)
      exact y_return dX5_lay_103 rfl rfl
    · refine y_sub [(0, .ref 1), (2, .int a2), (3, .int a3)] [0, 2, 3] rfl ?_
      refine p_X5_lay_L13 hF1 hF2 hF3 hF4 hd hd0 hrec a2 a3 w 
theorem p_X5_lay {G : xG} (fu : Nat) {F : xF} (hF1 : 5 ≤ F.1) (hF2 : F.2.2.1 = xSH) (hF3 : ∀ x, F.2.2.2 1 1 x = some 3) (hF4 : ∀ x, F.2.2.2 1 3 x = some 4) : ∀ {d : Nat} (hd : 3 * fu + 14 ≤ d) (a1 : Int32) (a2 : Int32) (a3 : Int32) (w : xI), xMet G m_X5_lay d [.ref 1, .int a1, .int a2, .int a3] F w (fun _ : Unit => none) F (f_X5_lay fu a1 a2 a3 w) := by
  induction fu with
  | zero => intro d hd a1 a2 a3 w a w2 h; cases h
  | succ fu ih =>
    intro d hd a1 a2 a3 w
    exact p_X5_lay_o hF1 hF2 hF3 hF4 (by omega) (d0 := d - 3) (by omega) (fun a1 a2 a3 w => ih (by omega) a1 a2 a3 w) a1 a2 a3 w
-- ===== X5_layAll: WeighedGate$Scale.layAll()V =====
set_option maxRecDepth 20000 in
set_option maxHeartbeats 2000000 in
theorem p_X5_layAll_L2 {G : xG} {d : Nat} {F : xF} (hF1 : 5 ≤ F.1) (hF2 : F.2.2.1 = xSH) (hF3 : ∀ x, F.2.2.2 1 1 x = some 3) (hF4 : ∀ x, F.2.2.2 1 3 x = some 4) (hd : 39 ≤ d) : ∀ (fu : Nat) (v1 : Int32) (w : xI), xC G m_X5_layAll d 2 [(0, .ref 1), (1, .int v1)] [] F w (fun _ : Unit => none) F (f_X5_layAll_L2 fu v1 w) := by
  intro fu
  induction fu with
  | zero => intro v1 w; exact xC.none
  | succ fu ih =>
    intro v1 w
    rw [f_X5_layAll_L2]
    refine y_iload_n dX5_layAll_2 rfl 1 rfl ?_
    refine y_sipush (v := 999) dX5_layAll_3 (by decide) ?_
    refine y_icmp_gt (tgt := 22) dX5_layAll_6 (by decide) ?_ ?_
    · refine y_aload_n dX5_layAll_22 rfl 0 rfl ?_
      refine y_iconst (v := 0) dX5_layAll_23 (by decide) ?_
      refine y_iconst (v := 0) dX5_layAll_24 (by decide) ?_
      refine y_iconst (v := 0) dX5_layAll_25 (by decide) ?_
      refine y_callV (As := [.int (0 : Int32), .int (0 : Int32), .int (0 : Int32)]) (d2 := d - 1) dX5_layAll_26 kX5_24 (by omega) rfl rfl (Nat.le_of_ble_eq_true rfl) (xlt rfl hF1) ((congrFun hF2 _).trans rfl) rfl (p_X5_lay 8 hF1 hF2 hF3 hF4 (by omega)  _ _ _ _) (fun r2001 w2002 _ => ?_)
      exact y_return dX5_layAll_29 rfl rfl
    · refine y_aload_n dX5_layAll_9 rfl 0 rfl ?_
      refine y_getr (q := 4) dX5_layAll_10 flX5_18 (xlt rfl hF1) ((congrFun hF2 _).trans rfl) rfl (hF4 _) ?_
      refine y_iload_n dX5_layAll_13 rfl 1 rfl ?_
      refine y_iconst (v := (-1)) dX5_layAll_14 (by decide) ?_
      refine y_iast dX5_layAll_15 (xlt rfl hF1) ((congrFun hF2 _).trans rfl) ?_
      refine z_iinc (j := 1) dX5_layAll_16 (by decide) rfl (by decide) (fun x2003 => ?_)
      refine y_loc (lv' := [(1, .int x2003), (0, .ref 1)]) rfl ?_
      refine y_goto (tgt := 2) dX5_layAll_19 (by decide) ?_
      refine y_sub [(0, .ref 1), (1, .int x2003)] [1, 0] rfl ?_
      exact ih x2003 (xup w 4 v1.toNatClampNeg (-1 : Int32)) 
set_option maxRecDepth 20000 in
set_option maxHeartbeats 2000000 in
theorem p_X5_layAll {G : xG} {d : Nat} {F : xF} (hF1 : 5 ≤ F.1) (hF2 : F.2.2.1 = xSH) (hF3 : ∀ x, F.2.2.2 1 1 x = some 3) (hF4 : ∀ x, F.2.2.2 1 3 x = some 4) (hd : 39 ≤ d) (w : xI) : xMet G m_X5_layAll d [.ref 1] F w (fun _ : Unit => none) F (f_X5_layAll  w) := by
  refine xMet.of rfl (Nat.le_of_ble_eq_true rfl) ?_
  unfold f_X5_layAll
  show xC G m_X5_layAll d 0 [(0, .ref 1)] [] F w _ _ _
  refine y_iconst (v := 0) dX5_layAll_0 (by decide) ?_
  refine y_istore_n (lv' := [(1, .int (0 : Int32)), (0, .ref 1)]) dX5_layAll_1 rfl (by decide) rfl ?_
  refine y_sub [(0, .ref 1), (1, .int (0 : Int32))] [1, 0] rfl ?_
  refine p_X5_layAll_L2 hF1 hF2 hF3 hF4 hd 2000 (0 : Int32) w 
-- ===== X2_giveBack: WeighedGate$Image.giveBack(LWeighedGate$Scale;LWeighedGate$Yard;)V =====
set_option maxRecDepth 20000 in
set_option maxHeartbeats 2000000 in
theorem p_X2_giveBack_L57 {G : xG} {d : Nat} {n t : Nat} (hn : 71 ≤ n) (hd : 40 ≤ d) : ∀ (fu : Nat) (v3 : Int32) (w : xI), xC G m_X2_giveBack d 57 [(0, .ref 33), (2, .ref 5), (3, .int v3)] [] (xFin n t) w (fun _ : Unit => none) (xFin n t) (f_X2_giveBack_L57 fu v3 w) := by
  intro fu
  induction fu with
  | zero => intro v3 w; exact xC.none
  | succ fu ih =>
    intro v3 w
    rw [f_X2_giveBack_L57]
    refine y_iload_n dX2_giveBack_57 rfl 2 rfl ?_
    refine y_bipush (v := 10) dX2_giveBack_58 (by decide) ?_
    refine y_icmp_ge (tgt := 84) dX2_giveBack_60 (by decide) ?_ ?_
    · refine y_aload_n dX2_giveBack_84 rfl 1 rfl ?_
      refine y_aload_n dX2_giveBack_85 rfl 0 rfl ?_
      refine z_geti (v := (w 33 7)) dX2_giveBack_86 flX2_60 (xlt rfl hn) rfl rfl rfl ?_
      refine y_puti dX2_giveBack_89 flX2_57 (xlt rfl hn) rfl rfl ?_
      exact y_return dX2_giveBack_92 rfl rfl
    · refine y_aload_n dX2_giveBack_63 rfl 1 rfl ?_
      refine y_getr (q := 6) dX2_giveBack_64 flX2_49 (xlt rfl hn) rfl rfl rfl ?_
      refine y_iload_n dX2_giveBack_67 rfl 2 rfl ?_
      refine y_aaldC dX2_giveBack_68 hn (fun o57002 hok57004 => ?_)
      refine y_aload_n dX2_giveBack_69 rfl 0 rfl ?_
      refine y_getr (q := 37) dX2_giveBack_70 flX2_21 (xlt rfl hn) rfl rfl rfl ?_
      refine y_iload_n dX2_giveBack_73 rfl 2 rfl ?_
      refine z_iald (v := (w 37 v3.toNatClampNeg)) dX2_giveBack_74 (xlt rfl hn) rfl rfl ?_
      refine y_puti dX2_giveBack_75 flX2_53 (okC_k hok57004 hn) (okC_s hok57004) rfl ?_
      refine z_iinc (j := 2) dX2_giveBack_78 (by decide) rfl (by decide) (fun x57005 => ?_)
      refine y_loc (lv' := [(3, .int x57005), (0, .ref 33), (2, .ref 5)]) rfl ?_
      refine y_goto (tgt := 57) dX2_giveBack_81 (by decide) ?_
      refine y_sub [(0, .ref 33), (2, .ref 5), (3, .int x57005)] [1, 2, 0] rfl ?_
      exact ih x57005 (xup w o57002 0 (w 37 v3.toNatClampNeg)) 
set_option maxRecDepth 20000 in
set_option maxHeartbeats 2000000 in
theorem p_X2_giveBack {G : xG} {d : Nat} {n t : Nat} (hn : 71 ≤ n) (hd : 40 ≤ d) (w : xI) : xMet G m_X2_giveBack d [.ref 33, .ref 1, .ref 5] (xFin n t) w (fun _ : Unit => none) (xFin n t) (f_X2_giveBack  w) := by
  refine xMet.of rfl (Nat.le_of_ble_eq_true rfl) ?_
  unfold f_X2_giveBack
  show xC G m_X2_giveBack d 0 [(0, .ref 33), (1, .ref 1), (2, .ref 5)] [] (xFin n t) w _ _ _
  refine y_aload_n dX2_giveBack_0 rfl 0 rfl ?_
  refine y_getr (q := 34) dX2_giveBack_1 flX2_9 (xlt rfl hn) rfl rfl rfl ?_
  refine y_iconst (v := 0) dX2_giveBack_4 (by decide) ?_
  refine y_aload_n dX2_giveBack_5 rfl 1 rfl ?_
  refine y_getr (q := 2) dX2_giveBack_6 flX2_32 (xlt rfl hn) rfl rfl rfl ?_
  refine y_iconst (v := 0) dX2_giveBack_9 (by decide) ?_
  refine y_iconst (v := 3) dX2_giveBack_10 (by decide) ?_
  refine y_copy dX2_giveBack_11 q934 (Nat.le_of_ble_eq_true rfl) (by omega) (xlt rfl hn) (xlt rfl hn) rfl rfl ?_
  refine y_aload_n dX2_giveBack_14 rfl 0 rfl ?_
  refine y_getr (q := 35) dX2_giveBack_15 flX2_15 (xlt rfl hn) rfl rfl rfl ?_
  refine y_iconst (v := 0) dX2_giveBack_18 (by decide) ?_
  refine y_aload_n dX2_giveBack_19 rfl 1 rfl ?_
  refine y_getr (q := 3) dX2_giveBack_20 flX2_41 (xlt rfl hn) rfl rfl rfl ?_
  refine y_iconst (v := 0) dX2_giveBack_23 (by decide) ?_
  refine y_iconst (v := 5) dX2_giveBack_24 (by decide) ?_
  refine y_copy dX2_giveBack_25 q934 (Nat.le_of_ble_eq_true rfl) (by omega) (xlt rfl hn) (xlt rfl hn) rfl rfl ?_
  refine y_aload_n dX2_giveBack_28 rfl 1 rfl ?_
  refine y_aload_n dX2_giveBack_29 rfl 0 rfl ?_
  refine z_geti (v := ((xcopy (xcopy w 34 2 (0 : Int32) (0 : Int32) (3 : Int32)) 35 3 (0 : Int32) (0 : Int32) (5 : Int32)) 33 4)) dX2_giveBack_30 flX2_45 (xlt rfl hn) rfl rfl rfl ?_
  refine y_puti dX2_giveBack_33 flX2_42 (xlt rfl hn) rfl rfl ?_
  refine y_aload_n dX2_giveBack_36 rfl 1 rfl ?_
  refine y_callV (As := []) (d2 := d - 1) dX2_giveBack_37 kX2_63 (by omega) rfl rfl (Nat.le_of_ble_eq_true rfl) (xlt rfl hn) rfl rfl (p_X5_layAll (Nat.le_trans (by decide) hn) rfl (fun _ => rfl) (fun _ => rfl) (by omega)   _) (fun r1 w2 _ => ?_)
  refine y_aload_n dX2_giveBack_40 rfl 0 rfl ?_
  refine y_getr (q := 36) dX2_giveBack_41 flX2_18 (xlt rfl hn) rfl rfl rfl ?_
  refine y_iconst (v := 0) dX2_giveBack_44 (by decide) ?_
  refine y_aload_n dX2_giveBack_45 rfl 2 rfl ?_
  refine y_getr (q := 7) dX2_giveBack_46 flX2_46 (xlt rfl hn) rfl rfl rfl ?_
  refine y_iconst (v := 0) dX2_giveBack_49 (by decide) ?_
  refine y_bipush (v := 10) dX2_giveBack_50 (by decide) ?_
  refine y_copy dX2_giveBack_52 q934 (Nat.le_of_ble_eq_true rfl) (by omega) (xlt rfl hn) (xlt rfl hn) rfl rfl ?_
  refine y_iconst (v := 0) dX2_giveBack_55 (by decide) ?_
  refine y_istore_n (lv' := [(3, .int (0 : Int32)), (0, .ref 33), (1, .ref 1), (2, .ref 5)]) dX2_giveBack_56 rfl (by decide) rfl ?_
  refine y_sub [(0, .ref 33), (2, .ref 5), (3, .int (0 : Int32))] [1, 3, 0] rfl ?_
  refine p_X2_giveBack_L57 hn hd 2000 (0 : Int32) (xcopy w2 36 7 (0 : Int32) (0 : Int32) (10 : Int32)) 
-- ===== X8_isInward: WeighedGate$Weighing.isInward(I)Z =====
set_option maxRecDepth 20000 in
set_option maxHeartbeats 2000000 in
theorem p_X8_isInward {G : xG} {d : Nat} {n t : Nat} (hn : 71 ≤ n) (hd : 0 ≤ d) (a1 : Int32) (w : xI) : xMet G m_X8_isInward d [.ref 21, .int a1] (xFin n t) w (fun x : Int32 => some (Value.int x)) (xFin n t) (f_X8_isInward a1 w) := by
  refine xMet.of rfl (Nat.le_of_ble_eq_true rfl) ?_
  unfold f_X8_isInward
  show xC G m_X8_isInward d 0 [(0, .ref 21), (1, .int a1)] [] (xFin n t) w _ _ _
  refine y_aload_n dX8_isInward_0 rfl 0 rfl ?_
  refine z_geti (v := (w 21 6)) dX8_isInward_1 flX8_33 (xlt rfl hn) rfl rfl rfl ?_
  refine y_iload_n dX8_isInward_4 rfl 1 rfl ?_
  refine y_ishr dX8_isInward_5 ?_
  refine y_iconst (v := 1) dX8_isInward_6 (by decide) ?_
  refine y_iand dX8_isInward_7 ?_
  refine y_iconst (v := 1) dX8_isInward_8 (by decide) ?_
  refine y_icmp_ne (tgt := 16) dX8_isInward_9 (by decide) ?_ ?_
  · refine y_iconst (v := 0) dX8_isInward_16 (by decide) ?_
    exact y_ireturn dX8_isInward_17 rfl rfl rfl
  · refine y_iconst (v := 1) dX8_isInward_12 (by decide) ?_
    refine y_goto (tgt := 17) dX8_isInward_13 (by decide) ?_
    exact y_ireturn dX8_isInward_17 rfl rfl rfl
-- ===== X3_payOf: WeighedGate$Pairs.payOf(IILWeighedGate$Text;)I =====
set_option maxRecDepth 20000 in
set_option maxHeartbeats 2000000 in
theorem p_X3_payOf {G : xG} {d : Nat} {n t : Nat} (hn : 71 ≤ n) (hd : 3 ≤ d) {o3 : Nat} (ho3 : okT o3) (a1 : Int32) (a2 : Int32) (w : xI) : xMet G m_X3_payOf d [.ref 25, .int a1, .int a2, .ref o3] (xFin n t) w (fun x : Int32 => some (Value.int x)) (xFin n t) (f_X3_payOf a1 a2 o3 w) := by
  refine xMet.of rfl (Nat.le_of_ble_eq_true rfl) ?_
  unfold f_X3_payOf
  show xC G m_X3_payOf d 0 [(0, .ref 25), (1, .int a1), (2, .int a2), (3, .ref o3)] [] (xFin n t) w _ _ _
  refine y_aload_n dX3_payOf_0 rfl 0 rfl ?_
  refine y_getr (q := 21) dX3_payOf_1 flX3_18 (xlt rfl hn) rfl rfl rfl ?_
  refine y_iload_n dX3_payOf_4 rfl 1 rfl ?_
  refine y_callV (As := [.int a1]) (d2 := d - 1) dX3_payOf_5 kX3_45 (by omega) rfl rfl (Nat.le_of_ble_eq_true rfl) (xlt rfl hn) rfl rfl (p_X8_isInward hn (by omega)  _ _) (fun r1 w2 _ => ?_)
  refine y_if_eq (tgt := 22) dX3_payOf_8 (by decide) ?_ ?_
  · refine y_sipush (v := (-1000)) dX3_payOf_22 (by decide) ?_
    exact y_ireturn dX3_payOf_25 rfl rfl rfl
  · refine y_aload_n dX3_payOf_11 rfl 0 rfl ?_
    refine y_getr (q := 21) dX3_payOf_12 flX3_18 (xlt rfl hn) rfl rfl rfl ?_
    refine y_iload_n dX3_payOf_15 rfl 2 rfl ?_
    refine y_callV (As := [.int a2]) (d2 := d - 1) dX3_payOf_16 kX3_45 (by omega) rfl rfl (Nat.le_of_ble_eq_true rfl) (xlt rfl hn) rfl rfl (p_X8_isInward hn (by omega)  _ _) (fun r3 w4 _ => ?_)
    refine y_if_eq (tgt := 26) dX3_payOf_19 (by decide) ?_ ?_
    · refine y_aload_n dX3_payOf_26 rfl 0 rfl ?_
      refine y_getr (q := 21) dX3_payOf_27 flX3_18 (xlt rfl hn) rfl rfl rfl ?_
      refine y_iconst (v := 1) dX3_payOf_30 (by decide) ?_
      refine y_iload_n dX3_payOf_31 rfl 1 rfl ?_
      refine y_ishl dX3_payOf_32 ?_
      refine y_iconst (v := 1) dX3_payOf_33 (by decide) ?_
      refine y_iload_n dX3_payOf_34 rfl 2 rfl ?_
      refine y_ishl dX3_payOf_35 ?_
      refine y_ior dX3_payOf_36 ?_
      refine y_callV (As := [.int (((1 : Int32) <<< (a1 &&& 31)) ||| ((1 : Int32) <<< (a2 &&& 31)))]) (d2 := d - 1) dX3_payOf_37 kX3_49 (by omega) rfl rfl (Nat.le_of_ble_eq_true rfl) (xlt rfl hn) rfl rfl (p_X8_weigh hn (by omega)  _ _) (fun r5 w6 _ => ?_)
      refine y_aload_n dX3_payOf_40 rfl 0 rfl ?_
      refine y_getr (q := 21) dX3_payOf_41 flX3_18 (xlt rfl hn) rfl rfl rfl ?_
      refine y_aload_n dX3_payOf_44 rfl 3 rfl ?_
      refine y_callV (As := [.ref o3]) (d2 := d - 1) dX3_payOf_45 kX3_53 (by omega) rfl rfl (Nat.le_of_ble_eq_true rfl) (xlt rfl hn) rfl rfl (p_X8_mayBe hn (by omega) ho3  _) (fun r7 w8 _ => ?_)
      refine y_if_eq (tgt := 62) dX3_payOf_48 (by decide) ?_ ?_
      · refine y_sipush (v := (-1000)) dX3_payOf_62 (by decide) ?_
        exact y_ireturn dX3_payOf_65 rfl rfl rfl
      · refine y_aload_n dX3_payOf_51 rfl 0 rfl ?_
        refine y_getr (q := 21) dX3_payOf_52 flX3_18 (xlt rfl hn) rfl rfl rfl ?_
        refine y_aload_n dX3_payOf_55 rfl 3 rfl ?_
        refine y_callV (As := [.ref o3]) (d2 := d - 1) dX3_payOf_56 kX3_57 (by omega) rfl rfl (Nat.le_of_ble_eq_true rfl) (xlt rfl hn) rfl rfl (p_X8_brings hn (by omega) ho3  _) (fun r9 w10 _ => ?_)
        refine y_goto (tgt := 65) dX3_payOf_59 (by decide) ?_
        exact y_ireturn dX3_payOf_65 rfl rfl rfl
    · refine y_sipush (v := (-1000)) dX3_payOf_22 (by decide) ?_
      exact y_ireturn dX3_payOf_25 rfl rfl rfl
-- ===== X3_prepare: WeighedGate$Pairs.prepare(ILWeighedGate$Text;)V =====
set_option maxRecDepth 20000 in
set_option maxHeartbeats 2000000 in
theorem p_X3_prepare_L31 {G : xG} {d : Nat} {n t : Nat} (hn : 71 ≤ n) (hd : 4 ≤ d) {o2 : Nat} (ho2 : okT o2) {K17 : Int32 → xI → Option (Unit × xI)} (hK17 : ∀ (v3 : Int32) (w : xI), xC G m_X3_prepare d 17 [(0, .ref 25), (2, .ref o2), (3, .int v3)] [] (xFin n t) w (fun _ : Unit => none) (xFin n t) (K17 v3 w)) : ∀ (fu : Nat) (v3 : Int32) (v4 : Int32) (w : xI), xC G m_X3_prepare d 31 [(0, .ref 25), (2, .ref o2), (3, .int v3), (4, .int v4)] [] (xFin n t) w (fun _ : Unit => none) (xFin n t) (f_X3_prepare_L31 o2 K17 fu v3 v4 w) := by
  intro fu
  induction fu with
  | zero => intro v3 v4 w; exact xC.none
  | succ fu ih =>
    intro v3 v4 w
    rw [f_X3_prepare_L31]
    refine y_iload dX3_prepare_31 3 rfl ?_
    refine y_aload_n dX3_prepare_33 rfl 0 rfl ?_
    refine y_getr (q := 5) dX3_prepare_34 flX3_22 (xlt rfl hn) rfl rfl rfl ?_
    refine z_geti (v := (w 5 2)) dX3_prepare_37 flX3_37 (xlt rfl hn) rfl rfl rfl ?_
    refine y_icmp_ge (tgt := 69) dX3_prepare_40 (by decide) ?_ ?_
    · refine z_iinc (j := 2) dX3_prepare_69 (by decide) rfl (by decide) (fun x31001 => ?_)
      refine y_loc (lv' := [(3, .int x31001), (0, .ref 25), (2, .ref o2), (4, .int v4)]) rfl ?_
      refine y_goto (tgt := 17) dX3_prepare_72 (by decide) ?_
      refine y_sub [(0, .ref 25), (2, .ref o2), (3, .int x31001)] [1, 2, 0] rfl ?_
      exact hK17 x31001 w 
    · refine y_aload_n dX3_prepare_43 rfl 0 rfl ?_
      refine y_getr (q := 26) dX3_prepare_44 flX3_9 (xlt rfl hn) rfl rfl rfl ?_
      refine y_bipush (v := 10) dX3_prepare_47 (by decide) ?_
      refine y_iload_n dX3_prepare_49 rfl 2 rfl ?_
      refine y_imul dX3_prepare_50 ?_
      refine y_iload dX3_prepare_51 3 rfl ?_
      refine y_iadd dX3_prepare_53 ?_
      refine y_aload_n dX3_prepare_54 rfl 0 rfl ?_
      refine y_iload_n dX3_prepare_55 rfl 2 rfl ?_
      refine y_iload dX3_prepare_56 3 rfl ?_
      refine y_aload_n dX3_prepare_58 rfl 1 rfl ?_
      refine y_callV (As := [.int v3, .int v4, .ref o2]) (d2 := d - 1) dX3_prepare_59 kX3_41 (by omega) rfl rfl (Nat.le_of_ble_eq_true rfl) (xlt rfl hn) rfl rfl (p_X3_payOf hn (by omega) ho2 _ _ _) (fun r31002 w31003 _ => ?_)
      refine y_iast dX3_prepare_62 (xlt rfl hn) rfl ?_
      refine z_iinc (j := 3) dX3_prepare_63 (by decide) rfl (by decide) (fun x31004 => ?_)
      refine y_loc (lv' := [(4, .int x31004), (0, .ref 25), (2, .ref o2), (3, .int v3)]) rfl ?_
      refine y_goto (tgt := 31) dX3_prepare_66 (by decide) ?_
      refine y_sub [(0, .ref 25), (2, .ref o2), (3, .int v3), (4, .int x31004)] [1, 2, 3, 0] rfl ?_
      exact ih v3 x31004 (xup w31003 26 (((10 : Int32) * v3) + v4).toNatClampNeg r31002) 
set_option maxRecDepth 20000 in
set_option maxHeartbeats 2000000 in
theorem p_X3_prepare_L17 {G : xG} {d : Nat} {n t : Nat} (hn : 71 ≤ n) (hd : 4 ≤ d) {o2 : Nat} (ho2 : okT o2) : ∀ (fu : Nat) (v3 : Int32) (w : xI), xC G m_X3_prepare d 17 [(0, .ref 25), (2, .ref o2), (3, .int v3)] [] (xFin n t) w (fun _ : Unit => none) (xFin n t) (f_X3_prepare_L17 o2 fu v3 w) := by
  intro fu
  induction fu with
  | zero => intro v3 w; exact xC.none
  | succ fu ih =>
    intro v3 w
    rw [f_X3_prepare_L17]
    refine y_iload_n dX3_prepare_17 rfl 2 rfl ?_
    refine y_aload_n dX3_prepare_18 rfl 0 rfl ?_
    refine y_getr (q := 5) dX3_prepare_19 flX3_22 (xlt rfl hn) rfl rfl rfl ?_
    refine z_geti (v := (w 5 2)) dX3_prepare_22 flX3_37 (xlt rfl hn) rfl rfl rfl ?_
    refine y_icmp_ge (tgt := 75) dX3_prepare_25 (by decide) ?_ ?_
    · exact y_return dX3_prepare_75 rfl rfl
    · refine y_iconst (v := 0) dX3_prepare_28 (by decide) ?_
      refine y_istore (lv' := [(4, .int (0 : Int32)), (0, .ref 25), (2, .ref o2), (3, .int v3)]) dX3_prepare_29 (by decide) rfl ?_
      refine y_sub [(0, .ref 25), (2, .ref o2), (3, .int v3), (4, .int (0 : Int32))] [1, 2, 3, 0] rfl ?_
      refine p_X3_prepare_L31 hn hd ho2 ?_ 2000 v3 (0 : Int32) w 
      · intro v3_17001 w17001 
        exact ih v3_17001 w17001 
set_option maxRecDepth 20000 in
set_option maxHeartbeats 2000000 in
theorem p_X3_prepare {G : xG} {d : Nat} {n t : Nat} (hn : 71 ≤ n) (hd : 4 ≤ d) {o2 : Nat} (ho2 : okT o2) (a1 : Int32) (w : xI) : xMet G m_X3_prepare d [.ref 25, .int a1, .ref o2] (xFin n t) w (fun _ : Unit => none) (xFin n t) (f_X3_prepare a1 o2 w) := by
  refine xMet.of rfl (Nat.le_of_ble_eq_true rfl) ?_
  unfold f_X3_prepare
  show xC G m_X3_prepare d 0 [(0, .ref 25), (1, .int a1), (2, .ref o2)] [] (xFin n t) w _ _ _
  refine y_aload_n dX3_prepare_0 rfl 0 rfl ?_
  refine y_getr (q := 21) dX3_prepare_1 flX3_18 (xlt rfl hn) rfl rfl rfl ?_
  refine y_iload_n dX3_prepare_4 rfl 1 rfl ?_
  refine y_aload_n dX3_prepare_5 rfl 0 rfl ?_
  refine y_getr (q := 5) dX3_prepare_6 flX3_22 (xlt rfl hn) rfl rfl rfl ?_
  refine y_getr (q := 7) dX3_prepare_9 flX3_26 (xlt rfl hn) rfl rfl rfl ?_
  refine y_callV (As := [.int a1, .ref 7]) (d2 := d - 1) dX3_prepare_12 kX3_31 (by omega) rfl rfl (Nat.le_of_ble_eq_true rfl) (xlt rfl hn) rfl rfl (p_X8_prepare hn (by omega) (okA_c (by decide) rfl) _ _) (fun r1 w2 _ => ?_)
  refine y_iconst (v := 0) dX3_prepare_15 (by decide) ?_
  refine y_istore_n (lv' := [(3, .int (0 : Int32)), (0, .ref 25), (1, .int a1), (2, .ref o2)]) dX3_prepare_16 rfl (by decide) rfl ?_
  refine y_sub [(0, .ref 25), (2, .ref o2), (3, .int (0 : Int32))] [1, 3, 0] rfl ?_
  refine p_X3_prepare_L17 hn hd ho2 2000 (0 : Int32) w2 
-- ===== X3_fits: WeighedGate$Pairs.fits(III)Z =====
set_option maxRecDepth 20000 in
set_option maxHeartbeats 2000000 in
theorem p_X3_fits {G : xG} {d : Nat} {n t : Nat} (hn : 71 ≤ n) (hd : 0 ≤ d) (a1 : Int32) (a2 : Int32) (a3 : Int32) (w : xI) : xMet G m_X3_fits d [.ref 25, .int a1, .int a2, .int a3] (xFin n t) w (fun x : Int32 => some (Value.int x)) (xFin n t) (f_X3_fits a1 a2 a3 w) := by
  refine xMet.of rfl (Nat.le_of_ble_eq_true rfl) ?_
  unfold f_X3_fits
  show xC G m_X3_fits d 0 [(0, .ref 25), (1, .int a1), (2, .int a2), (3, .int a3)] [] (xFin n t) w _ _ _
  refine y_iload_n dX3_fits_0 rfl 3 rfl ?_
  refine y_iload_n dX3_fits_1 rfl 2 rfl ?_
  refine y_ishr dX3_fits_2 ?_
  refine y_iconst (v := 1) dX3_fits_3 (by decide) ?_
  refine y_iand dX3_fits_4 ?_
  refine y_if_ne (tgt := 29) dX3_fits_5 (by decide) ?_ ?_
  · refine y_iconst (v := 0) dX3_fits_29 (by decide) ?_
    exact y_ireturn dX3_fits_30 rfl rfl rfl
  · refine y_aload_n dX3_fits_8 rfl 0 rfl ?_
    refine y_getr (q := 26) dX3_fits_9 flX3_9 (xlt rfl hn) rfl rfl rfl ?_
    refine y_bipush (v := 10) dX3_fits_12 (by decide) ?_
    refine y_iload_n dX3_fits_14 rfl 1 rfl ?_
    refine y_imul dX3_fits_15 ?_
    refine y_iload_n dX3_fits_16 rfl 2 rfl ?_
    refine y_iadd dX3_fits_17 ?_
    refine z_iald (v := (w 26 (((10 : Int32) * a1) + a2).toNatClampNeg)) dX3_fits_18 (xlt rfl hn) rfl rfl ?_
    refine y_sipush (v := (-1000)) dX3_fits_19 (by decide) ?_
    refine y_icmp_eq (tgt := 29) dX3_fits_22 (by decide) ?_ ?_
    · refine y_iconst (v := 0) dX3_fits_29 (by decide) ?_
      exact y_ireturn dX3_fits_30 rfl rfl rfl
    · refine y_iconst (v := 1) dX3_fits_25 (by decide) ?_
      refine y_goto (tgt := 30) dX3_fits_26 (by decide) ?_
      exact y_ireturn dX3_fits_30 rfl rfl rfl
-- ===== X3_most: WeighedGate$Pairs.most(IIZ)I =====
set_option maxRecDepth 20000 in
set_option maxHeartbeats 2000000 in
theorem p_X3_most_L87 {G : xG} {d : Nat} {n t : Nat} (hn : 71 ≤ n) (hd : 14 ≤ d) {rec : Int32 → Int32 → Int32 → xI → Option (Int32 × xI)} {d0 : Nat} (hd0 : d0 + 1 ≤ d) (hrec : ∀ (a1 : Int32) (a2 : Int32) (a3 : Int32) (w : xI), xMet G m_X3_most d0 [.ref 25, .int a1, .int a2, .int a3] (xFin n t) w (fun x : Int32 => some (Value.int x)) (xFin n t) (rec a1 a2 a3 w)) {K33 : Int32 → Int32 → Int32 → Int32 → Int32 → xI → Option (Int32 × xI)} (hK33 : ∀ (v1 : Int32) (v2 : Int32) (v3 : Int32) (v4 : Int32) (v5 : Int32) (w : xI), xC G m_X3_most d 33 [(0, .ref 25), (1, .int v1), (2, .int v2), (3, .int v3), (4, .int v4), (5, .int v5)] [] (xFin n t) w (fun x : Int32 => some (Value.int x)) (xFin n t) (K33 v1 v2 v3 v4 v5 w)) (v1 : Int32) (v2 : Int32) (v3 : Int32) (v4 : Int32) (v5 : Int32) (s0 : Int32) (w : xI) : xC G m_X3_most d 87 [(0, .ref 25), (1, .int v1), (2, .int v2), (3, .int v3), (4, .int v4), (5, .int v5)] [.int s0] (xFin n t) w (fun x : Int32 => some (Value.int x)) (xFin n t) (f_X3_most_L87 rec K33 v1 v2 v3 v4 v5 s0 w) := by
  unfold f_X3_most_L87
  refine y_istore (lv' := [(6, .int s0), (0, .ref 25), (1, .int v1), (2, .int v2), (3, .int v3), (4, .int v4), (5, .int v5)]) dX3_most_87 (by decide) rfl ?_
  refine y_iload dX3_most_89 5 rfl ?_
  refine y_iload dX3_most_91 0 rfl ?_
  refine y_aload_n dX3_most_93 rfl 1 rfl ?_
  refine y_iload_n dX3_most_94 rfl 2 rfl ?_
  refine y_iconst (v := 1) dX3_most_95 (by decide) ?_
  refine y_iadd dX3_most_96 ?_
  refine y_iload_n dX3_most_97 rfl 3 rfl ?_
  refine y_iconst (v := 1) dX3_most_98 (by decide) ?_
  refine y_iload dX3_most_99 6 rfl ?_
  refine y_ishl dX3_most_101 ?_
  refine y_ior dX3_most_102 ?_
  refine y_iload_n dX3_most_103 rfl 4 rfl ?_
  refine y_callV (As := [.int (v1 + (1 : Int32)), .int (v2 ||| ((1 : Int32) <<< (v5 &&& 31))), .int v3]) (d2 := d0) dX3_most_104 kX3_61 (by omega) rfl rfl (Nat.le_of_ble_eq_true rfl) (xlt rfl hn) rfl rfl (hrec _ _ _ _) (fun r87001 w87002 _ => ?_)
  refine y_iadd dX3_most_107 ?_
  refine y_mmax dX3_most_108 q771 (Nat.le_of_ble_eq_true rfl) (by omega) ?_
  refine y_let (fun x87003 => ?_)
  refine y_istore (lv' := [(4, .int x87003), (6, .int s0), (0, .ref 25), (1, .int v1), (2, .int v2), (3, .int v3), (5, .int v5)]) dX3_most_111 (by decide) rfl ?_
  refine z_iinc (j := 6) dX3_most_113 (by decide) rfl (by decide) (fun x87004 => ?_)
  refine y_loc (lv' := [(5, .int x87004), (4, .int x87003), (6, .int s0), (0, .ref 25), (1, .int v1), (2, .int v2), (3, .int v3)]) rfl ?_
  refine y_goto (tgt := 33) dX3_most_116 (by decide) ?_
  refine y_sub [(0, .ref 25), (1, .int v1), (2, .int v2), (3, .int v3), (4, .int x87003), (5, .int x87004)] [3, 4, 5, 6, 1, 0] rfl ?_
  exact hK33 v1 v2 v3 x87003 x87004 w87002 
set_option maxRecDepth 20000 in
set_option maxHeartbeats 2000000 in
theorem p_X3_most_L33 {G : xG} {d : Nat} {n t : Nat} (hn : 71 ≤ n) (hd : 14 ≤ d) {rec : Int32 → Int32 → Int32 → xI → Option (Int32 × xI)} {d0 : Nat} (hd0 : d0 + 1 ≤ d) (hrec : ∀ (a1 : Int32) (a2 : Int32) (a3 : Int32) (w : xI), xMet G m_X3_most d0 [.ref 25, .int a1, .int a2, .int a3] (xFin n t) w (fun x : Int32 => some (Value.int x)) (xFin n t) (rec a1 a2 a3 w)) : ∀ (fu : Nat) (v1 : Int32) (v2 : Int32) (v3 : Int32) (v4 : Int32) (v5 : Int32) (w : xI), xC G m_X3_most d 33 [(0, .ref 25), (1, .int v1), (2, .int v2), (3, .int v3), (4, .int v4), (5, .int v5)] [] (xFin n t) w (fun x : Int32 => some (Value.int x)) (xFin n t) (f_X3_most_L33 rec fu v1 v2 v3 v4 v5 w) := by
  intro fu
  induction fu with
  | zero => intro v1 v2 v3 v4 v5 w; exact xC.none
  | succ fu ih =>
    intro v1 v2 v3 v4 v5 w
    rw [f_X3_most_L33]
    refine y_aload_n dX3_most_33 rfl 0 rfl ?_
    refine y_getr (q := 21) dX3_most_34 flX3_18 (xlt rfl hn) rfl rfl rfl ?_
    refine y_iload_n dX3_most_37 rfl 1 rfl ?_
    refine y_callV (As := [.int v1]) (d2 := d - 1) dX3_most_38 kX3_45 (by omega) rfl rfl (Nat.le_of_ble_eq_true rfl) (xlt rfl hn) rfl rfl (p_X8_isInward hn (by omega)  _ _) (fun r33001 w33002 _ => ?_)
    refine y_if_eq (tgt := 119) dX3_most_41 (by decide) ?_ ?_
    · refine y_iload dX3_most_119 4 rfl ?_
      exact y_ireturn dX3_most_121 rfl rfl rfl
    · refine y_iload dX3_most_44 5 rfl ?_
      refine y_aload_n dX3_most_46 rfl 0 rfl ?_
      refine y_getr (q := 5) dX3_most_47 flX3_22 (xlt rfl hn) rfl rfl rfl ?_
      refine z_geti (v := (w33002 5 2)) dX3_most_50 flX3_37 (xlt rfl hn) rfl rfl rfl ?_
      refine y_icmp_ge (tgt := 119) dX3_most_53 (by decide) ?_ ?_
      · refine y_iload dX3_most_119 4 rfl ?_
        exact y_ireturn dX3_most_121 rfl rfl rfl
      · refine y_aload_n dX3_most_56 rfl 0 rfl ?_
        refine y_iload_n dX3_most_57 rfl 1 rfl ?_
        refine y_iload dX3_most_58 5 rfl ?_
        refine y_iload_n dX3_most_60 rfl 2 rfl ?_
        refine y_callV (As := [.int v1, .int v5, .int v2]) (d2 := d - 1) dX3_most_61 kX3_65 (by omega) rfl rfl (Nat.le_of_ble_eq_true rfl) (xlt rfl hn) rfl rfl (p_X3_fits hn (by omega)  _ _ _ _) (fun r33003 w33004 _ => ?_)
        refine y_if_eq (tgt := 113) dX3_most_64 (by decide) ?_ ?_
        · refine z_iinc (j := 5) dX3_most_113 (by decide) rfl (by decide) (fun x33005 => ?_)
          refine y_loc (lv' := [(5, .int x33005), (0, .ref 25), (1, .int v1), (2, .int v2), (3, .int v3), (4, .int v4)]) rfl ?_
          refine y_goto (tgt := 33) dX3_most_116 (by decide) ?_
          refine y_sub [(0, .ref 25), (1, .int v1), (2, .int v2), (3, .int v3), (4, .int v4), (5, .int x33005)] [1, 2, 3, 4, 5, 0] rfl ?_
          exact ih v1 v2 v3 v4 x33005 w33004 
        · refine y_iload_n dX3_most_67 rfl 3 rfl ?_
          refine y_if_eq (tgt := 86) dX3_most_68 (by decide) ?_ ?_
          · refine y_iconst (v := 1) dX3_most_86 (by decide) ?_
            refine p_X3_most_L87 hn hd hd0 hrec ?_ v1 v2 v3 v4 v5 (1 : Int32) w33004 
            · intro v1_33006 v2_33006 v3_33006 v4_33006 v5_33006 w33006 
              exact ih v1_33006 v2_33006 v3_33006 v4_33006 v5_33006 w33006 
          · refine y_aload_n dX3_most_71 rfl 0 rfl ?_
            refine y_getr (q := 26) dX3_most_72 flX3_9 (xlt rfl hn) rfl rfl rfl ?_
            refine y_bipush (v := 10) dX3_most_75 (by decide) ?_
            refine y_iload_n dX3_most_77 rfl 1 rfl ?_
            refine y_imul dX3_most_78 ?_
            refine y_iload dX3_most_79 5 rfl ?_
            refine y_iadd dX3_most_81 ?_
            refine z_iald (v := (w33004 26 (((10 : Int32) * v1) + v5).toNatClampNeg)) dX3_most_82 (xlt rfl hn) rfl rfl ?_
            refine y_goto (tgt := 87) dX3_most_83 (by decide) ?_
            refine p_X3_most_L87 hn hd hd0 hrec ?_ v1 v2 v3 v4 v5 (w33004 26 (((10 : Int32) * v1) + v5).toNatClampNeg) w33004 
            · intro v1_33007 v2_33007 v3_33007 v4_33007 v5_33007 w33007 
              exact ih v1_33007 v2_33007 v3_33007 v4_33007 v5_33007 w33007 
set_option maxRecDepth 20000 in
set_option maxHeartbeats 2000000 in
theorem p_X3_most_o {G : xG} {d : Nat} {n t : Nat} (hn : 71 ≤ n) (hd : 14 ≤ d) {rec : Int32 → Int32 → Int32 → xI → Option (Int32 × xI)} {d0 : Nat} (hd0 : d0 + 1 ≤ d) (hrec : ∀ (a1 : Int32) (a2 : Int32) (a3 : Int32) (w : xI), xMet G m_X3_most d0 [.ref 25, .int a1, .int a2, .int a3] (xFin n t) w (fun x : Int32 => some (Value.int x)) (xFin n t) (rec a1 a2 a3 w)) (a1 : Int32) (a2 : Int32) (a3 : Int32) (w : xI) : xMet G m_X3_most d [.ref 25, .int a1, .int a2, .int a3] (xFin n t) w (fun x : Int32 => some (Value.int x)) (xFin n t) (f_X3_most_o rec a1 a2 a3 w) := by
  refine xMet.of rfl (Nat.le_of_ble_eq_true rfl) ?_
  unfold f_X3_most_o
  show xC G m_X3_most d 0 [(0, .ref 25), (1, .int a1), (2, .int a2), (3, .int a3)] [] (xFin n t) w _ _ _
  refine y_iload_n dX3_most_0 rfl 1 rfl ?_
  refine y_aload_n dX3_most_1 rfl 0 rfl ?_
  refine y_getr (q := 5) dX3_most_2 flX3_22 (xlt rfl hn) rfl rfl rfl ?_
  refine z_geti (v := (w 5 2)) dX3_most_5 flX3_37 (xlt rfl hn) rfl rfl rfl ?_
  refine y_icmp_ge (tgt := 17) dX3_most_8 (by decide) ?_ ?_
  · refine y_iconst (v := 0) dX3_most_17 (by decide) ?_
    exact y_ireturn dX3_most_18 rfl rfl rfl
  · refine y_iload_n dX3_most_11 rfl 1 rfl ?_
    refine y_bipush (v := 10) dX3_most_12 (by decide) ?_
    refine y_icmp_lt (tgt := 19) dX3_most_14 (by decide) ?_ ?_
    · refine y_aload_n dX3_most_19 rfl 0 rfl ?_
      refine y_iload_n dX3_most_20 rfl 1 rfl ?_
      refine y_iconst (v := 1) dX3_most_21 (by decide) ?_
      refine y_iadd dX3_most_22 ?_
      refine y_iload_n dX3_most_23 rfl 2 rfl ?_
      refine y_iload_n dX3_most_24 rfl 3 rfl ?_
      refine y_callV (As := [.int (a1 + (1 : Int32)), .int a2, .int a3]) (d2 := d0) dX3_most_25 kX3_61 (by omega) rfl rfl (Nat.le_of_ble_eq_true rfl) (xlt rfl hn) rfl rfl (hrec _ _ _ _) (fun r1 w2 _ => ?_)
      refine y_istore (lv' := [(4, .int r1), (0, .ref 25), (1, .int a1), (2, .int a2), (3, .int a3)]) dX3_most_28 (by decide) rfl ?_
      refine y_iconst (v := 0) dX3_most_30 (by decide) ?_
      refine y_istore (lv' := [(5, .int (0 : Int32)), (4, .int r1), (0, .ref 25), (1, .int a1), (2, .int a2), (3, .int a3)]) dX3_most_31 (by decide) rfl ?_
      refine y_sub [(0, .ref 25), (1, .int a1), (2, .int a2), (3, .int a3), (4, .int r1), (5, .int (0 : Int32))] [2, 3, 4, 5, 1, 0] rfl ?_
      refine p_X3_most_L33 hn hd hd0 hrec 2000 a1 a2 a3 r1 (0 : Int32) w2 
    · refine y_iconst (v := 0) dX3_most_17 (by decide) ?_
      exact y_ireturn dX3_most_18 rfl rfl rfl
theorem p_X3_most {G : xG} (fu : Nat) {n t : Nat} (hn : 71 ≤ n) : ∀ {d : Nat} (hd : 3 * fu + 14 ≤ d) (a1 : Int32) (a2 : Int32) (a3 : Int32) (w : xI), xMet G m_X3_most d [.ref 25, .int a1, .int a2, .int a3] (xFin n t) w (fun x : Int32 => some (Value.int x)) (xFin n t) (f_X3_most fu a1 a2 a3 w) := by
  induction fu with
  | zero => intro d hd a1 a2 a3 w a w2 h; cases h
  | succ fu ih =>
    intro d hd a1 a2 a3 w
    exact p_X3_most_o hn (by omega) (d0 := d - 3) (by omega) (fun a1 a2 a3 w => ih (by omega) a1 a2 a3 w) a1 a2 a3 w
-- ===== X3_mostPairs: WeighedGate$Pairs.mostPairs()I =====
set_option maxRecDepth 20000 in
set_option maxHeartbeats 2000000 in
theorem p_X3_mostPairs {G : xG} {d : Nat} {n t : Nat} (hn : 71 ≤ n) (hd : 51 ≤ d) (w : xI) : xMet G m_X3_mostPairs d [.ref 25] (xFin n t) w (fun x : Int32 => some (Value.int x)) (xFin n t) (f_X3_mostPairs  w) := by
  refine xMet.of rfl (Nat.le_of_ble_eq_true rfl) ?_
  unfold f_X3_mostPairs
  show xC G m_X3_mostPairs d 0 [(0, .ref 25)] [] (xFin n t) w _ _ _
  refine y_aload_n dX3_mostPairs_0 rfl 0 rfl ?_
  refine y_iconst (v := 0) dX3_mostPairs_1 (by decide) ?_
  refine y_iconst (v := 0) dX3_mostPairs_2 (by decide) ?_
  refine y_iconst (v := 0) dX3_mostPairs_3 (by decide) ?_
  refine y_callV (As := [.int (0 : Int32), .int (0 : Int32), .int (0 : Int32)]) (d2 := d - 1) dX3_mostPairs_4 kX3_61 (by omega) rfl rfl (Nat.le_of_ble_eq_true rfl) (xlt rfl hn) rfl rfl (p_X3_most 12 hn (by omega)  _ _ _ _) (fun r1 w2 _ => ?_)
  exact y_ireturn dX3_mostPairs_7 rfl rfl rfl
-- ===== X3_mostBrought: WeighedGate$Pairs.mostBrought()I =====
set_option maxRecDepth 20000 in
set_option maxHeartbeats 2000000 in
theorem p_X3_mostBrought {G : xG} {d : Nat} {n t : Nat} (hn : 71 ≤ n) (hd : 51 ≤ d) (w : xI) : xMet G m_X3_mostBrought d [.ref 25] (xFin n t) w (fun x : Int32 => some (Value.int x)) (xFin n t) (f_X3_mostBrought  w) := by
  refine xMet.of rfl (Nat.le_of_ble_eq_true rfl) ?_
  unfold f_X3_mostBrought
  show xC G m_X3_mostBrought d 0 [(0, .ref 25)] [] (xFin n t) w _ _ _
  refine y_aload_n dX3_mostBrought_0 rfl 0 rfl ?_
  refine y_iconst (v := 0) dX3_mostBrought_1 (by decide) ?_
  refine y_iconst (v := 0) dX3_mostBrought_2 (by decide) ?_
  refine y_iconst (v := 1) dX3_mostBrought_3 (by decide) ?_
  refine y_callV (As := [.int (0 : Int32), .int (0 : Int32), .int (1 : Int32)]) (d2 := d - 1) dX3_mostBrought_4 kX3_61 (by omega) rfl rfl (Nat.le_of_ble_eq_true rfl) (xlt rfl hn) rfl rfl (p_X3_most 12 hn (by omega)  _ _ _ _) (fun r1 w2 _ => ?_)
  exact y_ireturn dX3_mostBrought_7 rfl rfl rfl
-- ===== X3_firstOther: WeighedGate$Pairs.firstOther(II)I =====
set_option maxRecDepth 20000 in
set_option maxHeartbeats 2000000 in
theorem p_X3_firstOther_L26 {G : xG} {d : Nat} {n t : Nat} (hn : 71 ≤ n) (hd : 51 ≤ d) : ∀ (fu : Nat) (v1 : Int32) (v2 : Int32) (v3 : Int32) (v4 : Int32) (w : xI), xC G m_X3_firstOther d 26 [(0, .ref 25), (1, .int v1), (2, .int v2), (3, .int v3), (4, .int v4)] [] (xFin n t) w (fun x : Int32 => some (Value.int x)) (xFin n t) (f_X3_firstOther_L26 fu v1 v2 v3 v4 w) := by
  intro fu
  induction fu with
  | zero => intro v1 v2 v3 v4 w; exact xC.none
  | succ fu ih =>
    intro v1 v2 v3 v4 w
    rw [f_X3_firstOther_L26]
    refine y_iload dX3_firstOther_26 4 rfl ?_
    refine y_aload_n dX3_firstOther_28 rfl 0 rfl ?_
    refine y_getr (q := 5) dX3_firstOther_29 flX3_22 (xlt rfl hn) rfl rfl rfl ?_
    refine z_geti (v := (w 5 2)) dX3_firstOther_32 flX3_37 (xlt rfl hn) rfl rfl rfl ?_
    refine y_icmp_ge (tgt := 89) dX3_firstOther_35 (by decide) ?_ ?_
    · refine y_iconst (v := (-1)) dX3_firstOther_89 (by decide) ?_
      exact y_ireturn dX3_firstOther_90 rfl rfl rfl
    · refine y_aload_n dX3_firstOther_38 rfl 0 rfl ?_
      refine y_iload_n dX3_firstOther_39 rfl 1 rfl ?_
      refine y_iload dX3_firstOther_40 4 rfl ?_
      refine y_iload_n dX3_firstOther_42 rfl 2 rfl ?_
      refine y_callV (As := [.int v1, .int v4, .int v2]) (d2 := d - 1) dX3_firstOther_43 kX3_65 (by omega) rfl rfl (Nat.le_of_ble_eq_true rfl) (xlt rfl hn) rfl rfl (p_X3_fits hn (by omega)  _ _ _ _) (fun r26001 w26002 _ => ?_)
      refine y_if_eq (tgt := 83) dX3_firstOther_46 (by decide) ?_ ?_
      · refine z_iinc (j := 4) dX3_firstOther_83 (by decide) rfl (by decide) (fun x26003 => ?_)
        refine y_loc (lv' := [(4, .int x26003), (0, .ref 25), (1, .int v1), (2, .int v2), (3, .int v3)]) rfl ?_
        refine y_goto (tgt := 26) dX3_firstOther_86 (by decide) ?_
        refine y_sub [(0, .ref 25), (1, .int v1), (2, .int v2), (3, .int v3), (4, .int x26003)] [1, 2, 3, 4, 0] rfl ?_
        exact ih v1 v2 v3 x26003 w26002 
      · refine y_aload_n dX3_firstOther_49 rfl 0 rfl ?_
        refine y_getr (q := 26) dX3_firstOther_50 flX3_9 (xlt rfl hn) rfl rfl rfl ?_
        refine y_bipush (v := 10) dX3_firstOther_53 (by decide) ?_
        refine y_iload_n dX3_firstOther_55 rfl 1 rfl ?_
        refine y_imul dX3_firstOther_56 ?_
        refine y_iload dX3_firstOther_57 4 rfl ?_
        refine y_iadd dX3_firstOther_59 ?_
        refine z_iald (v := (w26002 26 (((10 : Int32) * v1) + v4).toNatClampNeg)) dX3_firstOther_60 (xlt rfl hn) rfl rfl ?_
        refine y_aload_n dX3_firstOther_61 rfl 0 rfl ?_
        refine y_iload_n dX3_firstOther_62 rfl 1 rfl ?_
        refine y_iconst (v := 1) dX3_firstOther_63 (by decide) ?_
        refine y_iadd dX3_firstOther_64 ?_
        refine y_iload_n dX3_firstOther_65 rfl 2 rfl ?_
        refine y_iconst (v := 1) dX3_firstOther_66 (by decide) ?_
        refine y_iload dX3_firstOther_67 4 rfl ?_
        refine y_ishl dX3_firstOther_69 ?_
        refine y_ior dX3_firstOther_70 ?_
        refine y_iconst (v := 1) dX3_firstOther_71 (by decide) ?_
        refine y_callV (As := [.int (v1 + (1 : Int32)), .int (v2 ||| ((1 : Int32) <<< (v4 &&& 31))), .int (1 : Int32)]) (d2 := d - 1) dX3_firstOther_72 kX3_61 (by omega) rfl rfl (Nat.le_of_ble_eq_true rfl) (xlt rfl hn) rfl rfl (p_X3_most 12 hn (by omega)  _ _ _ _) (fun r26004 w26005 _ => ?_)
        refine y_iadd dX3_firstOther_75 ?_
        refine y_iload_n dX3_firstOther_76 rfl 3 rfl ?_
        refine y_icmp_ne (tgt := 83) dX3_firstOther_77 (by decide) ?_ ?_
        · refine z_iinc (j := 4) dX3_firstOther_83 (by decide) rfl (by decide) (fun x26006 => ?_)
          refine y_loc (lv' := [(4, .int x26006), (0, .ref 25), (1, .int v1), (2, .int v2), (3, .int v3)]) rfl ?_
          refine y_goto (tgt := 26) dX3_firstOther_86 (by decide) ?_
          refine y_sub [(0, .ref 25), (1, .int v1), (2, .int v2), (3, .int v3), (4, .int x26006)] [1, 2, 3, 4, 0] rfl ?_
          exact ih v1 v2 v3 x26006 w26005 
        · refine y_iload dX3_firstOther_80 4 rfl ?_
          exact y_ireturn dX3_firstOther_82 rfl rfl rfl
set_option maxRecDepth 20000 in
set_option maxHeartbeats 2000000 in
theorem p_X3_firstOther {G : xG} {d : Nat} {n t : Nat} (hn : 71 ≤ n) (hd : 51 ≤ d) (a1 : Int32) (a2 : Int32) (w : xI) : xMet G m_X3_firstOther d [.ref 25, .int a1, .int a2] (xFin n t) w (fun x : Int32 => some (Value.int x)) (xFin n t) (f_X3_firstOther a1 a2 w) := by
  refine xMet.of rfl (Nat.le_of_ble_eq_true rfl) ?_
  unfold f_X3_firstOther
  show xC G m_X3_firstOther d 0 [(0, .ref 25), (1, .int a1), (2, .int a2)] [] (xFin n t) w _ _ _
  refine y_aload_n dX3_firstOther_0 rfl 0 rfl ?_
  refine y_iload_n dX3_firstOther_1 rfl 1 rfl ?_
  refine y_iload_n dX3_firstOther_2 rfl 2 rfl ?_
  refine y_iconst (v := 1) dX3_firstOther_3 (by decide) ?_
  refine y_callV (As := [.int a1, .int a2, .int (1 : Int32)]) (d2 := d - 1) dX3_firstOther_4 kX3_61 (by omega) rfl rfl (Nat.le_of_ble_eq_true rfl) (xlt rfl hn) rfl rfl (p_X3_most 12 hn (by omega)  _ _ _ _) (fun r1 w2 _ => ?_)
  refine y_istore_n (lv' := [(3, .int r1), (0, .ref 25), (1, .int a1), (2, .int a2)]) dX3_firstOther_7 rfl (by decide) rfl ?_
  refine y_aload_n dX3_firstOther_8 rfl 1 rfl ?_
  refine y_iload_n dX3_firstOther_9 rfl 2 rfl ?_
  refine y_iconst (v := 1) dX3_firstOther_10 (by decide) ?_
  refine y_iadd dX3_firstOther_11 ?_
  refine y_iload_n dX3_firstOther_12 rfl 3 rfl ?_
  refine y_iconst (v := 1) dX3_firstOther_13 (by decide) ?_
  refine y_callV (As := [.int (a1 + (1 : Int32)), .int a2, .int (1 : Int32)]) (d2 := d - 1) dX3_firstOther_14 kX3_61 (by omega) rfl rfl (Nat.le_of_ble_eq_true rfl) (xlt rfl hn) rfl rfl (p_X3_most 12 hn (by omega)  _ _ _ _) (fun r3 w4 _ => ?_)
  refine y_iload_n dX3_firstOther_17 rfl 0 rfl ?_
  refine y_icmp_ne (tgt := 23) dX3_firstOther_18 (by decide) ?_ ?_
  · refine y_iconst (v := 0) dX3_firstOther_23 (by decide) ?_
    refine y_istore (lv' := [(4, .int (0 : Int32)), (3, .int r1), (0, .ref 25), (1, .int a1), (2, .int a2)]) dX3_firstOther_24 (by decide) rfl ?_
    refine y_sub [(0, .ref 25), (1, .int a1), (2, .int a2), (3, .int r1), (4, .int (0 : Int32))] [2, 3, 4, 1, 0] rfl ?_
    refine p_X3_firstOther_L26 hn hd 2000 a1 a2 r1 (0 : Int32) w4 
  · refine y_iconst (v := (-1)) dX3_firstOther_21 (by decide) ?_
    exact y_ireturn dX3_firstOther_22 rfl rfl rfl
