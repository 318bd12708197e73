-- ===== X11_scales: WeighedGateModel.scales(III)I =====
set_option maxRecDepth 20000 in
set_option maxHeartbeats 2000000 in
theorem p_X11_scales {G : xG} {d : Nat} {n t : Nat} (hn : 102 ≤ n) (hd : 40 ≤ d) (a1 : Int32) (a2 : Int32) (a3 : Int32) (w : xI) : xMet G m_X11_scales d [.ref 71, .int a1, .int a2, .int a3] (xFin n t) w (fun x : Int32 => some (Value.int x)) (xFin n t) (f_X11_scales a1 a2 a3 w) := by
  refine xMet.of rfl (Nat.le_of_ble_eq_true rfl) ?_
  unfold f_X11_scales
  show xC G m_X11_scales d 0 [(0, .ref 71), (1, .int a1), (2, .int a2), (3, .int a3)] [] (xFin n t) w _ _ _
  refine y_iload_n dX11_scales_0 rfl 1 rfl ?_
  refine y_iconst (v := 0) dX11_scales_1 (by decide) ?_
  refine y_aload_n dX11_scales_2 rfl 0 rfl ?_
  refine y_callV (As := []) (d2 := d - 1) dX11_scales_3 kX11_252 (by omega) rfl rfl (Nat.le_of_ble_eq_true rfl) (xlt rfl hn) rfl rfl (p_X11_allCarts hn (by omega)   _) (fun r1 w2 _ => ?_)
  refine y_callS (As := [.int a1, .int (0 : Int32), .int r1]) (d2 := d - 1) dX11_scales_6 kX11_114 (by omega) rfl rfl (Nat.le_of_ble_eq_true rfl) (p_X11_in hn (by omega)  _ _ _ _) (fun r3 w4 _ => ?_)
  refine y_if_ne (tgt := 15) dX11_scales_9 (by decide) ?_ ?_
  · refine y_iload_n dX11_scales_15 rfl 2 rfl ?_
    refine y_callS (As := [.int a2]) (d2 := d - 1) dX11_scales_16 kX11_208 (by omega) rfl rfl (Nat.le_of_ble_eq_true rfl) (p_X11_isHour hn (by omega)  _ _) (fun r5 w6 _ => ?_)
    refine y_if_eq (tgt := 31) dX11_scales_19 (by decide) ?_ ?_
    · refine y_bipush (v := (-7)) dX11_scales_31 (by decide) ?_
      exact y_ireturn dX11_scales_33 rfl rfl rfl
    · refine y_iload_n dX11_scales_22 rfl 3 rfl ?_
      refine y_iconst (v := 0) dX11_scales_23 (by decide) ?_
      refine y_iconst (v := 5) dX11_scales_24 (by decide) ?_
      refine y_callS (As := [.int a3, .int (0 : Int32), .int (5 : Int32)]) (d2 := d - 1) dX11_scales_25 kX11_114 (by omega) rfl rfl (Nat.le_of_ble_eq_true rfl) (p_X11_in hn (by omega)  _ _ _ _) (fun r7 w8 _ => ?_)
      refine y_if_ne (tgt := 34) dX11_scales_28 (by decide) ?_ ?_
      · refine y_aload_n dX11_scales_34 rfl 0 rfl ?_
        refine y_callV (As := []) (d2 := d - 1) dX11_scales_35 kX11_224 (by omega) rfl rfl (Nat.le_of_ble_eq_true rfl) (xlt rfl hn) rfl rfl (p_X11_findsMade hn (by omega)   _) (fun r9 w10 _ => ?_)
        refine y_aload_n dX11_scales_38 rfl 0 rfl ?_
        refine y_iload_n dX11_scales_39 rfl 1 rfl ?_
        refine y_iload_n dX11_scales_40 rfl 2 rfl ?_
        refine y_callV (As := [.int a1, .int a2]) (d2 := d - 1) dX11_scales_41 kX11_255 (by omega) rfl rfl (Nat.le_of_ble_eq_true rfl) (xlt rfl hn) rfl rfl (p_X11_weighing hn (by omega)  _ _ _) (fun r11 w12 _ => ?_)
        refine y_iload_n dX11_scales_44 rfl 3 rfl ?_
        refine xC.ite (fun hs13 => ?_) (fun hs13 => ?_)
        · refine y_table (tgt := 80) (v := 0) dX11_scales_45 hs13 (by decide) (by decide) rfl (by decide) ?_
          refine y_aload_n dX11_scales_80 rfl 0 rfl ?_
          refine z_geti (v := (w12 71 44)) dX11_scales_81 flX11_245 (xlt rfl hn) rfl rfl rfl ?_
          refine y_if_eq (tgt := 91) dX11_scales_84 (by decide) ?_ ?_
          · refine y_iconst (v := 0) dX11_scales_91 (by decide) ?_
            exact y_ireturn dX11_scales_92 rfl rfl rfl
          · refine y_iconst (v := 1) dX11_scales_87 (by decide) ?_
            refine y_goto (tgt := 92) dX11_scales_88 (by decide) ?_
            exact y_ireturn dX11_scales_92 rfl rfl rfl
        · refine xC.ite (fun hs14 => ?_) (fun hs14 => ?_)
          · refine y_table (tgt := 93) (v := 1) dX11_scales_45 hs14 (by decide) (by decide) rfl (by decide) ?_
            refine y_aload_n dX11_scales_93 rfl 0 rfl ?_
            refine z_geti (v := (w12 71 40)) dX11_scales_94 flX11_227 (xlt rfl hn) rfl rfl rfl ?_
            exact y_ireturn dX11_scales_97 rfl rfl rfl
          · refine xC.ite (fun hs15 => ?_) (fun hs15 => ?_)
            · refine y_table (tgt := 98) (v := 2) dX11_scales_45 hs15 (by decide) (by decide) rfl (by decide) ?_
              refine y_aload_n dX11_scales_98 rfl 0 rfl ?_
              refine z_geti (v := (w12 71 41)) dX11_scales_99 flX11_230 (xlt rfl hn) rfl rfl rfl ?_
              exact y_ireturn dX11_scales_102 rfl rfl rfl
            · refine xC.ite (fun hs16 => ?_) (fun hs16 => ?_)
              · refine y_table (tgt := 103) (v := 3) dX11_scales_45 hs16 (by decide) (by decide) rfl (by decide) ?_
                refine y_aload_n dX11_scales_103 rfl 0 rfl ?_
                refine z_geti (v := (w12 71 42)) dX11_scales_104 flX11_233 (xlt rfl hn) rfl rfl rfl ?_
                exact y_ireturn dX11_scales_107 rfl rfl rfl
              · refine xC.ite (fun hs17 => ?_) (fun hs17 => ?_)
                · refine y_table (tgt := 108) (v := 4) dX11_scales_45 hs17 (by decide) (by decide) rfl (by decide) ?_
                  refine y_aload_n dX11_scales_108 rfl 0 rfl ?_
                  refine z_geti (v := (w12 71 43)) dX11_scales_109 flX11_236 (xlt rfl hn) rfl rfl rfl ?_
                  exact y_ireturn dX11_scales_112 rfl rfl rfl
                · refine y_tableD (tgt := 113) dX11_scales_45 (by have z0 := lv_neT hs13 (show (0 : Int32).toInt = 0 from rfl); have z1 := lv_neT hs14 (show (1 : Int32).toInt = 1 from rfl); have z2 := lv_neT hs15 (show (2 : Int32).toInt = 2 from rfl); have z3 := lv_neT hs16 (show (3 : Int32).toInt = 3 from rfl); have z4 := lv_neT hs17 (show (4 : Int32).toInt = 4 from rfl); omega) (by decide) ?_
                  refine y_aload_n dX11_scales_113 rfl 0 rfl ?_
                  refine z_geti (v := (w12 71 45)) dX11_scales_114 flX11_249 (xlt rfl hn) rfl rfl rfl ?_
                  exact y_ireturn dX11_scales_117 rfl rfl rfl
      · refine y_bipush (v := (-7)) dX11_scales_31 (by decide) ?_
        exact y_ireturn dX11_scales_33 rfl rfl rfl
  · refine y_bipush (v := (-5)) dX11_scales_12 (by decide) ?_
    exact y_ireturn dX11_scales_14 rfl rfl rfl
-- ===== X11_findsTwos: WeighedGateModel.findsTwos(I)V =====
set_option maxRecDepth 20000 in
set_option maxHeartbeats 2000000 in
theorem p_X11_findsTwos_L64 {G : xG} {d : Nat} {n t : Nat} (hn : 102 ≤ n) (hd : 40 ≤ d) {K85 : Int32 → Int32 → Int32 → xI → Option (Unit × xI)} (hK85 : ∀ (v1 : Int32) (v2 : Int32) (v5 : Int32) (w : xI), xC G m_X11_findsTwos d 85 [(0, .ref 71), (1, .int v1), (2, .int v2), (5, .int v5)] [] (xFin n t) w (fun _ : Unit => none) (xFin n t) (K85 v1 v2 v5 w)) (v1 : Int32) (v2 : Int32) (v3 : Int32) (v4 : Int32) (w : xI) : xC G m_X11_findsTwos d 64 [(0, .ref 71), (1, .int v1), (2, .int v2), (3, .int v3), (4, .int v4)] [] (xFin n t) w (fun _ : Unit => none) (xFin n t) (f_X11_findsTwos_L64 K85 v1 v2 v3 v4 w) := by
  unfold f_X11_findsTwos_L64
  refine y_iconst (v := 0) dX11_findsTwos_64 (by decide) ?_
  refine y_istore (lv' := [(5, .int (0 : Int32)), (0, .ref 71), (1, .int v1), (2, .int v2), (3, .int v3), (4, .int v4)]) dX11_findsTwos_65 (by decide) rfl ?_
  refine y_iload dX11_findsTwos_67 0 rfl ?_
  refine y_if_eq (tgt := 85) dX11_findsTwos_69 (by decide) ?_ ?_
  · refine y_sub [(0, .ref 71), (1, .int v1), (2, .int v2), (5, .int (0 : Int32))] [1, 2, 3, 0] rfl ?_
    exact hK85 v1 v2 (0 : Int32) w 
  · refine y_aload_n dX11_findsTwos_72 rfl 1 rfl ?_
    refine y_iconst (v := 1) dX11_findsTwos_73 (by decide) ?_
    refine y_iload_n dX11_findsTwos_74 rfl 4 rfl ?_
    refine y_ishl dX11_findsTwos_75 ?_
    refine y_iconst (v := 1) dX11_findsTwos_76 (by decide) ?_
    refine y_iload dX11_findsTwos_77 5 rfl ?_
    refine y_ishl dX11_findsTwos_79 ?_
    refine y_ior dX11_findsTwos_80 ?_
    refine y_iload_n dX11_findsTwos_81 rfl 2 rfl ?_
    refine y_callV (As := [.int (((1 : Int32) <<< (v3 &&& 31)) ||| ((1 : Int32) <<< (v4 &&& 31))), .int v1]) (d2 := d - 1) dX11_findsTwos_82 kX11_255 (by omega) rfl rfl (Nat.le_of_ble_eq_true rfl) (xlt rfl hn) rfl rfl (p_X11_weighing hn (by omega)  _ _ _) (fun r64001 w64002 _ => ?_)
    refine y_sub [(0, .ref 71), (1, .int v1), (2, .int v2), (5, .int (0 : Int32))] [1, 2, 3, 0] rfl ?_
    exact hK85 v1 v2 (0 : Int32) w64002 
set_option maxRecDepth 20000 in
set_option maxHeartbeats 2000000 in
theorem p_X11_findsTwos_L85 {G : xG} {d : Nat} {n t : Nat} (hn : 102 ≤ n) (hd : 40 ≤ d) {K6 : Int32 → Int32 → xI → Option (Unit × xI)} (hK6 : ∀ (v1 : Int32) (v2 : Int32) (w : xI), xC G m_X11_findsTwos d 6 [(0, .ref 71), (1, .int v1), (2, .int v2)] [] (xFin n t) w (fun _ : Unit => none) (xFin n t) (K6 v1 v2 w)) (v1 : Int32) (v2 : Int32) (v5 : Int32) (w : xI) : xC G m_X11_findsTwos d 85 [(0, .ref 71), (1, .int v1), (2, .int v2), (5, .int v5)] [] (xFin n t) w (fun _ : Unit => none) (xFin n t) (f_X11_findsTwos_L85 K6 v1 v2 v5 w) := by
  unfold f_X11_findsTwos_L85
  refine y_aload_n dX11_findsTwos_85 rfl 0 rfl ?_
  refine y_getr (q := 96) dX11_findsTwos_86 flX11_82 (xlt rfl hn) rfl rfl rfl ?_
  refine y_iload_n dX11_findsTwos_89 rfl 2 rfl ?_
  refine y_iload dX11_findsTwos_90 3 rfl ?_
  refine y_if_eq (tgt := 109) dX11_findsTwos_92 (by decide) ?_ ?_
  · refine y_ldcw (v := (-100000)) dX11_findsTwos_109 q1355 ?_
    refine y_iast dX11_findsTwos_112 (xlt rfl hn) rfl ?_
    refine z_iinc (j := 2) dX11_findsTwos_113 (by decide) rfl (by decide) (fun x85001 => ?_)
    refine y_loc (lv' := [(2, .int x85001), (0, .ref 71), (1, .int v1), (5, .int v5)]) rfl ?_
    refine y_goto (tgt := 6) dX11_findsTwos_116 (by decide) ?_
    refine y_sub [(0, .ref 71), (1, .int v1), (2, .int x85001)] [1, 2, 0] rfl ?_
    exact hK6 v1 x85001 (xup w 96 v2.toNatClampNeg (-100000 : Int32)) 
  · refine y_aload_n dX11_findsTwos_95 rfl 0 rfl ?_
    refine z_geti (v := (w 71 44)) dX11_findsTwos_96 flX11_245 (xlt rfl hn) rfl rfl rfl ?_
    refine y_if_eq (tgt := 109) dX11_findsTwos_99 (by decide) ?_ ?_
    · refine y_ldcw (v := (-100000)) dX11_findsTwos_109 q1355 ?_
      refine y_iast dX11_findsTwos_112 (xlt rfl hn) rfl ?_
      refine z_iinc (j := 2) dX11_findsTwos_113 (by decide) rfl (by decide) (fun x85002 => ?_)
      refine y_loc (lv' := [(2, .int x85002), (0, .ref 71), (1, .int v1), (5, .int v5)]) rfl ?_
      refine y_goto (tgt := 6) dX11_findsTwos_116 (by decide) ?_
      refine y_sub [(0, .ref 71), (1, .int v1), (2, .int x85002)] [1, 2, 0] rfl ?_
      exact hK6 v1 x85002 (xup w 96 v2.toNatClampNeg (-100000 : Int32)) 
    · refine y_aload_n dX11_findsTwos_102 rfl 0 rfl ?_
      refine z_geti (v := (w 71 45)) dX11_findsTwos_103 flX11_249 (xlt rfl hn) rfl rfl rfl ?_
      refine y_goto (tgt := 112) dX11_findsTwos_106 (by decide) ?_
      refine y_iast dX11_findsTwos_112 (xlt rfl hn) rfl ?_
      refine z_iinc (j := 2) dX11_findsTwos_113 (by decide) rfl (by decide) (fun x85003 => ?_)
      refine y_loc (lv' := [(2, .int x85003), (0, .ref 71), (1, .int v1), (5, .int v5)]) rfl ?_
      refine y_goto (tgt := 6) dX11_findsTwos_116 (by decide) ?_
      refine y_sub [(0, .ref 71), (1, .int v1), (2, .int x85003)] [1, 2, 0] rfl ?_
      exact hK6 v1 x85003 (xup w 96 v2.toNatClampNeg (w 71 45)) 
set_option maxRecDepth 20000 in
set_option maxHeartbeats 2000000 in
theorem p_X11_findsTwos_L6 {G : xG} {d : Nat} {n t : Nat} (hn : 102 ≤ n) (hd : 40 ≤ d) : ∀ (fu : Nat) (v1 : Int32) (v2 : Int32) (w : xI), xC G m_X11_findsTwos d 6 [(0, .ref 71), (1, .int v1), (2, .int v2)] [] (xFin n t) w (fun _ : Unit => none) (xFin n t) (f_X11_findsTwos_L6 fu v1 v2 w) := by
  intro fu
  induction fu with
  | zero => intro v1 v2 w; exact xC.none
  | succ fu ih =>
    intro v1 v2 w
    rw [f_X11_findsTwos_L6]
    refine y_iload_n dX11_findsTwos_6 rfl 2 rfl ?_
    refine y_bipush (v := 100) dX11_findsTwos_7 (by decide) ?_
    refine y_icmp_ge (tgt := 119) dX11_findsTwos_9 (by decide) ?_ ?_
    · exact y_return dX11_findsTwos_119 rfl rfl
    · refine y_iload_n dX11_findsTwos_12 rfl 2 rfl ?_
      refine y_bipush (v := 10) dX11_findsTwos_13 (by decide) ?_
      refine y_idiv dX11_findsTwos_15 (by decide) ?_
      refine y_let (fun x6001 => ?_)
      refine y_istore_n (lv' := [(3, .int x6001), (0, .ref 71), (1, .int v1), (2, .int v2)]) dX11_findsTwos_16 rfl (by decide) rfl ?_
      refine y_iload_n dX11_findsTwos_17 rfl 3 rfl ?_
      refine y_bipush (v := 10) dX11_findsTwos_18 (by decide) ?_
      refine y_irem dX11_findsTwos_20 (by decide) ?_
      refine y_let (fun x6002 => ?_)
      refine y_istore (lv' := [(4, .int x6002), (3, .int x6001), (0, .ref 71), (1, .int v1), (2, .int v2)]) dX11_findsTwos_21 (by decide) rfl ?_
      refine y_iload_n dX11_findsTwos_23 rfl 1 rfl ?_
      refine y_aload_n dX11_findsTwos_24 rfl 2 rfl ?_
      refine z_geti (v := (w 71 3)) dX11_findsTwos_25 flX11_111 (xlt rfl hn) rfl rfl rfl ?_
      refine y_icmp_ge (tgt := 64) dX11_findsTwos_28 (by decide) ?_ ?_
      · refine y_sub [(0, .ref 71), (1, .int v1), (2, .int v2), (3, .int x6001), (4, .int x6002)] [2, 3, 4, 1, 0] rfl ?_
        refine p_X11_findsTwos_L64 hn hd ?_ v1 v2 x6001 x6002 w 
        · intro v1_6003 v2_6003 v5_6003 w6003 
          refine p_X11_findsTwos_L85 hn hd ?_ v1_6003 v2_6003 v5_6003 w6003 
          · intro v1_6004 v2_6004 w6004 
            exact ih v1_6004 v2_6004 w6004 
      · refine y_iload dX11_findsTwos_31 0 rfl ?_
        refine y_aload_n dX11_findsTwos_33 rfl 2 rfl ?_
        refine z_geti (v := (w 71 3)) dX11_findsTwos_34 flX11_111 (xlt rfl hn) rfl rfl rfl ?_
        refine y_icmp_ge (tgt := 64) dX11_findsTwos_37 (by decide) ?_ ?_
        · refine y_sub [(0, .ref 71), (1, .int v1), (2, .int v2), (3, .int x6001), (4, .int x6002)] [2, 3, 4, 1, 0] rfl ?_
          refine p_X11_findsTwos_L64 hn hd ?_ v1 v2 x6001 x6002 w 
          · intro v1_6005 v2_6005 v5_6005 w6005 
            refine p_X11_findsTwos_L85 hn hd ?_ v1_6005 v2_6005 v5_6005 w6005 
            · intro v1_6006 v2_6006 w6006 
              exact ih v1_6006 v2_6006 w6006 
        · refine y_aload_n dX11_findsTwos_40 rfl 2 rfl ?_
          refine y_getr (q := 74) dX11_findsTwos_41 flX11_16 (xlt rfl hn) rfl rfl rfl ?_
          refine y_iload_n dX11_findsTwos_44 rfl 1 rfl ?_
          refine z_iald (v := (w 74 x6001.toNatClampNeg)) dX11_findsTwos_45 (xlt rfl hn) rfl rfl ?_
          refine y_iconst (v := 1) dX11_findsTwos_46 (by decide) ?_
          refine y_icmp_ne (tgt := 64) dX11_findsTwos_47 (by decide) ?_ ?_
          · refine y_sub [(0, .ref 71), (1, .int v1), (2, .int v2), (3, .int x6001), (4, .int x6002)] [2, 3, 4, 1, 0] rfl ?_
            refine p_X11_findsTwos_L64 hn hd ?_ v1 v2 x6001 x6002 w 
            · intro v1_6007 v2_6007 v5_6007 w6007 
              refine p_X11_findsTwos_L85 hn hd ?_ v1_6007 v2_6007 v5_6007 w6007 
              · intro v1_6008 v2_6008 w6008 
                exact ih v1_6008 v2_6008 w6008 
          · refine y_aload_n dX11_findsTwos_50 rfl 2 rfl ?_
            refine y_getr (q := 74) dX11_findsTwos_51 flX11_16 (xlt rfl hn) rfl rfl rfl ?_
            refine y_iload dX11_findsTwos_54 0 rfl ?_
            refine z_iald (v := (w 74 x6002.toNatClampNeg)) dX11_findsTwos_56 (xlt rfl hn) rfl rfl ?_
            refine y_if_ne (tgt := 64) dX11_findsTwos_57 (by decide) ?_ ?_
            · refine y_sub [(0, .ref 71), (1, .int v1), (2, .int v2), (3, .int x6001), (4, .int x6002)] [2, 3, 4, 1, 0] rfl ?_
              refine p_X11_findsTwos_L64 hn hd ?_ v1 v2 x6001 x6002 w 
              · intro v1_6009 v2_6009 v5_6009 w6009 
                refine p_X11_findsTwos_L85 hn hd ?_ v1_6009 v2_6009 v5_6009 w6009 
                · intro v1_6010 v2_6010 w6010 
                  exact ih v1_6010 v2_6010 w6010 
            · refine y_iconst (v := 1) dX11_findsTwos_60 (by decide) ?_
              refine y_goto (tgt := 65) dX11_findsTwos_61 (by decide) ?_
              refine y_istore (lv' := [(5, .int (1 : Int32)), (4, .int x6002), (3, .int x6001), (0, .ref 71), (1, .int v1), (2, .int v2)]) dX11_findsTwos_65 (by decide) rfl ?_
              refine y_iload dX11_findsTwos_67 0 rfl ?_
              refine y_if_eq (tgt := 85) dX11_findsTwos_69 (by decide) ?_ ?_
              · refine y_sub [(0, .ref 71), (1, .int v1), (2, .int v2), (5, .int (1 : Int32))] [3, 4, 5, 0] rfl ?_
                refine p_X11_findsTwos_L85 hn hd ?_ v1 v2 (1 : Int32) w 
                · intro v1_6011 v2_6011 w6011 
                  exact ih v1_6011 v2_6011 w6011 
              · refine y_aload_n dX11_findsTwos_72 rfl 3 rfl ?_
                refine y_iconst (v := 1) dX11_findsTwos_73 (by decide) ?_
                refine y_iload_n dX11_findsTwos_74 rfl 2 rfl ?_
                refine y_ishl dX11_findsTwos_75 ?_
                refine y_iconst (v := 1) dX11_findsTwos_76 (by decide) ?_
                refine y_iload dX11_findsTwos_77 1 rfl ?_
                refine y_ishl dX11_findsTwos_79 ?_
                refine y_ior dX11_findsTwos_80 ?_
                refine y_iload_n dX11_findsTwos_81 rfl 4 rfl ?_
                refine y_callV (As := [.int (((1 : Int32) <<< (x6001 &&& 31)) ||| ((1 : Int32) <<< (x6002 &&& 31))), .int v1]) (d2 := d - 1) dX11_findsTwos_82 kX11_255 (by omega) rfl rfl (Nat.le_of_ble_eq_true rfl) (xlt rfl hn) rfl rfl (p_X11_weighing hn (by omega)  _ _ _) (fun r6012 w6013 _ => ?_)
                refine y_sub [(0, .ref 71), (1, .int v1), (2, .int v2), (5, .int (1 : Int32))] [3, 4, 5, 0] rfl ?_
                refine p_X11_findsTwos_L85 hn hd ?_ v1 v2 (1 : Int32) w6013 
                · intro v1_6014 v2_6014 w6014 
                  exact ih v1_6014 v2_6014 w6014 
set_option maxRecDepth 20000 in
set_option maxHeartbeats 2000000 in
theorem p_X11_findsTwos {G : xG} {d : Nat} {n t : Nat} (hn : 102 ≤ n) (hd : 40 ≤ d) (a1 : Int32) (w : xI) : xMet G m_X11_findsTwos d [.ref 71, .int a1] (xFin n t) w (fun _ : Unit => none) (xFin n t) (f_X11_findsTwos a1 w) := by
  refine xMet.of rfl (Nat.le_of_ble_eq_true rfl) ?_
  unfold f_X11_findsTwos
  show xC G m_X11_findsTwos d 0 [(0, .ref 71), (1, .int a1)] [] (xFin n t) w _ _ _
  refine y_aload_n dX11_findsTwos_0 rfl 0 rfl ?_
  refine y_callV (As := []) (d2 := d - 1) dX11_findsTwos_1 kX11_224 (by omega) rfl rfl (Nat.le_of_ble_eq_true rfl) (xlt rfl hn) rfl rfl (p_X11_findsMade hn (by omega)   _) (fun r1 w2 _ => ?_)
  refine y_iconst (v := 0) dX11_findsTwos_4 (by decide) ?_
  refine y_istore_n (lv' := [(2, .int (0 : Int32)), (0, .ref 71), (1, .int a1)]) dX11_findsTwos_5 rfl (by decide) rfl ?_
  refine y_sub [(0, .ref 71), (1, .int a1), (2, .int (0 : Int32))] [1, 2, 0] rfl ?_
  refine p_X11_findsTwos_L6 hn hd 2000 a1 (0 : Int32) w2 
-- ===== X11_pairsFrom: WeighedGateModel.pairsFrom(IIII)V =====
set_option maxRecDepth 20000 in
set_option maxHeartbeats 2000000 in
theorem p_X11_pairsFrom_L46 {G : xG} {d : Nat} {n t : Nat} (hn : 102 ≤ n) (hd : 14 ≤ d) {rec : Int32 → Int32 → Int32 → Int32 → xI → Option (Unit × xI)} {d0 : Nat} (hd0 : d0 + 1 ≤ d) (hrec : ∀ (a1 : Int32) (a2 : Int32) (a3 : Int32) (a4 : Int32) (w : xI), xMet G m_X11_pairsFrom d0 [.ref 71, .int a1, .int a2, .int a3, .int a4] (xFin n t) w (fun _ : Unit => none) (xFin n t) (rec a1 a2 a3 a4 w)) : ∀ (fu : Nat) (v5 : Int32) (w : xI), xC G m_X11_pairsFrom d 46 [(0, .ref 71), (5, .int v5)] [] (xFin n t) w (fun _ : Unit => none) (xFin n t) (f_X11_pairsFrom_L46 rec fu v5 w) := by
  intro fu
  induction fu with
  | zero => intro v5 w; exact xC.none
  | succ fu ih =>
    intro v5 w
    rw [f_X11_pairsFrom_L46]
    refine y_iload dX11_pairsFrom_46 1 rfl ?_
    refine y_bipush (v := 10) dX11_pairsFrom_48 (by decide) ?_
    refine y_icmp_ge (tgt := 73) dX11_pairsFrom_50 (by decide) ?_ ?_
    · exact y_return dX11_pairsFrom_73 rfl rfl
    · refine y_aload_n dX11_pairsFrom_53 rfl 0 rfl ?_
      refine y_getr (q := 98) dX11_pairsFrom_54 flX11_88 (xlt rfl hn) rfl rfl rfl ?_
      refine y_iload dX11_pairsFrom_57 1 rfl ?_
      refine y_aload_n dX11_pairsFrom_59 rfl 0 rfl ?_
      refine y_getr (q := 97) dX11_pairsFrom_60 flX11_85 (xlt rfl hn) rfl rfl rfl ?_
      refine y_iload dX11_pairsFrom_63 1 rfl ?_
      refine z_iald (v := (w 97 v5.toNatClampNeg)) dX11_pairsFrom_65 (xlt rfl hn) rfl rfl ?_
      refine y_iast dX11_pairsFrom_66 (xlt rfl hn) rfl ?_
      refine z_iinc (j := 1) dX11_pairsFrom_67 (by decide) rfl (by decide) (fun x46001 => ?_)
      refine y_loc (lv' := [(5, .int x46001), (0, .ref 71)]) rfl ?_
      refine y_goto (tgt := 46) dX11_pairsFrom_70 (by decide) ?_
      refine y_sub [(0, .ref 71), (5, .int x46001)] [1, 0] rfl ?_
      exact ih x46001 (xup w 98 v5.toNatClampNeg (w 97 v5.toNatClampNeg)) 
set_option maxRecDepth 20000 in
set_option maxHeartbeats 2000000 in
theorem p_X11_pairsFrom_L95 {G : xG} {d : Nat} {n t : Nat} (hn : 102 ≤ n) (hd : 14 ≤ d) {rec : Int32 → Int32 → Int32 → Int32 → xI → Option (Unit × xI)} {d0 : Nat} (hd0 : d0 + 1 ≤ d) (hrec : ∀ (a1 : Int32) (a2 : Int32) (a3 : Int32) (a4 : Int32) (w : xI), xMet G m_X11_pairsFrom d0 [.ref 71, .int a1, .int a2, .int a3, .int a4] (xFin n t) w (fun _ : Unit => none) (xFin n t) (rec a1 a2 a3 a4 w)) : ∀ (fu : Nat) (v1 : Int32) (v2 : Int32) (v3 : Int32) (v4 : Int32) (v5 : Int32) (w : xI), xC G m_X11_pairsFrom d 95 [(0, .ref 71), (1, .int v1), (2, .int v2), (3, .int v3), (4, .int v4), (5, .int v5)] [] (xFin n t) w (fun _ : Unit => none) (xFin n t) (f_X11_pairsFrom_L95 rec fu v1 v2 v3 v4 v5 w) := by
  intro fu
  induction fu with
  | zero => intro v1 v2 v3 v4 v5 w; exact xC.none
  | succ fu ih =>
    intro v1 v2 v3 v4 v5 w
    rw [f_X11_pairsFrom_L95]
    refine y_iload dX11_pairsFrom_95 5 rfl ?_
    refine y_aload_n dX11_pairsFrom_97 rfl 0 rfl ?_
    refine z_geti (v := (w 71 3)) dX11_pairsFrom_98 flX11_111 (xlt rfl hn) rfl rfl rfl ?_
    refine y_icmp_ge (tgt := 186) dX11_pairsFrom_101 (by decide) ?_ ?_
    · refine y_aload_n dX11_pairsFrom_186 rfl 0 rfl ?_
      refine y_getr (q := 97) dX11_pairsFrom_187 flX11_85 (xlt rfl hn) rfl rfl rfl ?_
      refine y_iload_n dX11_pairsFrom_190 rfl 1 rfl ?_
      refine y_iconst (v := (-1)) dX11_pairsFrom_191 (by decide) ?_
      refine y_iast dX11_pairsFrom_192 (xlt rfl hn) rfl ?_
      exact y_return dX11_pairsFrom_193 rfl rfl
    · refine y_aload_n dX11_pairsFrom_104 rfl 0 rfl ?_
      refine y_getr (q := 74) dX11_pairsFrom_105 flX11_16 (xlt rfl hn) rfl rfl rfl ?_
      refine y_iload_n dX11_pairsFrom_108 rfl 1 rfl ?_
      refine z_iald (v := (w 74 v1.toNatClampNeg)) dX11_pairsFrom_109 (xlt rfl hn) rfl rfl ?_
      refine y_iconst (v := 1) dX11_pairsFrom_110 (by decide) ?_
      refine y_icmp_ne (tgt := 186) dX11_pairsFrom_111 (by decide) ?_ ?_
      · refine y_aload_n dX11_pairsFrom_186 rfl 0 rfl ?_
        refine y_getr (q := 97) dX11_pairsFrom_187 flX11_85 (xlt rfl hn) rfl rfl rfl ?_
        refine y_iload_n dX11_pairsFrom_190 rfl 1 rfl ?_
        refine y_iconst (v := (-1)) dX11_pairsFrom_191 (by decide) ?_
        refine y_iast dX11_pairsFrom_192 (xlt rfl hn) rfl ?_
        exact y_return dX11_pairsFrom_193 rfl rfl
      · refine y_aload_n dX11_pairsFrom_114 rfl 0 rfl ?_
        refine y_getr (q := 96) dX11_pairsFrom_115 flX11_82 (xlt rfl hn) rfl rfl rfl ?_
        refine y_bipush (v := 10) dX11_pairsFrom_118 (by decide) ?_
        refine y_iload_n dX11_pairsFrom_120 rfl 1 rfl ?_
        refine y_imul dX11_pairsFrom_121 ?_
        refine y_iload dX11_pairsFrom_122 5 rfl ?_
        refine y_iadd dX11_pairsFrom_124 ?_
        refine z_iald (v := (w 96 (((10 : Int32) * v1) + v5).toNatClampNeg)) dX11_pairsFrom_125 (xlt rfl hn) rfl rfl ?_
        refine y_ldcw (v := (-100000)) dX11_pairsFrom_126 q1355 ?_
        refine y_icmp_eq (tgt := 180) dX11_pairsFrom_129 (by decide) ?_ ?_
        · refine z_iinc (j := 5) dX11_pairsFrom_180 (by decide) rfl (by decide) (fun x95001 => ?_)
          refine y_loc (lv' := [(5, .int x95001), (0, .ref 71), (1, .int v1), (2, .int v2), (3, .int v3), (4, .int v4)]) rfl ?_
          refine y_goto (tgt := 95) dX11_pairsFrom_183 (by decide) ?_
          refine y_sub [(0, .ref 71), (1, .int v1), (2, .int v2), (3, .int v3), (4, .int v4), (5, .int x95001)] [1, 2, 3, 4, 5, 0] rfl ?_
          exact ih v1 v2 v3 v4 x95001 w 
        · refine y_iload_n dX11_pairsFrom_132 rfl 2 rfl ?_
          refine y_iload dX11_pairsFrom_133 5 rfl ?_
          refine y_ishr dX11_pairsFrom_135 ?_
          refine y_iconst (v := 1) dX11_pairsFrom_136 (by decide) ?_
          refine y_iand dX11_pairsFrom_137 ?_
          refine y_if_ne (tgt := 180) dX11_pairsFrom_138 (by decide) ?_ ?_
          · refine z_iinc (j := 5) dX11_pairsFrom_180 (by decide) rfl (by decide) (fun x95002 => ?_)
            refine y_loc (lv' := [(5, .int x95002), (0, .ref 71), (1, .int v1), (2, .int v2), (3, .int v3), (4, .int v4)]) rfl ?_
            refine y_goto (tgt := 95) dX11_pairsFrom_183 (by decide) ?_
            refine y_sub [(0, .ref 71), (1, .int v1), (2, .int v2), (3, .int v3), (4, .int v4), (5, .int x95002)] [1, 2, 3, 4, 5, 0] rfl ?_
            exact ih v1 v2 v3 v4 x95002 w 
          · refine y_aload_n dX11_pairsFrom_141 rfl 0 rfl ?_
            refine y_getr (q := 97) dX11_pairsFrom_142 flX11_85 (xlt rfl hn) rfl rfl rfl ?_
            refine y_iload_n dX11_pairsFrom_145 rfl 1 rfl ?_
            refine y_iload dX11_pairsFrom_146 5 rfl ?_
            refine y_iast dX11_pairsFrom_148 (xlt rfl hn) rfl ?_
            refine y_aload_n dX11_pairsFrom_149 rfl 0 rfl ?_
            refine y_iload_n dX11_pairsFrom_150 rfl 1 rfl ?_
            refine y_iconst (v := 1) dX11_pairsFrom_151 (by decide) ?_
            refine y_iadd dX11_pairsFrom_152 ?_
            refine y_iload_n dX11_pairsFrom_153 rfl 2 rfl ?_
            refine y_iconst (v := 1) dX11_pairsFrom_154 (by decide) ?_
            refine y_iload dX11_pairsFrom_155 5 rfl ?_
            refine y_ishl dX11_pairsFrom_157 ?_
            refine y_ior dX11_pairsFrom_158 ?_
            refine y_iload_n dX11_pairsFrom_159 rfl 3 rfl ?_
            refine y_iconst (v := 1) dX11_pairsFrom_160 (by decide) ?_
            refine y_iadd dX11_pairsFrom_161 ?_
            refine y_iload dX11_pairsFrom_162 4 rfl ?_
            refine y_aload_n dX11_pairsFrom_164 rfl 0 rfl ?_
            refine y_getr (q := 96) dX11_pairsFrom_165 flX11_82 (xlt rfl hn) rfl rfl rfl ?_
            refine y_bipush (v := 10) dX11_pairsFrom_168 (by decide) ?_
            refine y_iload_n dX11_pairsFrom_170 rfl 1 rfl ?_
            refine y_imul dX11_pairsFrom_171 ?_
            refine y_iload dX11_pairsFrom_172 5 rfl ?_
            refine y_iadd dX11_pairsFrom_174 ?_
            refine z_iald (v := (w 96 (((10 : Int32) * v1) + v5).toNatClampNeg)) dX11_pairsFrom_175 (xlt rfl hn) rfl rfl ?_
            refine y_iadd dX11_pairsFrom_176 ?_
            refine y_callV (As := [.int (v1 + (1 : Int32)), .int (v2 ||| ((1 : Int32) <<< (v5 &&& 31))), .int (v3 + (1 : Int32)), .int (v4 + (w 96 (((10 : Int32) * v1) + v5).toNatClampNeg))]) (d2 := d0) dX11_pairsFrom_177 kX11_266 (by omega) rfl rfl (Nat.le_of_ble_eq_true rfl) (xlt rfl hn) rfl rfl (hrec _ _ _ _ _) (fun r95003 w95004 _ => ?_)
            refine z_iinc (j := 5) dX11_pairsFrom_180 (by decide) rfl (by decide) (fun x95005 => ?_)
            refine y_loc (lv' := [(5, .int x95005), (0, .ref 71), (1, .int v1), (2, .int v2), (3, .int v3), (4, .int v4)]) rfl ?_
            refine y_goto (tgt := 95) dX11_pairsFrom_183 (by decide) ?_
            refine y_sub [(0, .ref 71), (1, .int v1), (2, .int v2), (3, .int v3), (4, .int v4), (5, .int x95005)] [1, 2, 3, 4, 5, 0] rfl ?_
            exact ih v1 v2 v3 v4 x95005 w95004 
set_option maxRecDepth 20000 in
set_option maxHeartbeats 2000000 in
theorem p_X11_pairsFrom_o {G : xG} {d : Nat} {n t : Nat} (hn : 102 ≤ n) (hd : 14 ≤ d) {rec : Int32 → Int32 → Int32 → Int32 → xI → Option (Unit × xI)} {d0 : Nat} (hd0 : d0 + 1 ≤ d) (hrec : ∀ (a1 : Int32) (a2 : Int32) (a3 : Int32) (a4 : Int32) (w : xI), xMet G m_X11_pairsFrom d0 [.ref 71, .int a1, .int a2, .int a3, .int a4] (xFin n t) w (fun _ : Unit => none) (xFin n t) (rec a1 a2 a3 a4 w)) (a1 : Int32) (a2 : Int32) (a3 : Int32) (a4 : Int32) (w : xI) : xMet G m_X11_pairsFrom d [.ref 71, .int a1, .int a2, .int a3, .int a4] (xFin n t) w (fun _ : Unit => none) (xFin n t) (f_X11_pairsFrom_o rec a1 a2 a3 a4 w) := by
  refine xMet.of rfl (Nat.le_of_ble_eq_true rfl) ?_
  unfold f_X11_pairsFrom_o
  show xC G m_X11_pairsFrom d 0 [(0, .ref 71), (1, .int a1), (2, .int a2), (3, .int a3), (4, .int a4)] [] (xFin n t) w _ _ _
  refine y_iload_n dX11_pairsFrom_0 rfl 1 rfl ?_
  refine y_aload_n dX11_pairsFrom_1 rfl 0 rfl ?_
  refine z_geti (v := (w 71 3)) dX11_pairsFrom_2 flX11_111 (xlt rfl hn) rfl rfl rfl ?_
  refine y_icmp_ne (tgt := 74) dX11_pairsFrom_5 (by decide) ?_ ?_
  · refine y_aload_n dX11_pairsFrom_74 rfl 0 rfl ?_
    refine y_getr (q := 97) dX11_pairsFrom_75 flX11_85 (xlt rfl hn) rfl rfl rfl ?_
    refine y_iload_n dX11_pairsFrom_78 rfl 1 rfl ?_
    refine y_iconst (v := (-1)) dX11_pairsFrom_79 (by decide) ?_
    refine y_iast dX11_pairsFrom_80 (xlt rfl hn) rfl ?_
    refine y_aload_n dX11_pairsFrom_81 rfl 0 rfl ?_
    refine y_iload_n dX11_pairsFrom_82 rfl 1 rfl ?_
    refine y_iconst (v := 1) dX11_pairsFrom_83 (by decide) ?_
    refine y_iadd dX11_pairsFrom_84 ?_
    refine y_iload_n dX11_pairsFrom_85 rfl 2 rfl ?_
    refine y_iload_n dX11_pairsFrom_86 rfl 3 rfl ?_
    refine y_iload dX11_pairsFrom_87 4 rfl ?_
    refine y_callV (As := [.int (a1 + (1 : Int32)), .int a2, .int a3, .int a4]) (d2 := d0) dX11_pairsFrom_89 kX11_266 (by omega) rfl rfl (Nat.le_of_ble_eq_true rfl) (xlt rfl hn) rfl rfl (hrec _ _ _ _ _) (fun r1 w2 _ => ?_)
    refine y_iconst (v := 0) dX11_pairsFrom_92 (by decide) ?_
    refine y_istore (lv' := [(5, .int (0 : Int32)), (0, .ref 71), (1, .int a1), (2, .int a2), (3, .int a3), (4, .int a4)]) dX11_pairsFrom_93 (by decide) rfl ?_
    refine y_sub [(0, .ref 71), (1, .int a1), (2, .int a2), (3, .int a3), (4, .int a4), (5, .int (0 : Int32))] [1, 2, 3, 4, 5, 0] rfl ?_
    refine p_X11_pairsFrom_L95 hn hd hd0 hrec 2000 a1 a2 a3 a4 (0 : Int32) w2 
  · refine y_aload_n dX11_pairsFrom_8 rfl 0 rfl ?_
    refine y_iload_n dX11_pairsFrom_9 rfl 3 rfl ?_
    refine y_aload_n dX11_pairsFrom_10 rfl 0 rfl ?_
    refine z_geti (v := (w 71 49)) dX11_pairsFrom_11 flX11_260 (xlt rfl hn) rfl rfl rfl ?_
    refine y_icmp_le (tgt := 21) dX11_pairsFrom_14 (by decide) ?_ ?_
    · refine y_aload_n dX11_pairsFrom_21 rfl 0 rfl ?_
      refine z_geti (v := (w 71 49)) dX11_pairsFrom_22 flX11_260 (xlt rfl hn) rfl rfl rfl ?_
      refine y_puti dX11_pairsFrom_25 flX11_260 (xlt rfl hn) rfl rfl ?_
      refine y_iload dX11_pairsFrom_28 4 rfl ?_
      refine y_aload_n dX11_pairsFrom_30 rfl 0 rfl ?_
      refine z_geti (v := (w 71 50)) dX11_pairsFrom_31 flX11_263 (xlt rfl hn) rfl rfl rfl ?_
      refine y_icmp_le (tgt := 73) dX11_pairsFrom_34 (by decide) ?_ ?_
      · exact y_return dX11_pairsFrom_73 rfl rfl
      · refine y_aload_n dX11_pairsFrom_37 rfl 0 rfl ?_
        refine y_iload dX11_pairsFrom_38 4 rfl ?_
        refine y_puti dX11_pairsFrom_40 flX11_263 (xlt rfl hn) rfl rfl ?_
        refine y_iconst (v := 0) dX11_pairsFrom_43 (by decide) ?_
        refine y_istore (lv' := [(5, .int (0 : Int32)), (0, .ref 71), (1, .int a1), (2, .int a2), (3, .int a3), (4, .int a4)]) dX11_pairsFrom_44 (by decide) rfl ?_
        refine y_sub [(0, .ref 71), (5, .int (0 : Int32))] [1, 0] rfl ?_
        refine p_X11_pairsFrom_L46 hn hd hd0 hrec 2000 (0 : Int32) (xup (xup w 71 49 (w 71 49)) 71 50 a4) 
    · refine y_iload_n dX11_pairsFrom_17 rfl 3 rfl ?_
      refine y_goto (tgt := 25) dX11_pairsFrom_18 (by decide) ?_
      refine y_puti dX11_pairsFrom_25 flX11_260 (xlt rfl hn) rfl rfl ?_
      refine y_iload dX11_pairsFrom_28 4 rfl ?_
      refine y_aload_n dX11_pairsFrom_30 rfl 0 rfl ?_
      refine z_geti (v := (w 71 50)) dX11_pairsFrom_31 flX11_263 (xlt rfl hn) rfl rfl rfl ?_
      refine y_icmp_le (tgt := 73) dX11_pairsFrom_34 (by decide) ?_ ?_
      · exact y_return dX11_pairsFrom_73 rfl rfl
      · refine y_aload_n dX11_pairsFrom_37 rfl 0 rfl ?_
        refine y_iload dX11_pairsFrom_38 4 rfl ?_
        refine y_puti dX11_pairsFrom_40 flX11_263 (xlt rfl hn) rfl rfl ?_
        refine y_iconst (v := 0) dX11_pairsFrom_43 (by decide) ?_
        refine y_istore (lv' := [(5, .int (0 : Int32)), (0, .ref 71), (1, .int a1), (2, .int a2), (3, .int a3), (4, .int a4)]) dX11_pairsFrom_44 (by decide) rfl ?_
        refine y_sub [(0, .ref 71), (5, .int (0 : Int32))] [1, 0] rfl ?_
        refine p_X11_pairsFrom_L46 hn hd hd0 hrec 2000 (0 : Int32) (xup (xup w 71 49 a3) 71 50 a4) 
theorem p_X11_pairsFrom {G : xG} (fu : Nat) {n t : Nat} (hn : 102 ≤ n) : ∀ {d : Nat} (hd : 3 * fu + 14 ≤ d) (a1 : Int32) (a2 : Int32) (a3 : Int32) (a4 : Int32) (w : xI), xMet G m_X11_pairsFrom d [.ref 71, .int a1, .int a2, .int a3, .int a4] (xFin n t) w (fun _ : Unit => none) (xFin n t) (f_X11_pairsFrom fu a1 a2 a3 a4 w) := by
  induction fu with
  | zero => intro d hd a1 a2 a3 a4 w a w2 h; cases h
  | succ fu ih =>
    intro d hd a1 a2 a3 a4 w
    exact p_X11_pairsFrom_o hn (by omega) (d0 := d - 3) (by omega) (fun a1 a2 a3 a4 w => ih (by omega) a1 a2 a3 a4 w) a1 a2 a3 a4 w
-- ===== X11_findsPairs: WeighedGateModel.findsPairs(I)V =====
set_option maxRecDepth 20000 in
set_option maxHeartbeats 2000000 in
theorem p_X11_findsPairs {G : xG} {d : Nat} {n t : Nat} (hn : 102 ≤ n) (hd : 51 ≤ d) (a1 : Int32) (w : xI) : xMet G m_X11_findsPairs d [.ref 71, .int a1] (xFin n t) w (fun _ : Unit => none) (xFin n t) (f_X11_findsPairs a1 w) := by
  refine xMet.of rfl (Nat.le_of_ble_eq_true rfl) ?_
  unfold f_X11_findsPairs
  show xC G m_X11_findsPairs d 0 [(0, .ref 71), (1, .int a1)] [] (xFin n t) w _ _ _
  refine y_aload_n dX11_findsPairs_0 rfl 0 rfl ?_
  refine y_iload_n dX11_findsPairs_1 rfl 1 rfl ?_
  refine y_callV (As := [.int a1]) (d2 := d - 1) dX11_findsPairs_2 kX11_270 (by omega) rfl rfl (Nat.le_of_ble_eq_true rfl) (xlt rfl hn) rfl rfl (p_X11_findsTwos hn (by omega)  _ _) (fun r1 w2 _ => ?_)
  refine y_aload_n dX11_findsPairs_5 rfl 0 rfl ?_
  refine y_iconst (v := 0) dX11_findsPairs_6 (by decide) ?_
  refine y_puti dX11_findsPairs_7 flX11_260 (xlt rfl hn) rfl rfl ?_
  refine y_aload_n dX11_findsPairs_10 rfl 0 rfl ?_
  refine y_ldcw (v := (-100000)) dX11_findsPairs_11 q1355 ?_
  refine y_puti dX11_findsPairs_14 flX11_263 (xlt rfl hn) rfl rfl ?_
  refine y_aload_n dX11_findsPairs_17 rfl 0 rfl ?_
  refine y_iconst (v := 0) dX11_findsPairs_18 (by decide) ?_
  refine y_iconst (v := 0) dX11_findsPairs_19 (by decide) ?_
  refine y_iconst (v := 0) dX11_findsPairs_20 (by decide) ?_
  refine y_iconst (v := 0) dX11_findsPairs_21 (by decide) ?_
  refine y_callV (As := [.int (0 : Int32), .int (0 : Int32), .int (0 : Int32), .int (0 : Int32)]) (d2 := d - 1) dX11_findsPairs_22 kX11_266 (by omega) rfl rfl (Nat.le_of_ble_eq_true rfl) (xlt rfl hn) rfl rfl (p_X11_pairsFrom 12 hn (by omega)  _ _ _ _ _) (fun r3 w4 _ => ?_)
  exact y_return dX11_findsPairs_25 rfl rfl
-- ===== X11_pairs: WeighedGateModel.pairs(II)I =====
set_option maxRecDepth 20000 in
set_option maxHeartbeats 2000000 in
theorem p_X11_pairs {G : xG} {d : Nat} {n t : Nat} (hn : 102 ≤ n) (hd : 52 ≤ d) (a1 : Int32) (a2 : Int32) (w : xI) : xMet G m_X11_pairs d [.ref 71, .int a1, .int a2] (xFin n t) w (fun x : Int32 => some (Value.int x)) (xFin n t) (f_X11_pairs a1 a2 w) := by
  refine xMet.of rfl (Nat.le_of_ble_eq_true rfl) ?_
  unfold f_X11_pairs
  show xC G m_X11_pairs d 0 [(0, .ref 71), (1, .int a1), (2, .int a2)] [] (xFin n t) w _ _ _
  refine y_iload_n dX11_pairs_0 rfl 1 rfl ?_
  refine y_callS (As := [.int a1]) (d2 := d - 1) dX11_pairs_1 kX11_208 (by omega) rfl rfl (Nat.le_of_ble_eq_true rfl) (p_X11_isHour hn (by omega)  _ _) (fun r1 w2 _ => ?_)
  refine y_if_ne (tgt := 10) dX11_pairs_4 (by decide) ?_ ?_
  · refine y_iload_n dX11_pairs_10 rfl 2 rfl ?_
    refine y_iconst (v := 0) dX11_pairs_11 (by decide) ?_
    refine y_iconst (v := 1) dX11_pairs_12 (by decide) ?_
    refine y_callS (As := [.int a2, .int (0 : Int32), .int (1 : Int32)]) (d2 := d - 1) dX11_pairs_13 kX11_114 (by omega) rfl rfl (Nat.le_of_ble_eq_true rfl) (p_X11_in hn (by omega)  _ _ _ _) (fun r3 w4 _ => ?_)
    refine y_if_ne (tgt := 22) dX11_pairs_16 (by decide) ?_ ?_
    · refine y_aload_n dX11_pairs_22 rfl 0 rfl ?_
      refine y_iload_n dX11_pairs_23 rfl 1 rfl ?_
      refine y_callV (As := [.int a1]) (d2 := d - 1) dX11_pairs_24 kX11_273 (by omega) rfl rfl (Nat.le_of_ble_eq_true rfl) (xlt rfl hn) rfl rfl (p_X11_findsPairs hn (by omega)  _ _) (fun r5 w6 _ => ?_)
      refine y_iload_n dX11_pairs_27 rfl 2 rfl ?_
      refine y_if_ne (tgt := 38) dX11_pairs_28 (by decide) ?_ ?_
      · refine y_aload_n dX11_pairs_38 rfl 0 rfl ?_
        refine z_geti (v := (w6 71 50)) dX11_pairs_39 flX11_263 (xlt rfl hn) rfl rfl rfl ?_
        exact y_ireturn dX11_pairs_42 rfl rfl rfl
      · refine y_aload_n dX11_pairs_31 rfl 0 rfl ?_
        refine z_geti (v := (w6 71 49)) dX11_pairs_32 flX11_260 (xlt rfl hn) rfl rfl rfl ?_
        refine y_goto (tgt := 42) dX11_pairs_35 (by decide) ?_
        exact y_ireturn dX11_pairs_42 rfl rfl rfl
    · refine y_bipush (v := (-7)) dX11_pairs_19 (by decide) ?_
      exact y_ireturn dX11_pairs_21 rfl rfl rfl
  · refine y_bipush (v := (-5)) dX11_pairs_7 (by decide) ?_
    exact y_ireturn dX11_pairs_9 rfl rfl rfl
-- ===== X11_against: WeighedGateModel.against(II)I =====
set_option maxRecDepth 20000 in
set_option maxHeartbeats 2000000 in
theorem p_X11_against_L42 {G : xG} {d : Nat} {n t : Nat} (hn : 102 ≤ n) (hd : 52 ≤ d) : ∀ (fu : Nat) (v2 : Int32) (v3 : Int32) (w : xI), xC G m_X11_against d 42 [(0, .ref 71), (2, .int v2), (3, .int v3)] [] (xFin n t) w (fun x : Int32 => some (Value.int x)) (xFin n t) (f_X11_against_L42 fu v2 v3 w) := by
  intro fu
  induction fu with
  | zero => intro v2 v3 w; exact xC.none
  | succ fu ih =>
    intro v2 v3 w
    rw [f_X11_against_L42]
    refine y_iload_n dX11_against_42 rfl 2 rfl ?_
    refine y_aload_n dX11_against_43 rfl 0 rfl ?_
    refine z_geti (v := (w 71 3)) dX11_against_44 flX11_111 (xlt rfl hn) rfl rfl rfl ?_
    refine y_icmp_ge (tgt := 68) dX11_against_47 (by decide) ?_ ?_
    · refine y_iconst (v := (-1)) dX11_against_68 (by decide) ?_
      exact y_ireturn dX11_against_69 rfl rfl rfl
    · refine y_aload_n dX11_against_50 rfl 0 rfl ?_
      refine y_getr (q := 98) dX11_against_51 flX11_88 (xlt rfl hn) rfl rfl rfl ?_
      refine y_iload_n dX11_against_54 rfl 2 rfl ?_
      refine z_iald (v := (w 98 v3.toNatClampNeg)) dX11_against_55 (xlt rfl hn) rfl rfl ?_
      refine y_iload_n dX11_against_56 rfl 1 rfl ?_
      refine y_icmp_ne (tgt := 62) dX11_against_57 (by decide) ?_ ?_
      · refine z_iinc (j := 2) dX11_against_62 (by decide) rfl (by decide) (fun x42001 => ?_)
        refine y_loc (lv' := [(3, .int x42001), (0, .ref 71), (2, .int v2)]) rfl ?_
        refine y_goto (tgt := 42) dX11_against_65 (by decide) ?_
        refine y_sub [(0, .ref 71), (2, .int v2), (3, .int x42001)] [1, 2, 0] rfl ?_
        exact ih v2 x42001 w 
      · refine y_iload_n dX11_against_60 rfl 2 rfl ?_
        exact y_ireturn dX11_against_61 rfl rfl rfl
set_option maxRecDepth 20000 in
set_option maxHeartbeats 2000000 in
theorem p_X11_against {G : xG} {d : Nat} {n t : Nat} (hn : 102 ≤ n) (hd : 52 ≤ d) (a1 : Int32) (a2 : Int32) (w : xI) : xMet G m_X11_against d [.ref 71, .int a1, .int a2] (xFin n t) w (fun x : Int32 => some (Value.int x)) (xFin n t) (f_X11_against a1 a2 w) := by
  refine xMet.of rfl (Nat.le_of_ble_eq_true rfl) ?_
  unfold f_X11_against
  show xC G m_X11_against d 0 [(0, .ref 71), (1, .int a1), (2, .int a2)] [] (xFin n t) w _ _ _
  refine y_iload_n dX11_against_0 rfl 1 rfl ?_
  refine y_callS (As := [.int a1]) (d2 := d - 1) dX11_against_1 kX11_208 (by omega) rfl rfl (Nat.le_of_ble_eq_true rfl) (p_X11_isHour hn (by omega)  _ _) (fun r1 w2 _ => ?_)
  refine y_if_eq (tgt := 15) dX11_against_4 (by decide) ?_ ?_
  · refine y_bipush (v := (-5)) dX11_against_15 (by decide) ?_
    exact y_ireturn dX11_against_17 rfl rfl rfl
  · refine y_aload_n dX11_against_7 rfl 0 rfl ?_
    refine y_iload_n dX11_against_8 rfl 2 rfl ?_
    refine y_callV (As := [.int a2]) (d2 := d - 1) dX11_against_9 kX11_202 (by omega) rfl rfl (Nat.le_of_ble_eq_true rfl) (xlt rfl hn) rfl rfl (p_X11_isCart hn (by omega)  _ _) (fun r3 w4 _ => ?_)
    refine y_if_ne (tgt := 18) dX11_against_12 (by decide) ?_ ?_
    · refine y_aload_n dX11_against_18 rfl 0 rfl ?_
      refine y_iload_n dX11_against_19 rfl 1 rfl ?_
      refine y_callV (As := [.int a1]) (d2 := d - 1) dX11_against_20 kX11_273 (by omega) rfl rfl (Nat.le_of_ble_eq_true rfl) (xlt rfl hn) rfl rfl (p_X11_findsPairs hn (by omega)  _ _) (fun r5 w6 _ => ?_)
      refine y_aload_n dX11_against_23 rfl 0 rfl ?_
      refine y_getr (q := 74) dX11_against_24 flX11_16 (xlt rfl hn) rfl rfl rfl ?_
      refine y_iload_n dX11_against_27 rfl 2 rfl ?_
      refine z_iald (v := (w6 74 a2.toNatClampNeg)) dX11_against_28 (xlt rfl hn) rfl rfl ?_
      refine y_iconst (v := 1) dX11_against_29 (by decide) ?_
      refine y_icmp_ne (tgt := 40) dX11_against_30 (by decide) ?_ ?_
      · refine y_iconst (v := 0) dX11_against_40 (by decide) ?_
        refine y_istore_n (lv' := [(3, .int (0 : Int32)), (0, .ref 71), (1, .int a1), (2, .int a2)]) dX11_against_41 rfl (by decide) rfl ?_
        refine y_sub [(0, .ref 71), (2, .int a2), (3, .int (0 : Int32))] [1, 3, 0] rfl ?_
        refine p_X11_against_L42 hn hd 2000 a2 (0 : Int32) w6 
      · refine y_aload_n dX11_against_33 rfl 0 rfl ?_
        refine y_getr (q := 98) dX11_against_34 flX11_88 (xlt rfl hn) rfl rfl rfl ?_
        refine y_iload_n dX11_against_37 rfl 2 rfl ?_
        refine z_iald (v := (w6 98 a2.toNatClampNeg)) dX11_against_38 (xlt rfl hn) rfl rfl ?_
        exact y_ireturn dX11_against_39 rfl rfl rfl
    · refine y_bipush (v := (-5)) dX11_against_15 (by decide) ?_
      exact y_ireturn dX11_against_17 rfl rfl rfl
-- ===== X11_findsBest: WeighedGateModel.findsBest(II)V =====
set_option maxRecDepth 20000 in
set_option maxHeartbeats 2000000 in
theorem p_X11_findsBest_L12 {G : xG} {d : Nat} {n t : Nat} (hn : 102 ≤ n) (hd : 4 ≤ d) : ∀ (fu : Nat) (v1 : Int32) (v2 : Int32) (v3 : Int32) (w : xI), xC G m_X11_findsBest d 12 [(0, .ref 71), (1, .int v1), (2, .int v2), (3, .int v3)] [] (xFin n t) w (fun _ : Unit => none) (xFin n t) (f_X11_findsBest_L12 fu v1 v2 v3 w) := by
  intro fu
  induction fu with
  | zero => intro v1 v2 v3 w; exact xC.none
  | succ fu ih =>
    intro v1 v2 v3 w
    rw [f_X11_findsBest_L12]
    refine y_iload_n dX11_findsBest_12 rfl 3 rfl ?_
    refine y_aload_n dX11_findsBest_13 rfl 0 rfl ?_
    refine y_callV (As := []) (d2 := d - 1) dX11_findsBest_14 kX11_252 (by omega) rfl rfl (Nat.le_of_ble_eq_true rfl) (xlt rfl hn) rfl rfl (p_X11_allCarts hn (by omega)   _) (fun r12001 w12002 _ => ?_)
    refine y_icmp_gt (tgt := 81) dX11_findsBest_17 (by decide) ?_ ?_
    · exact y_return dX11_findsBest_81 rfl rfl
    · refine y_iload_n dX11_findsBest_20 rfl 3 rfl ?_
      refine y_iload_n dX11_findsBest_21 rfl 2 rfl ?_
      refine y_iand dX11_findsBest_22 ?_
      refine y_if_ne (tgt := 75) dX11_findsBest_23 (by decide) ?_ ?_
      · refine z_iinc (j := 3) dX11_findsBest_75 (by decide) rfl (by decide) (fun x12003 => ?_)
        refine y_loc (lv' := [(3, .int x12003), (0, .ref 71), (1, .int v1), (2, .int v2)]) rfl ?_
        refine y_goto (tgt := 12) dX11_findsBest_78 (by decide) ?_
        refine y_sub [(0, .ref 71), (1, .int v1), (2, .int v2), (3, .int x12003)] [1, 2, 3, 0] rfl ?_
        exact ih v1 v2 x12003 w12002 
      · refine y_iload_n dX11_findsBest_26 rfl 3 rfl ?_
        refine y_callS (As := [.int v3]) (d2 := d - 1) dX11_findsBest_27 kX11_282 (by omega) rfl rfl (Nat.le_of_ble_eq_true rfl) (p_X11_ones hn (by omega)  _ _) (fun r12004 w12005 _ => ?_)
        refine y_iconst (v := 2) dX11_findsBest_30 (by decide) ?_
        refine y_iconst (v := 4) dX11_findsBest_31 (by decide) ?_
        refine y_callS (As := [.int r12004, .int (2 : Int32), .int (4 : Int32)]) (d2 := d - 1) dX11_findsBest_32 kX11_114 (by omega) rfl rfl (Nat.le_of_ble_eq_true rfl) (p_X11_in hn (by omega)  _ _ _ _) (fun r12006 w12007 _ => ?_)
        refine y_if_eq (tgt := 75) dX11_findsBest_35 (by decide) ?_ ?_
        · refine z_iinc (j := 3) dX11_findsBest_75 (by decide) rfl (by decide) (fun x12008 => ?_)
          refine y_loc (lv' := [(3, .int x12008), (0, .ref 71), (1, .int v1), (2, .int v2)]) rfl ?_
          refine y_goto (tgt := 12) dX11_findsBest_78 (by decide) ?_
          refine y_sub [(0, .ref 71), (1, .int v1), (2, .int v2), (3, .int x12008)] [1, 2, 3, 0] rfl ?_
          exact ih v1 v2 x12008 w12007 
        · refine y_aload_n dX11_findsBest_38 rfl 0 rfl ?_
          refine y_iload_n dX11_findsBest_39 rfl 3 rfl ?_
          refine y_iload_n dX11_findsBest_40 rfl 1 rfl ?_
          refine y_callV (As := [.int v3, .int v1]) (d2 := d - 1) dX11_findsBest_41 kX11_255 (by omega) rfl rfl (Nat.le_of_ble_eq_true rfl) (xlt rfl hn) rfl rfl (p_X11_weighing hn (by omega)  _ _ _) (fun r12009 w12010 _ => ?_)
          refine y_aload_n dX11_findsBest_44 rfl 0 rfl ?_
          refine z_geti (v := (w12010 71 44)) dX11_findsBest_45 flX11_245 (xlt rfl hn) rfl rfl rfl ?_
          refine y_if_eq (tgt := 75) dX11_findsBest_48 (by decide) ?_ ?_
          · refine z_iinc (j := 3) dX11_findsBest_75 (by decide) rfl (by decide) (fun x12011 => ?_)
            refine y_loc (lv' := [(3, .int x12011), (0, .ref 71), (1, .int v1), (2, .int v2)]) rfl ?_
            refine y_goto (tgt := 12) dX11_findsBest_78 (by decide) ?_
            refine y_sub [(0, .ref 71), (1, .int v1), (2, .int v2), (3, .int x12011)] [1, 2, 3, 0] rfl ?_
            exact ih v1 v2 x12011 w12010 
          · refine y_aload_n dX11_findsBest_51 rfl 0 rfl ?_
            refine z_geti (v := (w12010 71 45)) dX11_findsBest_52 flX11_249 (xlt rfl hn) rfl rfl rfl ?_
            refine y_aload_n dX11_findsBest_55 rfl 0 rfl ?_
            refine z_geti (v := (w12010 71 52)) dX11_findsBest_56 flX11_279 (xlt rfl hn) rfl rfl rfl ?_
            refine y_icmp_le (tgt := 75) dX11_findsBest_59 (by decide) ?_ ?_
            · refine z_iinc (j := 3) dX11_findsBest_75 (by decide) rfl (by decide) (fun x12012 => ?_)
              refine y_loc (lv' := [(3, .int x12012), (0, .ref 71), (1, .int v1), (2, .int v2)]) rfl ?_
              refine y_goto (tgt := 12) dX11_findsBest_78 (by decide) ?_
              refine y_sub [(0, .ref 71), (1, .int v1), (2, .int v2), (3, .int x12012)] [1, 2, 3, 0] rfl ?_
              exact ih v1 v2 x12012 w12010 
            · refine y_aload_n dX11_findsBest_62 rfl 0 rfl ?_
              refine y_iload_n dX11_findsBest_63 rfl 3 rfl ?_
              refine y_puti dX11_findsBest_64 flX11_276 (xlt rfl hn) rfl rfl ?_
              refine y_aload_n dX11_findsBest_67 rfl 0 rfl ?_
              refine y_aload_n dX11_findsBest_68 rfl 0 rfl ?_
              refine z_geti (v := (w12010 71 45)) dX11_findsBest_69 flX11_249 (xlt rfl hn) rfl rfl rfl ?_
              refine y_puti dX11_findsBest_72 flX11_279 (xlt rfl hn) rfl rfl ?_
              refine z_iinc (j := 3) dX11_findsBest_75 (by decide) rfl (by decide) (fun x12013 => ?_)
              refine y_loc (lv' := [(3, .int x12013), (0, .ref 71), (1, .int v1), (2, .int v2)]) rfl ?_
              refine y_goto (tgt := 12) dX11_findsBest_78 (by decide) ?_
              refine y_sub [(0, .ref 71), (1, .int v1), (2, .int v2), (3, .int x12013)] [1, 2, 3, 0] rfl ?_
              exact ih v1 v2 x12013 (xup (xup w12010 71 51 v3) 71 52 (w12010 71 45)) 
set_option maxRecDepth 20000 in
set_option maxHeartbeats 2000000 in
theorem p_X11_findsBest {G : xG} {d : Nat} {n t : Nat} (hn : 102 ≤ n) (hd : 4 ≤ d) (a1 : Int32) (a2 : Int32) (w : xI) : xMet G m_X11_findsBest d [.ref 71, .int a1, .int a2] (xFin n t) w (fun _ : Unit => none) (xFin n t) (f_X11_findsBest a1 a2 w) := by
  refine xMet.of rfl (Nat.le_of_ble_eq_true rfl) ?_
  unfold f_X11_findsBest
  show xC G m_X11_findsBest d 0 [(0, .ref 71), (1, .int a1), (2, .int a2)] [] (xFin n t) w _ _ _
  refine y_aload_n dX11_findsBest_0 rfl 0 rfl ?_
  refine y_iconst (v := 0) dX11_findsBest_1 (by decide) ?_
  refine y_puti dX11_findsBest_2 flX11_276 (xlt rfl hn) rfl rfl ?_
  refine y_aload_n dX11_findsBest_5 rfl 0 rfl ?_
  refine y_iconst (v := 0) dX11_findsBest_6 (by decide) ?_
  refine y_puti dX11_findsBest_7 flX11_279 (xlt rfl hn) rfl rfl ?_
  refine y_iconst (v := 1) dX11_findsBest_10 (by decide) ?_
  refine y_istore_n (lv' := [(3, .int (1 : Int32)), (0, .ref 71), (1, .int a1), (2, .int a2)]) dX11_findsBest_11 rfl (by decide) rfl ?_
  refine y_sub [(0, .ref 71), (1, .int a1), (2, .int a2), (3, .int (1 : Int32))] [1, 2, 3, 0] rfl ?_
  refine p_X11_findsBest_L12 hn hd 2000 a1 a2 (1 : Int32) (xup (xup w 71 51 (0 : Int32)) 71 52 (0 : Int32)) 
-- ===== X11_best: WeighedGateModel.best(II)I =====
set_option maxRecDepth 20000 in
set_option maxHeartbeats 2000000 in
theorem p_X11_best {G : xG} {d : Nat} {n t : Nat} (hn : 102 ≤ n) (hd : 40 ≤ d) (a1 : Int32) (a2 : Int32) (w : xI) : xMet G m_X11_best d [.ref 71, .int a1, .int a2] (xFin n t) w (fun x : Int32 => some (Value.int x)) (xFin n t) (f_X11_best a1 a2 w) := by
  refine xMet.of rfl (Nat.le_of_ble_eq_true rfl) ?_
  unfold f_X11_best
  show xC G m_X11_best d 0 [(0, .ref 71), (1, .int a1), (2, .int a2)] [] (xFin n t) w _ _ _
  refine y_iload_n dX11_best_0 rfl 1 rfl ?_
  refine y_callS (As := [.int a1]) (d2 := d - 1) dX11_best_1 kX11_208 (by omega) rfl rfl (Nat.le_of_ble_eq_true rfl) (p_X11_isHour hn (by omega)  _ _) (fun r1 w2 _ => ?_)
  refine y_if_ne (tgt := 10) dX11_best_4 (by decide) ?_ ?_
  · refine y_iload_n dX11_best_10 rfl 2 rfl ?_
    refine y_iconst (v := 0) dX11_best_11 (by decide) ?_
    refine y_iconst (v := 1) dX11_best_12 (by decide) ?_
    refine y_callS (As := [.int a2, .int (0 : Int32), .int (1 : Int32)]) (d2 := d - 1) dX11_best_13 kX11_114 (by omega) rfl rfl (Nat.le_of_ble_eq_true rfl) (p_X11_in hn (by omega)  _ _ _ _) (fun r3 w4 _ => ?_)
    refine y_if_ne (tgt := 22) dX11_best_16 (by decide) ?_ ?_
    · refine y_aload_n dX11_best_22 rfl 0 rfl ?_
      refine y_callV (As := []) (d2 := d - 1) dX11_best_23 kX11_224 (by omega) rfl rfl (Nat.le_of_ble_eq_true rfl) (xlt rfl hn) rfl rfl (p_X11_findsMade hn (by omega)   _) (fun r5 w6 _ => ?_)
      refine y_aload_n dX11_best_26 rfl 0 rfl ?_
      refine y_iload_n dX11_best_27 rfl 1 rfl ?_
      refine y_iconst (v := 0) dX11_best_28 (by decide) ?_
      refine y_callV (As := [.int a1, .int (0 : Int32)]) (d2 := d - 1) dX11_best_29 kX11_285 (by omega) rfl rfl (Nat.le_of_ble_eq_true rfl) (xlt rfl hn) rfl rfl (p_X11_findsBest hn (by omega)  _ _ _) (fun r7 w8 _ => ?_)
      refine y_iload_n dX11_best_32 rfl 2 rfl ?_
      refine y_if_ne (tgt := 43) dX11_best_33 (by decide) ?_ ?_
      · refine y_aload_n dX11_best_43 rfl 0 rfl ?_
        refine z_geti (v := (w8 71 52)) dX11_best_44 flX11_279 (xlt rfl hn) rfl rfl rfl ?_
        exact y_ireturn dX11_best_47 rfl rfl rfl
      · refine y_aload_n dX11_best_36 rfl 0 rfl ?_
        refine z_geti (v := (w8 71 51)) dX11_best_37 flX11_276 (xlt rfl hn) rfl rfl rfl ?_
        refine y_goto (tgt := 47) dX11_best_40 (by decide) ?_
        exact y_ireturn dX11_best_47 rfl rfl rfl
    · refine y_bipush (v := (-7)) dX11_best_19 (by decide) ?_
      exact y_ireturn dX11_best_21 rfl rfl rfl
  · refine y_bipush (v := (-5)) dX11_best_7 (by decide) ?_
    exact y_ireturn dX11_best_9 rfl rfl rfl
-- ===== X11_goesThrough: WeighedGateModel.goesThrough(I)V =====
set_option maxRecDepth 20000 in
set_option maxHeartbeats 2000000 in
theorem p_X11_goesThrough_L72 {G : xG} {d : Nat} {n t : Nat} (hn : 102 ≤ n) (hd : 4 ≤ d) : ∀ (fu : Nat) (v1 : Int32) (v2 : Int32) (w : xI), xC G m_X11_goesThrough d 72 [(0, .ref 71), (1, .int v1), (2, .int v2)] [] (xFin n t) w (fun _ : Unit => none) (xFin n t) (f_X11_goesThrough_L72 fu v1 v2 w) := by
  intro fu
  induction fu with
  | zero => intro v1 v2 w; exact xC.none
  | succ fu ih =>
    intro v1 v2 w
    rw [f_X11_goesThrough_L72]
    refine y_iload_n dX11_goesThrough_72 rfl 2 rfl ?_
    refine y_aload_n dX11_goesThrough_73 rfl 0 rfl ?_
    refine z_geti (v := (w 71 3)) dX11_goesThrough_74 flX11_111 (xlt rfl hn) rfl rfl rfl ?_
    refine y_icmp_ge (tgt := 114) dX11_goesThrough_77 (by decide) ?_ ?_
    · exact y_return dX11_goesThrough_114 rfl rfl
    · refine y_aload_n dX11_goesThrough_80 rfl 0 rfl ?_
      refine y_getr (q := 99) dX11_goesThrough_81 flX11_91 (xlt rfl hn) rfl rfl rfl ?_
      refine y_iload_n dX11_goesThrough_84 rfl 2 rfl ?_
      refine y_aload_n dX11_goesThrough_85 rfl 0 rfl ?_
      refine z_geti (v := (w 71 51)) dX11_goesThrough_86 flX11_276 (xlt rfl hn) rfl rfl rfl ?_
      refine y_iload_n dX11_goesThrough_89 rfl 2 rfl ?_
      refine y_ishr dX11_goesThrough_90 ?_
      refine y_iconst (v := 1) dX11_goesThrough_91 (by decide) ?_
      refine y_iand dX11_goesThrough_92 ?_
      refine y_iconst (v := 1) dX11_goesThrough_93 (by decide) ?_
      refine y_icmp_ne (tgt := 101) dX11_goesThrough_94 (by decide) ?_ ?_
      · refine y_aload_n dX11_goesThrough_101 rfl 0 rfl ?_
        refine y_getr (q := 99) dX11_goesThrough_102 flX11_91 (xlt rfl hn) rfl rfl rfl ?_
        refine y_iload_n dX11_goesThrough_105 rfl 2 rfl ?_
        refine z_iald (v := (w 99 v2.toNatClampNeg)) dX11_goesThrough_106 (xlt rfl hn) rfl rfl ?_
        refine y_iast dX11_goesThrough_107 (xlt rfl hn) rfl ?_
        refine z_iinc (j := 2) dX11_goesThrough_108 (by decide) rfl (by decide) (fun x72001 => ?_)
        refine y_loc (lv' := [(2, .int x72001), (0, .ref 71), (1, .int v1)]) rfl ?_
        refine y_goto (tgt := 72) dX11_goesThrough_111 (by decide) ?_
        refine y_sub [(0, .ref 71), (1, .int v1), (2, .int x72001)] [1, 2, 0] rfl ?_
        exact ih v1 x72001 (xup w 99 v2.toNatClampNeg (w 99 v2.toNatClampNeg)) 
      · refine y_iload_n dX11_goesThrough_97 rfl 1 rfl ?_
        refine y_goto (tgt := 107) dX11_goesThrough_98 (by decide) ?_
        refine y_iast dX11_goesThrough_107 (xlt rfl hn) rfl ?_
        refine z_iinc (j := 2) dX11_goesThrough_108 (by decide) rfl (by decide) (fun x72002 => ?_)
        refine y_loc (lv' := [(2, .int x72002), (0, .ref 71), (1, .int v1)]) rfl ?_
        refine y_goto (tgt := 72) dX11_goesThrough_111 (by decide) ?_
        refine y_sub [(0, .ref 71), (1, .int v1), (2, .int x72002)] [1, 2, 0] rfl ?_
        exact ih v1 x72002 (xup w 99 v2.toNatClampNeg v1) 
set_option maxRecDepth 20000 in
set_option maxHeartbeats 2000000 in
theorem p_X11_goesThrough {G : xG} {d : Nat} {n t : Nat} (hn : 102 ≤ n) (hd : 4 ≤ d) (a1 : Int32) (w : xI) : xMet G m_X11_goesThrough d [.ref 71, .int a1] (xFin n t) w (fun _ : Unit => none) (xFin n t) (f_X11_goesThrough a1 w) := by
  refine xMet.of rfl (Nat.le_of_ble_eq_true rfl) ?_
  unfold f_X11_goesThrough
  show xC G m_X11_goesThrough d 0 [(0, .ref 71), (1, .int a1)] [] (xFin n t) w _ _ _
  refine y_aload_n dX11_goesThrough_0 rfl 0 rfl ?_
  refine z_geti (v := (w 71 51)) dX11_goesThrough_1 flX11_276 (xlt rfl hn) rfl rfl rfl ?_
  refine y_if_eq (tgt := 114) dX11_goesThrough_4 (by decide) ?_ ?_
  · exact y_return dX11_goesThrough_114 rfl rfl
  · refine y_aload_n dX11_goesThrough_7 rfl 0 rfl ?_
    refine y_aload_n dX11_goesThrough_8 rfl 0 rfl ?_
    refine z_geti (v := (w 71 51)) dX11_goesThrough_9 flX11_276 (xlt rfl hn) rfl rfl rfl ?_
    refine y_iload_n dX11_goesThrough_12 rfl 1 rfl ?_
    refine y_callV (As := [.int (w 71 51), .int a1]) (d2 := d - 1) dX11_goesThrough_13 kX11_255 (by omega) rfl rfl (Nat.le_of_ble_eq_true rfl) (xlt rfl hn) rfl rfl (p_X11_weighing hn (by omega)  _ _ _) (fun r1 w2 _ => ?_)
    refine y_aload_n dX11_goesThrough_16 rfl 0 rfl ?_
    refine y_dup dX11_goesThrough_17 rfl ?_
    refine z_geti (v := (w2 71 55)) dX11_goesThrough_18 flX11_291 (xlt rfl hn) rfl rfl rfl ?_
    refine y_aload_n dX11_goesThrough_21 rfl 0 rfl ?_
    refine z_geti (v := (w2 71 51)) dX11_goesThrough_22 flX11_276 (xlt rfl hn) rfl rfl rfl ?_
    refine y_ior dX11_goesThrough_25 ?_
    refine y_puti dX11_goesThrough_26 flX11_291 (xlt rfl hn) rfl rfl ?_
    refine y_aload_n dX11_goesThrough_29 rfl 0 rfl ?_
    refine y_dup dX11_goesThrough_30 rfl ?_
    refine z_geti (v := (w2 71 56)) dX11_goesThrough_31 flX11_294 (xlt rfl hn) rfl rfl rfl ?_
    refine y_aload_n dX11_goesThrough_34 rfl 0 rfl ?_
    refine z_geti (v := (w2 71 52)) dX11_goesThrough_35 flX11_279 (xlt rfl hn) rfl rfl rfl ?_
    refine y_iadd dX11_goesThrough_38 ?_
    refine y_puti dX11_goesThrough_39 flX11_294 (xlt rfl hn) rfl rfl ?_
    refine y_aload_n dX11_goesThrough_42 rfl 0 rfl ?_
    refine y_dup dX11_goesThrough_43 rfl ?_
    refine z_geti (v := (w2 71 57)) dX11_goesThrough_44 flX11_297 (xlt rfl hn) rfl rfl rfl ?_
    refine y_aload_n dX11_goesThrough_47 rfl 0 rfl ?_
    refine z_geti (v := (w2 71 40)) dX11_goesThrough_48 flX11_227 (xlt rfl hn) rfl rfl rfl ?_
    refine y_aload_n dX11_goesThrough_51 rfl 0 rfl ?_
    refine z_geti (v := (w2 71 41)) dX11_goesThrough_52 flX11_230 (xlt rfl hn) rfl rfl rfl ?_
    refine y_isub dX11_goesThrough_55 ?_
    refine y_iadd dX11_goesThrough_56 ?_
    refine y_puti dX11_goesThrough_57 flX11_297 (xlt rfl hn) rfl rfl ?_
    refine y_aload_n dX11_goesThrough_60 rfl 0 rfl ?_
    refine y_getr (q := 100) dX11_goesThrough_61 flX11_94 (xlt rfl hn) rfl rfl rfl ?_
    refine y_iload_n dX11_goesThrough_64 rfl 1 rfl ?_
    refine y_aload_n dX11_goesThrough_65 rfl 0 rfl ?_
    refine z_geti (v := (w2 71 51)) dX11_goesThrough_66 flX11_276 (xlt rfl hn) rfl rfl rfl ?_
    refine y_iast dX11_goesThrough_69 (xlt rfl hn) rfl ?_
    refine y_iconst (v := 0) dX11_goesThrough_70 (by decide) ?_
    refine y_istore_n (lv' := [(2, .int (0 : Int32)), (0, .ref 71), (1, .int a1)]) dX11_goesThrough_71 rfl (by decide) rfl ?_
    refine y_sub [(0, .ref 71), (1, .int a1), (2, .int (0 : Int32))] [1, 2, 0] rfl ?_
    refine p_X11_goesThrough_L72 hn hd 2000 a1 (0 : Int32) (xup (xup (xup (xup w2 71 55 ((w2 71 55) ||| (w2 71 51))) 71 56 ((w2 71 56) + (w2 71 52))) 71 57 ((w2 71 57) + ((w2 71 40) - (w2 71 41)))) 100 a1.toNatClampNeg (w2 71 51)) 
-- ===== X11_lives: WeighedGateModel.lives(I)V =====
set_option maxRecDepth 20000 in
set_option maxHeartbeats 2000000 in
theorem p_X11_lives_L52 {G : xG} {d : Nat} {n t : Nat} (hn : 102 ≤ n) (hd : 40 ≤ d) : ∀ (fu : Nat) (v1 : Int32) (v2 : Int32) (w : xI), xC G m_X11_lives d 52 [(0, .ref 71), (1, .int v1), (2, .int v2)] [] (xFin n t) w (fun _ : Unit => none) (xFin n t) (f_X11_lives_L52 fu v1 v2 w) := by
  intro fu
  induction fu with
  | zero => intro v1 v2 w; exact xC.none
  | succ fu ih =>
    intro v1 v2 w
    rw [f_X11_lives_L52]
    refine y_iload_n dX11_lives_52 rfl 2 rfl ?_
    refine y_iload_n dX11_lives_53 rfl 1 rfl ?_
    refine y_icmp_ge (tgt := 85) dX11_lives_54 (by decide) ?_ ?_
    · refine y_aload_n dX11_lives_85 rfl 0 rfl ?_
      refine y_dup dX11_lives_86 rfl ?_
      refine z_geti (v := (w 71 55)) dX11_lives_87 flX11_291 (xlt rfl hn) rfl rfl rfl ?_
      refine y_aload_n dX11_lives_90 rfl 0 rfl ?_
      refine z_geti (v := (w 71 59)) dX11_lives_91 flX11_288 (xlt rfl hn) rfl rfl rfl ?_
      refine y_iconst (v := (-1)) dX11_lives_94 (by decide) ?_
      refine y_ixor dX11_lives_95 ?_
      refine y_iand dX11_lives_96 ?_
      refine y_puti dX11_lives_97 flX11_291 (xlt rfl hn) rfl rfl ?_
      exact y_return dX11_lives_100 rfl rfl
    · refine y_iload_n dX11_lives_57 rfl 2 rfl ?_
      refine y_aload_n dX11_lives_58 rfl 0 rfl ?_
      refine z_geti (v := (w 71 58)) dX11_lives_59 flX11_97 (xlt rfl hn) rfl rfl rfl ?_
      refine y_icmp_eq (tgt := 79) dX11_lives_62 (by decide) ?_ ?_
      · refine z_iinc (j := 2) dX11_lives_79 (by decide) rfl (by decide) (fun x52001 => ?_)
        refine y_loc (lv' := [(2, .int x52001), (0, .ref 71), (1, .int v1)]) rfl ?_
        refine y_goto (tgt := 52) dX11_lives_82 (by decide) ?_
        refine y_sub [(0, .ref 71), (1, .int v1), (2, .int x52001)] [1, 2, 0] rfl ?_
        exact ih v1 x52001 w 
      · refine y_aload_n dX11_lives_65 rfl 0 rfl ?_
        refine y_iload_n dX11_lives_66 rfl 2 rfl ?_
        refine y_aload_n dX11_lives_67 rfl 0 rfl ?_
        refine z_geti (v := (w 71 55)) dX11_lives_68 flX11_291 (xlt rfl hn) rfl rfl rfl ?_
        refine y_callV (As := [.int v2, .int (w 71 55)]) (d2 := d - 1) dX11_lives_71 kX11_285 (by omega) rfl rfl (Nat.le_of_ble_eq_true rfl) (xlt rfl hn) rfl rfl (p_X11_findsBest hn (by omega)  _ _ _) (fun r52002 w52003 _ => ?_)
        refine y_aload_n dX11_lives_74 rfl 0 rfl ?_
        refine y_iload_n dX11_lives_75 rfl 2 rfl ?_
        refine y_callV (As := [.int v2]) (d2 := d - 1) dX11_lives_76 kX11_300 (by omega) rfl rfl (Nat.le_of_ble_eq_true rfl) (xlt rfl hn) rfl rfl (p_X11_goesThrough hn (by omega)  _ _) (fun r52004 w52005 _ => ?_)
        refine z_iinc (j := 2) dX11_lives_79 (by decide) rfl (by decide) (fun x52006 => ?_)
        refine y_loc (lv' := [(2, .int x52006), (0, .ref 71), (1, .int v1)]) rfl ?_
        refine y_goto (tgt := 52) dX11_lives_82 (by decide) ?_
        refine y_sub [(0, .ref 71), (1, .int v1), (2, .int x52006)] [1, 2, 0] rfl ?_
        exact ih v1 x52006 w52005 
set_option maxRecDepth 20000 in
set_option maxHeartbeats 2000000 in
theorem p_X11_lives_L24 {G : xG} {d : Nat} {n t : Nat} (hn : 102 ≤ n) (hd : 40 ≤ d) : ∀ (fu : Nat) (v1 : Int32) (v2 : Int32) (w : xI), xC G m_X11_lives d 24 [(0, .ref 71), (1, .int v1), (2, .int v2)] [] (xFin n t) w (fun _ : Unit => none) (xFin n t) (f_X11_lives_L24 fu v1 v2 w) := by
  intro fu
  induction fu with
  | zero => intro v1 v2 w; exact xC.none
  | succ fu ih =>
    intro v1 v2 w
    rw [f_X11_lives_L24]
    refine y_iload_n dX11_lives_24 rfl 2 rfl ?_
    refine y_bipush (v := 10) dX11_lives_25 (by decide) ?_
    refine y_icmp_ge (tgt := 50) dX11_lives_27 (by decide) ?_ ?_
    · refine y_iconst (v := 0) dX11_lives_50 (by decide) ?_
      refine y_istore_n (lv' := [(2, .int (0 : Int32)), (0, .ref 71), (1, .int v1)]) dX11_lives_51 rfl (by decide) rfl ?_
      refine y_sub [(0, .ref 71), (1, .int v1), (2, .int (0 : Int32))] [1, 2, 0] rfl ?_
      refine p_X11_lives_L52 hn hd 2000 v1 (0 : Int32) w 
    · refine y_aload_n dX11_lives_30 rfl 0 rfl ?_
      refine y_getr (q := 99) dX11_lives_31 flX11_91 (xlt rfl hn) rfl rfl rfl ?_
      refine y_iload_n dX11_lives_34 rfl 2 rfl ?_
      refine y_iconst (v := (-1)) dX11_lives_35 (by decide) ?_
      refine y_iast dX11_lives_36 (xlt rfl hn) rfl ?_
      refine y_aload_n dX11_lives_37 rfl 0 rfl ?_
      refine y_getr (q := 100) dX11_lives_38 flX11_94 (xlt rfl hn) rfl rfl rfl ?_
      refine y_iload_n dX11_lives_41 rfl 2 rfl ?_
      refine y_iconst (v := 0) dX11_lives_42 (by decide) ?_
      refine y_iast dX11_lives_43 (xlt rfl hn) rfl ?_
      refine z_iinc (j := 2) dX11_lives_44 (by decide) rfl (by decide) (fun x24001 => ?_)
      refine y_loc (lv' := [(2, .int x24001), (0, .ref 71), (1, .int v1)]) rfl ?_
      refine y_goto (tgt := 24) dX11_lives_47 (by decide) ?_
      refine y_sub [(0, .ref 71), (1, .int v1), (2, .int x24001)] [1, 2, 0] rfl ?_
      exact ih v1 x24001 (xup (xup w 99 v2.toNatClampNeg (-1 : Int32)) 100 v2.toNatClampNeg (0 : Int32)) 
set_option maxRecDepth 20000 in
set_option maxHeartbeats 2000000 in
theorem p_X11_lives {G : xG} {d : Nat} {n t : Nat} (hn : 102 ≤ n) (hd : 40 ≤ d) (a1 : Int32) (w : xI) : xMet G m_X11_lives d [.ref 71, .int a1] (xFin n t) w (fun _ : Unit => none) (xFin n t) (f_X11_lives a1 w) := by
  refine xMet.of rfl (Nat.le_of_ble_eq_true rfl) ?_
  unfold f_X11_lives
  show xC G m_X11_lives d 0 [(0, .ref 71), (1, .int a1)] [] (xFin n t) w _ _ _
  refine y_aload_n dX11_lives_0 rfl 0 rfl ?_
  refine y_callV (As := []) (d2 := d - 1) dX11_lives_1 kX11_224 (by omega) rfl rfl (Nat.le_of_ble_eq_true rfl) (xlt rfl hn) rfl rfl (p_X11_findsMade hn (by omega)   _) (fun r1 w2 _ => ?_)
  refine y_aload_n dX11_lives_4 rfl 0 rfl ?_
  refine y_aload_n dX11_lives_5 rfl 0 rfl ?_
  refine z_geti (v := (w2 71 59)) dX11_lives_6 flX11_288 (xlt rfl hn) rfl rfl rfl ?_
  refine y_puti dX11_lives_9 flX11_291 (xlt rfl hn) rfl rfl ?_
  refine y_aload_n dX11_lives_12 rfl 0 rfl ?_
  refine y_iconst (v := 0) dX11_lives_13 (by decide) ?_
  refine y_puti dX11_lives_14 flX11_294 (xlt rfl hn) rfl rfl ?_
  refine y_aload_n dX11_lives_17 rfl 0 rfl ?_
  refine y_iconst (v := 0) dX11_lives_18 (by decide) ?_
  refine y_puti dX11_lives_19 flX11_297 (xlt rfl hn) rfl rfl ?_
  refine y_iconst (v := 0) dX11_lives_22 (by decide) ?_
  refine y_istore_n (lv' := [(2, .int (0 : Int32)), (0, .ref 71), (1, .int a1)]) dX11_lives_23 rfl (by decide) rfl ?_
  refine y_sub [(0, .ref 71), (1, .int a1), (2, .int (0 : Int32))] [1, 2, 0] rfl ?_
  refine p_X11_lives_L24 hn hd 2000 a1 (0 : Int32) (xup (xup (xup w2 71 55 (w2 71 59)) 71 56 (0 : Int32)) 71 57 (0 : Int32)) 
-- ===== X11_earnedBy: WeighedGateModel.earnedBy()I =====
set_option maxRecDepth 20000 in
set_option maxHeartbeats 2000000 in
theorem p_X11_earnedBy {G : xG} {d : Nat} {n t : Nat} (hn : 102 ≤ n) (hd : 41 ≤ d) (w : xI) : xMet G m_X11_earnedBy d [.ref 71] (xFin n t) w (fun x : Int32 => some (Value.int x)) (xFin n t) (f_X11_earnedBy  w) := by
  refine xMet.of rfl (Nat.le_of_ble_eq_true rfl) ?_
  unfold f_X11_earnedBy
  show xC G m_X11_earnedBy d 0 [(0, .ref 71)] [] (xFin n t) w _ _ _
  refine y_aload_n dX11_earnedBy_0 rfl 0 rfl ?_
  refine y_bipush (v := 10) dX11_earnedBy_1 (by decide) ?_
  refine y_callV (As := [.int (10 : Int32)]) (d2 := d - 1) dX11_earnedBy_3 kX11_303 (by omega) rfl rfl (Nat.le_of_ble_eq_true rfl) (xlt rfl hn) rfl rfl (p_X11_lives hn (by omega)  _ _) (fun r1 w2 _ => ?_)
  refine y_aload_n dX11_earnedBy_6 rfl 0 rfl ?_
  refine z_geti (v := (w2 71 56)) dX11_earnedBy_7 flX11_294 (xlt rfl hn) rfl rfl rfl ?_
  exact y_ireturn dX11_earnedBy_10 rfl rfl rfl
-- ===== X11_dusk: WeighedGateModel.dusk(II)I =====
set_option maxRecDepth 20000 in
set_option maxHeartbeats 2000000 in
theorem p_X11_dusk_L112 {G : xG} {d : Nat} {n t : Nat} (hn : 102 ≤ n) (hd : 41 ≤ d) {K38 : Int32 → Int32 → Int32 → Int32 → Int32 → xI → Option (Int32 × xI)} (hK38 : ∀ (v1 : Int32) (v2 : Int32) (v3 : Int32) (v4 : Int32) (v5 : Int32) (w : xI), xC G m_X11_dusk d 38 [(0, .ref 71), (1, .int v1), (2, .int v2), (3, .int v3), (4, .int v4), (5, .int v5)] [] (xFin n t) w (fun x : Int32 => some (Value.int x)) (xFin n t) (K38 v1 v2 v3 v4 v5 w)) (v1 : Int32) (v2 : Int32) (v3 : Int32) (v4 : Int32) (v5 : Int32) (v6 : Int32) (s0 : Int32) (w : xI) : xC G m_X11_dusk d 112 [(0, .ref 71), (1, .int v1), (2, .int v2), (3, .int v3), (4, .int v4), (5, .int v5), (6, .int v6)] [.int s0] (xFin n t) w (fun x : Int32 => some (Value.int x)) (xFin n t) (f_X11_dusk_L112 K38 v1 v2 v3 v4 v5 v6 s0 w) := by
  unfold f_X11_dusk_L112
  refine y_istore (lv' := [(7, .int s0), (0, .ref 71), (1, .int v1), (2, .int v2), (3, .int v3), (4, .int v4), (5, .int v5), (6, .int v6)]) dX11_dusk_112 (by decide) rfl ?_
  refine y_iload dX11_dusk_114 7 rfl ?_
  refine y_iload_n dX11_dusk_116 rfl 4 rfl ?_
  refine y_icmp_le (tgt := 125) dX11_dusk_117 (by decide) ?_ ?_
  · refine y_iload_n dX11_dusk_125 rfl 4 rfl ?_
    refine y_istore_n (lv' := [(3, .int v3), (7, .int s0), (0, .ref 71), (1, .int v1), (2, .int v2), (4, .int v4), (5, .int v5), (6, .int v6)]) dX11_dusk_126 rfl (by decide) rfl ?_
    refine y_iload dX11_dusk_127 1 rfl ?_
    refine y_iload dX11_dusk_129 5 rfl ?_
    refine y_icmp_le (tgt := 139) dX11_dusk_131 (by decide) ?_ ?_
    · refine y_iload dX11_dusk_139 5 rfl ?_
      refine y_istore (lv' := [(4, .int v4), (3, .int v3), (7, .int s0), (0, .ref 71), (1, .int v1), (2, .int v2), (5, .int v5), (6, .int v6)]) dX11_dusk_141 (by decide) rfl ?_
      refine z_iinc (j := 6) dX11_dusk_143 (by decide) rfl (by decide) (fun x112001 => ?_)
      refine y_loc (lv' := [(5, .int x112001), (4, .int v4), (3, .int v3), (7, .int s0), (0, .ref 71), (1, .int v1), (2, .int v2), (6, .int v6)]) rfl ?_
      refine y_goto (tgt := 38) dX11_dusk_146 (by decide) ?_
      refine y_sub [(0, .ref 71), (1, .int v1), (2, .int v2), (3, .int v3), (4, .int v4), (5, .int x112001)] [4, 5, 6, 2, 1, 0] rfl ?_
      exact hK38 v1 v2 v3 v4 x112001 w 
    · refine y_iload dX11_dusk_134 1 rfl ?_
      refine y_goto (tgt := 141) dX11_dusk_136 (by decide) ?_
      refine y_istore (lv' := [(4, .int s0), (3, .int v3), (7, .int s0), (0, .ref 71), (1, .int v1), (2, .int v2), (5, .int v5), (6, .int v6)]) dX11_dusk_141 (by decide) rfl ?_
      refine z_iinc (j := 6) dX11_dusk_143 (by decide) rfl (by decide) (fun x112002 => ?_)
      refine y_loc (lv' := [(5, .int x112002), (4, .int s0), (3, .int v3), (7, .int s0), (0, .ref 71), (1, .int v1), (2, .int v2), (6, .int v6)]) rfl ?_
      refine y_goto (tgt := 38) dX11_dusk_146 (by decide) ?_
      refine y_sub [(0, .ref 71), (1, .int v1), (2, .int v2), (3, .int v3), (4, .int s0), (5, .int x112002)] [4, 5, 6, 2, 1, 0] rfl ?_
      exact hK38 v1 v2 v3 s0 x112002 w 
  · refine y_iload dX11_dusk_120 7 rfl ?_
    refine y_goto (tgt := 126) dX11_dusk_122 (by decide) ?_
    refine y_istore_n (lv' := [(3, .int v6), (7, .int s0), (0, .ref 71), (1, .int v1), (2, .int v2), (4, .int v4), (5, .int v5), (6, .int v6)]) dX11_dusk_126 rfl (by decide) rfl ?_
    refine y_iload dX11_dusk_127 1 rfl ?_
    refine y_iload dX11_dusk_129 5 rfl ?_
    refine y_icmp_le (tgt := 139) dX11_dusk_131 (by decide) ?_ ?_
    · refine y_iload dX11_dusk_139 5 rfl ?_
      refine y_istore (lv' := [(4, .int v4), (3, .int v6), (7, .int s0), (0, .ref 71), (1, .int v1), (2, .int v2), (5, .int v5), (6, .int v6)]) dX11_dusk_141 (by decide) rfl ?_
      refine z_iinc (j := 6) dX11_dusk_143 (by decide) rfl (by decide) (fun x112003 => ?_)
      refine y_loc (lv' := [(5, .int x112003), (4, .int v4), (3, .int v6), (7, .int s0), (0, .ref 71), (1, .int v1), (2, .int v2), (6, .int v6)]) rfl ?_
      refine y_goto (tgt := 38) dX11_dusk_146 (by decide) ?_
      refine y_sub [(0, .ref 71), (1, .int v1), (2, .int v2), (3, .int v6), (4, .int v4), (5, .int x112003)] [4, 5, 6, 2, 1, 0] rfl ?_
      exact hK38 v1 v2 v6 v4 x112003 w 
    · refine y_iload dX11_dusk_134 1 rfl ?_
      refine y_goto (tgt := 141) dX11_dusk_136 (by decide) ?_
      refine y_istore (lv' := [(4, .int s0), (3, .int v6), (7, .int s0), (0, .ref 71), (1, .int v1), (2, .int v2), (5, .int v5), (6, .int v6)]) dX11_dusk_141 (by decide) rfl ?_
      refine z_iinc (j := 6) dX11_dusk_143 (by decide) rfl (by decide) (fun x112004 => ?_)
      refine y_loc (lv' := [(5, .int x112004), (4, .int s0), (3, .int v6), (7, .int s0), (0, .ref 71), (1, .int v1), (2, .int v2), (6, .int v6)]) rfl ?_
      refine y_goto (tgt := 38) dX11_dusk_146 (by decide) ?_
      refine y_sub [(0, .ref 71), (1, .int v1), (2, .int v2), (3, .int v6), (4, .int s0), (5, .int x112004)] [4, 5, 6, 2, 1, 0] rfl ?_
      exact hK38 v1 v2 v6 s0 x112004 w 
set_option maxRecDepth 20000 in
set_option maxHeartbeats 2000000 in
theorem p_X11_dusk_L75 {G : xG} {d : Nat} {n t : Nat} (hn : 102 ≤ n) (hd : 41 ≤ d) {K38 : Int32 → Int32 → Int32 → Int32 → Int32 → xI → Option (Int32 × xI)} (hK38 : ∀ (v1 : Int32) (v2 : Int32) (v3 : Int32) (v4 : Int32) (v5 : Int32) (w : xI), xC G m_X11_dusk d 38 [(0, .ref 71), (1, .int v1), (2, .int v2), (3, .int v3), (4, .int v4), (5, .int v5)] [] (xFin n t) w (fun x : Int32 => some (Value.int x)) (xFin n t) (K38 v1 v2 v3 v4 v5 w)) (v1 : Int32) (v2 : Int32) (v3 : Int32) (v4 : Int32) (v5 : Int32) (s0 : Int32) (w : xI) : xC G m_X11_dusk d 75 [(0, .ref 71), (1, .int v1), (2, .int v2), (3, .int v3), (4, .int v4), (5, .int v5)] [.int s0] (xFin n t) w (fun x : Int32 => some (Value.int x)) (xFin n t) (f_X11_dusk_L75 K38 v1 v2 v3 v4 v5 s0 w) := by
  unfold f_X11_dusk_L75
  refine y_istore (lv' := [(6, .int s0), (0, .ref 71), (1, .int v1), (2, .int v2), (3, .int v3), (4, .int v4), (5, .int v5)]) dX11_dusk_75 (by decide) rfl ?_
  refine y_aload_n dX11_dusk_77 rfl 1 rfl ?_
  refine y_getr (q := 99) dX11_dusk_78 flX11_91 (xlt rfl hn) rfl rfl rfl ?_
  refine y_iload dX11_dusk_81 6 rfl ?_
  refine z_iald (v := (w 99 v5.toNatClampNeg)) dX11_dusk_83 (xlt rfl hn) rfl rfl ?_
  refine y_iconst (v := (-1)) dX11_dusk_84 (by decide) ?_
  refine y_icmp_ne (tgt := 111) dX11_dusk_85 (by decide) ?_ ?_
  · refine y_iconst (v := 0) dX11_dusk_111 (by decide) ?_
    refine y_sub [(0, .ref 71), (1, .int v1), (2, .int v2), (3, .int v3), (4, .int v4), (5, .int v5), (6, .int s0)] [1, 2, 3, 4, 5, 6, 0] rfl ?_
    refine p_X11_dusk_L112 hn hd ?_ v1 v2 v3 v4 v5 s0 (0 : Int32) w 
    · intro v1_75001 v2_75001 v3_75001 v4_75001 v5_75001 w75001 
      exact hK38 v1_75001 v2_75001 v3_75001 v4_75001 v5_75001 w75001 
  · refine y_iload_n dX11_dusk_88 rfl 2 rfl ?_
    refine y_aload_n dX11_dusk_89 rfl 1 rfl ?_
    refine y_getr (q := 79) dX11_dusk_90 flX11_31 (xlt rfl hn) rfl rfl rfl ?_
    refine y_iload dX11_dusk_93 6 rfl ?_
    refine z_iald (v := (w 79 v5.toNatClampNeg)) dX11_dusk_95 (xlt rfl hn) rfl rfl ?_
    refine y_icmp_le (tgt := 111) dX11_dusk_96 (by decide) ?_ ?_
    · refine y_iconst (v := 0) dX11_dusk_111 (by decide) ?_
      refine y_sub [(0, .ref 71), (1, .int v1), (2, .int v2), (3, .int v3), (4, .int v4), (5, .int v5), (6, .int s0)] [1, 2, 3, 4, 5, 6, 0] rfl ?_
      refine p_X11_dusk_L112 hn hd ?_ v1 v2 v3 v4 v5 s0 (0 : Int32) w 
      · intro v1_75002 v2_75002 v3_75002 v4_75002 v5_75002 w75002 
        exact hK38 v1_75002 v2_75002 v3_75002 v4_75002 v5_75002 w75002 
    · refine y_iload_n dX11_dusk_99 rfl 2 rfl ?_
      refine y_aload_n dX11_dusk_100 rfl 1 rfl ?_
      refine y_getr (q := 79) dX11_dusk_101 flX11_31 (xlt rfl hn) rfl rfl rfl ?_
      refine y_iload dX11_dusk_104 6 rfl ?_
      refine z_iald (v := (w 79 v5.toNatClampNeg)) dX11_dusk_106 (xlt rfl hn) rfl rfl ?_
      refine y_isub dX11_dusk_107 ?_
      refine y_goto (tgt := 112) dX11_dusk_108 (by decide) ?_
      refine y_sub [(0, .ref 71), (1, .int v1), (2, .int v2), (3, .int v3), (4, .int v4), (5, .int v5), (6, .int s0)] [1, 2, 3, 4, 5, 6, 0] rfl ?_
      refine p_X11_dusk_L112 hn hd ?_ v1 v2 v3 v4 v5 s0 (v1 - (w 79 v5.toNatClampNeg)) w 
      · intro v1_75003 v2_75003 v3_75003 v4_75003 v5_75003 w75003 
        exact hK38 v1_75003 v2_75003 v3_75003 v4_75003 v5_75003 w75003 
set_option maxRecDepth 20000 in
set_option maxHeartbeats 2000000 in
theorem p_X11_dusk_L38 {G : xG} {d : Nat} {n t : Nat} (hn : 102 ≤ n) (hd : 41 ≤ d) : ∀ (fu : Nat) (v1 : Int32) (v2 : Int32) (v3 : Int32) (v4 : Int32) (v5 : Int32) (w : xI), xC G m_X11_dusk d 38 [(0, .ref 71), (1, .int v1), (2, .int v2), (3, .int v3), (4, .int v4), (5, .int v5)] [] (xFin n t) w (fun x : Int32 => some (Value.int x)) (xFin n t) (f_X11_dusk_L38 fu v1 v2 v3 v4 v5 w) := by
  intro fu
  induction fu with
  | zero => intro v1 v2 v3 v4 v5 w; exact xC.none
  | succ fu ih =>
    intro v1 v2 v3 v4 v5 w
    rw [f_X11_dusk_L38]
    refine y_iload dX11_dusk_38 5 rfl ?_
    refine y_aload_n dX11_dusk_40 rfl 0 rfl ?_
    refine z_geti (v := (w 71 3)) dX11_dusk_41 flX11_111 (xlt rfl hn) rfl rfl rfl ?_
    refine y_icmp_ge (tgt := 149) dX11_dusk_44 (by decide) ?_ ?_
    · refine y_iload_n dX11_dusk_149 rfl 2 rfl ?_
      refine y_if_ne (tgt := 160) dX11_dusk_150 (by decide) ?_ ?_
      · refine y_iload_n dX11_dusk_160 rfl 2 rfl ?_
        refine y_iconst (v := 1) dX11_dusk_161 (by decide) ?_
        refine y_icmp_ne (tgt := 172) dX11_dusk_162 (by decide) ?_ ?_
        · refine y_iload_n dX11_dusk_172 rfl 2 rfl ?_
          refine y_iconst (v := 2) dX11_dusk_173 (by decide) ?_
          refine y_icmp_ne (tgt := 184) dX11_dusk_174 (by decide) ?_ ?_
          · refine y_iload_n dX11_dusk_184 rfl 2 rfl ?_
            refine y_iconst (v := 3) dX11_dusk_185 (by decide) ?_
            refine y_icmp_ne (tgt := 193) dX11_dusk_186 (by decide) ?_ ?_
            · refine y_iload dX11_dusk_193 4 rfl ?_
              exact y_ireturn dX11_dusk_195 rfl rfl rfl
            · refine y_iload_n dX11_dusk_189 rfl 3 rfl ?_
              refine y_goto (tgt := 195) dX11_dusk_190 (by decide) ?_
              exact y_ireturn dX11_dusk_195 rfl rfl rfl
          · refine y_aload_n dX11_dusk_177 rfl 0 rfl ?_
            refine z_geti (v := (w 71 57)) dX11_dusk_178 flX11_297 (xlt rfl hn) rfl rfl rfl ?_
            refine y_goto (tgt := 195) dX11_dusk_181 (by decide) ?_
            exact y_ireturn dX11_dusk_195 rfl rfl rfl
        · refine y_aload_n dX11_dusk_165 rfl 0 rfl ?_
          refine z_geti (v := (w 71 55)) dX11_dusk_166 flX11_291 (xlt rfl hn) rfl rfl rfl ?_
          refine y_goto (tgt := 195) dX11_dusk_169 (by decide) ?_
          exact y_ireturn dX11_dusk_195 rfl rfl rfl
      · refine y_aload_n dX11_dusk_153 rfl 0 rfl ?_
        refine z_geti (v := (w 71 56)) dX11_dusk_154 flX11_294 (xlt rfl hn) rfl rfl rfl ?_
        refine y_goto (tgt := 195) dX11_dusk_157 (by decide) ?_
        exact y_ireturn dX11_dusk_195 rfl rfl rfl
    · refine y_aload_n dX11_dusk_47 rfl 0 rfl ?_
      refine y_getr (q := 99) dX11_dusk_48 flX11_91 (xlt rfl hn) rfl rfl rfl ?_
      refine y_iload dX11_dusk_51 5 rfl ?_
      refine z_iald (v := (w 99 v5.toNatClampNeg)) dX11_dusk_53 (xlt rfl hn) rfl rfl ?_
      refine y_iconst (v := (-1)) dX11_dusk_54 (by decide) ?_
      refine y_icmp_ne (tgt := 62) dX11_dusk_55 (by decide) ?_ ?_
      · refine y_aload_n dX11_dusk_62 rfl 0 rfl ?_
        refine y_iload dX11_dusk_63 5 rfl ?_
        refine y_aload_n dX11_dusk_65 rfl 0 rfl ?_
        refine y_getr (q := 99) dX11_dusk_66 flX11_91 (xlt rfl hn) rfl rfl rfl ?_
        refine y_iload dX11_dusk_69 5 rfl ?_
        refine z_iald (v := (w 99 v5.toNatClampNeg)) dX11_dusk_71 (xlt rfl hn) rfl rfl ?_
        refine y_callV (As := [.int v5, .int (w 99 v5.toNatClampNeg)]) (d2 := d - 1) dX11_dusk_72 kX11_205 (by omega) rfl rfl (Nat.le_of_ble_eq_true rfl) (xlt rfl hn) rfl rfl (p_X11_waited hn (by omega)  _ _ _) (fun r38001 w38002 _ => ?_)
        refine p_X11_dusk_L75 hn hd ?_ v1 v2 v3 v4 v5 r38001 w38002 
        · intro v1_38003 v2_38003 v3_38003 v4_38003 v5_38003 w38003 
          exact ih v1_38003 v2_38003 v3_38003 v4_38003 v5_38003 w38003 
      · refine y_iconst (v := 0) dX11_dusk_58 (by decide) ?_
        refine y_goto (tgt := 75) dX11_dusk_59 (by decide) ?_
        refine p_X11_dusk_L75 hn hd ?_ v1 v2 v3 v4 v5 (0 : Int32) w 
        · intro v1_38004 v2_38004 v3_38004 v4_38004 v5_38004 w38004 
          exact ih v1_38004 v2_38004 v3_38004 v4_38004 v5_38004 w38004 
set_option maxRecDepth 20000 in
set_option maxHeartbeats 2000000 in
theorem p_X11_dusk {G : xG} {d : Nat} {n t : Nat} (hn : 102 ≤ n) (hd : 41 ≤ d) (a1 : Int32) (a2 : Int32) (w : xI) : xMet G m_X11_dusk d [.ref 71, .int a1, .int a2] (xFin n t) w (fun x : Int32 => some (Value.int x)) (xFin n t) (f_X11_dusk a1 a2 w) := by
  refine xMet.of rfl (Nat.le_of_ble_eq_true rfl) ?_
  unfold f_X11_dusk
  show xC G m_X11_dusk d 0 [(0, .ref 71), (1, .int a1), (2, .int a2)] [] (xFin n t) w _ _ _
  refine y_iload_n dX11_dusk_0 rfl 1 rfl ?_
  refine y_iconst (v := 0) dX11_dusk_1 (by decide) ?_
  refine y_bipush (v := 10) dX11_dusk_2 (by decide) ?_
  refine y_callS (As := [.int a1, .int (0 : Int32), .int (10 : Int32)]) (d2 := d - 1) dX11_dusk_4 kX11_114 (by omega) rfl rfl (Nat.le_of_ble_eq_true rfl) (p_X11_in hn (by omega)  _ _ _ _) (fun r1 w2 _ => ?_)
  refine y_if_ne (tgt := 13) dX11_dusk_7 (by decide) ?_ ?_
  · refine y_iload_n dX11_dusk_13 rfl 2 rfl ?_
    refine y_iconst (v := 0) dX11_dusk_14 (by decide) ?_
    refine y_iconst (v := 4) dX11_dusk_15 (by decide) ?_
    refine y_callS (As := [.int a2, .int (0 : Int32), .int (4 : Int32)]) (d2 := d - 1) dX11_dusk_16 kX11_114 (by omega) rfl rfl (Nat.le_of_ble_eq_true rfl) (p_X11_in hn (by omega)  _ _ _ _) (fun r3 w4 _ => ?_)
    refine y_if_ne (tgt := 25) dX11_dusk_19 (by decide) ?_ ?_
    · refine y_aload_n dX11_dusk_25 rfl 0 rfl ?_
      refine y_iload_n dX11_dusk_26 rfl 1 rfl ?_
      refine y_callV (As := [.int a1]) (d2 := d - 1) dX11_dusk_27 kX11_303 (by omega) rfl rfl (Nat.le_of_ble_eq_true rfl) (xlt rfl hn) rfl rfl (p_X11_lives hn (by omega)  _ _) (fun r5 w6 _ => ?_)
      refine y_iconst (v := 0) dX11_dusk_30 (by decide) ?_
      refine y_istore_n (lv' := [(3, .int (0 : Int32)), (0, .ref 71), (1, .int a1), (2, .int a2)]) dX11_dusk_31 rfl (by decide) rfl ?_
      refine y_iconst (v := 0) dX11_dusk_32 (by decide) ?_
      refine y_istore (lv' := [(4, .int (0 : Int32)), (3, .int (0 : Int32)), (0, .ref 71), (1, .int a1), (2, .int a2)]) dX11_dusk_33 (by decide) rfl ?_
      refine y_iconst (v := 0) dX11_dusk_35 (by decide) ?_
      refine y_istore (lv' := [(5, .int (0 : Int32)), (4, .int (0 : Int32)), (3, .int (0 : Int32)), (0, .ref 71), (1, .int a1), (2, .int a2)]) dX11_dusk_36 (by decide) rfl ?_
      refine y_sub [(0, .ref 71), (1, .int a1), (2, .int a2), (3, .int (0 : Int32)), (4, .int (0 : Int32)), (5, .int (0 : Int32))] [3, 4, 5, 2, 1, 0] rfl ?_
      refine p_X11_dusk_L38 hn hd 2000 a1 a2 (0 : Int32) (0 : Int32) (0 : Int32) w6 
    · refine y_bipush (v := (-7)) dX11_dusk_22 (by decide) ?_
      exact y_ireturn dX11_dusk_24 rfl rfl rfl
  · refine y_bipush (v := (-5)) dX11_dusk_10 (by decide) ?_
    exact y_ireturn dX11_dusk_12 rfl rfl rfl
-- ===== X11_goes: WeighedGateModel.goes(II)I =====
set_option maxRecDepth 20000 in
set_option maxHeartbeats 2000000 in
theorem p_X11_goes_L37 {G : xG} {d : Nat} {n t : Nat} (hn : 102 ≤ n) (hd : 41 ≤ d) (v1 : Int32) (v2 : Int32) (w : xI) : xC G m_X11_goes d 37 [(0, .ref 71), (1, .int v1), (2, .int v2)] [] (xFin n t) w (fun x : Int32 => some (Value.int x)) (xFin n t) (f_X11_goes_L37 v1 v2 w) := by
  unfold f_X11_goes_L37
  refine y_aload_n dX11_goes_37 rfl 0 rfl ?_
  refine y_bipush (v := 10) dX11_goes_38 (by decide) ?_
  refine y_callV (As := [.int (10 : Int32)]) (d2 := d - 1) dX11_goes_40 kX11_303 (by omega) rfl rfl (Nat.le_of_ble_eq_true rfl) (xlt rfl hn) rfl rfl (p_X11_lives hn (by omega)  _ _) (fun r37001 w37002 _ => ?_)
  refine y_iload_n dX11_goes_43 rfl 2 rfl ?_
  refine y_if_ne (tgt := 56) dX11_goes_44 (by decide) ?_ ?_
  · refine y_aload_n dX11_goes_56 rfl 0 rfl ?_
    refine y_getr (q := 100) dX11_goes_57 flX11_94 (xlt rfl hn) rfl rfl rfl ?_
    refine y_iload_n dX11_goes_60 rfl 1 rfl ?_
    refine z_iald (v := (w37002 100 v1.toNatClampNeg)) dX11_goes_61 (xlt rfl hn) rfl rfl ?_
    exact y_ireturn dX11_goes_62 rfl rfl rfl
  · refine y_aload_n dX11_goes_47 rfl 0 rfl ?_
    refine y_getr (q := 99) dX11_goes_48 flX11_91 (xlt rfl hn) rfl rfl rfl ?_
    refine y_iload_n dX11_goes_51 rfl 1 rfl ?_
    refine z_iald (v := (w37002 99 v1.toNatClampNeg)) dX11_goes_52 (xlt rfl hn) rfl rfl ?_
    refine y_goto (tgt := 62) dX11_goes_53 (by decide) ?_
    exact y_ireturn dX11_goes_62 rfl rfl rfl
set_option maxRecDepth 20000 in
set_option maxHeartbeats 2000000 in
theorem p_X11_goes {G : xG} {d : Nat} {n t : Nat} (hn : 102 ≤ n) (hd : 41 ≤ d) (a1 : Int32) (a2 : Int32) (w : xI) : xMet G m_X11_goes d [.ref 71, .int a1, .int a2] (xFin n t) w (fun x : Int32 => some (Value.int x)) (xFin n t) (f_X11_goes a1 a2 w) := by
  refine xMet.of rfl (Nat.le_of_ble_eq_true rfl) ?_
  unfold f_X11_goes
  show xC G m_X11_goes d 0 [(0, .ref 71), (1, .int a1), (2, .int a2)] [] (xFin n t) w _ _ _
  refine y_iload_n dX11_goes_0 rfl 2 rfl ?_
  refine y_iconst (v := 0) dX11_goes_1 (by decide) ?_
  refine y_iconst (v := 1) dX11_goes_2 (by decide) ?_
  refine y_callS (As := [.int a2, .int (0 : Int32), .int (1 : Int32)]) (d2 := d - 1) dX11_goes_3 kX11_114 (by omega) rfl rfl (Nat.le_of_ble_eq_true rfl) (p_X11_in hn (by omega)  _ _ _ _) (fun r1 w2 _ => ?_)
  refine y_if_ne (tgt := 12) dX11_goes_6 (by decide) ?_ ?_
  · refine y_iload_n dX11_goes_12 rfl 2 rfl ?_
    refine y_if_ne (tgt := 27) dX11_goes_13 (by decide) ?_ ?_
    · refine y_iload_n dX11_goes_27 rfl 1 rfl ?_
      refine y_callS (As := [.int a1]) (d2 := d - 1) dX11_goes_28 kX11_208 (by omega) rfl rfl (Nat.le_of_ble_eq_true rfl) (p_X11_isHour hn (by omega)  _ _) (fun r3 w4 _ => ?_)
      refine y_if_ne (tgt := 37) dX11_goes_31 (by decide) ?_ ?_
      · refine p_X11_goes_L37 hn hd a1 a2 w4 
      · refine y_bipush (v := (-5)) dX11_goes_34 (by decide) ?_
        exact y_ireturn dX11_goes_36 rfl rfl rfl
    · refine y_aload_n dX11_goes_16 rfl 0 rfl ?_
      refine y_iload_n dX11_goes_17 rfl 1 rfl ?_
      refine y_callV (As := [.int a1]) (d2 := d - 1) dX11_goes_18 kX11_202 (by omega) rfl rfl (Nat.le_of_ble_eq_true rfl) (xlt rfl hn) rfl rfl (p_X11_isCart hn (by omega)  _ _) (fun r5 w6 _ => ?_)
      refine y_if_ne (tgt := 37) dX11_goes_21 (by decide) ?_ ?_
      · refine p_X11_goes_L37 hn hd a1 a2 w6 
      · refine y_goto (tgt := 34) dX11_goes_24 (by decide) ?_
        refine y_bipush (v := (-5)) dX11_goes_34 (by decide) ?_
        exact y_ireturn dX11_goes_36 rfl rfl rfl
  · refine y_bipush (v := (-2)) dX11_goes_9 (by decide) ?_
    exact y_ireturn dX11_goes_11 rfl rfl rfl
