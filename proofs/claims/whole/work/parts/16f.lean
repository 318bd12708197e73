-- ===== X11_odds: WeighedGateModel.odds(IIII)J =====
set_option maxRecDepth 20000 in
set_option maxHeartbeats 2000000 in
theorem p_X11_odds_L49 {G : xG} {d : Nat} {n t : Nat} (hn : 102 ≤ n) (hd : 42 ≤ d) : ∀ (fu : Nat) (v1 : Int32) (v2 : Int32) (v3 : Int32) (v4 : Int32) (v5 : Int64) (v7 : Int32) (w : xI), xC G m_X11_odds d 49 [(0, .ref 71), (1, .int v1), (2, .int v2), (3, .int v3), (4, .int v4), (5, .long v5), (7, .int v7)] [] (xFin n t) w (fun x : Int64 => some (Value.long x)) (xFin n t) (f_X11_odds_L49 fu v1 v2 v3 v4 v5 v7 w) := by
  intro fu
  induction fu with
  | zero => intro v1 v2 v3 v4 v5 v7 w; exact xC.none
  | succ fu ih =>
    intro v1 v2 v3 v4 v5 v7 w
    rw [f_X11_odds_L49]
    refine y_iload dX11_odds_49 6 rfl ?_
    refine y_iload_n dX11_odds_51 rfl 3 rfl ?_
    refine y_icmp_ge (tgt := 83) dX11_odds_52 (by decide) ?_ ?_
    · refine y_lload dX11_odds_83 5 rfl ?_
      refine y_iload_n dX11_odds_85 rfl 3 rfl ?_
      refine y_i2l dX11_odds_86 ?_
      refine y_iload dX11_odds_87 4 rfl ?_
      refine y_callS (As := [.long v5, .long (v3.toInt64), .int v4]) (d2 := d - 1) dX11_odds_89 kX11_334 (by omega) rfl rfl (Nat.le_of_ble_eq_true rfl) (p_X11_lowest hn (by omega)  _ _ _ _) (fun r49001 w49002 _ => ?_)
      exact y_lreturn dX11_odds_92 rfl rfl
    · refine y_aload_n dX11_odds_55 rfl 0 rfl ?_
      refine y_iload_n dX11_odds_56 rfl 2 rfl ?_
      refine y_iload dX11_odds_57 6 rfl ?_
      refine y_iadd dX11_odds_59 ?_
      refine y_callV (As := [.int (v2 + v7)]) (d2 := d - 1) dX11_odds_60 kX11_329 (by omega) rfl rfl (Nat.le_of_ble_eq_true rfl) (xlt rfl hn) rfl rfl (p_X11_draws hn (by omega)  _ _) (fun r49003 w49004 _ => ?_)
      refine y_lload dX11_odds_63 5 rfl ?_
      refine y_aload_n dX11_odds_65 rfl 0 rfl ?_
      refine z_geti (v := (w49004 71 55)) dX11_odds_66 flX11_291 (xlt rfl hn) rfl rfl rfl ?_
      refine y_iload_n dX11_odds_69 rfl 1 rfl ?_
      refine y_ishr dX11_odds_70 ?_
      refine y_iconst (v := 1) dX11_odds_71 (by decide) ?_
      refine y_iand dX11_odds_72 ?_
      refine y_i2l dX11_odds_73 ?_
      refine y_ladd dX11_odds_74 ?_
      refine y_letL (fun x49005 => ?_)
      refine y_lstore (lv' := [(5, .long x49005), (0, .ref 71), (1, .int v1), (2, .int v2), (3, .int v3), (4, .int v4), (7, .int v7)]) dX11_odds_75 (by decide) rfl ?_
      refine z_iinc (j := 6) dX11_odds_77 (by decide) rfl (by decide) (fun x49006 => ?_)
      refine y_loc (lv' := [(7, .int x49006), (5, .long x49005), (0, .ref 71), (1, .int v1), (2, .int v2), (3, .int v3), (4, .int v4)]) rfl ?_
      refine y_goto (tgt := 49) dX11_odds_80 (by decide) ?_
      refine y_sub [(0, .ref 71), (1, .int v1), (2, .int v2), (3, .int v3), (4, .int v4), (5, .long x49005), (7, .int x49006)] [2, 3, 4, 5, 6, 1, 0] rfl ?_
      exact ih v1 v2 v3 v4 x49005 x49006 w49004 
set_option maxRecDepth 20000 in
set_option maxHeartbeats 2000000 in
theorem p_X11_odds {G : xG} {d : Nat} {n t : Nat} (hn : 102 ≤ n) (hd : 42 ≤ d) (a1 : Int32) (a2 : Int32) (a3 : Int32) (a4 : Int32) (w : xI) : xMet G m_X11_odds d [.ref 71, .int a1, .int a2, .int a3, .int a4] (xFin n t) w (fun x : Int64 => some (Value.long x)) (xFin n t) (f_X11_odds a1 a2 a3 a4 w) := by
  refine xMet.of rfl (Nat.le_of_ble_eq_true rfl) ?_
  unfold f_X11_odds
  show xC G m_X11_odds d 0 [(0, .ref 71), (1, .int a1), (2, .int a2), (3, .int a3), (4, .int a4)] [] (xFin n t) w _ _ _
  refine y_aload_n dX11_odds_0 rfl 0 rfl ?_
  refine y_iload_n dX11_odds_1 rfl 1 rfl ?_
  refine y_callV (As := [.int a1]) (d2 := d - 1) dX11_odds_2 kX11_202 (by omega) rfl rfl (Nat.le_of_ble_eq_true rfl) (xlt rfl hn) rfl rfl (p_X11_isCart hn (by omega)  _ _) (fun r1 w2 _ => ?_)
  refine y_if_eq (tgt := 39) dX11_odds_5 (by decide) ?_ ?_
  · refine y_ldc2 (v := (-4611686018427387904)) dX11_odds_39 q1455 ?_
    exact y_lreturn dX11_odds_42 rfl rfl
  · refine y_iload_n dX11_odds_8 rfl 2 rfl ?_
    refine y_iconst (v := 0) dX11_odds_9 (by decide) ?_
    refine y_ldcw (v := 99999) dX11_odds_10 q1443 ?_
    refine y_callS (As := [.int a2, .int (0 : Int32), .int (99999 : Int32)]) (d2 := d - 1) dX11_odds_13 kX11_114 (by omega) rfl rfl (Nat.le_of_ble_eq_true rfl) (p_X11_in hn (by omega)  _ _ _ _) (fun r3 w4 _ => ?_)
    refine y_if_eq (tgt := 39) dX11_odds_16 (by decide) ?_ ?_
    · refine y_ldc2 (v := (-4611686018427387904)) dX11_odds_39 q1455 ?_
      exact y_lreturn dX11_odds_42 rfl rfl
    · refine y_iload_n dX11_odds_19 rfl 3 rfl ?_
      refine y_iconst (v := 1) dX11_odds_20 (by decide) ?_
      refine y_bipush (v := 10) dX11_odds_21 (by decide) ?_
      refine y_callS (As := [.int a3, .int (1 : Int32), .int (10 : Int32)]) (d2 := d - 1) dX11_odds_23 kX11_114 (by omega) rfl rfl (Nat.le_of_ble_eq_true rfl) (p_X11_in hn (by omega)  _ _ _ _) (fun r5 w6 _ => ?_)
      refine y_if_eq (tgt := 39) dX11_odds_26 (by decide) ?_ ?_
      · refine y_ldc2 (v := (-4611686018427387904)) dX11_odds_39 q1455 ?_
        exact y_lreturn dX11_odds_42 rfl rfl
      · refine y_iload dX11_odds_29 4 rfl ?_
        refine y_iconst (v := 0) dX11_odds_31 (by decide) ?_
        refine y_iconst (v := 1) dX11_odds_32 (by decide) ?_
        refine y_callS (As := [.int a4, .int (0 : Int32), .int (1 : Int32)]) (d2 := d - 1) dX11_odds_33 kX11_114 (by omega) rfl rfl (Nat.le_of_ble_eq_true rfl) (p_X11_in hn (by omega)  _ _ _ _) (fun r7 w8 _ => ?_)
        refine y_if_ne (tgt := 43) dX11_odds_36 (by decide) ?_ ?_
        · refine y_lconst (v := 0) dX11_odds_43 (by decide) ?_
          refine y_letL (fun x9 => ?_)
          refine y_lstore (lv' := [(5, .long x9), (0, .ref 71), (1, .int a1), (2, .int a2), (3, .int a3), (4, .int a4)]) dX11_odds_44 (by decide) rfl ?_
          refine y_iconst (v := 0) dX11_odds_46 (by decide) ?_
          refine y_istore (lv' := [(7, .int (0 : Int32)), (5, .long x9), (0, .ref 71), (1, .int a1), (2, .int a2), (3, .int a3), (4, .int a4)]) dX11_odds_47 (by decide) rfl ?_
          refine y_sub [(0, .ref 71), (1, .int a1), (2, .int a2), (3, .int a3), (4, .int a4), (5, .long x9), (7, .int (0 : Int32))] [2, 3, 4, 5, 6, 1, 0] rfl ?_
          refine p_X11_odds_L49 hn hd 2000 a1 a2 a3 a4 x9 (0 : Int32) w8 
        · refine y_ldc2 (v := (-4611686018427387904)) dX11_odds_39 q1455 ?_
          exact y_lreturn dX11_odds_42 rfl rfl
-- ===== X11_image: WeighedGateModel.image()I =====
set_option maxRecDepth 20000 in
set_option maxHeartbeats 2000000 in
theorem p_X11_image_L81 {G : xG} {d : Nat} {n t : Nat} (hn : 102 ≤ n) (hd : 0 ≤ d) : ∀ (fu : Nat) (v1 : Int32) (w : xI), xC G m_X11_image d 81 [(0, .ref 71), (1, .int v1)] [] (xFin n t) w (fun x : Int32 => some (Value.int x)) (xFin n t) (f_X11_image_L81 fu v1 w) := by
  intro fu
  induction fu with
  | zero => intro v1 w; exact xC.none
  | succ fu ih =>
    intro v1 w
    rw [f_X11_image_L81]
    refine y_iload_n dX11_image_81 rfl 1 rfl ?_
    refine y_bipush (v := 10) dX11_image_82 (by decide) ?_
    refine y_icmp_ge (tgt := 117) dX11_image_84 (by decide) ?_ ?_
    · refine y_aload_n dX11_image_117 rfl 0 rfl ?_
      refine z_geti (v := (w 71 3)) dX11_image_118 flX11_111 (xlt rfl hn) rfl rfl rfl ?_
      exact y_ireturn dX11_image_121 rfl rfl rfl
    · refine y_aload_n dX11_image_87 rfl 0 rfl ?_
      refine y_getr (q := 85) dX11_image_88 flX11_49 (xlt rfl hn) rfl rfl rfl ?_
      refine y_iload_n dX11_image_91 rfl 1 rfl ?_
      refine y_aload_n dX11_image_92 rfl 0 rfl ?_
      refine y_getr (q := 79) dX11_image_93 flX11_31 (xlt rfl hn) rfl rfl rfl ?_
      refine y_iload_n dX11_image_96 rfl 1 rfl ?_
      refine z_iald (v := (w 79 v1.toNatClampNeg)) dX11_image_97 (xlt rfl hn) rfl rfl ?_
      refine y_iast dX11_image_98 (xlt rfl hn) rfl ?_
      refine y_aload_n dX11_image_99 rfl 0 rfl ?_
      refine y_getr (q := 86) dX11_image_100 flX11_52 (xlt rfl hn) rfl rfl rfl ?_
      refine y_iload_n dX11_image_103 rfl 1 rfl ?_
      refine y_aload_n dX11_image_104 rfl 0 rfl ?_
      refine y_getr (q := 74) dX11_image_105 flX11_16 (xlt rfl hn) rfl rfl rfl ?_
      refine y_iload_n dX11_image_108 rfl 1 rfl ?_
      refine z_iald (v := (w 74 v1.toNatClampNeg)) dX11_image_109 (xlt rfl hn) rfl rfl ?_
      refine y_iast dX11_image_110 (xlt rfl hn) rfl ?_
      refine z_iinc (j := 1) dX11_image_111 (by decide) rfl (by decide) (fun x81001 => ?_)
      refine y_loc (lv' := [(1, .int x81001), (0, .ref 71)]) rfl ?_
      refine y_goto (tgt := 81) dX11_image_114 (by decide) ?_
      refine y_sub [(0, .ref 71), (1, .int x81001)] [1, 0] rfl ?_
      exact ih x81001 (xup (xup w 85 v1.toNatClampNeg (w 79 v1.toNatClampNeg)) 86 v1.toNatClampNeg (w 74 v1.toNatClampNeg)) 
set_option maxRecDepth 20000 in
set_option maxHeartbeats 2000000 in
theorem p_X11_image_L56 {G : xG} {d : Nat} {n t : Nat} (hn : 102 ≤ n) (hd : 0 ≤ d) : ∀ (fu : Nat) (v1 : Int32) (w : xI), xC G m_X11_image d 56 [(0, .ref 71), (1, .int v1)] [] (xFin n t) w (fun x : Int32 => some (Value.int x)) (xFin n t) (f_X11_image_L56 fu v1 w) := by
  intro fu
  induction fu with
  | zero => intro v1 w; exact xC.none
  | succ fu ih =>
    intro v1 w
    rw [f_X11_image_L56]
    refine y_iload_n dX11_image_56 rfl 1 rfl ?_
    refine y_iconst (v := 5) dX11_image_57 (by decide) ?_
    refine y_icmp_ge (tgt := 79) dX11_image_58 (by decide) ?_ ?_
    · refine y_iconst (v := 0) dX11_image_79 (by decide) ?_
      refine y_istore_n (lv' := [(1, .int (0 : Int32)), (0, .ref 71)]) dX11_image_80 rfl (by decide) rfl ?_
      refine y_sub [(0, .ref 71), (1, .int (0 : Int32))] [1, 0] rfl ?_
      refine p_X11_image_L81 hn hd 2000 (0 : Int32) w 
    · refine y_aload_n dX11_image_61 rfl 0 rfl ?_
      refine y_getr (q := 84) dX11_image_62 flX11_46 (xlt rfl hn) rfl rfl rfl ?_
      refine y_iload_n dX11_image_65 rfl 1 rfl ?_
      refine y_aload_n dX11_image_66 rfl 0 rfl ?_
      refine y_getr (q := 73) dX11_image_67 flX11_13 (xlt rfl hn) rfl rfl rfl ?_
      refine y_iload_n dX11_image_70 rfl 1 rfl ?_
      refine z_iald (v := (w 73 v1.toNatClampNeg)) dX11_image_71 (xlt rfl hn) rfl rfl ?_
      refine y_iast dX11_image_72 (xlt rfl hn) rfl ?_
      refine z_iinc (j := 1) dX11_image_73 (by decide) rfl (by decide) (fun x56001 => ?_)
      refine y_loc (lv' := [(1, .int x56001), (0, .ref 71)]) rfl ?_
      refine y_goto (tgt := 56) dX11_image_76 (by decide) ?_
      refine y_sub [(0, .ref 71), (1, .int x56001)] [1, 0] rfl ?_
      exact ih x56001 (xup w 84 v1.toNatClampNeg (w 73 v1.toNatClampNeg)) 
set_option maxRecDepth 20000 in
set_option maxHeartbeats 2000000 in
theorem p_X11_image_L31 {G : xG} {d : Nat} {n t : Nat} (hn : 102 ≤ n) (hd : 0 ≤ d) : ∀ (fu : Nat) (v1 : Int32) (w : xI), xC G m_X11_image d 31 [(0, .ref 71), (1, .int v1)] [] (xFin n t) w (fun x : Int32 => some (Value.int x)) (xFin n t) (f_X11_image_L31 fu v1 w) := by
  intro fu
  induction fu with
  | zero => intro v1 w; exact xC.none
  | succ fu ih =>
    intro v1 w
    rw [f_X11_image_L31]
    refine y_iload_n dX11_image_31 rfl 1 rfl ?_
    refine y_iconst (v := 3) dX11_image_32 (by decide) ?_
    refine y_icmp_ge (tgt := 54) dX11_image_33 (by decide) ?_ ?_
    · refine y_iconst (v := 0) dX11_image_54 (by decide) ?_
      refine y_istore_n (lv' := [(1, .int (0 : Int32)), (0, .ref 71)]) dX11_image_55 rfl (by decide) rfl ?_
      refine y_sub [(0, .ref 71), (1, .int (0 : Int32))] [1, 0] rfl ?_
      refine p_X11_image_L56 hn hd 2000 (0 : Int32) w 
    · refine y_aload_n dX11_image_36 rfl 0 rfl ?_
      refine y_getr (q := 83) dX11_image_37 flX11_43 (xlt rfl hn) rfl rfl rfl ?_
      refine y_iload_n dX11_image_40 rfl 1 rfl ?_
      refine y_aload_n dX11_image_41 rfl 0 rfl ?_
      refine y_getr (q := 72) dX11_image_42 flX11_7 (xlt rfl hn) rfl rfl rfl ?_
      refine y_iload_n dX11_image_45 rfl 1 rfl ?_
      refine z_iald (v := (w 72 v1.toNatClampNeg)) dX11_image_46 (xlt rfl hn) rfl rfl ?_
      refine y_iast dX11_image_47 (xlt rfl hn) rfl ?_
      refine z_iinc (j := 1) dX11_image_48 (by decide) rfl (by decide) (fun x31001 => ?_)
      refine y_loc (lv' := [(1, .int x31001), (0, .ref 71)]) rfl ?_
      refine y_goto (tgt := 31) dX11_image_51 (by decide) ?_
      refine y_sub [(0, .ref 71), (1, .int x31001)] [1, 0] rfl ?_
      exact ih x31001 (xup w 83 v1.toNatClampNeg (w 72 v1.toNatClampNeg)) 
set_option maxRecDepth 20000 in
set_option maxHeartbeats 2000000 in
theorem p_X11_image {G : xG} {d : Nat} {n t : Nat} (hn : 102 ≤ n) (hd : 0 ≤ d) (w : xI) : xMet G m_X11_image d [.ref 71] (xFin n t) w (fun x : Int32 => some (Value.int x)) (xFin n t) (f_X11_image  w) := by
  refine xMet.of rfl (Nat.le_of_ble_eq_true rfl) ?_
  unfold f_X11_image
  show xC G m_X11_image d 0 [(0, .ref 71)] [] (xFin n t) w _ _ _
  refine y_aload_n dX11_image_0 rfl 0 rfl ?_
  refine y_iconst (v := 1) dX11_image_1 (by decide) ?_
  refine y_putz0 dX11_image_2 flX11_338 (xlt rfl hn) rfl rfl (by decide) ?_
  refine y_aload_n dX11_image_5 rfl 0 rfl ?_
  refine y_aload_n dX11_image_6 rfl 0 rfl ?_
  refine z_geti (v := (w 71 1)) dX11_image_7 flX11_118 (xlt rfl hn) rfl rfl rfl ?_
  refine y_puti dX11_image_10 flX11_341 (xlt rfl hn) rfl rfl ?_
  refine y_aload_n dX11_image_13 rfl 0 rfl ?_
  refine y_aload_n dX11_image_14 rfl 0 rfl ?_
  refine z_geti (v := (w 71 3)) dX11_image_15 flX11_111 (xlt rfl hn) rfl rfl rfl ?_
  refine y_puti dX11_image_18 flX11_344 (xlt rfl hn) rfl rfl ?_
  refine y_aload_n dX11_image_21 rfl 0 rfl ?_
  refine y_aload_n dX11_image_22 rfl 0 rfl ?_
  refine z_geti (v := (w 71 15)) dX11_image_23 flX11_124 (xlt rfl hn) rfl rfl rfl ?_
  refine y_puti dX11_image_26 flX11_347 (xlt rfl hn) rfl rfl ?_
  refine y_iconst (v := 0) dX11_image_29 (by decide) ?_
  refine y_istore_n (lv' := [(1, .int (0 : Int32)), (0, .ref 71)]) dX11_image_30 rfl (by decide) rfl ?_
  refine y_sub [(0, .ref 71), (1, .int (0 : Int32))] [1, 0] rfl ?_
  refine p_X11_image_L31 hn hd 2000 (0 : Int32) (xup (xup (xup (xup w 71 16 (1 : Int32)) 71 17 (w 71 1)) 71 18 (w 71 3)) 71 19 (w 71 15)) 
-- ===== X11_back: WeighedGateModel.back()I =====
set_option maxRecDepth 20000 in
set_option maxHeartbeats 2000000 in
theorem p_X11_back_L86 {G : xG} {d : Nat} {n t : Nat} (hn : 102 ≤ n) (hd : 0 ≤ d) : ∀ (fu : Nat) (v1 : Int32) (w : xI), xC G m_X11_back d 86 [(0, .ref 71), (1, .int v1)] [] (xFin n t) w (fun x : Int32 => some (Value.int x)) (xFin n t) (f_X11_back_L86 fu v1 w) := by
  intro fu
  induction fu with
  | zero => intro v1 w; exact xC.none
  | succ fu ih =>
    intro v1 w
    rw [f_X11_back_L86]
    refine y_iload_n dX11_back_86 rfl 1 rfl ?_
    refine y_bipush (v := 10) dX11_back_87 (by decide) ?_
    refine y_icmp_ge (tgt := 122) dX11_back_89 (by decide) ?_ ?_
    · refine y_aload_n dX11_back_122 rfl 0 rfl ?_
      refine z_geti (v := (w 71 3)) dX11_back_123 flX11_111 (xlt rfl hn) rfl rfl rfl ?_
      exact y_ireturn dX11_back_126 rfl rfl rfl
    · refine y_aload_n dX11_back_92 rfl 0 rfl ?_
      refine y_getr (q := 79) dX11_back_93 flX11_31 (xlt rfl hn) rfl rfl rfl ?_
      refine y_iload_n dX11_back_96 rfl 1 rfl ?_
      refine y_aload_n dX11_back_97 rfl 0 rfl ?_
      refine y_getr (q := 85) dX11_back_98 flX11_49 (xlt rfl hn) rfl rfl rfl ?_
      refine y_iload_n dX11_back_101 rfl 1 rfl ?_
      refine z_iald (v := (w 85 v1.toNatClampNeg)) dX11_back_102 (xlt rfl hn) rfl rfl ?_
      refine y_iast dX11_back_103 (xlt rfl hn) rfl ?_
      refine y_aload_n dX11_back_104 rfl 0 rfl ?_
      refine y_getr (q := 74) dX11_back_105 flX11_16 (xlt rfl hn) rfl rfl rfl ?_
      refine y_iload_n dX11_back_108 rfl 1 rfl ?_
      refine y_aload_n dX11_back_109 rfl 0 rfl ?_
      refine y_getr (q := 86) dX11_back_110 flX11_52 (xlt rfl hn) rfl rfl rfl ?_
      refine y_iload_n dX11_back_113 rfl 1 rfl ?_
      refine z_iald (v := (w 86 v1.toNatClampNeg)) dX11_back_114 (xlt rfl hn) rfl rfl ?_
      refine y_iast dX11_back_115 (xlt rfl hn) rfl ?_
      refine z_iinc (j := 1) dX11_back_116 (by decide) rfl (by decide) (fun x86001 => ?_)
      refine y_loc (lv' := [(1, .int x86001), (0, .ref 71)]) rfl ?_
      refine y_goto (tgt := 86) dX11_back_119 (by decide) ?_
      refine y_sub [(0, .ref 71), (1, .int x86001)] [1, 0] rfl ?_
      exact ih x86001 (xup (xup w 79 v1.toNatClampNeg (w 85 v1.toNatClampNeg)) 74 v1.toNatClampNeg (w 86 v1.toNatClampNeg)) 
set_option maxRecDepth 20000 in
set_option maxHeartbeats 2000000 in
theorem p_X11_back_L61 {G : xG} {d : Nat} {n t : Nat} (hn : 102 ≤ n) (hd : 0 ≤ d) : ∀ (fu : Nat) (v1 : Int32) (w : xI), xC G m_X11_back d 61 [(0, .ref 71), (1, .int v1)] [] (xFin n t) w (fun x : Int32 => some (Value.int x)) (xFin n t) (f_X11_back_L61 fu v1 w) := by
  intro fu
  induction fu with
  | zero => intro v1 w; exact xC.none
  | succ fu ih =>
    intro v1 w
    rw [f_X11_back_L61]
    refine y_iload_n dX11_back_61 rfl 1 rfl ?_
    refine y_iconst (v := 5) dX11_back_62 (by decide) ?_
    refine y_icmp_ge (tgt := 84) dX11_back_63 (by decide) ?_ ?_
    · refine y_iconst (v := 0) dX11_back_84 (by decide) ?_
      refine y_istore_n (lv' := [(1, .int (0 : Int32)), (0, .ref 71)]) dX11_back_85 rfl (by decide) rfl ?_
      refine y_sub [(0, .ref 71), (1, .int (0 : Int32))] [1, 0] rfl ?_
      refine p_X11_back_L86 hn hd 2000 (0 : Int32) w 
    · refine y_aload_n dX11_back_66 rfl 0 rfl ?_
      refine y_getr (q := 73) dX11_back_67 flX11_13 (xlt rfl hn) rfl rfl rfl ?_
      refine y_iload_n dX11_back_70 rfl 1 rfl ?_
      refine y_aload_n dX11_back_71 rfl 0 rfl ?_
      refine y_getr (q := 84) dX11_back_72 flX11_46 (xlt rfl hn) rfl rfl rfl ?_
      refine y_iload_n dX11_back_75 rfl 1 rfl ?_
      refine z_iald (v := (w 84 v1.toNatClampNeg)) dX11_back_76 (xlt rfl hn) rfl rfl ?_
      refine y_iast dX11_back_77 (xlt rfl hn) rfl ?_
      refine z_iinc (j := 1) dX11_back_78 (by decide) rfl (by decide) (fun x61001 => ?_)
      refine y_loc (lv' := [(1, .int x61001), (0, .ref 71)]) rfl ?_
      refine y_goto (tgt := 61) dX11_back_81 (by decide) ?_
      refine y_sub [(0, .ref 71), (1, .int x61001)] [1, 0] rfl ?_
      exact ih x61001 (xup w 73 v1.toNatClampNeg (w 84 v1.toNatClampNeg)) 
set_option maxRecDepth 20000 in
set_option maxHeartbeats 2000000 in
theorem p_X11_back_L36 {G : xG} {d : Nat} {n t : Nat} (hn : 102 ≤ n) (hd : 0 ≤ d) : ∀ (fu : Nat) (v1 : Int32) (w : xI), xC G m_X11_back d 36 [(0, .ref 71), (1, .int v1)] [] (xFin n t) w (fun x : Int32 => some (Value.int x)) (xFin n t) (f_X11_back_L36 fu v1 w) := by
  intro fu
  induction fu with
  | zero => intro v1 w; exact xC.none
  | succ fu ih =>
    intro v1 w
    rw [f_X11_back_L36]
    refine y_iload_n dX11_back_36 rfl 1 rfl ?_
    refine y_iconst (v := 3) dX11_back_37 (by decide) ?_
    refine y_icmp_ge (tgt := 59) dX11_back_38 (by decide) ?_ ?_
    · refine y_iconst (v := 0) dX11_back_59 (by decide) ?_
      refine y_istore_n (lv' := [(1, .int (0 : Int32)), (0, .ref 71)]) dX11_back_60 rfl (by decide) rfl ?_
      refine y_sub [(0, .ref 71), (1, .int (0 : Int32))] [1, 0] rfl ?_
      refine p_X11_back_L61 hn hd 2000 (0 : Int32) w 
    · refine y_aload_n dX11_back_41 rfl 0 rfl ?_
      refine y_getr (q := 72) dX11_back_42 flX11_7 (xlt rfl hn) rfl rfl rfl ?_
      refine y_iload_n dX11_back_45 rfl 1 rfl ?_
      refine y_aload_n dX11_back_46 rfl 0 rfl ?_
      refine y_getr (q := 83) dX11_back_47 flX11_43 (xlt rfl hn) rfl rfl rfl ?_
      refine y_iload_n dX11_back_50 rfl 1 rfl ?_
      refine z_iald (v := (w 83 v1.toNatClampNeg)) dX11_back_51 (xlt rfl hn) rfl rfl ?_
      refine y_iast dX11_back_52 (xlt rfl hn) rfl ?_
      refine z_iinc (j := 1) dX11_back_53 (by decide) rfl (by decide) (fun x36001 => ?_)
      refine y_loc (lv' := [(1, .int x36001), (0, .ref 71)]) rfl ?_
      refine y_goto (tgt := 36) dX11_back_56 (by decide) ?_
      refine y_sub [(0, .ref 71), (1, .int x36001)] [1, 0] rfl ?_
      exact ih x36001 (xup w 72 v1.toNatClampNeg (w 83 v1.toNatClampNeg)) 
set_option maxRecDepth 20000 in
set_option maxHeartbeats 2000000 in
theorem p_X11_back {G : xG} {d : Nat} {n t : Nat} (hn : 102 ≤ n) (hd : 0 ≤ d) (w : xI) : xMet G m_X11_back d [.ref 71] (xFin n t) w (fun x : Int32 => some (Value.int x)) (xFin n t) (f_X11_back  w) := by
  refine xMet.of rfl (Nat.le_of_ble_eq_true rfl) ?_
  unfold f_X11_back
  show xC G m_X11_back d 0 [(0, .ref 71)] [] (xFin n t) w _ _ _
  refine y_aload_n dX11_back_0 rfl 0 rfl ?_
  refine z_geti (v := (w 71 16)) dX11_back_1 flX11_338 (xlt rfl hn) rfl rfl rfl ?_
  refine y_if_ne (tgt := 10) dX11_back_4 (by decide) ?_ ?_
  · refine y_aload_n dX11_back_10 rfl 0 rfl ?_
    refine y_aload_n dX11_back_11 rfl 0 rfl ?_
    refine z_geti (v := (w 71 17)) dX11_back_12 flX11_341 (xlt rfl hn) rfl rfl rfl ?_
    refine y_puti dX11_back_15 flX11_118 (xlt rfl hn) rfl rfl ?_
    refine y_aload_n dX11_back_18 rfl 0 rfl ?_
    refine y_aload_n dX11_back_19 rfl 0 rfl ?_
    refine z_geti (v := (w 71 18)) dX11_back_20 flX11_344 (xlt rfl hn) rfl rfl rfl ?_
    refine y_puti dX11_back_23 flX11_111 (xlt rfl hn) rfl rfl ?_
    refine y_aload_n dX11_back_26 rfl 0 rfl ?_
    refine y_aload_n dX11_back_27 rfl 0 rfl ?_
    refine z_geti (v := (w 71 19)) dX11_back_28 flX11_347 (xlt rfl hn) rfl rfl rfl ?_
    refine y_puti dX11_back_31 flX11_124 (xlt rfl hn) rfl rfl ?_
    refine y_iconst (v := 0) dX11_back_34 (by decide) ?_
    refine y_istore_n (lv' := [(1, .int (0 : Int32)), (0, .ref 71)]) dX11_back_35 rfl (by decide) rfl ?_
    refine y_sub [(0, .ref 71), (1, .int (0 : Int32))] [1, 0] rfl ?_
    refine p_X11_back_L36 hn hd 2000 (0 : Int32) (xup (xup (xup w 71 1 (w 71 17)) 71 3 (w 71 18)) 71 15 (w 71 19)) 
  · refine y_bipush (v := (-3)) dX11_back_7 (by decide) ?_
    exact y_ireturn dX11_back_9 rfl rfl rfl
-- ===== X11_sheet: WeighedGateModel.sheet(III)I =====
set_option maxRecDepth 20000 in
set_option maxHeartbeats 2000000 in
theorem p_X11_sheet_L70 {G : xG} {d : Nat} {n t : Nat} (hn : 102 ≤ n) (hd : 1 ≤ d) : ∀ (fu : Nat) (v1 : Int32) (v4 : Int32) (w : xI), xC G m_X11_sheet d 70 [(0, .ref 71), (1, .int v1), (4, .int v4)] [] (xFin n t) w (fun x : Int32 => some (Value.int x)) (xFin n t) (f_X11_sheet_L70 fu v1 v4 w) := by
  intro fu
  induction fu with
  | zero => intro v1 v4 w; exact xC.none
  | succ fu ih =>
    intro v1 v4 w
    rw [f_X11_sheet_L70]
    refine y_iload dX11_sheet_70 2 rfl ?_
    refine y_bipush (v := 40) dX11_sheet_72 (by decide) ?_
    refine y_icmp_ge (tgt := 96) dX11_sheet_74 (by decide) ?_ ?_
    · refine y_iconst (v := 1) dX11_sheet_96 (by decide) ?_
      exact y_ireturn dX11_sheet_97 rfl rfl rfl
    · refine y_aload_n dX11_sheet_77 rfl 0 rfl ?_
      refine y_getr (q := 89) dX11_sheet_78 flX11_61 (xlt rfl hn) rfl rfl rfl ?_
      refine y_bipush (v := 40) dX11_sheet_81 (by decide) ?_
      refine y_iload_n dX11_sheet_83 rfl 1 rfl ?_
      refine y_imul dX11_sheet_84 ?_
      refine y_iload dX11_sheet_85 2 rfl ?_
      refine y_iadd dX11_sheet_87 ?_
      refine y_iconst (v := 0) dX11_sheet_88 (by decide) ?_
      refine y_iast dX11_sheet_89 (xlt rfl hn) rfl ?_
      refine z_iinc (j := 2) dX11_sheet_90 (by decide) rfl (by decide) (fun x70001 => ?_)
      refine y_loc (lv' := [(4, .int x70001), (0, .ref 71), (1, .int v1)]) rfl ?_
      refine y_goto (tgt := 70) dX11_sheet_93 (by decide) ?_
      refine y_sub [(0, .ref 71), (1, .int v1), (4, .int x70001)] [1, 2, 0] rfl ?_
      exact ih v1 x70001 (xup w 89 (((40 : Int32) * v1) + v4).toNatClampNeg (0 : Int32)) 
set_option maxRecDepth 20000 in
set_option maxHeartbeats 2000000 in
theorem p_X11_sheet_L44 {G : xG} {d : Nat} {n t : Nat} (hn : 102 ≤ n) (hd : 1 ≤ d) (v1 : Int32) (v2 : Int32) (v3 : Int32) (w : xI) : xC G m_X11_sheet d 44 [(0, .ref 71), (1, .int v1), (2, .int v2), (3, .int v3)] [] (xFin n t) w (fun x : Int32 => some (Value.int x)) (xFin n t) (f_X11_sheet_L44 v1 v2 v3 w) := by
  unfold f_X11_sheet_L44
  refine y_aload_n dX11_sheet_44 rfl 0 rfl ?_
  refine y_getr (q := 87) dX11_sheet_45 flX11_55 (xlt rfl hn) rfl rfl rfl ?_
  refine y_iload_n dX11_sheet_48 rfl 1 rfl ?_
  refine y_iload_n dX11_sheet_49 rfl 2 rfl ?_
  refine y_iast dX11_sheet_50 (xlt rfl hn) rfl ?_
  refine y_aload_n dX11_sheet_51 rfl 0 rfl ?_
  refine y_getr (q := 88) dX11_sheet_52 flX11_58 (xlt rfl hn) rfl rfl rfl ?_
  refine y_iload_n dX11_sheet_55 rfl 1 rfl ?_
  refine y_iload_n dX11_sheet_56 rfl 2 rfl ?_
  refine y_iconst (v := (-1)) dX11_sheet_57 (by decide) ?_
  refine y_icmp_ne (tgt := 65) dX11_sheet_58 (by decide) ?_ ?_
  · refine y_iload_n dX11_sheet_65 rfl 3 rfl ?_
    refine y_iast dX11_sheet_66 (xlt rfl hn) rfl ?_
    refine y_iconst (v := 0) dX11_sheet_67 (by decide) ?_
    refine y_istore (lv' := [(4, .int (0 : Int32)), (0, .ref 71), (1, .int v1), (2, .int v2), (3, .int v3)]) dX11_sheet_68 (by decide) rfl ?_
    refine y_sub [(0, .ref 71), (1, .int v1), (4, .int (0 : Int32))] [1, 2, 0] rfl ?_
    refine p_X11_sheet_L70 hn hd 2000 v1 (0 : Int32) (xup (xup w 87 v1.toNatClampNeg v2) 88 v1.toNatClampNeg v3) 
  · refine y_iconst (v := 0) dX11_sheet_61 (by decide) ?_
    refine y_goto (tgt := 66) dX11_sheet_62 (by decide) ?_
    refine y_iast dX11_sheet_66 (xlt rfl hn) rfl ?_
    refine y_iconst (v := 0) dX11_sheet_67 (by decide) ?_
    refine y_istore (lv' := [(4, .int (0 : Int32)), (0, .ref 71), (1, .int v1), (2, .int v2), (3, .int v3)]) dX11_sheet_68 (by decide) rfl ?_
    refine y_sub [(0, .ref 71), (1, .int v1), (4, .int (0 : Int32))] [1, 2, 0] rfl ?_
    refine p_X11_sheet_L70 hn hd 2000 v1 (0 : Int32) (xup (xup w 87 v1.toNatClampNeg v2) 88 v1.toNatClampNeg (0 : Int32)) 
set_option maxRecDepth 20000 in
set_option maxHeartbeats 2000000 in
theorem p_X11_sheet {G : xG} {d : Nat} {n t : Nat} (hn : 102 ≤ n) (hd : 1 ≤ d) (a1 : Int32) (a2 : Int32) (a3 : Int32) (w : xI) : xMet G m_X11_sheet d [.ref 71, .int a1, .int a2, .int a3] (xFin n t) w (fun x : Int32 => some (Value.int x)) (xFin n t) (f_X11_sheet a1 a2 a3 w) := by
  refine xMet.of rfl (Nat.le_of_ble_eq_true rfl) ?_
  unfold f_X11_sheet
  show xC G m_X11_sheet d 0 [(0, .ref 71), (1, .int a1), (2, .int a2), (3, .int a3)] [] (xFin n t) w _ _ _
  refine y_iload_n dX11_sheet_0 rfl 1 rfl ?_
  refine y_iconst (v := 0) dX11_sheet_1 (by decide) ?_
  refine y_iconst (v := 3) dX11_sheet_2 (by decide) ?_
  refine y_callS (As := [.int a1, .int (0 : Int32), .int (3 : Int32)]) (d2 := d - 1) dX11_sheet_3 kX11_114 (by omega) rfl rfl (Nat.le_of_ble_eq_true rfl) (p_X11_in hn (by omega)  _ _ _ _) (fun r1 w2 _ => ?_)
  refine y_if_eq (tgt := 29) dX11_sheet_6 (by decide) ?_ ?_
  · refine y_bipush (v := (-2)) dX11_sheet_29 (by decide) ?_
    exact y_ireturn dX11_sheet_31 rfl rfl rfl
  · refine y_iload_n dX11_sheet_9 rfl 2 rfl ?_
    refine y_iconst (v := (-1)) dX11_sheet_10 (by decide) ?_
    refine y_iconst (v := 2) dX11_sheet_11 (by decide) ?_
    refine y_callS (As := [.int a2, .int (-1 : Int32), .int (2 : Int32)]) (d2 := d - 1) dX11_sheet_12 kX11_114 (by omega) rfl rfl (Nat.le_of_ble_eq_true rfl) (p_X11_in hn (by omega)  _ _ _ _) (fun r3 w4 _ => ?_)
    refine y_if_eq (tgt := 29) dX11_sheet_15 (by decide) ?_ ?_
    · refine y_bipush (v := (-2)) dX11_sheet_29 (by decide) ?_
      exact y_ireturn dX11_sheet_31 rfl rfl rfl
    · refine y_iload_n dX11_sheet_18 rfl 2 rfl ?_
      refine y_iconst (v := (-1)) dX11_sheet_19 (by decide) ?_
      refine y_icmp_eq (tgt := 32) dX11_sheet_20 (by decide) ?_ ?_
      · refine y_iload_n dX11_sheet_32 rfl 2 rfl ?_
        refine y_iconst (v := (-1)) dX11_sheet_33 (by decide) ?_
        refine y_icmp_eq (tgt := 44) dX11_sheet_34 (by decide) ?_ ?_
        · refine p_X11_sheet_L44 hn hd a1 a2 a3 w4 
        · refine y_iload_n dX11_sheet_37 rfl 3 rfl ?_
          refine y_if_ge (tgt := 44) dX11_sheet_38 (by decide) ?_ ?_
          · refine p_X11_sheet_L44 hn hd a1 a2 a3 w4 
          · refine y_bipush (v := (-14)) dX11_sheet_41 (by decide) ?_
            exact y_ireturn dX11_sheet_43 rfl rfl rfl
      · refine y_iload_n dX11_sheet_23 rfl 3 rfl ?_
        refine y_bipush (v := 40) dX11_sheet_24 (by decide) ?_
        refine y_icmp_le (tgt := 32) dX11_sheet_26 (by decide) ?_ ?_
        · refine y_iload_n dX11_sheet_32 rfl 2 rfl ?_
          refine y_iconst (v := (-1)) dX11_sheet_33 (by decide) ?_
          refine y_icmp_eq (tgt := 44) dX11_sheet_34 (by decide) ?_ ?_
          · refine p_X11_sheet_L44 hn hd a1 a2 a3 w4 
          · refine y_iload_n dX11_sheet_37 rfl 3 rfl ?_
            refine y_if_ge (tgt := 44) dX11_sheet_38 (by decide) ?_ ?_
            · refine p_X11_sheet_L44 hn hd a1 a2 a3 w4 
            · refine y_bipush (v := (-14)) dX11_sheet_41 (by decide) ?_
              exact y_ireturn dX11_sheet_43 rfl rfl rfl
        · refine y_bipush (v := (-2)) dX11_sheet_29 (by decide) ?_
          exact y_ireturn dX11_sheet_31 rfl rfl rfl
-- ===== X11_cell: WeighedGateModel.cell(III)I =====
set_option maxRecDepth 20000 in
set_option maxHeartbeats 2000000 in
theorem p_X11_cell {G : xG} {d : Nat} {n t : Nat} (hn : 102 ≤ n) (hd : 1 ≤ d) (a1 : Int32) (a2 : Int32) (a3 : Int32) (w : xI) : xMet G m_X11_cell d [.ref 71, .int a1, .int a2, .int a3] (xFin n t) w (fun x : Int32 => some (Value.int x)) (xFin n t) (f_X11_cell a1 a2 a3 w) := by
  refine xMet.of rfl (Nat.le_of_ble_eq_true rfl) ?_
  unfold f_X11_cell
  show xC G m_X11_cell d 0 [(0, .ref 71), (1, .int a1), (2, .int a2), (3, .int a3)] [] (xFin n t) w _ _ _
  refine y_iload_n dX11_cell_0 rfl 1 rfl ?_
  refine y_iconst (v := 0) dX11_cell_1 (by decide) ?_
  refine y_iconst (v := 3) dX11_cell_2 (by decide) ?_
  refine y_callS (As := [.int a1, .int (0 : Int32), .int (3 : Int32)]) (d2 := d - 1) dX11_cell_3 kX11_114 (by omega) rfl rfl (Nat.le_of_ble_eq_true rfl) (p_X11_in hn (by omega)  _ _ _ _) (fun r1 w2 _ => ?_)
  refine y_if_ne (tgt := 12) dX11_cell_6 (by decide) ?_ ?_
  · refine y_aload_n dX11_cell_12 rfl 0 rfl ?_
    refine y_getr (q := 87) dX11_cell_13 flX11_55 (xlt rfl hn) rfl rfl rfl ?_
    refine y_iload_n dX11_cell_16 rfl 1 rfl ?_
    refine z_iald (v := (w2 87 a1.toNatClampNeg)) dX11_cell_17 (xlt rfl hn) rfl rfl ?_
    refine y_iconst (v := (-1)) dX11_cell_18 (by decide) ?_
    refine y_icmp_ne (tgt := 25) dX11_cell_19 (by decide) ?_ ?_
    · refine y_iload_n dX11_cell_25 rfl 2 rfl ?_
      refine y_iconst (v := 0) dX11_cell_26 (by decide) ?_
      refine y_aload_n dX11_cell_27 rfl 0 rfl ?_
      refine y_getr (q := 88) dX11_cell_28 flX11_58 (xlt rfl hn) rfl rfl rfl ?_
      refine y_iload_n dX11_cell_31 rfl 1 rfl ?_
      refine z_iald (v := (w2 88 a1.toNatClampNeg)) dX11_cell_32 (xlt rfl hn) rfl rfl ?_
      refine y_iconst (v := 1) dX11_cell_33 (by decide) ?_
      refine y_isub dX11_cell_34 ?_
      refine y_callS (As := [.int a2, .int (0 : Int32), .int ((w2 88 a1.toNatClampNeg) - (1 : Int32))]) (d2 := d - 1) dX11_cell_35 kX11_114 (by omega) rfl rfl (Nat.le_of_ble_eq_true rfl) (p_X11_in hn (by omega)  _ _ _ _) (fun r3 w4 _ => ?_)
      refine y_if_ne (tgt := 44) dX11_cell_38 (by decide) ?_ ?_
      · refine y_aload_n dX11_cell_44 rfl 0 rfl ?_
        refine y_getr (q := 89) dX11_cell_45 flX11_61 (xlt rfl hn) rfl rfl rfl ?_
        refine y_bipush (v := 40) dX11_cell_48 (by decide) ?_
        refine y_iload_n dX11_cell_50 rfl 1 rfl ?_
        refine y_imul dX11_cell_51 ?_
        refine y_iload_n dX11_cell_52 rfl 2 rfl ?_
        refine y_iadd dX11_cell_53 ?_
        refine y_aload_n dX11_cell_54 rfl 0 rfl ?_
        refine y_getr (q := 87) dX11_cell_55 flX11_55 (xlt rfl hn) rfl rfl rfl ?_
        refine y_iload_n dX11_cell_58 rfl 1 rfl ?_
        refine z_iald (v := (w4 87 a1.toNatClampNeg)) dX11_cell_59 (xlt rfl hn) rfl rfl ?_
        refine y_if_ne (tgt := 68) dX11_cell_60 (by decide) ?_ ?_
        · refine y_aload_n dX11_cell_68 rfl 0 rfl ?_
          refine y_getr (q := 87) dX11_cell_69 flX11_55 (xlt rfl hn) rfl rfl rfl ?_
          refine y_iload_n dX11_cell_72 rfl 1 rfl ?_
          refine z_iald (v := (w4 87 a1.toNatClampNeg)) dX11_cell_73 (xlt rfl hn) rfl rfl ?_
          refine y_iconst (v := 1) dX11_cell_74 (by decide) ?_
          refine y_icmp_ne (tgt := 83) dX11_cell_75 (by decide) ?_ ?_
          · refine y_iload_n dX11_cell_83 rfl 3 rfl ?_
            refine y_iast dX11_cell_84 (xlt rfl hn) rfl ?_
            refine y_iconst (v := 1) dX11_cell_85 (by decide) ?_
            exact y_ireturn dX11_cell_86 rfl rfl rfl
          · refine y_iload_n dX11_cell_78 rfl 3 rfl ?_
            refine y_i2s dX11_cell_79 ?_
            refine y_goto (tgt := 84) dX11_cell_80 (by decide) ?_
            refine y_iast dX11_cell_84 (xlt rfl hn) rfl ?_
            refine y_iconst (v := 1) dX11_cell_85 (by decide) ?_
            exact y_ireturn dX11_cell_86 rfl rfl rfl
        · refine y_iload_n dX11_cell_63 rfl 3 rfl ?_
          refine y_i2b dX11_cell_64 ?_
          refine y_goto (tgt := 84) dX11_cell_65 (by decide) ?_
          refine y_iast dX11_cell_84 (xlt rfl hn) rfl ?_
          refine y_iconst (v := 1) dX11_cell_85 (by decide) ?_
          exact y_ireturn dX11_cell_86 rfl rfl rfl
      · refine y_bipush (v := (-12)) dX11_cell_41 (by decide) ?_
        exact y_ireturn dX11_cell_43 rfl rfl rfl
    · refine y_bipush (v := (-11)) dX11_cell_22 (by decide) ?_
      exact y_ireturn dX11_cell_24 rfl rfl rfl
  · refine y_bipush (v := (-2)) dX11_cell_9 (by decide) ?_
    exact y_ireturn dX11_cell_11 rfl rfl rfl
-- ===== X11_copy: WeighedGateModel.copy(IIIII)I =====
set_option maxRecDepth 20000 in
set_option maxHeartbeats 2000000 in
theorem p_X11_copy_L147 {G : xG} {d : Nat} {n t : Nat} (hn : 102 ≤ n) (hd : 1 ≤ d) : ∀ (fu : Nat) (v5 : Int32) (v6 : Int32) (v7 : Int32) (v8 : Int32) (w : xI), xC G m_X11_copy d 147 [(0, .ref 71), (5, .int v5), (6, .int v6), (7, .int v7), (8, .int v8)] [] (xFin n t) w (fun x : Int32 => some (Value.int x)) (xFin n t) (f_X11_copy_L147 fu v5 v6 v7 v8 w) := by
  intro fu
  induction fu with
  | zero => intro v5 v6 v7 v8 w; exact xC.none
  | succ fu ih =>
    intro v5 v6 v7 v8 w
    rw [f_X11_copy_L147]
    refine y_iload dX11_copy_147 4 rfl ?_
    refine y_iload dX11_copy_149 1 rfl ?_
    refine y_icmp_ge (tgt := 201) dX11_copy_151 (by decide) ?_ ?_
    · refine y_iload dX11_copy_201 1 rfl ?_
      exact y_ireturn dX11_copy_203 rfl rfl rfl
    · refine y_iload dX11_copy_154 2 rfl ?_
      refine y_iload dX11_copy_156 3 rfl ?_
      refine y_icmp_ge (tgt := 171) dX11_copy_158 (by decide) ?_ ?_
      · refine y_iload dX11_copy_171 4 rfl ?_
        refine y_istore (lv' := [(9, .int v8), (0, .ref 71), (5, .int v5), (6, .int v6), (7, .int v7), (8, .int v8)]) dX11_copy_173 (by decide) rfl ?_
        refine y_aload_n dX11_copy_175 rfl 1 rfl ?_
        refine y_getr (q := 89) dX11_copy_176 flX11_61 (xlt rfl hn) rfl rfl rfl ?_
        refine y_iload dX11_copy_179 4 rfl ?_
        refine y_iload dX11_copy_181 0 rfl ?_
        refine y_iadd dX11_copy_183 ?_
        refine y_aload_n dX11_copy_184 rfl 1 rfl ?_
        refine y_getr (q := 89) dX11_copy_185 flX11_61 (xlt rfl hn) rfl rfl rfl ?_
        refine y_iload dX11_copy_188 3 rfl ?_
        refine y_iload dX11_copy_190 0 rfl ?_
        refine y_iadd dX11_copy_192 ?_
        refine z_iald (v := (w 89 (v6 + v8).toNatClampNeg)) dX11_copy_193 (xlt rfl hn) rfl rfl ?_
        refine y_iast dX11_copy_194 (xlt rfl hn) rfl ?_
        refine z_iinc (j := 5) dX11_copy_195 (by decide) rfl (by decide) (fun x147001 => ?_)
        refine y_loc (lv' := [(8, .int x147001), (9, .int v8), (0, .ref 71), (5, .int v5), (6, .int v6), (7, .int v7)]) rfl ?_
        refine y_goto (tgt := 147) dX11_copy_198 (by decide) ?_
        refine y_sub [(0, .ref 71), (5, .int v5), (6, .int v6), (7, .int v7), (8, .int x147001)] [2, 3, 4, 5, 0] rfl ?_
        exact ih v5 v6 v7 x147001 (xup w 89 (v7 + v8).toNatClampNeg (w 89 (v6 + v8).toNatClampNeg)) 
      · refine y_iload dX11_copy_161 1 rfl ?_
        refine y_iconst (v := 1) dX11_copy_163 (by decide) ?_
        refine y_isub dX11_copy_164 ?_
        refine y_iload dX11_copy_165 4 rfl ?_
        refine y_isub dX11_copy_167 ?_
        refine y_goto (tgt := 173) dX11_copy_168 (by decide) ?_
        refine y_let (fun x147002 => ?_)
        refine y_istore (lv' := [(9, .int x147002), (0, .ref 71), (5, .int v5), (6, .int v6), (7, .int v7), (8, .int v8)]) dX11_copy_173 (by decide) rfl ?_
        refine y_aload_n dX11_copy_175 rfl 1 rfl ?_
        refine y_getr (q := 89) dX11_copy_176 flX11_61 (xlt rfl hn) rfl rfl rfl ?_
        refine y_iload dX11_copy_179 4 rfl ?_
        refine y_iload dX11_copy_181 0 rfl ?_
        refine y_iadd dX11_copy_183 ?_
        refine y_aload_n dX11_copy_184 rfl 1 rfl ?_
        refine y_getr (q := 89) dX11_copy_185 flX11_61 (xlt rfl hn) rfl rfl rfl ?_
        refine y_iload dX11_copy_188 3 rfl ?_
        refine y_iload dX11_copy_190 0 rfl ?_
        refine y_iadd dX11_copy_192 ?_
        refine z_iald (v := (w 89 (v6 + x147002).toNatClampNeg)) dX11_copy_193 (xlt rfl hn) rfl rfl ?_
        refine y_iast dX11_copy_194 (xlt rfl hn) rfl ?_
        refine z_iinc (j := 5) dX11_copy_195 (by decide) rfl (by decide) (fun x147003 => ?_)
        refine y_loc (lv' := [(8, .int x147003), (9, .int x147002), (0, .ref 71), (5, .int v5), (6, .int v6), (7, .int v7)]) rfl ?_
        refine y_goto (tgt := 147) dX11_copy_198 (by decide) ?_
        refine y_sub [(0, .ref 71), (5, .int v5), (6, .int v6), (7, .int v7), (8, .int x147003)] [2, 3, 4, 5, 0] rfl ?_
        exact ih v5 v6 v7 x147003 (xup w 89 (v7 + x147002).toNatClampNeg (w 89 (v6 + x147002).toNatClampNeg)) 
set_option maxRecDepth 20000 in
set_option maxHeartbeats 2000000 in
theorem p_X11_copy {G : xG} {d : Nat} {n t : Nat} (hn : 102 ≤ n) (hd : 1 ≤ d) (a1 : Int32) (a2 : Int32) (a3 : Int32) (a4 : Int32) (a5 : Int32) (w : xI) : xMet G m_X11_copy d [.ref 71, .int a1, .int a2, .int a3, .int a4, .int a5] (xFin n t) w (fun x : Int32 => some (Value.int x)) (xFin n t) (f_X11_copy a1 a2 a3 a4 a5 w) := by
  refine xMet.of rfl (Nat.le_of_ble_eq_true rfl) ?_
  unfold f_X11_copy
  show xC G m_X11_copy d 0 [(0, .ref 71), (1, .int a1), (2, .int a2), (3, .int a3), (4, .int a4), (5, .int a5)] [] (xFin n t) w _ _ _
  refine y_iload_n dX11_copy_0 rfl 1 rfl ?_
  refine y_iconst (v := 0) dX11_copy_1 (by decide) ?_
  refine y_iconst (v := 3) dX11_copy_2 (by decide) ?_
  refine y_callS (As := [.int a1, .int (0 : Int32), .int (3 : Int32)]) (d2 := d - 1) dX11_copy_3 kX11_114 (by omega) rfl rfl (Nat.le_of_ble_eq_true rfl) (p_X11_in hn (by omega)  _ _ _ _) (fun r1 w2 _ => ?_)
  refine y_if_eq (tgt := 18) dX11_copy_6 (by decide) ?_ ?_
  · refine y_bipush (v := (-2)) dX11_copy_18 (by decide) ?_
    exact y_ireturn dX11_copy_20 rfl rfl rfl
  · refine y_iload_n dX11_copy_9 rfl 3 rfl ?_
    refine y_iconst (v := 0) dX11_copy_10 (by decide) ?_
    refine y_iconst (v := 3) dX11_copy_11 (by decide) ?_
    refine y_callS (As := [.int a3, .int (0 : Int32), .int (3 : Int32)]) (d2 := d - 1) dX11_copy_12 kX11_114 (by omega) rfl rfl (Nat.le_of_ble_eq_true rfl) (p_X11_in hn (by omega)  _ _ _ _) (fun r3 w4 _ => ?_)
    refine y_if_ne (tgt := 21) dX11_copy_15 (by decide) ?_ ?_
    · refine y_aload_n dX11_copy_21 rfl 0 rfl ?_
      refine y_getr (q := 87) dX11_copy_22 flX11_55 (xlt rfl hn) rfl rfl rfl ?_
      refine y_iload_n dX11_copy_25 rfl 1 rfl ?_
      refine z_iald (v := (w4 87 a1.toNatClampNeg)) dX11_copy_26 (xlt rfl hn) rfl rfl ?_
      refine y_iconst (v := (-1)) dX11_copy_27 (by decide) ?_
      refine y_icmp_eq (tgt := 41) dX11_copy_28 (by decide) ?_ ?_
      · refine y_bipush (v := (-11)) dX11_copy_41 (by decide) ?_
        exact y_ireturn dX11_copy_43 rfl rfl rfl
      · refine y_aload_n dX11_copy_31 rfl 0 rfl ?_
        refine y_getr (q := 87) dX11_copy_32 flX11_55 (xlt rfl hn) rfl rfl rfl ?_
        refine y_iload_n dX11_copy_35 rfl 3 rfl ?_
        refine z_iald (v := (w4 87 a3.toNatClampNeg)) dX11_copy_36 (xlt rfl hn) rfl rfl ?_
        refine y_iconst (v := (-1)) dX11_copy_37 (by decide) ?_
        refine y_icmp_ne (tgt := 44) dX11_copy_38 (by decide) ?_ ?_
        · refine y_aload_n dX11_copy_44 rfl 0 rfl ?_
          refine y_getr (q := 87) dX11_copy_45 flX11_55 (xlt rfl hn) rfl rfl rfl ?_
          refine y_iload_n dX11_copy_48 rfl 1 rfl ?_
          refine z_iald (v := (w4 87 a1.toNatClampNeg)) dX11_copy_49 (xlt rfl hn) rfl rfl ?_
          refine y_aload_n dX11_copy_50 rfl 0 rfl ?_
          refine y_getr (q := 87) dX11_copy_51 flX11_55 (xlt rfl hn) rfl rfl rfl ?_
          refine y_iload_n dX11_copy_54 rfl 3 rfl ?_
          refine z_iald (v := (w4 87 a3.toNatClampNeg)) dX11_copy_55 (xlt rfl hn) rfl rfl ?_
          refine y_icmp_eq (tgt := 62) dX11_copy_56 (by decide) ?_ ?_
          · refine y_iload dX11_copy_62 5 rfl ?_
            refine y_if_lt (tgt := 124) dX11_copy_64 (by decide) ?_ ?_
            · refine y_bipush (v := (-12)) dX11_copy_124 (by decide) ?_
              exact y_ireturn dX11_copy_126 rfl rfl rfl
            · refine y_iload_n dX11_copy_67 rfl 2 rfl ?_
              refine y_if_lt (tgt := 124) dX11_copy_68 (by decide) ?_ ?_
              · refine y_bipush (v := (-12)) dX11_copy_124 (by decide) ?_
                exact y_ireturn dX11_copy_126 rfl rfl rfl
              · refine y_iload dX11_copy_71 4 rfl ?_
                refine y_if_lt (tgt := 124) dX11_copy_73 (by decide) ?_ ?_
                · refine y_bipush (v := (-12)) dX11_copy_124 (by decide) ?_
                  exact y_ireturn dX11_copy_126 rfl rfl rfl
                · refine y_iload_n dX11_copy_76 rfl 2 rfl ?_
                  refine y_aload_n dX11_copy_77 rfl 0 rfl ?_
                  refine y_getr (q := 88) dX11_copy_78 flX11_58 (xlt rfl hn) rfl rfl rfl ?_
                  refine y_iload_n dX11_copy_81 rfl 1 rfl ?_
                  refine z_iald (v := (w4 88 a1.toNatClampNeg)) dX11_copy_82 (xlt rfl hn) rfl rfl ?_
                  refine y_icmp_gt (tgt := 124) dX11_copy_83 (by decide) ?_ ?_
                  · refine y_bipush (v := (-12)) dX11_copy_124 (by decide) ?_
                    exact y_ireturn dX11_copy_126 rfl rfl rfl
                  · refine y_iload dX11_copy_86 4 rfl ?_
                    refine y_aload_n dX11_copy_88 rfl 0 rfl ?_
                    refine y_getr (q := 88) dX11_copy_89 flX11_58 (xlt rfl hn) rfl rfl rfl ?_
                    refine y_iload_n dX11_copy_92 rfl 3 rfl ?_
                    refine z_iald (v := (w4 88 a3.toNatClampNeg)) dX11_copy_93 (xlt rfl hn) rfl rfl ?_
                    refine y_icmp_gt (tgt := 124) dX11_copy_94 (by decide) ?_ ?_
                    · refine y_bipush (v := (-12)) dX11_copy_124 (by decide) ?_
                      exact y_ireturn dX11_copy_126 rfl rfl rfl
                    · refine y_iload dX11_copy_97 5 rfl ?_
                      refine y_aload_n dX11_copy_99 rfl 0 rfl ?_
                      refine y_getr (q := 88) dX11_copy_100 flX11_58 (xlt rfl hn) rfl rfl rfl ?_
                      refine y_iload_n dX11_copy_103 rfl 1 rfl ?_
                      refine z_iald (v := (w4 88 a1.toNatClampNeg)) dX11_copy_104 (xlt rfl hn) rfl rfl ?_
                      refine y_iload_n dX11_copy_105 rfl 2 rfl ?_
                      refine y_isub dX11_copy_106 ?_
                      refine y_icmp_gt (tgt := 124) dX11_copy_107 (by decide) ?_ ?_
                      · refine y_bipush (v := (-12)) dX11_copy_124 (by decide) ?_
                        exact y_ireturn dX11_copy_126 rfl rfl rfl
                      · refine y_iload dX11_copy_110 5 rfl ?_
                        refine y_aload_n dX11_copy_112 rfl 0 rfl ?_
                        refine y_getr (q := 88) dX11_copy_113 flX11_58 (xlt rfl hn) rfl rfl rfl ?_
                        refine y_iload_n dX11_copy_116 rfl 3 rfl ?_
                        refine z_iald (v := (w4 88 a3.toNatClampNeg)) dX11_copy_117 (xlt rfl hn) rfl rfl ?_
                        refine y_iload dX11_copy_118 4 rfl ?_
                        refine y_isub dX11_copy_120 ?_
                        refine y_icmp_le (tgt := 127) dX11_copy_121 (by decide) ?_ ?_
                        · refine y_bipush (v := 40) dX11_copy_127 (by decide) ?_
                          refine y_iload_n dX11_copy_129 rfl 1 rfl ?_
                          refine y_imul dX11_copy_130 ?_
                          refine y_iload_n dX11_copy_131 rfl 2 rfl ?_
                          refine y_iadd dX11_copy_132 ?_
                          refine y_let (fun x5 => ?_)
                          refine y_istore (lv' := [(6, .int x5), (0, .ref 71), (1, .int a1), (2, .int a2), (3, .int a3), (4, .int a4), (5, .int a5)]) dX11_copy_133 (by decide) rfl ?_
                          refine y_bipush (v := 40) dX11_copy_135 (by decide) ?_
                          refine y_iload_n dX11_copy_137 rfl 4 rfl ?_
                          refine y_imul dX11_copy_138 ?_
                          refine y_iload dX11_copy_139 5 rfl ?_
                          refine y_iadd dX11_copy_141 ?_
                          refine y_let (fun x6 => ?_)
                          refine y_istore (lv' := [(7, .int x6), (6, .int x5), (0, .ref 71), (1, .int a1), (2, .int a2), (3, .int a3), (4, .int a4), (5, .int a5)]) dX11_copy_142 (by decide) rfl ?_
                          refine y_iconst (v := 0) dX11_copy_144 (by decide) ?_
                          refine y_istore (lv' := [(8, .int (0 : Int32)), (7, .int x6), (6, .int x5), (0, .ref 71), (1, .int a1), (2, .int a2), (3, .int a3), (4, .int a4), (5, .int a5)]) dX11_copy_145 (by decide) rfl ?_
                          refine y_sub [(0, .ref 71), (5, .int a5), (6, .int x5), (7, .int x6), (8, .int (0 : Int32))] [3, 8, 2, 1, 0] rfl ?_
                          refine p_X11_copy_L147 hn hd 2000 a5 x5 x6 (0 : Int32) w4 
                        · refine y_bipush (v := (-12)) dX11_copy_124 (by decide) ?_
                          exact y_ireturn dX11_copy_126 rfl rfl rfl
          · refine y_bipush (v := (-13)) dX11_copy_59 (by decide) ?_
            exact y_ireturn dX11_copy_61 rfl rfl rfl
        · refine y_bipush (v := (-11)) dX11_copy_41 (by decide) ?_
          exact y_ireturn dX11_copy_43 rfl rfl rfl
    · refine y_bipush (v := (-2)) dX11_copy_18 (by decide) ?_
      exact y_ireturn dX11_copy_20 rfl rfl rfl
-- ===== X11_cartsBy: WeighedGateModel.cartsBy(IIII)I =====
set_option maxRecDepth 20000 in
set_option maxHeartbeats 2000000 in
theorem p_X11_cartsBy_L64 {G : xG} {d : Nat} {n t : Nat} (hn : 102 ≤ n) (hd : 2 ≤ d) : ∀ (fu : Nat) (v1 : Int32) (v3 : Int32) (v4 : Int32) (v5 : Int32) (v6 : Int32) (w : xI), xC G m_X11_cartsBy d 64 [(0, .ref 71), (1, .int v1), (3, .int v3), (4, .int v4), (5, .int v5), (6, .int v6)] [] (xFin n t) w (fun x : Int32 => some (Value.int x)) (xFin n t) (f_X11_cartsBy_L64 fu v1 v3 v4 v5 v6 w) := by
  intro fu
  induction fu with
  | zero => intro v1 v3 v4 v5 v6 w; exact xC.none
  | succ fu ih =>
    intro v1 v3 v4 v5 v6 w
    rw [f_X11_cartsBy_L64]
    refine y_iload dX11_cartsBy_64 5 rfl ?_
    refine y_iload dX11_cartsBy_66 3 rfl ?_
    refine y_icmp_ge (tgt := 180) dX11_cartsBy_68 (by decide) ?_ ?_
    · refine y_iload dX11_cartsBy_180 4 rfl ?_
      exact y_ireturn dX11_cartsBy_182 rfl rfl rfl
    · refine y_iload_n dX11_cartsBy_71 rfl 2 rfl ?_
      refine y_iconst (v := 5) dX11_cartsBy_72 (by decide) ?_
      refine y_iload dX11_cartsBy_73 5 rfl ?_
      refine y_imul dX11_cartsBy_75 ?_
      refine y_iadd dX11_cartsBy_76 ?_
      refine y_let (fun x64001 => ?_)
      refine y_istore (lv' := [(7, .int x64001), (0, .ref 71), (1, .int v1), (3, .int v3), (4, .int v4), (5, .int v5), (6, .int v6)]) dX11_cartsBy_77 (by decide) rfl ?_
      refine y_iload_n dX11_cartsBy_79 rfl 3 rfl ?_
      refine y_if_lt (tgt := 102) dX11_cartsBy_80 (by decide) ?_ ?_
      · refine y_bipush (v := (-12)) dX11_cartsBy_102 (by decide) ?_
        exact y_ireturn dX11_cartsBy_104 rfl rfl rfl
      · refine y_iload dX11_cartsBy_83 0 rfl ?_
        refine y_iload_n dX11_cartsBy_85 rfl 3 rfl ?_
        refine y_icmp_lt (tgt := 102) dX11_cartsBy_86 (by decide) ?_ ?_
        · refine y_bipush (v := (-12)) dX11_cartsBy_102 (by decide) ?_
          exact y_ireturn dX11_cartsBy_104 rfl rfl rfl
        · refine y_iload dX11_cartsBy_89 0 rfl ?_
          refine y_aload_n dX11_cartsBy_91 rfl 1 rfl ?_
          refine y_getr (q := 88) dX11_cartsBy_92 flX11_58 (xlt rfl hn) rfl rfl rfl ?_
          refine y_iload_n dX11_cartsBy_95 rfl 2 rfl ?_
          refine z_iald (v := (w 88 v1.toNatClampNeg)) dX11_cartsBy_96 (xlt rfl hn) rfl rfl ?_
          refine y_iconst (v := 5) dX11_cartsBy_97 (by decide) ?_
          refine y_isub dX11_cartsBy_98 ?_
          refine y_icmp_le (tgt := 105) dX11_cartsBy_99 (by decide) ?_ ?_
          · refine y_bipush (v := 40) dX11_cartsBy_105 (by decide) ?_
            refine y_iload_n dX11_cartsBy_107 rfl 2 rfl ?_
            refine y_imul dX11_cartsBy_108 ?_
            refine y_iload dX11_cartsBy_109 0 rfl ?_
            refine y_iadd dX11_cartsBy_111 ?_
            refine y_let (fun x64002 => ?_)
            refine y_istore (lv' := [(8, .int x64002), (7, .int x64001), (0, .ref 71), (1, .int v1), (3, .int v3), (4, .int v4), (5, .int v5), (6, .int v6)]) dX11_cartsBy_112 (by decide) rfl ?_
            refine y_iload dX11_cartsBy_114 6 rfl ?_
            refine y_aload_n dX11_cartsBy_116 rfl 2 rfl ?_
            refine y_aload_n dX11_cartsBy_117 rfl 2 rfl ?_
            refine y_getr (q := 89) dX11_cartsBy_118 flX11_61 (xlt rfl hn) rfl rfl rfl ?_
            refine y_iload dX11_cartsBy_121 0 rfl ?_
            refine z_iald (v := (w 89 x64002.toNatClampNeg)) dX11_cartsBy_123 (xlt rfl hn) rfl rfl ?_
            refine y_aload_n dX11_cartsBy_124 rfl 2 rfl ?_
            refine y_getr (q := 89) dX11_cartsBy_125 flX11_61 (xlt rfl hn) rfl rfl rfl ?_
            refine y_iload dX11_cartsBy_128 0 rfl ?_
            refine y_iconst (v := 1) dX11_cartsBy_130 (by decide) ?_
            refine y_iadd dX11_cartsBy_131 ?_
            refine z_iald (v := (w 89 (x64002 + (1 : Int32)).toNatClampNeg)) dX11_cartsBy_132 (xlt rfl hn) rfl rfl ?_
            refine y_aload_n dX11_cartsBy_133 rfl 2 rfl ?_
            refine y_getr (q := 89) dX11_cartsBy_134 flX11_61 (xlt rfl hn) rfl rfl rfl ?_
            refine y_iload dX11_cartsBy_137 0 rfl ?_
            refine y_iconst (v := 2) dX11_cartsBy_139 (by decide) ?_
            refine y_iadd dX11_cartsBy_140 ?_
            refine z_iald (v := (w 89 (x64002 + (2 : Int32)).toNatClampNeg)) dX11_cartsBy_141 (xlt rfl hn) rfl rfl ?_
            refine y_aload_n dX11_cartsBy_142 rfl 2 rfl ?_
            refine y_getr (q := 89) dX11_cartsBy_143 flX11_61 (xlt rfl hn) rfl rfl rfl ?_
            refine y_iload dX11_cartsBy_146 0 rfl ?_
            refine y_iconst (v := 3) dX11_cartsBy_148 (by decide) ?_
            refine y_iadd dX11_cartsBy_149 ?_
            refine z_iald (v := (w 89 (x64002 + (3 : Int32)).toNatClampNeg)) dX11_cartsBy_150 (xlt rfl hn) rfl rfl ?_
            refine y_aload_n dX11_cartsBy_151 rfl 2 rfl ?_
            refine y_getr (q := 89) dX11_cartsBy_152 flX11_61 (xlt rfl hn) rfl rfl rfl ?_
            refine y_iload dX11_cartsBy_155 0 rfl ?_
            refine y_iconst (v := 4) dX11_cartsBy_157 (by decide) ?_
            refine y_iadd dX11_cartsBy_158 ?_
            refine z_iald (v := (w 89 (x64002 + (4 : Int32)).toNatClampNeg)) dX11_cartsBy_159 (xlt rfl hn) rfl rfl ?_
            refine y_callV (As := [.int (w 89 x64002.toNatClampNeg), .int (w 89 (x64002 + (1 : Int32)).toNatClampNeg), .int (w 89 (x64002 + (2 : Int32)).toNatClampNeg), .int (w 89 (x64002 + (3 : Int32)).toNatClampNeg), .int (w 89 (x64002 + (4 : Int32)).toNatClampNeg)]) (d2 := d - 1) dX11_cartsBy_160 kX11_350 (by omega) rfl rfl (Nat.le_of_ble_eq_true rfl) (xlt rfl hn) rfl rfl (p_X11_cart hn (by omega)  _ _ _ _ _ _) (fun r64003 w64004 _ => ?_)
            refine y_if_lt (tgt := 170) dX11_cartsBy_163 (by decide) ?_ ?_
            · refine y_iconst (v := 0) dX11_cartsBy_170 (by decide) ?_
              refine y_iadd dX11_cartsBy_171 ?_
              refine y_let (fun x64005 => ?_)
              refine y_istore (lv' := [(5, .int x64005), (8, .int x64002), (7, .int x64001), (0, .ref 71), (1, .int v1), (3, .int v3), (4, .int v4), (6, .int v6)]) dX11_cartsBy_172 (by decide) rfl ?_
              refine z_iinc (j := 7) dX11_cartsBy_174 (by decide) rfl (by decide) (fun x64006 => ?_)
              refine y_loc (lv' := [(6, .int x64006), (5, .int x64005), (8, .int x64002), (7, .int x64001), (0, .ref 71), (1, .int v1), (3, .int v3), (4, .int v4)]) rfl ?_
              refine y_goto (tgt := 64) dX11_cartsBy_177 (by decide) ?_
              refine y_sub [(0, .ref 71), (1, .int v1), (3, .int v3), (4, .int v4), (5, .int x64005), (6, .int x64006)] [4, 5, 6, 7, 1, 0] rfl ?_
              exact ih v1 v3 v4 x64005 x64006 w64004 
            · refine y_iconst (v := 1) dX11_cartsBy_166 (by decide) ?_
              refine y_goto (tgt := 171) dX11_cartsBy_167 (by decide) ?_
              refine y_iadd dX11_cartsBy_171 ?_
              refine y_let (fun x64007 => ?_)
              refine y_istore (lv' := [(5, .int x64007), (8, .int x64002), (7, .int x64001), (0, .ref 71), (1, .int v1), (3, .int v3), (4, .int v4), (6, .int v6)]) dX11_cartsBy_172 (by decide) rfl ?_
              refine z_iinc (j := 7) dX11_cartsBy_174 (by decide) rfl (by decide) (fun x64008 => ?_)
              refine y_loc (lv' := [(6, .int x64008), (5, .int x64007), (8, .int x64002), (7, .int x64001), (0, .ref 71), (1, .int v1), (3, .int v3), (4, .int v4)]) rfl ?_
              refine y_goto (tgt := 64) dX11_cartsBy_177 (by decide) ?_
              refine y_sub [(0, .ref 71), (1, .int v1), (3, .int v3), (4, .int v4), (5, .int x64007), (6, .int x64008)] [4, 5, 6, 7, 1, 0] rfl ?_
              exact ih v1 v3 v4 x64007 x64008 w64004 
          · refine y_bipush (v := (-12)) dX11_cartsBy_102 (by decide) ?_
            exact y_ireturn dX11_cartsBy_104 rfl rfl rfl
set_option maxRecDepth 20000 in
set_option maxHeartbeats 2000000 in
theorem p_X11_cartsBy {G : xG} {d : Nat} {n t : Nat} (hn : 102 ≤ n) (hd : 2 ≤ d) (a1 : Int32) (a2 : Int32) (a3 : Int32) (a4 : Int32) (w : xI) : xMet G m_X11_cartsBy d [.ref 71, .int a1, .int a2, .int a3, .int a4] (xFin n t) w (fun x : Int32 => some (Value.int x)) (xFin n t) (f_X11_cartsBy a1 a2 a3 a4 w) := by
  refine xMet.of rfl (Nat.le_of_ble_eq_true rfl) ?_
  unfold f_X11_cartsBy
  show xC G m_X11_cartsBy d 0 [(0, .ref 71), (1, .int a1), (2, .int a2), (3, .int a3), (4, .int a4)] [] (xFin n t) w _ _ _
  refine y_iload_n dX11_cartsBy_0 rfl 1 rfl ?_
  refine y_iconst (v := 0) dX11_cartsBy_1 (by decide) ?_
  refine y_iconst (v := 3) dX11_cartsBy_2 (by decide) ?_
  refine y_callS (As := [.int a1, .int (0 : Int32), .int (3 : Int32)]) (d2 := d - 1) dX11_cartsBy_3 kX11_114 (by omega) rfl rfl (Nat.le_of_ble_eq_true rfl) (p_X11_in hn (by omega)  _ _ _ _) (fun r1 w2 _ => ?_)
  refine y_if_eq (tgt := 29) dX11_cartsBy_6 (by decide) ?_ ?_
  · refine y_bipush (v := (-2)) dX11_cartsBy_29 (by decide) ?_
    exact y_ireturn dX11_cartsBy_31 rfl rfl rfl
  · refine y_iload_n dX11_cartsBy_9 rfl 2 rfl ?_
    refine y_iconst (v := 0) dX11_cartsBy_10 (by decide) ?_
    refine y_iconst (v := 2) dX11_cartsBy_11 (by decide) ?_
    refine y_callS (As := [.int a2, .int (0 : Int32), .int (2 : Int32)]) (d2 := d - 1) dX11_cartsBy_12 kX11_114 (by omega) rfl rfl (Nat.le_of_ble_eq_true rfl) (p_X11_in hn (by omega)  _ _ _ _) (fun r3 w4 _ => ?_)
    refine y_if_eq (tgt := 29) dX11_cartsBy_15 (by decide) ?_ ?_
    · refine y_bipush (v := (-2)) dX11_cartsBy_29 (by decide) ?_
      exact y_ireturn dX11_cartsBy_31 rfl rfl rfl
    · refine y_iload dX11_cartsBy_18 4 rfl ?_
      refine y_iconst (v := 0) dX11_cartsBy_20 (by decide) ?_
      refine y_bipush (v := 8) dX11_cartsBy_21 (by decide) ?_
      refine y_callS (As := [.int a4, .int (0 : Int32), .int (8 : Int32)]) (d2 := d - 1) dX11_cartsBy_23 kX11_114 (by omega) rfl rfl (Nat.le_of_ble_eq_true rfl) (p_X11_in hn (by omega)  _ _ _ _) (fun r5 w6 _ => ?_)
      refine y_if_ne (tgt := 32) dX11_cartsBy_26 (by decide) ?_ ?_
      · refine y_aload_n dX11_cartsBy_32 rfl 0 rfl ?_
        refine y_getr (q := 87) dX11_cartsBy_33 flX11_55 (xlt rfl hn) rfl rfl rfl ?_
        refine y_iload_n dX11_cartsBy_36 rfl 1 rfl ?_
        refine z_iald (v := (w6 87 a1.toNatClampNeg)) dX11_cartsBy_37 (xlt rfl hn) rfl rfl ?_
        refine y_iconst (v := (-1)) dX11_cartsBy_38 (by decide) ?_
        refine y_icmp_ne (tgt := 45) dX11_cartsBy_39 (by decide) ?_ ?_
        · refine y_aload_n dX11_cartsBy_45 rfl 0 rfl ?_
          refine y_getr (q := 87) dX11_cartsBy_46 flX11_55 (xlt rfl hn) rfl rfl rfl ?_
          refine y_iload_n dX11_cartsBy_49 rfl 1 rfl ?_
          refine z_iald (v := (w6 87 a1.toNatClampNeg)) dX11_cartsBy_50 (xlt rfl hn) rfl rfl ?_
          refine y_iload_n dX11_cartsBy_51 rfl 2 rfl ?_
          refine y_icmp_eq (tgt := 58) dX11_cartsBy_52 (by decide) ?_ ?_
          · refine y_iconst (v := 0) dX11_cartsBy_58 (by decide) ?_
            refine y_istore (lv' := [(5, .int (0 : Int32)), (0, .ref 71), (1, .int a1), (2, .int a2), (3, .int a3), (4, .int a4)]) dX11_cartsBy_59 (by decide) rfl ?_
            refine y_iconst (v := 0) dX11_cartsBy_61 (by decide) ?_
            refine y_istore (lv' := [(6, .int (0 : Int32)), (5, .int (0 : Int32)), (0, .ref 71), (1, .int a1), (2, .int a2), (3, .int a3), (4, .int a4)]) dX11_cartsBy_62 (by decide) rfl ?_
            refine y_sub [(0, .ref 71), (1, .int a1), (3, .int a3), (4, .int a4), (5, .int (0 : Int32)), (6, .int (0 : Int32))] [2, 3, 5, 6, 1, 0] rfl ?_
            refine p_X11_cartsBy_L64 hn hd 2000 a1 a3 a4 (0 : Int32) (0 : Int32) w6 
          · refine y_bipush (v := (-13)) dX11_cartsBy_55 (by decide) ?_
            exact y_ireturn dX11_cartsBy_57 rfl rfl rfl
        · refine y_bipush (v := (-11)) dX11_cartsBy_42 (by decide) ?_
          exact y_ireturn dX11_cartsBy_44 rfl rfl rfl
      · refine y_bipush (v := (-2)) dX11_cartsBy_29 (by decide) ?_
        exact y_ireturn dX11_cartsBy_31 rfl rfl rfl
-- ===== X11_isUnder: WeighedGateModel.isUnder(II)Z =====
set_option maxRecDepth 20000 in
set_option maxHeartbeats 2000000 in
theorem p_X11_isUnder {G : xG} {d : Nat} {n t : Nat} (hn : 102 ≤ n) (hd : 0 ≤ d) (a1 : Int32) (a2 : Int32) (w : xI) : xMet G m_X11_isUnder d [.int a1, .int a2] (xFin n t) w (fun x : Int32 => some (Value.int x)) (xFin n t) (f_X11_isUnder a1 a2 w) := by
  refine xMet.of rfl (Nat.le_of_ble_eq_true rfl) ?_
  unfold f_X11_isUnder
  show xC G m_X11_isUnder d 0 [(0, .int a1), (1, .int a2)] [] (xFin n t) w _ _ _
  refine y_iload_n dX11_isUnder_0 rfl 1 rfl ?_
  refine y_if_eq (tgt := 29) dX11_isUnder_1 (by decide) ?_ ?_
  · refine y_iconst (v := 1) dX11_isUnder_29 (by decide) ?_
    refine y_goto (tgt := 34) dX11_isUnder_30 (by decide) ?_
    exact y_ireturn dX11_isUnder_34 rfl rfl rfl
  · refine y_iload_n dX11_isUnder_4 rfl 0 rfl ?_
    refine y_iload_n dX11_isUnder_5 rfl 1 rfl ?_
    refine y_icmp_eq (tgt := 29) dX11_isUnder_6 (by decide) ?_ ?_
    · refine y_iconst (v := 1) dX11_isUnder_29 (by decide) ?_
      refine y_goto (tgt := 34) dX11_isUnder_30 (by decide) ?_
      exact y_ireturn dX11_isUnder_34 rfl rfl rfl
    · refine y_iload_n dX11_isUnder_9 rfl 1 rfl ?_
      refine y_iconst (v := 1) dX11_isUnder_10 (by decide) ?_
      refine y_icmp_ne (tgt := 19) dX11_isUnder_11 (by decide) ?_ ?_
      · refine y_iload_n dX11_isUnder_19 rfl 1 rfl ?_
        refine y_iconst (v := 2) dX11_isUnder_20 (by decide) ?_
        refine y_icmp_ne (tgt := 33) dX11_isUnder_21 (by decide) ?_ ?_
        · refine y_iconst (v := 0) dX11_isUnder_33 (by decide) ?_
          exact y_ireturn dX11_isUnder_34 rfl rfl rfl
        · refine y_iload_n dX11_isUnder_24 rfl 0 rfl ?_
          refine y_iconst (v := 5) dX11_isUnder_25 (by decide) ?_
          refine y_icmp_ne (tgt := 33) dX11_isUnder_26 (by decide) ?_ ?_
          · refine y_iconst (v := 0) dX11_isUnder_33 (by decide) ?_
            exact y_ireturn dX11_isUnder_34 rfl rfl rfl
          · refine y_iconst (v := 1) dX11_isUnder_29 (by decide) ?_
            refine y_goto (tgt := 34) dX11_isUnder_30 (by decide) ?_
            exact y_ireturn dX11_isUnder_34 rfl rfl rfl
      · refine y_iload_n dX11_isUnder_14 rfl 0 rfl ?_
        refine y_iconst (v := 3) dX11_isUnder_15 (by decide) ?_
        refine y_icmp_eq (tgt := 29) dX11_isUnder_16 (by decide) ?_ ?_
        · refine y_iconst (v := 1) dX11_isUnder_29 (by decide) ?_
          refine y_goto (tgt := 34) dX11_isUnder_30 (by decide) ?_
          exact y_ireturn dX11_isUnder_34 rfl rfl rfl
        · refine y_iload_n dX11_isUnder_19 rfl 1 rfl ?_
          refine y_iconst (v := 2) dX11_isUnder_20 (by decide) ?_
          refine y_icmp_ne (tgt := 33) dX11_isUnder_21 (by decide) ?_ ?_
          · refine y_iconst (v := 0) dX11_isUnder_33 (by decide) ?_
            exact y_ireturn dX11_isUnder_34 rfl rfl rfl
          · refine y_iload_n dX11_isUnder_24 rfl 0 rfl ?_
            refine y_iconst (v := 5) dX11_isUnder_25 (by decide) ?_
            refine y_icmp_ne (tgt := 33) dX11_isUnder_26 (by decide) ?_ ?_
            · refine y_iconst (v := 0) dX11_isUnder_33 (by decide) ?_
              exact y_ireturn dX11_isUnder_34 rfl rfl rfl
            · refine y_iconst (v := 1) dX11_isUnder_29 (by decide) ?_
              refine y_goto (tgt := 34) dX11_isUnder_30 (by decide) ?_
              exact y_ireturn dX11_isUnder_34 rfl rfl rfl
-- ===== X11_taken: WeighedGateModel.taken(II)I =====
set_option maxRecDepth 20000 in
set_option maxHeartbeats 2000000 in
theorem p_X11_taken {G : xG} {d : Nat} {n t : Nat} (hn : 102 ≤ n) (hd : 1 ≤ d) (a1 : Int32) (a2 : Int32) (w : xI) : xMet G m_X11_taken d [.ref 71, .int a1, .int a2] (xFin n t) w (fun x : Int32 => some (Value.int x)) (xFin n t) (f_X11_taken a1 a2 w) := by
  refine xMet.of rfl (Nat.le_of_ble_eq_true rfl) ?_
  unfold f_X11_taken
  show xC G m_X11_taken d 0 [(0, .ref 71), (1, .int a1), (2, .int a2)] [] (xFin n t) w _ _ _
  refine y_iload_n dX11_taken_0 rfl 2 rfl ?_
  refine y_iconst (v := 0) dX11_taken_1 (by decide) ?_
  refine y_bipush (v := 6) dX11_taken_2 (by decide) ?_
  refine y_callS (As := [.int a2, .int (0 : Int32), .int (6 : Int32)]) (d2 := d - 1) dX11_taken_4 kX11_114 (by omega) rfl rfl (Nat.le_of_ble_eq_true rfl) (p_X11_in hn (by omega)  _ _ _ _) (fun r1 w2 _ => ?_)
  refine y_if_ne (tgt := 13) dX11_taken_7 (by decide) ?_ ?_
  · refine y_iload_n dX11_taken_13 rfl 1 rfl ?_
    refine y_iconst (v := 0) dX11_taken_14 (by decide) ?_
    refine y_bipush (v := 14) dX11_taken_15 (by decide) ?_
    refine y_callS (As := [.int a1, .int (0 : Int32), .int (14 : Int32)]) (d2 := d - 1) dX11_taken_17 kX11_114 (by omega) rfl rfl (Nat.le_of_ble_eq_true rfl) (p_X11_in hn (by omega)  _ _ _ _) (fun r3 w4 _ => ?_)
    refine y_if_ne (tgt := 26) dX11_taken_20 (by decide) ?_ ?_
    · refine y_iload_n dX11_taken_26 rfl 1 rfl ?_
      refine y_iconst (v := 5) dX11_taken_27 (by decide) ?_
      refine y_icmp_ge (tgt := 62) dX11_taken_28 (by decide) ?_ ?_
      · refine y_iload_n dX11_taken_62 rfl 1 rfl ?_
        refine y_iconst (v := 5) dX11_taken_63 (by decide) ?_
        refine y_isub dX11_taken_64 ?_
        refine y_aload_n dX11_taken_65 rfl 0 rfl ?_
        refine z_geti (v := (w4 71 3)) dX11_taken_66 flX11_111 (xlt rfl hn) rfl rfl rfl ?_
        refine y_icmp_lt (tgt := 77) dX11_taken_69 (by decide) ?_ ?_
        · refine y_iload_n dX11_taken_77 rfl 2 rfl ?_
          refine y_bipush (v := 6) dX11_taken_78 (by decide) ?_
          refine y_icmp_ge (tgt := 104) dX11_taken_80 (by decide) ?_ ?_
          · refine y_bipush (v := (-13)) dX11_taken_104 (by decide) ?_
            exact y_ireturn dX11_taken_106 rfl rfl rfl
          · refine y_aload_n dX11_taken_83 rfl 0 rfl ?_
            refine y_getr (q := 75) dX11_taken_84 flX11_19 (xlt rfl hn) rfl rfl rfl ?_
            refine y_iload_n dX11_taken_87 rfl 1 rfl ?_
            refine y_iconst (v := 5) dX11_taken_88 (by decide) ?_
            refine y_isub dX11_taken_89 ?_
            refine z_iald (v := (w4 75 (a1 - (5 : Int32)).toNatClampNeg)) dX11_taken_90 (xlt rfl hn) rfl rfl ?_
            refine y_iload_n dX11_taken_91 rfl 2 rfl ?_
            refine y_callS (As := [.int (w4 75 (a1 - (5 : Int32)).toNatClampNeg), .int a2]) (d2 := d - 1) dX11_taken_92 kX11_354 (by omega) rfl rfl (Nat.le_of_ble_eq_true rfl) (p_X11_isUnder hn (by omega)  _ _ _) (fun r5 w6 _ => ?_)
            refine y_if_eq (tgt := 104) dX11_taken_95 (by decide) ?_ ?_
            · refine y_bipush (v := (-13)) dX11_taken_104 (by decide) ?_
              exact y_ireturn dX11_taken_106 rfl rfl rfl
            · refine y_iload_n dX11_taken_98 rfl 1 rfl ?_
              refine y_iconst (v := 5) dX11_taken_99 (by decide) ?_
              refine y_isub dX11_taken_100 ?_
              refine y_goto (tgt := 106) dX11_taken_101 (by decide) ?_
              exact y_ireturn dX11_taken_106 rfl rfl rfl
        · refine y_bipush (v := (-11)) dX11_taken_72 (by decide) ?_
          refine y_goto (tgt := 106) dX11_taken_74 (by decide) ?_
          exact y_ireturn dX11_taken_106 rfl rfl rfl
      · refine y_iload_n dX11_taken_31 rfl 1 rfl ?_
        refine y_aload_n dX11_taken_32 rfl 0 rfl ?_
        refine z_geti (v := (w4 71 1)) dX11_taken_33 flX11_118 (xlt rfl hn) rfl rfl rfl ?_
        refine y_icmp_lt (tgt := 44) dX11_taken_36 (by decide) ?_ ?_
        · refine y_iload_n dX11_taken_44 rfl 2 rfl ?_
          refine y_bipush (v := 6) dX11_taken_45 (by decide) ?_
          refine y_icmp_ne (tgt := 59) dX11_taken_47 (by decide) ?_ ?_
          · refine y_bipush (v := (-13)) dX11_taken_59 (by decide) ?_
            exact y_ireturn dX11_taken_61 rfl rfl rfl
          · refine y_aload_n dX11_taken_50 rfl 0 rfl ?_
            refine y_getr (q := 73) dX11_taken_51 flX11_13 (xlt rfl hn) rfl rfl rfl ?_
            refine y_iload_n dX11_taken_54 rfl 1 rfl ?_
            refine z_iald (v := (w4 73 a1.toNatClampNeg)) dX11_taken_55 (xlt rfl hn) rfl rfl ?_
            refine y_goto (tgt := 61) dX11_taken_56 (by decide) ?_
            exact y_ireturn dX11_taken_61 rfl rfl rfl
        · refine y_bipush (v := (-11)) dX11_taken_39 (by decide) ?_
          refine y_goto (tgt := 61) dX11_taken_41 (by decide) ?_
          exact y_ireturn dX11_taken_61 rfl rfl rfl
    · refine y_bipush (v := (-12)) dX11_taken_23 (by decide) ?_
      exact y_ireturn dX11_taken_25 rfl rfl rfl
  · refine y_bipush (v := (-2)) dX11_taken_10 (by decide) ?_
    exact y_ireturn dX11_taken_12 rfl rfl rfl
