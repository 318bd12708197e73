-- ===== X11_worthAt: WeighedGateModel.worthAt(II)I =====
set_option maxRecDepth 20000 in
set_option maxHeartbeats 2000000 in
theorem p_X11_worthAt {G : xG} {d : Nat} {n t : Nat} (hn : 102 ≤ n) (hd : 1 ≤ d) (a1 : Int32) (a2 : Int32) (w : xI) : xMet G m_X11_worthAt d [.ref 71, .int a1, .int a2] (xFin n t) w (fun x : Int32 => some (Value.int x)) (xFin n t) (f_X11_worthAt a1 a2 w) := by
  refine xMet.of rfl (Nat.le_of_ble_eq_true rfl) ?_
  unfold f_X11_worthAt
  show xC G m_X11_worthAt d 0 [(0, .ref 71), (1, .int a1), (2, .int a2)] [] (xFin n t) w _ _ _
  refine y_aload_n dX11_worthAt_0 rfl 0 rfl ?_
  refine y_iload_n dX11_worthAt_1 rfl 1 rfl ?_
  refine y_iload_n dX11_worthAt_2 rfl 2 rfl ?_
  refine y_callV (As := [.int a1, .int a2]) (d2 := d - 1) dX11_worthAt_3 kX11_205 (by omega) rfl rfl (Nat.le_of_ble_eq_true rfl) (xlt rfl hn) rfl rfl (p_X11_waited hn (by omega)  _ _ _) (fun r1 w2 _ => ?_)
  refine y_istore_n (lv' := [(3, .int r1), (0, .ref 71), (1, .int a1), (2, .int a2)]) dX11_worthAt_6 rfl (by decide) rfl ?_
  refine y_aload_n dX11_worthAt_7 rfl 1 rfl ?_
  refine y_getr (q := 77) dX11_worthAt_8 flX11_25 (xlt rfl hn) rfl rfl rfl ?_
  refine y_iload_n dX11_worthAt_11 rfl 2 rfl ?_
  refine z_iald (v := (w2 77 a1.toNatClampNeg)) dX11_worthAt_12 (xlt rfl hn) rfl rfl ?_
  refine y_aload_n dX11_worthAt_13 rfl 1 rfl ?_
  refine y_getr (q := 78) dX11_worthAt_14 flX11_28 (xlt rfl hn) rfl rfl rfl ?_
  refine y_iload_n dX11_worthAt_17 rfl 2 rfl ?_
  refine z_iald (v := (w2 78 a1.toNatClampNeg)) dX11_worthAt_18 (xlt rfl hn) rfl rfl ?_
  refine y_iload_n dX11_worthAt_19 rfl 0 rfl ?_
  refine y_imul dX11_worthAt_20 ?_
  refine y_isub dX11_worthAt_21 ?_
  refine y_iconst (v := 0) dX11_worthAt_22 (by decide) ?_
  refine y_sipush (v := 999) dX11_worthAt_23 (by decide) ?_
  refine y_callS (As := [.int ((w2 77 a1.toNatClampNeg) - ((w2 78 a1.toNatClampNeg) * r1)), .int (0 : Int32), .int (999 : Int32)]) (d2 := d - 1) dX11_worthAt_26 kX11_194 (by omega) rfl rfl (Nat.le_of_ble_eq_true rfl) (p_X11_within hn (by omega)  _ _ _ _) (fun r3 w4 _ => ?_)
  refine y_istore (lv' := [(4, .int r3), (3, .int r1), (0, .ref 71), (1, .int a1), (2, .int a2)]) dX11_worthAt_29 (by decide) rfl ?_
  refine y_aload_n dX11_worthAt_31 rfl 2 rfl ?_
  refine y_getr (q := 75) dX11_worthAt_32 flX11_19 (xlt rfl hn) rfl rfl rfl ?_
  refine y_iload_n dX11_worthAt_35 rfl 3 rfl ?_
  refine z_iald (v := (w4 75 a1.toNatClampNeg)) dX11_worthAt_36 (xlt rfl hn) rfl rfl ?_
  refine y_let (fun x5 => ?_)
  refine y_istore (lv' := [(5, .int x5), (4, .int r3), (3, .int r1), (0, .ref 71), (1, .int a1), (2, .int a2)]) dX11_worthAt_37 (by decide) rfl ?_
  refine y_iload dX11_worthAt_39 0 rfl ?_
  refine y_iconst (v := 1) dX11_worthAt_41 (by decide) ?_
  refine y_icmp_ne (tgt := 50) dX11_worthAt_42 (by decide) ?_ ?_
  · refine y_iload dX11_worthAt_50 0 rfl ?_
    refine y_iconst (v := 3) dX11_worthAt_52 (by decide) ?_
    refine y_icmp_ne (tgt := 72) dX11_worthAt_53 (by decide) ?_ ?_
    · refine y_iload dX11_worthAt_72 0 rfl ?_
      refine y_iconst (v := 4) dX11_worthAt_74 (by decide) ?_
      refine y_icmp_ne (tgt := 101) dX11_worthAt_75 (by decide) ?_ ?_
      · refine y_aload_n dX11_worthAt_101 rfl 3 rfl ?_
        refine y_getr (q := 77) dX11_worthAt_102 flX11_25 (xlt rfl hn) rfl rfl rfl ?_
        refine y_iload_n dX11_worthAt_105 rfl 4 rfl ?_
        refine z_iald (v := (w4 77 a1.toNatClampNeg)) dX11_worthAt_106 (xlt rfl hn) rfl rfl ?_
        exact y_ireturn dX11_worthAt_107 rfl rfl rfl
      · refine y_aload_n dX11_worthAt_78 rfl 3 rfl ?_
        refine y_getr (q := 77) dX11_worthAt_79 flX11_25 (xlt rfl hn) rfl rfl rfl ?_
        refine y_iload_n dX11_worthAt_82 rfl 4 rfl ?_
        refine z_iald (v := (w4 77 a1.toNatClampNeg)) dX11_worthAt_83 (xlt rfl hn) rfl rfl ?_
        refine y_aload_n dX11_worthAt_84 rfl 3 rfl ?_
        refine y_getr (q := 78) dX11_worthAt_85 flX11_28 (xlt rfl hn) rfl rfl rfl ?_
        refine y_iload_n dX11_worthAt_88 rfl 4 rfl ?_
        refine z_iald (v := (w4 78 a1.toNatClampNeg)) dX11_worthAt_89 (xlt rfl hn) rfl rfl ?_
        refine y_isub dX11_worthAt_90 ?_
        refine y_iconst (v := 0) dX11_worthAt_91 (by decide) ?_
        refine y_sipush (v := 999) dX11_worthAt_92 (by decide) ?_
        refine y_callS (As := [.int ((w4 77 a1.toNatClampNeg) - (w4 78 a1.toNatClampNeg)), .int (0 : Int32), .int (999 : Int32)]) (d2 := d - 1) dX11_worthAt_95 kX11_194 (by omega) rfl rfl (Nat.le_of_ble_eq_true rfl) (p_X11_within hn (by omega)  _ _ _ _) (fun r6 w7 _ => ?_)
        refine y_goto (tgt := 107) dX11_worthAt_98 (by decide) ?_
        exact y_ireturn dX11_worthAt_107 rfl rfl rfl
    · refine y_iload_n dX11_worthAt_56 rfl 2 rfl ?_
      refine y_iconst (v := 3) dX11_worthAt_57 (by decide) ?_
      refine y_icmp_le (tgt := 65) dX11_worthAt_58 (by decide) ?_ ?_
      · refine y_iconst (v := 2) dX11_worthAt_65 (by decide) ?_
        refine y_iload dX11_worthAt_66 1 rfl ?_
        refine y_imul dX11_worthAt_68 ?_
        refine y_goto (tgt := 107) dX11_worthAt_69 (by decide) ?_
        exact y_ireturn dX11_worthAt_107 rfl rfl rfl
      · refine y_iconst (v := 0) dX11_worthAt_61 (by decide) ?_
        refine y_goto (tgt := 107) dX11_worthAt_62 (by decide) ?_
        exact y_ireturn dX11_worthAt_107 rfl rfl rfl
  · refine y_iload dX11_worthAt_45 1 rfl ?_
    refine y_goto (tgt := 107) dX11_worthAt_47 (by decide) ?_
    exact y_ireturn dX11_worthAt_107 rfl rfl rfl
-- ===== X11_at: WeighedGateModel.at(III)I =====
set_option maxRecDepth 20000 in
set_option maxHeartbeats 2000000 in
theorem p_X11_at {G : xG} {d : Nat} {n t : Nat} (hn : 102 ≤ n) (hd : 2 ≤ d) (a1 : Int32) (a2 : Int32) (a3 : Int32) (w : xI) : xMet G m_X11_at d [.ref 71, .int a1, .int a2, .int a3] (xFin n t) w (fun x : Int32 => some (Value.int x)) (xFin n t) (f_X11_at a1 a2 a3 w) := by
  refine xMet.of rfl (Nat.le_of_ble_eq_true rfl) ?_
  unfold f_X11_at
  show xC G m_X11_at d 0 [(0, .ref 71), (1, .int a1), (2, .int a2), (3, .int a3)] [] (xFin n t) w _ _ _
  refine y_aload_n dX11_at_0 rfl 0 rfl ?_
  refine y_iload_n dX11_at_1 rfl 1 rfl ?_
  refine y_callV (As := [.int a1]) (d2 := d - 1) dX11_at_2 kX11_202 (by omega) rfl rfl (Nat.le_of_ble_eq_true rfl) (xlt rfl hn) rfl rfl (p_X11_isCart hn (by omega)  _ _) (fun r1 w2 _ => ?_)
  refine y_if_ne (tgt := 11) dX11_at_5 (by decide) ?_ ?_
  · refine y_iload_n dX11_at_11 rfl 2 rfl ?_
    refine y_callS (As := [.int a2]) (d2 := d - 1) dX11_at_12 kX11_208 (by omega) rfl rfl (Nat.le_of_ble_eq_true rfl) (p_X11_isHour hn (by omega)  _ _) (fun r3 w4 _ => ?_)
    refine y_if_eq (tgt := 27) dX11_at_15 (by decide) ?_ ?_
    · refine y_bipush (v := (-7)) dX11_at_27 (by decide) ?_
      exact y_ireturn dX11_at_29 rfl rfl rfl
    · refine y_iload_n dX11_at_18 rfl 3 rfl ?_
      refine y_iconst (v := 0) dX11_at_19 (by decide) ?_
      refine y_iconst (v := 1) dX11_at_20 (by decide) ?_
      refine y_callS (As := [.int a3, .int (0 : Int32), .int (1 : Int32)]) (d2 := d - 1) dX11_at_21 kX11_114 (by omega) rfl rfl (Nat.le_of_ble_eq_true rfl) (p_X11_in hn (by omega)  _ _ _ _) (fun r5 w6 _ => ?_)
      refine y_if_ne (tgt := 30) dX11_at_24 (by decide) ?_ ?_
      · refine y_iload_n dX11_at_30 rfl 3 rfl ?_
        refine y_if_ne (tgt := 43) dX11_at_31 (by decide) ?_ ?_
        · refine y_aload_n dX11_at_43 rfl 0 rfl ?_
          refine y_iload_n dX11_at_44 rfl 1 rfl ?_
          refine y_iload_n dX11_at_45 rfl 2 rfl ?_
          refine y_callV (As := [.int a1, .int a2]) (d2 := d - 1) dX11_at_46 kX11_214 (by omega) rfl rfl (Nat.le_of_ble_eq_true rfl) (xlt rfl hn) rfl rfl (p_X11_worthAt hn (by omega)  _ _ _) (fun r7 w8 _ => ?_)
          exact y_ireturn dX11_at_49 rfl rfl rfl
        · refine y_aload_n dX11_at_34 rfl 0 rfl ?_
          refine y_iload_n dX11_at_35 rfl 1 rfl ?_
          refine y_iload_n dX11_at_36 rfl 2 rfl ?_
          refine y_callV (As := [.int a1, .int a2]) (d2 := d - 1) dX11_at_37 kX11_211 (by omega) rfl rfl (Nat.le_of_ble_eq_true rfl) (xlt rfl hn) rfl rfl (p_X11_weighs hn (by omega)  _ _ _) (fun r9 w10 _ => ?_)
          refine y_goto (tgt := 49) dX11_at_40 (by decide) ?_
          exact y_ireturn dX11_at_49 rfl rfl rfl
      · refine y_bipush (v := (-7)) dX11_at_27 (by decide) ?_
        exact y_ireturn dX11_at_29 rfl rfl rfl
  · refine y_bipush (v := (-5)) dX11_at_8 (by decide) ?_
    exact y_ireturn dX11_at_10 rfl rfl rfl
-- ===== X11_makes: WeighedGateModel.makes(III)V =====
set_option maxRecDepth 20000 in
set_option maxHeartbeats 2000000 in
theorem p_X11_makes_o {G : xG} {d : Nat} {n t : Nat} (hn : 102 ≤ n) (hd : 14 ≤ d) {rec : Int32 → Int32 → Int32 → xI → Option (Unit × xI)} {d0 : Nat} (hd0 : d0 + 1 ≤ d) (hrec : ∀ (a1 : Int32) (a2 : Int32) (a3 : Int32) (w : xI), xMet G m_X11_makes d0 [.ref 71, .int a1, .int a2, .int a3] (xFin n t) w (fun _ : Unit => none) (xFin n t) (rec a1 a2 a3 w)) (a1 : Int32) (a2 : Int32) (a3 : Int32) (w : xI) : xMet G m_X11_makes d [.ref 71, .int a1, .int a2, .int a3] (xFin n t) w (fun _ : Unit => none) (xFin n t) (f_X11_makes_o rec a1 a2 a3 w) := by
  refine xMet.of rfl (Nat.le_of_ble_eq_true rfl) ?_
  unfold f_X11_makes_o
  show xC G m_X11_makes d 0 [(0, .ref 71), (1, .int a1), (2, .int a2), (3, .int a3)] [] (xFin n t) w _ _ _
  refine y_iload_n dX11_makes_0 rfl 1 rfl ?_
  refine y_aload_n dX11_makes_1 rfl 0 rfl ?_
  refine z_geti (v := (w 71 1)) dX11_makes_2 flX11_118 (xlt rfl hn) rfl rfl rfl ?_
  refine y_icmp_ne (tgt := 56) dX11_makes_5 (by decide) ?_ ?_
  · refine y_aload_n dX11_makes_56 rfl 0 rfl ?_
    refine y_iload_n dX11_makes_57 rfl 1 rfl ?_
    refine y_iconst (v := 1) dX11_makes_58 (by decide) ?_
    refine y_iadd dX11_makes_59 ?_
    refine y_iload_n dX11_makes_60 rfl 2 rfl ?_
    refine y_iload_n dX11_makes_61 rfl 3 rfl ?_
    refine y_callV (As := [.int (a1 + (1 : Int32)), .int a2, .int a3]) (d2 := d0) dX11_makes_62 kX11_220 (by omega) rfl rfl (Nat.le_of_ble_eq_true rfl) (xlt rfl hn) rfl rfl (hrec _ _ _ _) (fun r1 w2 _ => ?_)
    refine y_aload_n dX11_makes_65 rfl 0 rfl ?_
    refine y_iload_n dX11_makes_66 rfl 1 rfl ?_
    refine y_iconst (v := 1) dX11_makes_67 (by decide) ?_
    refine y_iadd dX11_makes_68 ?_
    refine y_iload_n dX11_makes_69 rfl 2 rfl ?_
    refine y_aload_n dX11_makes_70 rfl 0 rfl ?_
    refine y_getr (q := 73) dX11_makes_71 flX11_13 (xlt rfl hn) rfl rfl rfl ?_
    refine y_iload_n dX11_makes_74 rfl 1 rfl ?_
    refine z_iald (v := (w2 73 a1.toNatClampNeg)) dX11_makes_75 (xlt rfl hn) rfl rfl ?_
    refine y_iadd dX11_makes_76 ?_
    refine y_iload_n dX11_makes_77 rfl 3 rfl ?_
    refine y_iconst (v := 1) dX11_makes_78 (by decide) ?_
    refine y_iadd dX11_makes_79 ?_
    refine y_callV (As := [.int (a1 + (1 : Int32)), .int (a2 + (w2 73 a1.toNatClampNeg)), .int (a3 + (1 : Int32))]) (d2 := d0) dX11_makes_80 kX11_220 (by omega) rfl rfl (Nat.le_of_ble_eq_true rfl) (xlt rfl hn) rfl rfl (hrec _ _ _ _) (fun r3 w4 _ => ?_)
    refine y_aload_n dX11_makes_83 rfl 0 rfl ?_
    refine y_iload_n dX11_makes_84 rfl 1 rfl ?_
    refine y_iconst (v := 1) dX11_makes_85 (by decide) ?_
    refine y_iadd dX11_makes_86 ?_
    refine y_iload_n dX11_makes_87 rfl 2 rfl ?_
    refine y_aload_n dX11_makes_88 rfl 0 rfl ?_
    refine y_getr (q := 73) dX11_makes_89 flX11_13 (xlt rfl hn) rfl rfl rfl ?_
    refine y_iload_n dX11_makes_92 rfl 1 rfl ?_
    refine z_iald (v := (w4 73 a1.toNatClampNeg)) dX11_makes_93 (xlt rfl hn) rfl rfl ?_
    refine y_isub dX11_makes_94 ?_
    refine y_iload_n dX11_makes_95 rfl 3 rfl ?_
    refine y_iconst (v := 1) dX11_makes_96 (by decide) ?_
    refine y_iadd dX11_makes_97 ?_
    refine y_callV (As := [.int (a1 + (1 : Int32)), .int (a2 - (w4 73 a1.toNatClampNeg)), .int (a3 + (1 : Int32))]) (d2 := d0) dX11_makes_98 kX11_220 (by omega) rfl rfl (Nat.le_of_ble_eq_true rfl) (xlt rfl hn) rfl rfl (hrec _ _ _ _) (fun r5 w6 _ => ?_)
    exact y_return dX11_makes_101 rfl rfl
  · refine y_iload_n dX11_makes_8 rfl 2 rfl ?_
    refine y_iconst (v := 0) dX11_makes_9 (by decide) ?_
    refine y_callS (As := [.int a2, .int (0 : Int32)]) (d2 := d - 1) dX11_makes_10 kX11_217 (by omega) rfl rfl (Nat.le_of_ble_eq_true rfl) (p_X11_apart hn (by omega)  _ _ _) (fun r7 w8 _ => ?_)
    refine y_istore (lv' := [(4, .int r7), (0, .ref 71), (1, .int a1), (2, .int a2), (3, .int a3)]) dX11_makes_13 (by decide) rfl ?_
    refine y_aload_n dX11_makes_15 rfl 1 rfl ?_
    refine y_getr (q := 95) dX11_makes_16 flX11_79 (xlt rfl hn) rfl rfl rfl ?_
    refine y_iload dX11_makes_19 0 rfl ?_
    refine y_aload_n dX11_makes_21 rfl 1 rfl ?_
    refine y_getr (q := 95) dX11_makes_22 flX11_79 (xlt rfl hn) rfl rfl rfl ?_
    refine y_iload dX11_makes_25 0 rfl ?_
    refine z_iald (v := (w8 95 r7.toNatClampNeg)) dX11_makes_27 (xlt rfl hn) rfl rfl ?_
    refine y_iconst (v := (-1)) dX11_makes_28 (by decide) ?_
    refine y_icmp_eq (tgt := 43) dX11_makes_29 (by decide) ?_ ?_
    · refine y_iload_n dX11_makes_43 rfl 4 rfl ?_
      refine y_goto (tgt := 54) dX11_makes_44 (by decide) ?_
      refine y_iast dX11_makes_54 (xlt rfl hn) rfl ?_
      exact y_return dX11_makes_55 rfl rfl
    · refine y_iload_n dX11_makes_32 rfl 4 rfl ?_
      refine y_aload_n dX11_makes_33 rfl 1 rfl ?_
      refine y_getr (q := 95) dX11_makes_34 flX11_79 (xlt rfl hn) rfl rfl rfl ?_
      refine y_iload dX11_makes_37 0 rfl ?_
      refine z_iald (v := (w8 95 r7.toNatClampNeg)) dX11_makes_39 (xlt rfl hn) rfl rfl ?_
      refine y_icmp_ge (tgt := 47) dX11_makes_40 (by decide) ?_ ?_
      · refine y_aload_n dX11_makes_47 rfl 1 rfl ?_
        refine y_getr (q := 95) dX11_makes_48 flX11_79 (xlt rfl hn) rfl rfl rfl ?_
        refine y_iload dX11_makes_51 0 rfl ?_
        refine z_iald (v := (w8 95 r7.toNatClampNeg)) dX11_makes_53 (xlt rfl hn) rfl rfl ?_
        refine y_iast dX11_makes_54 (xlt rfl hn) rfl ?_
        exact y_return dX11_makes_55 rfl rfl
      · refine y_iload_n dX11_makes_43 rfl 4 rfl ?_
        refine y_goto (tgt := 54) dX11_makes_44 (by decide) ?_
        refine y_iast dX11_makes_54 (xlt rfl hn) rfl ?_
        exact y_return dX11_makes_55 rfl rfl
theorem p_X11_makes {G : xG} (fu : Nat) {n t : Nat} (hn : 102 ≤ n) : ∀ {d : Nat} (hd : 3 * fu + 14 ≤ d) (a1 : Int32) (a2 : Int32) (a3 : Int32) (w : xI), xMet G m_X11_makes d [.ref 71, .int a1, .int a2, .int a3] (xFin n t) w (fun _ : Unit => none) (xFin n t) (f_X11_makes fu a1 a2 a3 w) := by
  induction fu with
  | zero => intro d hd a1 a2 a3 w a w2 h; cases h
  | succ fu ih =>
    intro d hd a1 a2 a3 w
    exact p_X11_makes_o hn (by omega) (d0 := d - 3) (by omega) (fun a1 a2 a3 w => ih (by omega) a1 a2 a3 w) a1 a2 a3 w
-- ===== X11_findsMade: WeighedGateModel.findsMade()V =====
set_option maxRecDepth 20000 in
set_option maxHeartbeats 2000000 in
theorem p_X11_findsMade_L2 {G : xG} {d : Nat} {n t : Nat} (hn : 102 ≤ n) (hd : 39 ≤ d) : ∀ (fu : Nat) (v1 : Int32) (w : xI), xC G m_X11_findsMade d 2 [(0, .ref 71), (1, .int v1)] [] (xFin n t) w (fun _ : Unit => none) (xFin n t) (f_X11_findsMade_L2 fu v1 w) := by
  intro fu
  induction fu with
  | zero => intro v1 w; exact xC.none
  | succ fu ih =>
    intro v1 w
    rw [f_X11_findsMade_L2]
    refine y_iload_n dX11_findsMade_2 rfl 1 rfl ?_
    refine y_sipush (v := 999) dX11_findsMade_3 (by decide) ?_
    refine y_icmp_gt (tgt := 22) dX11_findsMade_6 (by decide) ?_ ?_
    · refine y_aload_n dX11_findsMade_22 rfl 0 rfl ?_
      refine y_iconst (v := 0) dX11_findsMade_23 (by decide) ?_
      refine y_iconst (v := 0) dX11_findsMade_24 (by decide) ?_
      refine y_iconst (v := 0) dX11_findsMade_25 (by decide) ?_
      refine y_callV (As := [.int (0 : Int32), .int (0 : Int32), .int (0 : Int32)]) (d2 := d - 1) dX11_findsMade_26 kX11_220 (by omega) rfl rfl (Nat.le_of_ble_eq_true rfl) (xlt rfl hn) rfl rfl (p_X11_makes 8 hn (by omega)  _ _ _ _) (fun r2001 w2002 _ => ?_)
      exact y_return dX11_findsMade_29 rfl rfl
    · refine y_aload_n dX11_findsMade_9 rfl 0 rfl ?_
      refine y_getr (q := 95) dX11_findsMade_10 flX11_79 (xlt rfl hn) rfl rfl rfl ?_
      refine y_iload_n dX11_findsMade_13 rfl 1 rfl ?_
      refine y_iconst (v := (-1)) dX11_findsMade_14 (by decide) ?_
      refine y_iast dX11_findsMade_15 (xlt rfl hn) rfl ?_
      refine z_iinc (j := 1) dX11_findsMade_16 (by decide) rfl (by decide) (fun x2003 => ?_)
      refine y_loc (lv' := [(1, .int x2003), (0, .ref 71)]) rfl ?_
      refine y_goto (tgt := 2) dX11_findsMade_19 (by decide) ?_
      refine y_sub [(0, .ref 71), (1, .int x2003)] [1, 0] rfl ?_
      exact ih x2003 (xup w 95 v1.toNatClampNeg (-1 : Int32)) 
set_option maxRecDepth 20000 in
set_option maxHeartbeats 2000000 in
theorem p_X11_findsMade {G : xG} {d : Nat} {n t : Nat} (hn : 102 ≤ n) (hd : 39 ≤ d) (w : xI) : xMet G m_X11_findsMade d [.ref 71] (xFin n t) w (fun _ : Unit => none) (xFin n t) (f_X11_findsMade  w) := by
  refine xMet.of rfl (Nat.le_of_ble_eq_true rfl) ?_
  unfold f_X11_findsMade
  show xC G m_X11_findsMade d 0 [(0, .ref 71)] [] (xFin n t) w _ _ _
  refine y_iconst (v := 0) dX11_findsMade_0 (by decide) ?_
  refine y_istore_n (lv' := [(1, .int (0 : Int32)), (0, .ref 71)]) dX11_findsMade_1 rfl (by decide) rfl ?_
  refine y_sub [(0, .ref 71), (1, .int (0 : Int32))] [1, 0] rfl ?_
  refine p_X11_findsMade_L2 hn hd 2000 (0 : Int32) w 
-- ===== X11_madeBy: WeighedGateModel.madeBy(I)I =====
set_option maxRecDepth 20000 in
set_option maxHeartbeats 2000000 in
theorem p_X11_madeBy {G : xG} {d : Nat} {n t : Nat} (hn : 102 ≤ n) (hd : 1 ≤ d) (a1 : Int32) (w : xI) : xMet G m_X11_madeBy d [.ref 71, .int a1] (xFin n t) w (fun x : Int32 => some (Value.int x)) (xFin n t) (f_X11_madeBy a1 w) := by
  refine xMet.of rfl (Nat.le_of_ble_eq_true rfl) ?_
  unfold f_X11_madeBy
  show xC G m_X11_madeBy d 0 [(0, .ref 71), (1, .int a1)] [] (xFin n t) w _ _ _
  refine y_iload_n dX11_madeBy_0 rfl 1 rfl ?_
  refine y_iconst (v := 0) dX11_madeBy_1 (by decide) ?_
  refine y_sipush (v := 999) dX11_madeBy_2 (by decide) ?_
  refine y_callS (As := [.int a1, .int (0 : Int32), .int (999 : Int32)]) (d2 := d - 1) dX11_madeBy_5 kX11_114 (by omega) rfl rfl (Nat.le_of_ble_eq_true rfl) (p_X11_in hn (by omega)  _ _ _ _) (fun r1 w2 _ => ?_)
  refine y_if_eq (tgt := 20) dX11_madeBy_8 (by decide) ?_ ?_
  · refine y_iconst (v := (-1)) dX11_madeBy_20 (by decide) ?_
    exact y_ireturn dX11_madeBy_21 rfl rfl rfl
  · refine y_aload_n dX11_madeBy_11 rfl 0 rfl ?_
    refine y_getr (q := 95) dX11_madeBy_12 flX11_79 (xlt rfl hn) rfl rfl rfl ?_
    refine y_iload_n dX11_madeBy_15 rfl 1 rfl ?_
    refine z_iald (v := (w2 95 a1.toNatClampNeg)) dX11_madeBy_16 (xlt rfl hn) rfl rfl ?_
    refine y_goto (tgt := 21) dX11_madeBy_17 (by decide) ?_
    exact y_ireturn dX11_madeBy_21 rfl rfl rfl
-- ===== X11_make: WeighedGateModel.make(I)I =====
set_option maxRecDepth 20000 in
set_option maxHeartbeats 2000000 in
theorem p_X11_make {G : xG} {d : Nat} {n t : Nat} (hn : 102 ≤ n) (hd : 40 ≤ d) (a1 : Int32) (w : xI) : xMet G m_X11_make d [.ref 71, .int a1] (xFin n t) w (fun x : Int32 => some (Value.int x)) (xFin n t) (f_X11_make a1 w) := by
  refine xMet.of rfl (Nat.le_of_ble_eq_true rfl) ?_
  unfold f_X11_make
  show xC G m_X11_make d 0 [(0, .ref 71), (1, .int a1)] [] (xFin n t) w _ _ _
  refine y_iload_n dX11_make_0 rfl 1 rfl ?_
  refine y_iconst (v := 0) dX11_make_1 (by decide) ?_
  refine y_sipush (v := 999) dX11_make_2 (by decide) ?_
  refine y_callS (As := [.int a1, .int (0 : Int32), .int (999 : Int32)]) (d2 := d - 1) dX11_make_5 kX11_114 (by omega) rfl rfl (Nat.le_of_ble_eq_true rfl) (p_X11_in hn (by omega)  _ _ _ _) (fun r1 w2 _ => ?_)
  refine y_if_ne (tgt := 14) dX11_make_8 (by decide) ?_ ?_
  · refine y_aload_n dX11_make_14 rfl 0 rfl ?_
    refine y_callV (As := []) (d2 := d - 1) dX11_make_15 kX11_224 (by omega) rfl rfl (Nat.le_of_ble_eq_true rfl) (xlt rfl hn) rfl rfl (p_X11_findsMade hn (by omega)   _) (fun r3 w4 _ => ?_)
    refine y_aload_n dX11_make_18 rfl 0 rfl ?_
    refine y_getr (q := 95) dX11_make_19 flX11_79 (xlt rfl hn) rfl rfl rfl ?_
    refine y_iload_n dX11_make_22 rfl 1 rfl ?_
    refine z_iald (v := (w4 95 a1.toNatClampNeg)) dX11_make_23 (xlt rfl hn) rfl rfl ?_
    exact y_ireturn dX11_make_24 rfl rfl rfl
  · refine y_bipush (v := (-2)) dX11_make_11 (by decide) ?_
    exact y_ireturn dX11_make_13 rfl rfl rfl
-- ===== X11_makings: WeighedGateModel.makings(II)I =====
set_option maxRecDepth 20000 in
set_option maxHeartbeats 2000000 in
theorem p_X11_makings_L58 {G : xG} {d : Nat} {n t : Nat} (hn : 102 ≤ n) (hd : 40 ≤ d) {K35 : Int32 → Int32 → Int32 → Int32 → xI → Option (Int32 × xI)} (hK35 : ∀ (v2 : Int32) (v3 : Int32) (v4 : Int32) (v5 : Int32) (w : xI), xC G m_X11_makings d 35 [(0, .ref 71), (2, .int v2), (3, .int v3), (4, .int v4), (5, .int v5)] [] (xFin n t) w (fun x : Int32 => some (Value.int x)) (xFin n t) (K35 v2 v3 v4 v5 w)) (v2 : Int32) (v4 : Int32) (v5 : Int32) (s0 : Int32) (s1 : Int32) (w : xI) : xC G m_X11_makings d 58 [(0, .ref 71), (2, .int v2), (4, .int v4), (5, .int v5)] [.int s0, .int s1] (xFin n t) w (fun x : Int32 => some (Value.int x)) (xFin n t) (f_X11_makings_L58 K35 v2 v4 v5 s0 s1 w) := by
  unfold f_X11_makings_L58
  refine y_iadd dX11_makings_58 ?_
  refine y_let (fun x58001 => ?_)
  refine y_istore_n (lv' := [(3, .int x58001), (0, .ref 71), (2, .int v2), (4, .int v4), (5, .int v5)]) dX11_makings_59 rfl (by decide) rfl ?_
  refine y_aload_n dX11_makings_60 rfl 1 rfl ?_
  refine y_getr (q := 95) dX11_makings_61 flX11_79 (xlt rfl hn) rfl rfl rfl ?_
  refine y_iload dX11_makings_64 4 rfl ?_
  refine z_iald (v := (w 95 v5.toNatClampNeg)) dX11_makings_66 (xlt rfl hn) rfl rfl ?_
  refine y_iconst (v := (-1)) dX11_makings_67 (by decide) ?_
  refine y_icmp_ne (tgt := 76) dX11_makings_68 (by decide) ?_ ?_
  · refine y_iload dX11_makings_76 3 rfl ?_
    refine y_istore (lv' := [(4, .int v4), (3, .int x58001), (0, .ref 71), (2, .int v2), (5, .int v5)]) dX11_makings_78 (by decide) rfl ?_
    refine z_iinc (j := 4) dX11_makings_80 (by decide) rfl (by decide) (fun x58002 => ?_)
    refine y_loc (lv' := [(5, .int x58002), (4, .int v4), (3, .int x58001), (0, .ref 71), (2, .int v2)]) rfl ?_
    refine y_goto (tgt := 35) dX11_makings_83 (by decide) ?_
    refine y_sub [(0, .ref 71), (2, .int v2), (3, .int x58001), (4, .int v4), (5, .int x58002)] [3, 4, 2, 1, 0] rfl ?_
    exact hK35 v2 x58001 v4 x58002 w 
  · refine y_iload dX11_makings_71 4 rfl ?_
    refine y_goto (tgt := 78) dX11_makings_73 (by decide) ?_
    refine y_istore (lv' := [(4, .int v5), (3, .int x58001), (0, .ref 71), (2, .int v2), (5, .int v5)]) dX11_makings_78 (by decide) rfl ?_
    refine z_iinc (j := 4) dX11_makings_80 (by decide) rfl (by decide) (fun x58003 => ?_)
    refine y_loc (lv' := [(5, .int x58003), (4, .int v5), (3, .int x58001), (0, .ref 71), (2, .int v2)]) rfl ?_
    refine y_goto (tgt := 35) dX11_makings_83 (by decide) ?_
    refine y_sub [(0, .ref 71), (2, .int v2), (3, .int x58001), (4, .int v5), (5, .int x58003)] [3, 4, 2, 1, 0] rfl ?_
    exact hK35 v2 x58001 v5 x58003 w 
set_option maxRecDepth 20000 in
set_option maxHeartbeats 2000000 in
theorem p_X11_makings_L35 {G : xG} {d : Nat} {n t : Nat} (hn : 102 ≤ n) (hd : 40 ≤ d) : ∀ (fu : Nat) (v2 : Int32) (v3 : Int32) (v4 : Int32) (v5 : Int32) (w : xI), xC G m_X11_makings d 35 [(0, .ref 71), (2, .int v2), (3, .int v3), (4, .int v4), (5, .int v5)] [] (xFin n t) w (fun x : Int32 => some (Value.int x)) (xFin n t) (f_X11_makings_L35 fu v2 v3 v4 v5 w) := by
  intro fu
  induction fu with
  | zero => intro v2 v3 v4 v5 w; exact xC.none
  | succ fu ih =>
    intro v2 v3 v4 v5 w
    rw [f_X11_makings_L35]
    refine y_iload dX11_makings_35 4 rfl ?_
    refine y_iconst (v := 1) dX11_makings_37 (by decide) ?_
    refine y_icmp_lt (tgt := 86) dX11_makings_38 (by decide) ?_ ?_
    · refine y_iload_n dX11_makings_86 rfl 1 rfl ?_
      refine y_if_ne (tgt := 94) dX11_makings_87 (by decide) ?_ ?_
      · refine y_iload dX11_makings_94 3 rfl ?_
        exact y_ireturn dX11_makings_96 rfl rfl rfl
      · refine y_iload_n dX11_makings_90 rfl 2 rfl ?_
        refine y_goto (tgt := 96) dX11_makings_91 (by decide) ?_
        exact y_ireturn dX11_makings_96 rfl rfl rfl
    · refine y_iload_n dX11_makings_41 rfl 2 rfl ?_
      refine y_aload_n dX11_makings_42 rfl 0 rfl ?_
      refine y_getr (q := 95) dX11_makings_43 flX11_79 (xlt rfl hn) rfl rfl rfl ?_
      refine y_iload dX11_makings_46 4 rfl ?_
      refine z_iald (v := (w 95 v5.toNatClampNeg)) dX11_makings_48 (xlt rfl hn) rfl rfl ?_
      refine y_iconst (v := (-1)) dX11_makings_49 (by decide) ?_
      refine y_icmp_ne (tgt := 57) dX11_makings_50 (by decide) ?_ ?_
      · refine y_iconst (v := 1) dX11_makings_57 (by decide) ?_
        refine y_sub [(0, .ref 71), (2, .int v2), (4, .int v4), (5, .int v5)] [0, 1, 3, 4] rfl ?_
        refine p_X11_makings_L58 hn hd ?_ v2 v4 v5 (1 : Int32) v3 w 
        · intro v2_35001 v3_35001 v4_35001 v5_35001 w35001 
          exact ih v2_35001 v3_35001 v4_35001 v5_35001 w35001 
      · refine y_iconst (v := 0) dX11_makings_53 (by decide) ?_
        refine y_goto (tgt := 58) dX11_makings_54 (by decide) ?_
        refine y_sub [(0, .ref 71), (2, .int v2), (4, .int v4), (5, .int v5)] [0, 1, 3, 4] rfl ?_
        refine p_X11_makings_L58 hn hd ?_ v2 v4 v5 (0 : Int32) v3 w 
        · intro v2_35002 v3_35002 v4_35002 v5_35002 w35002 
          exact ih v2_35002 v3_35002 v4_35002 v5_35002 w35002 
set_option maxRecDepth 20000 in
set_option maxHeartbeats 2000000 in
theorem p_X11_makings {G : xG} {d : Nat} {n t : Nat} (hn : 102 ≤ n) (hd : 40 ≤ d) (a1 : Int32) (a2 : Int32) (w : xI) : xMet G m_X11_makings d [.ref 71, .int a1, .int a2] (xFin n t) w (fun x : Int32 => some (Value.int x)) (xFin n t) (f_X11_makings a1 a2 w) := by
  refine xMet.of rfl (Nat.le_of_ble_eq_true rfl) ?_
  unfold f_X11_makings
  show xC G m_X11_makings d 0 [(0, .ref 71), (1, .int a1), (2, .int a2)] [] (xFin n t) w _ _ _
  refine y_iload_n dX11_makings_0 rfl 1 rfl ?_
  refine y_iconst (v := 0) dX11_makings_1 (by decide) ?_
  refine y_sipush (v := 999) dX11_makings_2 (by decide) ?_
  refine y_callS (As := [.int a1, .int (0 : Int32), .int (999 : Int32)]) (d2 := d - 1) dX11_makings_5 kX11_114 (by omega) rfl rfl (Nat.le_of_ble_eq_true rfl) (p_X11_in hn (by omega)  _ _ _ _) (fun r1 w2 _ => ?_)
  refine y_if_eq (tgt := 20) dX11_makings_8 (by decide) ?_ ?_
  · refine y_bipush (v := (-2)) dX11_makings_20 (by decide) ?_
    exact y_ireturn dX11_makings_22 rfl rfl rfl
  · refine y_iload_n dX11_makings_11 rfl 2 rfl ?_
    refine y_iconst (v := 0) dX11_makings_12 (by decide) ?_
    refine y_iconst (v := 1) dX11_makings_13 (by decide) ?_
    refine y_callS (As := [.int a2, .int (0 : Int32), .int (1 : Int32)]) (d2 := d - 1) dX11_makings_14 kX11_114 (by omega) rfl rfl (Nat.le_of_ble_eq_true rfl) (p_X11_in hn (by omega)  _ _ _ _) (fun r3 w4 _ => ?_)
    refine y_if_ne (tgt := 23) dX11_makings_17 (by decide) ?_ ?_
    · refine y_aload_n dX11_makings_23 rfl 0 rfl ?_
      refine y_callV (As := []) (d2 := d - 1) dX11_makings_24 kX11_224 (by omega) rfl rfl (Nat.le_of_ble_eq_true rfl) (xlt rfl hn) rfl rfl (p_X11_findsMade hn (by omega)   _) (fun r5 w6 _ => ?_)
      refine y_iconst (v := 0) dX11_makings_27 (by decide) ?_
      refine y_istore_n (lv' := [(3, .int (0 : Int32)), (0, .ref 71), (1, .int a1), (2, .int a2)]) dX11_makings_28 rfl (by decide) rfl ?_
      refine y_iconst (v := (-1)) dX11_makings_29 (by decide) ?_
      refine y_istore (lv' := [(4, .int (-1 : Int32)), (3, .int (0 : Int32)), (0, .ref 71), (1, .int a1), (2, .int a2)]) dX11_makings_30 (by decide) rfl ?_
      refine y_iload_n dX11_makings_32 rfl 3 rfl ?_
      refine y_istore (lv' := [(5, .int a1), (4, .int (-1 : Int32)), (3, .int (0 : Int32)), (0, .ref 71), (1, .int a1), (2, .int a2)]) dX11_makings_33 (by decide) rfl ?_
      refine y_sub [(0, .ref 71), (2, .int a2), (3, .int (0 : Int32)), (4, .int (-1 : Int32)), (5, .int a1)] [3, 5, 2, 1, 0] rfl ?_
      refine p_X11_makings_L35 hn hd 2000 a2 (0 : Int32) (-1 : Int32) a1 w6 
    · refine y_bipush (v := (-2)) dX11_makings_20 (by decide) ?_
      exact y_ireturn dX11_makings_22 rfl rfl rfl
-- ===== X11_own: WeighedGateModel.own(II)I =====
set_option maxRecDepth 20000 in
set_option maxHeartbeats 2000000 in
theorem p_X11_own_L105 {G : xG} {d : Nat} {n t : Nat} (hn : 102 ≤ n) (hd : 40 ≤ d) {K58 : Int32 → Int32 → Int32 → Int32 → Int32 → Int32 → Int32 → xI → Option (Int32 × xI)} (hK58 : ∀ (v1 : Int32) (v2 : Int32) (v3 : Int32) (v4 : Int32) (v5 : Int32) (v6 : Int32) (v7 : Int32) (w : xI), xC G m_X11_own d 58 [(0, .ref 71), (1, .int v1), (2, .int v2), (3, .int v3), (4, .int v4), (5, .int v5), (6, .int v6), (7, .int v7)] [] (xFin n t) w (fun x : Int32 => some (Value.int x)) (xFin n t) (K58 v1 v2 v3 v4 v5 v6 v7 w)) (v1 : Int32) (v2 : Int32) (v3 : Int32) (v4 : Int32) (v5 : Int32) (v6 : Int32) (v7 : Int32) (w : xI) : xC G m_X11_own d 105 [(0, .ref 71), (1, .int v1), (2, .int v2), (3, .int v3), (4, .int v4), (5, .int v5), (6, .int v6), (7, .int v7)] [] (xFin n t) w (fun x : Int32 => some (Value.int x)) (xFin n t) (f_X11_own_L105 K58 v1 v2 v3 v4 v5 v6 v7 w) := by
  unfold f_X11_own_L105
  refine y_iconst (v := 1) dX11_own_105 (by decide) ?_
  refine y_goto (tgt := 110) dX11_own_106 (by decide) ?_
  refine y_istore (lv' := [(8, .int (1 : Int32)), (0, .ref 71), (1, .int v1), (2, .int v2), (3, .int v3), (4, .int v4), (5, .int v5), (6, .int v6), (7, .int v7)]) dX11_own_110 (by decide) rfl ?_
  refine y_iload dX11_own_112 7 rfl ?_
  refine y_iload dX11_own_114 0 rfl ?_
  refine y_if_eq (tgt := 123) dX11_own_116 (by decide) ?_ ?_
  · refine y_iconst (v := 0) dX11_own_123 (by decide) ?_
    refine y_iadd dX11_own_124 ?_
    refine y_let (fun x105001 => ?_)
    refine y_istore (lv' := [(6, .int x105001), (8, .int (1 : Int32)), (0, .ref 71), (1, .int v1), (2, .int v2), (3, .int v3), (4, .int v4), (5, .int v5), (7, .int v7)]) dX11_own_125 (by decide) rfl ?_
    refine z_iinc (j := 8) dX11_own_127 (by decide) rfl (by decide) (fun x105002 => ?_)
    refine y_loc (lv' := [(7, .int x105002), (6, .int x105001), (8, .int (1 : Int32)), (0, .ref 71), (1, .int v1), (2, .int v2), (3, .int v3), (4, .int v4), (5, .int v5)]) rfl ?_
    refine y_goto (tgt := 58) dX11_own_130 (by decide) ?_
    refine y_sub [(0, .ref 71), (1, .int v1), (2, .int v2), (3, .int v3), (4, .int v4), (5, .int v5), (6, .int x105001), (7, .int x105002)] [3, 4, 5, 6, 7, 8, 1, 0] rfl ?_
    exact hK58 v1 v2 v3 v4 v5 x105001 x105002 w 
  · refine y_iconst (v := 1) dX11_own_119 (by decide) ?_
    refine y_goto (tgt := 124) dX11_own_120 (by decide) ?_
    refine y_iadd dX11_own_124 ?_
    refine y_let (fun x105003 => ?_)
    refine y_istore (lv' := [(6, .int x105003), (8, .int (1 : Int32)), (0, .ref 71), (1, .int v1), (2, .int v2), (3, .int v3), (4, .int v4), (5, .int v5), (7, .int v7)]) dX11_own_125 (by decide) rfl ?_
    refine z_iinc (j := 8) dX11_own_127 (by decide) rfl (by decide) (fun x105004 => ?_)
    refine y_loc (lv' := [(7, .int x105004), (6, .int x105003), (8, .int (1 : Int32)), (0, .ref 71), (1, .int v1), (2, .int v2), (3, .int v3), (4, .int v4), (5, .int v5)]) rfl ?_
    refine y_goto (tgt := 58) dX11_own_130 (by decide) ?_
    refine y_sub [(0, .ref 71), (1, .int v1), (2, .int v2), (3, .int v3), (4, .int v4), (5, .int v5), (6, .int x105003), (7, .int x105004)] [3, 4, 5, 6, 7, 8, 1, 0] rfl ?_
    exact hK58 v1 v2 v3 v4 v5 x105003 x105004 w 
set_option maxRecDepth 20000 in
set_option maxHeartbeats 2000000 in
theorem p_X11_own_L58 {G : xG} {d : Nat} {n t : Nat} (hn : 102 ≤ n) (hd : 40 ≤ d) {K45 : Int32 → Int32 → Int32 → Int32 → Int32 → xI → Option (Int32 × xI)} (hK45 : ∀ (v1 : Int32) (v2 : Int32) (v3 : Int32) (v4 : Int32) (v5 : Int32) (w : xI), xC G m_X11_own d 45 [(0, .ref 71), (1, .int v1), (2, .int v2), (3, .int v3), (4, .int v4), (5, .int v5)] [] (xFin n t) w (fun x : Int32 => some (Value.int x)) (xFin n t) (K45 v1 v2 v3 v4 v5 w)) : ∀ (fu : Nat) (v1 : Int32) (v2 : Int32) (v3 : Int32) (v4 : Int32) (v5 : Int32) (v6 : Int32) (v7 : Int32) (w : xI), xC G m_X11_own d 58 [(0, .ref 71), (1, .int v1), (2, .int v2), (3, .int v3), (4, .int v4), (5, .int v5), (6, .int v6), (7, .int v7)] [] (xFin n t) w (fun x : Int32 => some (Value.int x)) (xFin n t) (f_X11_own_L58 K45 fu v1 v2 v3 v4 v5 v6 v7 w) := by
  intro fu
  induction fu with
  | zero => intro v1 v2 v3 v4 v5 v6 v7 w; exact xC.none
  | succ fu ih =>
    intro v1 v2 v3 v4 v5 v6 v7 w
    rw [f_X11_own_L58]
    refine y_iload dX11_own_58 7 rfl ?_
    refine y_iload_n dX11_own_60 rfl 1 rfl ?_
    refine y_icmp_gt (tgt := 133) dX11_own_61 (by decide) ?_ ?_
    · refine y_iload dX11_own_133 6 rfl ?_
      refine y_iload dX11_own_135 4 rfl ?_
      refine y_icmp_le (tgt := 145) dX11_own_137 (by decide) ?_ ?_
      · refine y_iload_n dX11_own_145 rfl 3 rfl ?_
        refine y_istore_n (lv' := [(3, .int v3), (0, .ref 71), (1, .int v1), (2, .int v2), (4, .int v4), (5, .int v5), (6, .int v6), (7, .int v7)]) dX11_own_146 rfl (by decide) rfl ?_
        refine y_iload dX11_own_147 6 rfl ?_
        refine y_iload dX11_own_149 4 rfl ?_
        refine y_icmp_le (tgt := 159) dX11_own_151 (by decide) ?_ ?_
        · refine y_iload dX11_own_159 4 rfl ?_
          refine y_istore (lv' := [(4, .int v4), (3, .int v3), (0, .ref 71), (1, .int v1), (2, .int v2), (5, .int v5), (6, .int v6), (7, .int v7)]) dX11_own_161 (by decide) rfl ?_
          refine z_iinc (j := 5) dX11_own_163 (by decide) rfl (by decide) (fun x58001 => ?_)
          refine y_loc (lv' := [(5, .int x58001), (4, .int v4), (3, .int v3), (0, .ref 71), (1, .int v1), (2, .int v2), (6, .int v6), (7, .int v7)]) rfl ?_
          refine y_goto (tgt := 45) dX11_own_166 (by decide) ?_
          refine y_sub [(0, .ref 71), (1, .int v1), (2, .int v2), (3, .int v3), (4, .int v4), (5, .int x58001)] [3, 4, 5, 2, 1, 0] rfl ?_
          exact hK45 v1 v2 v3 v4 x58001 w 
        · refine y_iload dX11_own_154 6 rfl ?_
          refine y_goto (tgt := 161) dX11_own_156 (by decide) ?_
          refine y_istore (lv' := [(4, .int v6), (3, .int v3), (0, .ref 71), (1, .int v1), (2, .int v2), (5, .int v5), (6, .int v6), (7, .int v7)]) dX11_own_161 (by decide) rfl ?_
          refine z_iinc (j := 5) dX11_own_163 (by decide) rfl (by decide) (fun x58002 => ?_)
          refine y_loc (lv' := [(5, .int x58002), (4, .int v6), (3, .int v3), (0, .ref 71), (1, .int v1), (2, .int v2), (6, .int v6), (7, .int v7)]) rfl ?_
          refine y_goto (tgt := 45) dX11_own_166 (by decide) ?_
          refine y_sub [(0, .ref 71), (1, .int v1), (2, .int v2), (3, .int v3), (4, .int v6), (5, .int x58002)] [3, 4, 5, 2, 1, 0] rfl ?_
          exact hK45 v1 v2 v3 v6 x58002 w 
      · refine y_iload dX11_own_140 5 rfl ?_
        refine y_goto (tgt := 146) dX11_own_142 (by decide) ?_
        refine y_istore_n (lv' := [(3, .int v5), (0, .ref 71), (1, .int v1), (2, .int v2), (4, .int v4), (5, .int v5), (6, .int v6), (7, .int v7)]) dX11_own_146 rfl (by decide) rfl ?_
        refine y_iload dX11_own_147 6 rfl ?_
        refine y_iload dX11_own_149 4 rfl ?_
        refine y_icmp_le (tgt := 159) dX11_own_151 (by decide) ?_ ?_
        · refine y_iload dX11_own_159 4 rfl ?_
          refine y_istore (lv' := [(4, .int v4), (3, .int v5), (0, .ref 71), (1, .int v1), (2, .int v2), (5, .int v5), (6, .int v6), (7, .int v7)]) dX11_own_161 (by decide) rfl ?_
          refine z_iinc (j := 5) dX11_own_163 (by decide) rfl (by decide) (fun x58003 => ?_)
          refine y_loc (lv' := [(5, .int x58003), (4, .int v4), (3, .int v5), (0, .ref 71), (1, .int v1), (2, .int v2), (6, .int v6), (7, .int v7)]) rfl ?_
          refine y_goto (tgt := 45) dX11_own_166 (by decide) ?_
          refine y_sub [(0, .ref 71), (1, .int v1), (2, .int v2), (3, .int v5), (4, .int v4), (5, .int x58003)] [3, 4, 5, 2, 1, 0] rfl ?_
          exact hK45 v1 v2 v5 v4 x58003 w 
        · refine y_iload dX11_own_154 6 rfl ?_
          refine y_goto (tgt := 161) dX11_own_156 (by decide) ?_
          refine y_istore (lv' := [(4, .int v6), (3, .int v5), (0, .ref 71), (1, .int v1), (2, .int v2), (5, .int v5), (6, .int v6), (7, .int v7)]) dX11_own_161 (by decide) rfl ?_
          refine z_iinc (j := 5) dX11_own_163 (by decide) rfl (by decide) (fun x58004 => ?_)
          refine y_loc (lv' := [(5, .int x58004), (4, .int v6), (3, .int v5), (0, .ref 71), (1, .int v1), (2, .int v2), (6, .int v6), (7, .int v7)]) rfl ?_
          refine y_goto (tgt := 45) dX11_own_166 (by decide) ?_
          refine y_sub [(0, .ref 71), (1, .int v1), (2, .int v2), (3, .int v5), (4, .int v6), (5, .int x58004)] [3, 4, 5, 2, 1, 0] rfl ?_
          exact hK45 v1 v2 v5 v6 x58004 w 
    · refine y_aload_n dX11_own_64 rfl 0 rfl ?_
      refine y_getr (q := 95) dX11_own_65 flX11_79 (xlt rfl hn) rfl rfl rfl ?_
      refine y_iload dX11_own_68 7 rfl ?_
      refine z_iald (v := (w 95 v7.toNatClampNeg)) dX11_own_70 (xlt rfl hn) rfl rfl ?_
      refine y_iconst (v := (-1)) dX11_own_71 (by decide) ?_
      refine y_icmp_ne (tgt := 105) dX11_own_72 (by decide) ?_ ?_
      · refine p_X11_own_L105 hn hd ?_ v1 v2 v3 v4 v5 v6 v7 w 
        · intro v1_58005 v2_58005 v3_58005 v4_58005 v5_58005 v6_58005 v7_58005 w58005 
          exact ih v1_58005 v2_58005 v3_58005 v4_58005 v5_58005 v6_58005 v7_58005 w58005 
      · refine y_aload_n dX11_own_75 rfl 0 rfl ?_
        refine y_getr (q := 95) dX11_own_76 flX11_79 (xlt rfl hn) rfl rfl rfl ?_
        refine y_iload dX11_own_79 7 rfl ?_
        refine y_iload dX11_own_81 5 rfl ?_
        refine y_callS (As := [.int v7, .int v5]) (d2 := d - 1) dX11_own_83 kX11_217 (by omega) rfl rfl (Nat.le_of_ble_eq_true rfl) (p_X11_apart hn (by omega)  _ _ _) (fun r58006 w58007 _ => ?_)
        refine z_iald (v := (w58007 95 r58006.toNatClampNeg)) dX11_own_86 (xlt rfl hn) rfl rfl ?_
        refine y_iconst (v := (-1)) dX11_own_87 (by decide) ?_
        refine y_icmp_ne (tgt := 105) dX11_own_88 (by decide) ?_ ?_
        · refine p_X11_own_L105 hn hd ?_ v1 v2 v3 v4 v5 v6 v7 w58007 
          · intro v1_58008 v2_58008 v3_58008 v4_58008 v5_58008 v6_58008 v7_58008 w58008 
            exact ih v1_58008 v2_58008 v3_58008 v4_58008 v5_58008 v6_58008 v7_58008 w58008 
        · refine y_aload_n dX11_own_91 rfl 0 rfl ?_
          refine y_getr (q := 95) dX11_own_92 flX11_79 (xlt rfl hn) rfl rfl rfl ?_
          refine y_iload dX11_own_95 7 rfl ?_
          refine y_iload dX11_own_97 5 rfl ?_
          refine y_iadd dX11_own_99 ?_
          refine z_iald (v := (w58007 95 (v7 + v5).toNatClampNeg)) dX11_own_100 (xlt rfl hn) rfl rfl ?_
          refine y_iconst (v := (-1)) dX11_own_101 (by decide) ?_
          refine y_icmp_eq (tgt := 109) dX11_own_102 (by decide) ?_ ?_
          · refine y_iconst (v := 0) dX11_own_109 (by decide) ?_
            refine y_istore (lv' := [(8, .int (0 : Int32)), (0, .ref 71), (1, .int v1), (2, .int v2), (3, .int v3), (4, .int v4), (5, .int v5), (6, .int v6), (7, .int v7)]) dX11_own_110 (by decide) rfl ?_
            refine y_iload dX11_own_112 7 rfl ?_
            refine y_iload dX11_own_114 0 rfl ?_
            refine y_if_eq (tgt := 123) dX11_own_116 (by decide) ?_ ?_
            · refine y_iconst (v := 0) dX11_own_123 (by decide) ?_
              refine y_iadd dX11_own_124 ?_
              refine y_let (fun x58009 => ?_)
              refine y_istore (lv' := [(6, .int x58009), (8, .int (0 : Int32)), (0, .ref 71), (1, .int v1), (2, .int v2), (3, .int v3), (4, .int v4), (5, .int v5), (7, .int v7)]) dX11_own_125 (by decide) rfl ?_
              refine z_iinc (j := 8) dX11_own_127 (by decide) rfl (by decide) (fun x58010 => ?_)
              refine y_loc (lv' := [(7, .int x58010), (6, .int x58009), (8, .int (0 : Int32)), (0, .ref 71), (1, .int v1), (2, .int v2), (3, .int v3), (4, .int v4), (5, .int v5)]) rfl ?_
              refine y_goto (tgt := 58) dX11_own_130 (by decide) ?_
              refine y_sub [(0, .ref 71), (1, .int v1), (2, .int v2), (3, .int v3), (4, .int v4), (5, .int v5), (6, .int x58009), (7, .int x58010)] [3, 4, 5, 6, 7, 8, 1, 0] rfl ?_
              exact ih v1 v2 v3 v4 v5 x58009 x58010 w58007 
            · refine y_iconst (v := 1) dX11_own_119 (by decide) ?_
              refine y_goto (tgt := 124) dX11_own_120 (by decide) ?_
              refine y_iadd dX11_own_124 ?_
              refine y_let (fun x58011 => ?_)
              refine y_istore (lv' := [(6, .int x58011), (8, .int (0 : Int32)), (0, .ref 71), (1, .int v1), (2, .int v2), (3, .int v3), (4, .int v4), (5, .int v5), (7, .int v7)]) dX11_own_125 (by decide) rfl ?_
              refine z_iinc (j := 8) dX11_own_127 (by decide) rfl (by decide) (fun x58012 => ?_)
              refine y_loc (lv' := [(7, .int x58012), (6, .int x58011), (8, .int (0 : Int32)), (0, .ref 71), (1, .int v1), (2, .int v2), (3, .int v3), (4, .int v4), (5, .int v5)]) rfl ?_
              refine y_goto (tgt := 58) dX11_own_130 (by decide) ?_
              refine y_sub [(0, .ref 71), (1, .int v1), (2, .int v2), (3, .int v3), (4, .int v4), (5, .int v5), (6, .int x58011), (7, .int x58012)] [3, 4, 5, 6, 7, 8, 1, 0] rfl ?_
              exact ih v1 v2 v3 v4 v5 x58011 x58012 w58007 
          · refine p_X11_own_L105 hn hd ?_ v1 v2 v3 v4 v5 v6 v7 w58007 
            · intro v1_58013 v2_58013 v3_58013 v4_58013 v5_58013 v6_58013 v7_58013 w58013 
              exact ih v1_58013 v2_58013 v3_58013 v4_58013 v5_58013 v6_58013 v7_58013 w58013 
set_option maxRecDepth 20000 in
set_option maxHeartbeats 2000000 in
theorem p_X11_own_L45 {G : xG} {d : Nat} {n t : Nat} (hn : 102 ≤ n) (hd : 40 ≤ d) : ∀ (fu : Nat) (v1 : Int32) (v2 : Int32) (v3 : Int32) (v4 : Int32) (v5 : Int32) (w : xI), xC G m_X11_own d 45 [(0, .ref 71), (1, .int v1), (2, .int v2), (3, .int v3), (4, .int v4), (5, .int v5)] [] (xFin n t) w (fun x : Int32 => some (Value.int x)) (xFin n t) (f_X11_own_L45 fu v1 v2 v3 v4 v5 w) := by
  intro fu
  induction fu with
  | zero => intro v1 v2 v3 v4 v5 w; exact xC.none
  | succ fu ih =>
    intro v1 v2 v3 v4 v5 w
    rw [f_X11_own_L45]
    refine y_iload dX11_own_45 5 rfl ?_
    refine y_bipush (v := 99) dX11_own_47 (by decide) ?_
    refine y_icmp_gt (tgt := 169) dX11_own_49 (by decide) ?_ ?_
    · refine y_iload_n dX11_own_169 rfl 2 rfl ?_
      refine y_if_ne (tgt := 177) dX11_own_170 (by decide) ?_ ?_
      · refine y_iload dX11_own_177 4 rfl ?_
        exact y_ireturn dX11_own_179 rfl rfl rfl
      · refine y_iload_n dX11_own_173 rfl 3 rfl ?_
        refine y_goto (tgt := 179) dX11_own_174 (by decide) ?_
        exact y_ireturn dX11_own_179 rfl rfl rfl
    · refine y_iconst (v := 0) dX11_own_52 (by decide) ?_
      refine y_istore (lv' := [(6, .int (0 : Int32)), (0, .ref 71), (1, .int v1), (2, .int v2), (3, .int v3), (4, .int v4), (5, .int v5)]) dX11_own_53 (by decide) rfl ?_
      refine y_iconst (v := 1) dX11_own_55 (by decide) ?_
      refine y_istore (lv' := [(7, .int (1 : Int32)), (6, .int (0 : Int32)), (0, .ref 71), (1, .int v1), (2, .int v2), (3, .int v3), (4, .int v4), (5, .int v5)]) dX11_own_56 (by decide) rfl ?_
      refine y_sub [(0, .ref 71), (1, .int v1), (2, .int v2), (3, .int v3), (4, .int v4), (5, .int v5), (6, .int (0 : Int32)), (7, .int (1 : Int32))] [2, 3, 4, 5, 6, 7, 1, 0] rfl ?_
      refine p_X11_own_L58 hn hd ?_ 2000 v1 v2 v3 v4 v5 (0 : Int32) (1 : Int32) w 
      · intro v1_45001 v2_45001 v3_45001 v4_45001 v5_45001 w45001 
        exact ih v1_45001 v2_45001 v3_45001 v4_45001 v5_45001 w45001 
set_option maxRecDepth 20000 in
set_option maxHeartbeats 2000000 in
theorem p_X11_own {G : xG} {d : Nat} {n t : Nat} (hn : 102 ≤ n) (hd : 40 ≤ d) (a1 : Int32) (a2 : Int32) (w : xI) : xMet G m_X11_own d [.ref 71, .int a1, .int a2] (xFin n t) w (fun x : Int32 => some (Value.int x)) (xFin n t) (f_X11_own a1 a2 w) := by
  refine xMet.of rfl (Nat.le_of_ble_eq_true rfl) ?_
  unfold f_X11_own
  show xC G m_X11_own d 0 [(0, .ref 71), (1, .int a1), (2, .int a2)] [] (xFin n t) w _ _ _
  refine y_iload_n dX11_own_0 rfl 1 rfl ?_
  refine y_iconst (v := 0) dX11_own_1 (by decide) ?_
  refine y_bipush (v := 99) dX11_own_2 (by decide) ?_
  refine y_callS (As := [.int a1, .int (0 : Int32), .int (99 : Int32)]) (d2 := d - 1) dX11_own_4 kX11_114 (by omega) rfl rfl (Nat.le_of_ble_eq_true rfl) (p_X11_in hn (by omega)  _ _ _ _) (fun r1 w2 _ => ?_)
  refine y_if_eq (tgt := 19) dX11_own_7 (by decide) ?_ ?_
  · refine y_bipush (v := (-2)) dX11_own_19 (by decide) ?_
    exact y_ireturn dX11_own_21 rfl rfl rfl
  · refine y_iload_n dX11_own_10 rfl 2 rfl ?_
    refine y_iconst (v := 0) dX11_own_11 (by decide) ?_
    refine y_iconst (v := 1) dX11_own_12 (by decide) ?_
    refine y_callS (As := [.int a2, .int (0 : Int32), .int (1 : Int32)]) (d2 := d - 1) dX11_own_13 kX11_114 (by omega) rfl rfl (Nat.le_of_ble_eq_true rfl) (p_X11_in hn (by omega)  _ _ _ _) (fun r3 w4 _ => ?_)
    refine y_if_ne (tgt := 22) dX11_own_16 (by decide) ?_ ?_
    · refine y_aload_n dX11_own_22 rfl 0 rfl ?_
      refine z_geti (v := (w4 71 1)) dX11_own_23 flX11_118 (xlt rfl hn) rfl rfl rfl ?_
      refine y_iconst (v := 5) dX11_own_26 (by decide) ?_
      refine y_icmp_ne (tgt := 33) dX11_own_27 (by decide) ?_ ?_
      · refine y_aload_n dX11_own_33 rfl 0 rfl ?_
        refine y_callV (As := []) (d2 := d - 1) dX11_own_34 kX11_224 (by omega) rfl rfl (Nat.le_of_ble_eq_true rfl) (xlt rfl hn) rfl rfl (p_X11_findsMade hn (by omega)   _) (fun r5 w6 _ => ?_)
        refine y_iconst (v := 0) dX11_own_37 (by decide) ?_
        refine y_istore_n (lv' := [(3, .int (0 : Int32)), (0, .ref 71), (1, .int a1), (2, .int a2)]) dX11_own_38 rfl (by decide) rfl ?_
        refine y_iconst (v := (-1)) dX11_own_39 (by decide) ?_
        refine y_istore (lv' := [(4, .int (-1 : Int32)), (3, .int (0 : Int32)), (0, .ref 71), (1, .int a1), (2, .int a2)]) dX11_own_40 (by decide) rfl ?_
        refine y_iconst (v := 1) dX11_own_42 (by decide) ?_
        refine y_istore (lv' := [(5, .int (1 : Int32)), (4, .int (-1 : Int32)), (3, .int (0 : Int32)), (0, .ref 71), (1, .int a1), (2, .int a2)]) dX11_own_43 (by decide) rfl ?_
        refine y_sub [(0, .ref 71), (1, .int a1), (2, .int a2), (3, .int (0 : Int32)), (4, .int (-1 : Int32)), (5, .int (1 : Int32))] [3, 4, 5, 2, 1, 0] rfl ?_
        refine p_X11_own_L45 hn hd 2000 a1 a2 (0 : Int32) (-1 : Int32) (1 : Int32) w6 
      · refine y_bipush (v := (-3)) dX11_own_30 (by decide) ?_
        exact y_ireturn dX11_own_32 rfl rfl rfl
    · refine y_bipush (v := (-2)) dX11_own_19 (by decide) ?_
      exact y_ireturn dX11_own_21 rfl rfl rfl
-- ===== X11_falsely: WeighedGateModel.falsely(I)I =====
set_option maxRecDepth 20000 in
set_option maxHeartbeats 2000000 in
theorem p_X11_falsely_L34 {G : xG} {d : Nat} {n t : Nat} (hn : 102 ≤ n) (hd : 40 ≤ d) : ∀ (fu : Nat) (v1 : Int32) (v2 : Int32) (v3 : Int32) (w : xI), xC G m_X11_falsely d 34 [(0, .ref 71), (1, .int v1), (2, .int v2), (3, .int v3)] [] (xFin n t) w (fun x : Int32 => some (Value.int x)) (xFin n t) (f_X11_falsely_L34 fu v1 v2 v3 w) := by
  intro fu
  induction fu with
  | zero => intro v1 v2 v3 w; exact xC.none
  | succ fu ih =>
    intro v1 v2 v3 w
    rw [f_X11_falsely_L34]
    refine y_iload_n dX11_falsely_34 rfl 3 rfl ?_
    refine y_aload_n dX11_falsely_35 rfl 0 rfl ?_
    refine z_geti (v := (w 71 1)) dX11_falsely_36 flX11_118 (xlt rfl hn) rfl rfl rfl ?_
    refine y_icmp_ge (tgt := 92) dX11_falsely_39 (by decide) ?_ ?_
    · refine y_iload_n dX11_falsely_92 rfl 2 rfl ?_
      exact y_ireturn dX11_falsely_93 rfl rfl rfl
    · refine y_aload_n dX11_falsely_42 rfl 0 rfl ?_
      refine y_getr (q := 73) dX11_falsely_43 flX11_13 (xlt rfl hn) rfl rfl rfl ?_
      refine y_iload_n dX11_falsely_46 rfl 3 rfl ?_
      refine y_dup2 dX11_falsely_47 rfl rfl ?_
      refine z_iald (v := (w 73 v3.toNatClampNeg)) dX11_falsely_48 (xlt rfl hn) rfl rfl ?_
      refine y_iconst (v := 1) dX11_falsely_49 (by decide) ?_
      refine y_iadd dX11_falsely_50 ?_
      refine y_iast dX11_falsely_51 (xlt rfl hn) rfl ?_
      refine y_aload_n dX11_falsely_52 rfl 0 rfl ?_
      refine y_callV (As := []) (d2 := d - 1) dX11_falsely_53 kX11_224 (by omega) rfl rfl (Nat.le_of_ble_eq_true rfl) (xlt rfl hn) rfl rfl (p_X11_findsMade hn (by omega)   _) (fun r34001 w34002 _ => ?_)
      refine y_iload_n dX11_falsely_56 rfl 2 rfl ?_
      refine y_aload_n dX11_falsely_57 rfl 0 rfl ?_
      refine y_getr (q := 95) dX11_falsely_58 flX11_79 (xlt rfl hn) rfl rfl rfl ?_
      refine y_iload_n dX11_falsely_61 rfl 1 rfl ?_
      refine z_iald (v := (w34002 95 v1.toNatClampNeg)) dX11_falsely_62 (xlt rfl hn) rfl rfl ?_
      refine y_iconst (v := (-1)) dX11_falsely_63 (by decide) ?_
      refine y_icmp_eq (tgt := 73) dX11_falsely_64 (by decide) ?_ ?_
      · refine y_iconst (v := 0) dX11_falsely_73 (by decide) ?_
        refine y_ior dX11_falsely_74 ?_
        refine y_let (fun x34003 => ?_)
        refine y_istore_n (lv' := [(2, .int x34003), (0, .ref 71), (1, .int v1), (3, .int v3)]) dX11_falsely_75 rfl (by decide) rfl ?_
        refine y_aload_n dX11_falsely_76 rfl 1 rfl ?_
        refine y_getr (q := 73) dX11_falsely_77 flX11_13 (xlt rfl hn) rfl rfl rfl ?_
        refine y_iload_n dX11_falsely_80 rfl 3 rfl ?_
        refine y_dup2 dX11_falsely_81 rfl rfl ?_
        refine z_iald (v := (w34002 73 v3.toNatClampNeg)) dX11_falsely_82 (xlt rfl hn) rfl rfl ?_
        refine y_iconst (v := 1) dX11_falsely_83 (by decide) ?_
        refine y_isub dX11_falsely_84 ?_
        refine y_iast dX11_falsely_85 (xlt rfl hn) rfl ?_
        refine z_iinc (j := 3) dX11_falsely_86 (by decide) rfl (by decide) (fun x34004 => ?_)
        refine y_loc (lv' := [(3, .int x34004), (2, .int x34003), (0, .ref 71), (1, .int v1)]) rfl ?_
        refine y_goto (tgt := 34) dX11_falsely_89 (by decide) ?_
        refine y_sub [(0, .ref 71), (1, .int v1), (2, .int x34003), (3, .int x34004)] [2, 3, 1, 0] rfl ?_
        exact ih v1 x34003 x34004 (xup w34002 73 v3.toNatClampNeg ((w34002 73 v3.toNatClampNeg) - (1 : Int32))) 
      · refine y_iconst (v := 1) dX11_falsely_67 (by decide) ?_
        refine y_iload_n dX11_falsely_68 rfl 3 rfl ?_
        refine y_ishl dX11_falsely_69 ?_
        refine y_goto (tgt := 74) dX11_falsely_70 (by decide) ?_
        refine y_ior dX11_falsely_74 ?_
        refine y_let (fun x34005 => ?_)
        refine y_istore_n (lv' := [(2, .int x34005), (0, .ref 71), (1, .int v1), (3, .int v3)]) dX11_falsely_75 rfl (by decide) rfl ?_
        refine y_aload_n dX11_falsely_76 rfl 1 rfl ?_
        refine y_getr (q := 73) dX11_falsely_77 flX11_13 (xlt rfl hn) rfl rfl rfl ?_
        refine y_iload_n dX11_falsely_80 rfl 3 rfl ?_
        refine y_dup2 dX11_falsely_81 rfl rfl ?_
        refine z_iald (v := (w34002 73 v3.toNatClampNeg)) dX11_falsely_82 (xlt rfl hn) rfl rfl ?_
        refine y_iconst (v := 1) dX11_falsely_83 (by decide) ?_
        refine y_isub dX11_falsely_84 ?_
        refine y_iast dX11_falsely_85 (xlt rfl hn) rfl ?_
        refine z_iinc (j := 3) dX11_falsely_86 (by decide) rfl (by decide) (fun x34006 => ?_)
        refine y_loc (lv' := [(3, .int x34006), (2, .int x34005), (0, .ref 71), (1, .int v1)]) rfl ?_
        refine y_goto (tgt := 34) dX11_falsely_89 (by decide) ?_
        refine y_sub [(0, .ref 71), (1, .int v1), (2, .int x34005), (3, .int x34006)] [2, 3, 1, 0] rfl ?_
        exact ih v1 x34005 x34006 (xup w34002 73 v3.toNatClampNeg ((w34002 73 v3.toNatClampNeg) - (1 : Int32))) 
set_option maxRecDepth 20000 in
set_option maxHeartbeats 2000000 in
theorem p_X11_falsely {G : xG} {d : Nat} {n t : Nat} (hn : 102 ≤ n) (hd : 40 ≤ d) (a1 : Int32) (w : xI) : xMet G m_X11_falsely d [.ref 71, .int a1] (xFin n t) w (fun x : Int32 => some (Value.int x)) (xFin n t) (f_X11_falsely a1 w) := by
  refine xMet.of rfl (Nat.le_of_ble_eq_true rfl) ?_
  unfold f_X11_falsely
  show xC G m_X11_falsely d 0 [(0, .ref 71), (1, .int a1)] [] (xFin n t) w _ _ _
  refine y_iload_n dX11_falsely_0 rfl 1 rfl ?_
  refine y_iconst (v := 0) dX11_falsely_1 (by decide) ?_
  refine y_sipush (v := 999) dX11_falsely_2 (by decide) ?_
  refine y_callS (As := [.int a1, .int (0 : Int32), .int (999 : Int32)]) (d2 := d - 1) dX11_falsely_5 kX11_114 (by omega) rfl rfl (Nat.le_of_ble_eq_true rfl) (p_X11_in hn (by omega)  _ _ _ _) (fun r1 w2 _ => ?_)
  refine y_if_ne (tgt := 14) dX11_falsely_8 (by decide) ?_ ?_
  · refine y_aload_n dX11_falsely_14 rfl 0 rfl ?_
    refine y_callV (As := []) (d2 := d - 1) dX11_falsely_15 kX11_224 (by omega) rfl rfl (Nat.le_of_ble_eq_true rfl) (xlt rfl hn) rfl rfl (p_X11_findsMade hn (by omega)   _) (fun r3 w4 _ => ?_)
    refine y_aload_n dX11_falsely_18 rfl 0 rfl ?_
    refine y_getr (q := 95) dX11_falsely_19 flX11_79 (xlt rfl hn) rfl rfl rfl ?_
    refine y_iload_n dX11_falsely_22 rfl 1 rfl ?_
    refine z_iald (v := (w4 95 a1.toNatClampNeg)) dX11_falsely_23 (xlt rfl hn) rfl rfl ?_
    refine y_iconst (v := (-1)) dX11_falsely_24 (by decide) ?_
    refine y_icmp_eq (tgt := 30) dX11_falsely_25 (by decide) ?_ ?_
    · refine y_iconst (v := 0) dX11_falsely_30 (by decide) ?_
      refine y_istore_n (lv' := [(2, .int (0 : Int32)), (0, .ref 71), (1, .int a1)]) dX11_falsely_31 rfl (by decide) rfl ?_
      refine y_iconst (v := 0) dX11_falsely_32 (by decide) ?_
      refine y_istore_n (lv' := [(3, .int (0 : Int32)), (2, .int (0 : Int32)), (0, .ref 71), (1, .int a1)]) dX11_falsely_33 rfl (by decide) rfl ?_
      refine y_sub [(0, .ref 71), (1, .int a1), (2, .int (0 : Int32)), (3, .int (0 : Int32))] [2, 3, 1, 0] rfl ?_
      refine p_X11_falsely_L34 hn hd 2000 a1 (0 : Int32) (0 : Int32) w4 
    · refine y_iconst (v := 0) dX11_falsely_28 (by decide) ?_
      exact y_ireturn dX11_falsely_29 rfl rfl rfl
  · refine y_bipush (v := (-2)) dX11_falsely_11 (by decide) ?_
    exact y_ireturn dX11_falsely_13 rfl rfl rfl
-- ===== X11_fewer: WeighedGateModel.fewer(II)I =====
set_option maxRecDepth 20000 in
set_option maxHeartbeats 2000000 in
theorem p_X11_fewer {G : xG} {d : Nat} {n t : Nat} (hn : 102 ≤ n) (hd : 0 ≤ d) (a1 : Int32) (a2 : Int32) (w : xI) : xMet G m_X11_fewer d [.int a1, .int a2] (xFin n t) w (fun x : Int32 => some (Value.int x)) (xFin n t) (f_X11_fewer a1 a2 w) := by
  refine xMet.of rfl (Nat.le_of_ble_eq_true rfl) ?_
  unfold f_X11_fewer
  show xC G m_X11_fewer d 0 [(0, .int a1), (1, .int a2)] [] (xFin n t) w _ _ _
  refine y_iload_n dX11_fewer_0 rfl 0 rfl ?_
  refine y_iconst (v := (-1)) dX11_fewer_1 (by decide) ?_
  refine y_icmp_ne (tgt := 9) dX11_fewer_2 (by decide) ?_ ?_
  · refine y_iload_n dX11_fewer_9 rfl 1 rfl ?_
    refine y_iconst (v := (-1)) dX11_fewer_10 (by decide) ?_
    refine y_icmp_eq (tgt := 19) dX11_fewer_11 (by decide) ?_ ?_
    · refine y_iload_n dX11_fewer_19 rfl 0 rfl ?_
      refine y_goto (tgt := 24) dX11_fewer_20 (by decide) ?_
      exact y_ireturn dX11_fewer_24 rfl rfl rfl
    · refine y_iload_n dX11_fewer_14 rfl 0 rfl ?_
      refine y_iload_n dX11_fewer_15 rfl 1 rfl ?_
      refine y_icmp_ge (tgt := 23) dX11_fewer_16 (by decide) ?_ ?_
      · refine y_iload_n dX11_fewer_23 rfl 1 rfl ?_
        exact y_ireturn dX11_fewer_24 rfl rfl rfl
      · refine y_iload_n dX11_fewer_19 rfl 0 rfl ?_
        refine y_goto (tgt := 24) dX11_fewer_20 (by decide) ?_
        exact y_ireturn dX11_fewer_24 rfl rfl rfl
  · refine y_iload_n dX11_fewer_5 rfl 1 rfl ?_
    refine y_goto (tgt := 24) dX11_fewer_6 (by decide) ?_
    exact y_ireturn dX11_fewer_24 rfl rfl rfl
-- ===== X11_weighing: WeighedGateModel.weighing(II)V =====
set_option maxRecDepth 20000 in
set_option maxHeartbeats 2000000 in
theorem p_X11_weighing_L373 {G : xG} {d : Nat} {n t : Nat} (hn : 102 ≤ n) (hd : 3 ≤ d) (v2 : Int32) (v3 : Int32) (v5 : Int32) (s0 : Int32) (w : xI) : xC G m_X11_weighing d 373 [(0, .ref 71), (2, .int v2), (3, .int v3), (5, .int v5)] [.int s0, .ref 71] (xFin n t) w (fun _ : Unit => none) (xFin n t) (f_X11_weighing_L373 v2 v3 v5 s0 w) := by
  unfold f_X11_weighing_L373
  refine y_putz dX11_weighing_373 flX11_245 (xlt rfl hn) rfl rfl ?_
  refine y_aload_n dX11_weighing_376 rfl 0 rfl ?_
  refine y_aload_n dX11_weighing_377 rfl 0 rfl ?_
  refine z_geti (v := s0) dX11_weighing_378 flX11_245 (xlt rfl hn) rfl rfl rfl ?_
  refine y_if_eq (tgt := 437) dX11_weighing_381 (by decide) ?_ ?_
  · refine y_iconst (v := 0) dX11_weighing_437 (by decide) ?_
    refine y_puti dX11_weighing_438 flX11_249 (xlt rfl hn) rfl rfl ?_
    exact y_return dX11_weighing_441 rfl rfl
  · refine y_iload dX11_weighing_384 3 rfl ?_
    refine y_aload_n dX11_weighing_386 rfl 0 rfl ?_
    refine y_iconst (v := 1) dX11_weighing_387 (by decide) ?_
    refine y_aload_n dX11_weighing_388 rfl 0 rfl ?_
    refine z_geti (v := (w 71 40)) dX11_weighing_389 flX11_227 (xlt rfl hn) rfl rfl rfl ?_
    refine y_aload_n dX11_weighing_392 rfl 0 rfl ?_
    refine z_geti (v := (w 71 41)) dX11_weighing_393 flX11_230 (xlt rfl hn) rfl rfl rfl ?_
    refine y_aload_n dX11_weighing_396 rfl 0 rfl ?_
    refine z_geti (v := (w 71 42)) dX11_weighing_397 flX11_233 (xlt rfl hn) rfl rfl rfl ?_
    refine y_iload_n dX11_weighing_400 rfl 1 rfl ?_
    refine y_iload_n dX11_weighing_401 rfl 2 rfl ?_
    refine y_aload_n dX11_weighing_402 rfl 0 rfl ?_
    refine z_geti (v := (w 71 43)) dX11_weighing_403 flX11_236 (xlt rfl hn) rfl rfl rfl ?_
    refine y_callV (As := [.int (1 : Int32), .int (w 71 40), .int (w 71 41), .int (w 71 42), .int v2, .int v3, .int (w 71 43)]) (d2 := d - 1) dX11_weighing_406 kX11_198 (by omega) rfl rfl (Nat.le_of_ble_eq_true rfl) (xlt rfl hn) rfl rfl (p_X11_asksOf hn (by omega)  _ _ _ _ _ _ _ _) (fun r373001 w373002 _ => ?_)
    refine y_isub dX11_weighing_409 ?_
    refine y_aload_n dX11_weighing_410 rfl 0 rfl ?_
    refine y_iconst (v := 2) dX11_weighing_411 (by decide) ?_
    refine y_aload_n dX11_weighing_412 rfl 0 rfl ?_
    refine z_geti (v := (w373002 71 40)) dX11_weighing_413 flX11_227 (xlt rfl hn) rfl rfl rfl ?_
    refine y_aload_n dX11_weighing_416 rfl 0 rfl ?_
    refine z_geti (v := (w373002 71 41)) dX11_weighing_417 flX11_230 (xlt rfl hn) rfl rfl rfl ?_
    refine y_aload_n dX11_weighing_420 rfl 0 rfl ?_
    refine z_geti (v := (w373002 71 42)) dX11_weighing_421 flX11_233 (xlt rfl hn) rfl rfl rfl ?_
    refine y_iload_n dX11_weighing_424 rfl 1 rfl ?_
    refine y_iload_n dX11_weighing_425 rfl 2 rfl ?_
    refine y_aload_n dX11_weighing_426 rfl 0 rfl ?_
    refine z_geti (v := (w373002 71 43)) dX11_weighing_427 flX11_236 (xlt rfl hn) rfl rfl rfl ?_
    refine y_callV (As := [.int (2 : Int32), .int (w373002 71 40), .int (w373002 71 41), .int (w373002 71 42), .int v2, .int v3, .int (w373002 71 43)]) (d2 := d - 1) dX11_weighing_430 kX11_198 (by omega) rfl rfl (Nat.le_of_ble_eq_true rfl) (xlt rfl hn) rfl rfl (p_X11_asksOf hn (by omega)  _ _ _ _ _ _ _ _) (fun r373003 w373004 _ => ?_)
    refine y_isub dX11_weighing_433 ?_
    refine y_goto (tgt := 438) dX11_weighing_434 (by decide) ?_
    refine y_puti dX11_weighing_438 flX11_249 (xlt rfl hn) rfl rfl ?_
    exact y_return dX11_weighing_441 rfl rfl
set_option maxRecDepth 20000 in
set_option maxHeartbeats 2000000 in
theorem p_X11_weighing_L330 {G : xG} {d : Nat} {n t : Nat} (hn : 102 ≤ n) (hd : 3 ≤ d) (v2 : Int32) (v3 : Int32) (v5 : Int32) (s0 : Int32) (w : xI) : xC G m_X11_weighing d 330 [(0, .ref 71), (2, .int v2), (3, .int v3), (5, .int v5)] [.int s0, .ref 71] (xFin n t) w (fun _ : Unit => none) (xFin n t) (f_X11_weighing_L330 v2 v3 v5 s0 w) := by
  unfold f_X11_weighing_L330
  refine y_putz dX11_weighing_330 flX11_245 (xlt rfl hn) rfl rfl ?_
  refine y_aload_n dX11_weighing_333 rfl 0 rfl ?_
  refine y_aload_n dX11_weighing_334 rfl 0 rfl ?_
  refine z_geti (v := s0) dX11_weighing_335 flX11_245 (xlt rfl hn) rfl rfl rfl ?_
  refine y_if_eq (tgt := 372) dX11_weighing_338 (by decide) ?_ ?_
  · refine y_iconst (v := 0) dX11_weighing_372 (by decide) ?_
    refine p_X11_weighing_L373 hn hd v2 v3 v5 (0 : Int32) (xup w 71 44 s0) 
  · refine y_aload_n dX11_weighing_341 rfl 0 rfl ?_
    refine y_iconst (v := 0) dX11_weighing_342 (by decide) ?_
    refine y_aload_n dX11_weighing_343 rfl 0 rfl ?_
    refine z_geti (v := (w 71 40)) dX11_weighing_344 flX11_227 (xlt rfl hn) rfl rfl rfl ?_
    refine y_aload_n dX11_weighing_347 rfl 0 rfl ?_
    refine z_geti (v := (w 71 41)) dX11_weighing_348 flX11_230 (xlt rfl hn) rfl rfl rfl ?_
    refine y_aload_n dX11_weighing_351 rfl 0 rfl ?_
    refine z_geti (v := (w 71 42)) dX11_weighing_352 flX11_233 (xlt rfl hn) rfl rfl rfl ?_
    refine y_iload_n dX11_weighing_355 rfl 1 rfl ?_
    refine y_iload_n dX11_weighing_356 rfl 2 rfl ?_
    refine y_aload_n dX11_weighing_357 rfl 0 rfl ?_
    refine z_geti (v := (w 71 43)) dX11_weighing_358 flX11_236 (xlt rfl hn) rfl rfl rfl ?_
    refine y_callV (As := [.int (0 : Int32), .int (w 71 40), .int (w 71 41), .int (w 71 42), .int v2, .int v3, .int (w 71 43)]) (d2 := d - 1) dX11_weighing_361 kX11_198 (by omega) rfl rfl (Nat.le_of_ble_eq_true rfl) (xlt rfl hn) rfl rfl (p_X11_asksOf hn (by omega)  _ _ _ _ _ _ _ _) (fun r330001 w330002 _ => ?_)
    refine y_iconst (v := 1) dX11_weighing_364 (by decide) ?_
    refine y_icmp_ne (tgt := 372) dX11_weighing_365 (by decide) ?_ ?_
    · refine y_iconst (v := 0) dX11_weighing_372 (by decide) ?_
      refine p_X11_weighing_L373 hn hd v2 v3 v5 (0 : Int32) w330002 
    · refine y_iconst (v := 1) dX11_weighing_368 (by decide) ?_
      refine y_goto (tgt := 373) dX11_weighing_369 (by decide) ?_
      refine p_X11_weighing_L373 hn hd v2 v3 v5 (1 : Int32) w330002 
set_option maxRecDepth 20000 in
set_option maxHeartbeats 2000000 in
theorem p_X11_weighing_L101 {G : xG} {d : Nat} {n t : Nat} (hn : 102 ≤ n) (hd : 3 ≤ d) {K24 : Int32 → Int32 → Int32 → Int32 → Int32 → Int32 → Int32 → xI → Option (Unit × xI)} (hK24 : ∀ (v1 : Int32) (v2 : Int32) (v3 : Int32) (v4 : Int32) (v5 : Int32) (v6 : Int32) (v7 : Int32) (w : xI), xC G m_X11_weighing d 24 [(0, .ref 71), (1, .int v1), (2, .int v2), (3, .int v3), (4, .int v4), (5, .int v5), (6, .int v6), (7, .int v7)] [] (xFin n t) w (fun _ : Unit => none) (xFin n t) (K24 v1 v2 v3 v4 v5 v6 v7 w)) (v1 : Int32) (v2 : Int32) (v3 : Int32) (v4 : Int32) (v5 : Int32) (v6 : Int32) (v7 : Int32) (s0 : Int32) (s1 : Int32) (w : xI) : xC G m_X11_weighing d 101 [(0, .ref 71), (1, .int v1), (2, .int v2), (3, .int v3), (4, .int v4), (5, .int v5), (6, .int v6), (7, .int v7)] [.int s0, .int s1, .ref 71] (xFin n t) w (fun _ : Unit => none) (xFin n t) (f_X11_weighing_L101 K24 v1 v2 v3 v4 v5 v6 v7 s0 s1 w) := by
  unfold f_X11_weighing_L101
  refine y_iadd dX11_weighing_101 ?_
  refine y_puti dX11_weighing_102 flX11_230 (xlt rfl hn) rfl rfl ?_
  refine z_iinc (j := 3) dX11_weighing_105 (by decide) rfl (by decide) (fun x101001 => ?_)
  refine y_loc (lv' := [(3, .int x101001), (0, .ref 71), (1, .int v1), (2, .int v2), (4, .int v4), (5, .int v5), (6, .int v6), (7, .int v7)]) rfl ?_
  refine y_iload dX11_weighing_108 4 rfl ?_
  refine y_aload_n dX11_weighing_110 rfl 1 rfl ?_
  refine y_getr (q := 74) dX11_weighing_111 flX11_16 (xlt rfl hn) rfl rfl rfl ?_
  refine y_iload dX11_weighing_114 7 rfl ?_
  refine z_iald (v := (w 74 v7.toNatClampNeg)) dX11_weighing_116 (xlt rfl hn) rfl rfl ?_
  refine y_iadd dX11_weighing_117 ?_
  refine y_let (fun x101002 => ?_)
  refine y_istore (lv' := [(4, .int x101002), (3, .int x101001), (0, .ref 71), (1, .int v1), (2, .int v2), (5, .int v5), (6, .int v6), (7, .int v7)]) dX11_weighing_118 (by decide) rfl ?_
  refine y_iload dX11_weighing_120 5 rfl ?_
  refine y_aload_n dX11_weighing_122 rfl 2 rfl ?_
  refine y_iload dX11_weighing_123 7 rfl ?_
  refine y_iload_n dX11_weighing_125 rfl 4 rfl ?_
  refine y_callV (As := [.int v7, .int v2]) (d2 := d - 1) dX11_weighing_126 kX11_214 (by omega) rfl rfl (Nat.le_of_ble_eq_true rfl) (xlt rfl hn) rfl rfl (p_X11_worthAt hn (by omega)  _ _ _) (fun r101003 w101004 _ => ?_)
  refine y_iadd dX11_weighing_129 ?_
  refine y_let (fun x101005 => ?_)
  refine y_istore (lv' := [(5, .int x101005), (4, .int x101002), (3, .int x101001), (0, .ref 71), (1, .int v1), (2, .int v2), (6, .int v6), (7, .int v7)]) dX11_weighing_130 (by decide) rfl ?_
  refine y_iload dX11_weighing_132 6 rfl ?_
  refine y_if_eq (tgt := 152) dX11_weighing_134 (by decide) ?_ ?_
  · refine y_iconst (v := 0) dX11_weighing_152 (by decide) ?_
    refine y_istore (lv' := [(6, .int (0 : Int32)), (5, .int x101005), (4, .int x101002), (3, .int x101001), (0, .ref 71), (1, .int v1), (2, .int v2), (7, .int v7)]) dX11_weighing_153 (by decide) rfl ?_
    refine z_iinc (j := 7) dX11_weighing_155 (by decide) rfl (by decide) (fun x101006 => ?_)
    refine y_loc (lv' := [(7, .int x101006), (6, .int (0 : Int32)), (5, .int x101005), (4, .int x101002), (3, .int x101001), (0, .ref 71), (1, .int v1), (2, .int v2)]) rfl ?_
    refine y_goto (tgt := 24) dX11_weighing_158 (by decide) ?_
    refine y_sub [(0, .ref 71), (1, .int v1), (2, .int v2), (3, .int x101001), (4, .int x101002), (5, .int x101005), (6, .int (0 : Int32)), (7, .int x101006)] [5, 6, 7, 4, 3, 2, 1, 0] rfl ?_
    exact hK24 v1 v2 x101001 x101002 x101005 (0 : Int32) x101006 w101004 
  · refine y_aload_n dX11_weighing_137 rfl 3 rfl ?_
    refine y_getr (q := 79) dX11_weighing_138 flX11_31 (xlt rfl hn) rfl rfl rfl ?_
    refine y_iload dX11_weighing_141 7 rfl ?_
    refine z_iald (v := (w101004 79 v7.toNatClampNeg)) dX11_weighing_143 (xlt rfl hn) rfl rfl ?_
    refine y_iload_n dX11_weighing_144 rfl 5 rfl ?_
    refine y_icmp_gt (tgt := 152) dX11_weighing_145 (by decide) ?_ ?_
    · refine y_iconst (v := 0) dX11_weighing_152 (by decide) ?_
      refine y_istore (lv' := [(6, .int (0 : Int32)), (5, .int x101005), (4, .int x101002), (3, .int x101001), (0, .ref 71), (1, .int v1), (2, .int v2), (7, .int v7)]) dX11_weighing_153 (by decide) rfl ?_
      refine z_iinc (j := 7) dX11_weighing_155 (by decide) rfl (by decide) (fun x101007 => ?_)
      refine y_loc (lv' := [(7, .int x101007), (6, .int (0 : Int32)), (5, .int x101005), (4, .int x101002), (3, .int x101001), (0, .ref 71), (1, .int v1), (2, .int v2)]) rfl ?_
      refine y_goto (tgt := 24) dX11_weighing_158 (by decide) ?_
      refine y_sub [(0, .ref 71), (1, .int v1), (2, .int v2), (3, .int x101001), (4, .int x101002), (5, .int x101005), (6, .int (0 : Int32)), (7, .int x101007)] [5, 6, 7, 4, 3, 2, 1, 0] rfl ?_
      exact hK24 v1 v2 x101001 x101002 x101005 (0 : Int32) x101007 w101004 
    · refine y_iconst (v := 1) dX11_weighing_148 (by decide) ?_
      refine y_goto (tgt := 153) dX11_weighing_149 (by decide) ?_
      refine y_istore (lv' := [(6, .int (1 : Int32)), (5, .int x101005), (4, .int x101002), (3, .int x101001), (0, .ref 71), (1, .int v1), (2, .int v2), (7, .int v7)]) dX11_weighing_153 (by decide) rfl ?_
      refine z_iinc (j := 7) dX11_weighing_155 (by decide) rfl (by decide) (fun x101008 => ?_)
      refine y_loc (lv' := [(7, .int x101008), (6, .int (1 : Int32)), (5, .int x101005), (4, .int x101002), (3, .int x101001), (0, .ref 71), (1, .int v1), (2, .int v2)]) rfl ?_
      refine y_goto (tgt := 24) dX11_weighing_158 (by decide) ?_
      refine y_sub [(0, .ref 71), (1, .int v1), (2, .int v2), (3, .int x101001), (4, .int x101002), (5, .int x101005), (6, .int (1 : Int32)), (7, .int x101008)] [5, 6, 7, 4, 3, 2, 1, 0] rfl ?_
      exact hK24 v1 v2 x101001 x101002 x101005 (1 : Int32) x101008 w101004 
set_option maxRecDepth 20000 in
set_option maxHeartbeats 2000000 in
theorem p_X11_weighing_L286 {G : xG} {d : Nat} {n t : Nat} (hn : 102 ≤ n) (hd : 3 ≤ d) (v2 : Int32) (v3 : Int32) (v4 : Int32) (v5 : Int32) (v6 : Int32) (s0 : Int32) (w : xI) : xC G m_X11_weighing d 286 [(0, .ref 71), (2, .int v2), (3, .int v3), (4, .int v4), (5, .int v5), (6, .int v6)] [.int s0, .ref 71] (xFin n t) w (fun _ : Unit => none) (xFin n t) (f_X11_weighing_L286 v2 v3 v4 v5 v6 s0 w) := by
  unfold f_X11_weighing_L286
  refine y_puti dX11_weighing_286 flX11_236 (xlt rfl hn) rfl rfl ?_
  refine y_aload_n dX11_weighing_289 rfl 0 rfl ?_
  refine y_iload dX11_weighing_290 5 rfl ?_
  refine y_if_eq (tgt := 329) dX11_weighing_292 (by decide) ?_ ?_
  · refine y_iconst (v := 0) dX11_weighing_329 (by decide) ?_
    refine y_sub [(0, .ref 71), (2, .int v2), (3, .int v3), (5, .int v5)] [0, 1, 2, 4] rfl ?_
    refine p_X11_weighing_L330 hn hd v2 v3 v5 (0 : Int32) (xup w 71 43 s0) 
  · refine y_aload_n dX11_weighing_295 rfl 0 rfl ?_
    refine z_geti (v := (w 71 42)) dX11_weighing_296 flX11_233 (xlt rfl hn) rfl rfl rfl ?_
    refine y_iconst (v := (-1)) dX11_weighing_299 (by decide) ?_
    refine y_icmp_eq (tgt := 329) dX11_weighing_300 (by decide) ?_ ?_
    · refine y_iconst (v := 0) dX11_weighing_329 (by decide) ?_
      refine y_sub [(0, .ref 71), (2, .int v2), (3, .int v3), (5, .int v5)] [0, 1, 2, 4] rfl ?_
      refine p_X11_weighing_L330 hn hd v2 v3 v5 (0 : Int32) (xup w 71 43 s0) 
    · refine y_iload dX11_weighing_303 3 rfl ?_
      refine y_iconst (v := 1) dX11_weighing_305 (by decide) ?_
      refine y_iconst (v := 2) dX11_weighing_306 (by decide) ?_
      refine y_callS (As := [.int v4, .int (1 : Int32), .int (2 : Int32)]) (d2 := d - 1) dX11_weighing_307 kX11_114 (by omega) rfl rfl (Nat.le_of_ble_eq_true rfl) (p_X11_in hn (by omega)  _ _ _ _) (fun r286001 w286002 _ => ?_)
      refine y_if_eq (tgt := 329) dX11_weighing_310 (by decide) ?_ ?_
      · refine y_iconst (v := 0) dX11_weighing_329 (by decide) ?_
        refine y_sub [(0, .ref 71), (2, .int v2), (3, .int v3), (5, .int v5)] [0, 1, 2, 4] rfl ?_
        refine p_X11_weighing_L330 hn hd v2 v3 v5 (0 : Int32) w286002 
      · refine y_iload_n dX11_weighing_313 rfl 2 rfl ?_
        refine y_iload dX11_weighing_314 3 rfl ?_
        refine y_isub dX11_weighing_316 ?_
        refine y_iconst (v := 1) dX11_weighing_317 (by decide) ?_
        refine y_iconst (v := 2) dX11_weighing_318 (by decide) ?_
        refine y_callS (As := [.int (v3 - v4), .int (1 : Int32), .int (2 : Int32)]) (d2 := d - 1) dX11_weighing_319 kX11_114 (by omega) rfl rfl (Nat.le_of_ble_eq_true rfl) (p_X11_in hn (by omega)  _ _ _ _) (fun r286003 w286004 _ => ?_)
        refine y_if_eq (tgt := 329) dX11_weighing_322 (by decide) ?_ ?_
        · refine y_iconst (v := 0) dX11_weighing_329 (by decide) ?_
          refine y_sub [(0, .ref 71), (2, .int v2), (3, .int v3), (5, .int v5)] [0, 1, 2, 4] rfl ?_
          refine p_X11_weighing_L330 hn hd v2 v3 v5 (0 : Int32) w286004 
        · refine y_iconst (v := 1) dX11_weighing_325 (by decide) ?_
          refine y_goto (tgt := 330) dX11_weighing_326 (by decide) ?_
          refine y_sub [(0, .ref 71), (2, .int v2), (3, .int v3), (5, .int v5)] [0, 1, 2, 4] rfl ?_
          refine p_X11_weighing_L330 hn hd v2 v3 v5 (1 : Int32) w286004 
set_option maxRecDepth 20000 in
set_option maxHeartbeats 2000000 in
theorem p_X11_weighing_L70 {G : xG} {d : Nat} {n t : Nat} (hn : 102 ≤ n) (hd : 3 ≤ d) {K24 : Int32 → Int32 → Int32 → Int32 → Int32 → Int32 → Int32 → xI → Option (Unit × xI)} (hK24 : ∀ (v1 : Int32) (v2 : Int32) (v3 : Int32) (v4 : Int32) (v5 : Int32) (v6 : Int32) (v7 : Int32) (w : xI), xC G m_X11_weighing d 24 [(0, .ref 71), (1, .int v1), (2, .int v2), (3, .int v3), (4, .int v4), (5, .int v5), (6, .int v6), (7, .int v7)] [] (xFin n t) w (fun _ : Unit => none) (xFin n t) (K24 v1 v2 v3 v4 v5 v6 v7 w)) (v1 : Int32) (v2 : Int32) (v3 : Int32) (v4 : Int32) (v5 : Int32) (v6 : Int32) (v7 : Int32) (s0 : Int32) (s1 : Int32) (w : xI) : xC G m_X11_weighing d 70 [(0, .ref 71), (1, .int v1), (2, .int v2), (3, .int v3), (4, .int v4), (5, .int v5), (6, .int v6), (7, .int v7)] [.int s0, .int s1, .ref 71] (xFin n t) w (fun _ : Unit => none) (xFin n t) (f_X11_weighing_L70 K24 v1 v2 v3 v4 v5 v6 v7 s0 s1 w) := by
  unfold f_X11_weighing_L70
  refine y_iadd dX11_weighing_70 ?_
  refine y_puti dX11_weighing_71 flX11_227 (xlt rfl hn) rfl rfl ?_
  refine y_aload_n dX11_weighing_74 rfl 0 rfl ?_
  refine y_dup dX11_weighing_75 rfl ?_
  refine z_geti (v := (w 71 41)) dX11_weighing_76 flX11_230 (xlt rfl hn) rfl rfl rfl ?_
  refine y_aload_n dX11_weighing_79 rfl 0 rfl ?_
  refine y_getr (q := 74) dX11_weighing_80 flX11_16 (xlt rfl hn) rfl rfl rfl ?_
  refine y_iload dX11_weighing_83 7 rfl ?_
  refine z_iald (v := (w 74 v7.toNatClampNeg)) dX11_weighing_85 (xlt rfl hn) rfl rfl ?_
  refine y_iconst (v := 1) dX11_weighing_86 (by decide) ?_
  refine y_icmp_ne (tgt := 94) dX11_weighing_87 (by decide) ?_ ?_
  · refine y_aload_n dX11_weighing_94 rfl 0 rfl ?_
    refine y_iload dX11_weighing_95 7 rfl ?_
    refine y_iload_n dX11_weighing_97 rfl 2 rfl ?_
    refine y_callV (As := [.int v7, .int v2]) (d2 := d - 1) dX11_weighing_98 kX11_211 (by omega) rfl rfl (Nat.le_of_ble_eq_true rfl) (xlt rfl hn) rfl rfl (p_X11_weighs hn (by omega)  _ _ _) (fun r70001 w70002 _ => ?_)
    refine p_X11_weighing_L101 hn hd ?_ v1 v2 v3 v4 v5 v6 v7 r70001 (w 71 41) w70002 
    · intro v1_70003 v2_70003 v3_70003 v4_70003 v5_70003 v6_70003 v7_70003 w70003 
      exact hK24 v1_70003 v2_70003 v3_70003 v4_70003 v5_70003 v6_70003 v7_70003 w70003 
  · refine y_iconst (v := 0) dX11_weighing_90 (by decide) ?_
    refine y_goto (tgt := 101) dX11_weighing_91 (by decide) ?_
    refine p_X11_weighing_L101 hn hd ?_ v1 v2 v3 v4 v5 v6 v7 (0 : Int32) (w 71 41) (xup w 71 40 (s1 + s0)) 
    · intro v1_70004 v2_70004 v3_70004 v4_70004 v5_70004 v6_70004 v7_70004 w70004 
      exact hK24 v1_70004 v2_70004 v3_70004 v4_70004 v5_70004 v6_70004 v7_70004 w70004 
set_option maxRecDepth 20000 in
set_option maxHeartbeats 2000000 in
theorem p_X11_weighing_L201 {G : xG} {d : Nat} {n t : Nat} (hn : 102 ≤ n) (hd : 3 ≤ d) : ∀ (fu : Nat) (v2 : Int32) (v3 : Int32) (v4 : Int32) (v5 : Int32) (v6 : Int32) (v7 : Int32) (v8 : Int32) (w : xI), xC G m_X11_weighing d 201 [(0, .ref 71), (2, .int v2), (3, .int v3), (4, .int v4), (5, .int v5), (6, .int v6), (7, .int v7), (8, .int v8)] [] (xFin n t) w (fun _ : Unit => none) (xFin n t) (f_X11_weighing_L201 fu v2 v3 v4 v5 v6 v7 v8 w) := by
  intro fu
  induction fu with
  | zero => intro v2 v3 v4 v5 v6 v7 v8 w; exact xC.none
  | succ fu ih =>
    intro v2 v3 v4 v5 v6 v7 v8 w
    rw [f_X11_weighing_L201]
    refine y_iload dX11_weighing_201 7 rfl ?_
    refine y_aload_n dX11_weighing_203 rfl 0 rfl ?_
    refine y_getr (q := 72) dX11_weighing_204 flX11_7 (xlt rfl hn) rfl rfl rfl ?_
    refine y_iconst (v := 2) dX11_weighing_207 (by decide) ?_
    refine z_iald0 (j := 2) (v := (w 72 2)) dX11_weighing_208 (xlt rfl hn) rfl rfl rfl rfl ?_
    refine y_icmp_gt (tgt := 269) dX11_weighing_209 (by decide) ?_ ?_
    · refine y_aload_n dX11_weighing_269 rfl 0 rfl ?_
      refine y_aload_n dX11_weighing_270 rfl 0 rfl ?_
      refine z_geti (v := (w 71 42)) dX11_weighing_271 flX11_233 (xlt rfl hn) rfl rfl rfl ?_
      refine y_iconst (v := (-1)) dX11_weighing_274 (by decide) ?_
      refine y_icmp_ne (tgt := 282) dX11_weighing_275 (by decide) ?_ ?_
      · refine y_aload_n dX11_weighing_282 rfl 0 rfl ?_
        refine z_geti (v := (w 71 43)) dX11_weighing_283 flX11_236 (xlt rfl hn) rfl rfl rfl ?_
        refine y_sub [(0, .ref 71), (2, .int v2), (3, .int v3), (4, .int v4), (5, .int v5), (6, .int v6)] [0, 1, 2, 3, 4, 5] rfl ?_
        refine p_X11_weighing_L286 hn hd v2 v3 v4 v5 v6 (w 71 43) w 
      · refine y_iconst (v := 0) dX11_weighing_278 (by decide) ?_
        refine y_goto (tgt := 286) dX11_weighing_279 (by decide) ?_
        refine y_sub [(0, .ref 71), (2, .int v2), (3, .int v3), (4, .int v4), (5, .int v5), (6, .int v6)] [0, 1, 2, 3, 4, 5] rfl ?_
        refine p_X11_weighing_L286 hn hd v2 v3 v4 v5 v6 (0 : Int32) w 
    · refine y_aload_n dX11_weighing_212 rfl 0 rfl ?_
      refine z_geti (v := (w 71 42)) dX11_weighing_213 flX11_233 (xlt rfl hn) rfl rfl rfl ?_
      refine y_iconst (v := (-1)) dX11_weighing_216 (by decide) ?_
      refine y_icmp_ne (tgt := 269) dX11_weighing_217 (by decide) ?_ ?_
      · refine y_aload_n dX11_weighing_269 rfl 0 rfl ?_
        refine y_aload_n dX11_weighing_270 rfl 0 rfl ?_
        refine z_geti (v := (w 71 42)) dX11_weighing_271 flX11_233 (xlt rfl hn) rfl rfl rfl ?_
        refine y_iconst (v := (-1)) dX11_weighing_274 (by decide) ?_
        refine y_icmp_ne (tgt := 282) dX11_weighing_275 (by decide) ?_ ?_
        · refine y_aload_n dX11_weighing_282 rfl 0 rfl ?_
          refine z_geti (v := (w 71 43)) dX11_weighing_283 flX11_236 (xlt rfl hn) rfl rfl rfl ?_
          refine y_sub [(0, .ref 71), (2, .int v2), (3, .int v3), (4, .int v4), (5, .int v5), (6, .int v6)] [0, 1, 2, 3, 4, 5] rfl ?_
          refine p_X11_weighing_L286 hn hd v2 v3 v4 v5 v6 (w 71 43) w 
        · refine y_iconst (v := 0) dX11_weighing_278 (by decide) ?_
          refine y_goto (tgt := 286) dX11_weighing_279 (by decide) ?_
          refine y_sub [(0, .ref 71), (2, .int v2), (3, .int v3), (4, .int v4), (5, .int v5), (6, .int v6)] [0, 1, 2, 3, 4, 5] rfl ?_
          refine p_X11_weighing_L286 hn hd v2 v3 v4 v5 v6 (0 : Int32) w 
      · refine y_aload_n dX11_weighing_220 rfl 0 rfl ?_
        refine y_aload_n dX11_weighing_221 rfl 0 rfl ?_
        refine y_iload dX11_weighing_222 6 rfl ?_
        refine y_iload dX11_weighing_224 7 rfl ?_
        refine y_isub dX11_weighing_226 ?_
        refine y_callV (As := [.int (v7 - v8)]) (d2 := d - 1) dX11_weighing_227 kX11_239 (by omega) rfl rfl (Nat.le_of_ble_eq_true rfl) (xlt rfl hn) rfl rfl (p_X11_madeBy hn (by omega)  _ _) (fun r201001 w201002 _ => ?_)
        refine y_aload_n dX11_weighing_230 rfl 0 rfl ?_
        refine y_iload dX11_weighing_231 6 rfl ?_
        refine y_iload dX11_weighing_233 7 rfl ?_
        refine y_iadd dX11_weighing_235 ?_
        refine y_callV (As := [.int (v7 + v8)]) (d2 := d - 1) dX11_weighing_236 kX11_239 (by omega) rfl rfl (Nat.le_of_ble_eq_true rfl) (xlt rfl hn) rfl rfl (p_X11_madeBy hn (by omega)  _ _) (fun r201003 w201004 _ => ?_)
        refine y_callS (As := [.int r201001, .int r201003]) (d2 := d - 1) dX11_weighing_239 kX11_242 (by omega) rfl rfl (Nat.le_of_ble_eq_true rfl) (p_X11_fewer hn (by omega)  _ _ _) (fun r201005 w201006 _ => ?_)
        refine y_puti dX11_weighing_242 flX11_236 (xlt rfl hn) rfl rfl ?_
        refine y_aload_n dX11_weighing_245 rfl 0 rfl ?_
        refine y_aload_n dX11_weighing_246 rfl 0 rfl ?_
        refine z_geti (v := r201005) dX11_weighing_247 flX11_236 (xlt rfl hn) rfl rfl rfl ?_
        refine y_iconst (v := (-1)) dX11_weighing_250 (by decide) ?_
        refine y_icmp_ne (tgt := 258) dX11_weighing_251 (by decide) ?_ ?_
        · refine y_iload dX11_weighing_258 7 rfl ?_
          refine y_puti dX11_weighing_260 flX11_233 (xlt rfl hn) rfl rfl ?_
          refine z_iinc (j := 7) dX11_weighing_263 (by decide) rfl (by decide) (fun x201007 => ?_)
          refine y_loc (lv' := [(8, .int x201007), (0, .ref 71), (2, .int v2), (3, .int v3), (4, .int v4), (5, .int v5), (6, .int v6), (7, .int v7)]) rfl ?_
          refine y_goto (tgt := 201) dX11_weighing_266 (by decide) ?_
          refine y_sub [(0, .ref 71), (2, .int v2), (3, .int v3), (4, .int v4), (5, .int v5), (6, .int v6), (7, .int v7), (8, .int x201007)] [1, 2, 3, 4, 5, 6, 7, 0] rfl ?_
          exact ih v2 v3 v4 v5 v6 v7 x201007 (xup (xup w201006 71 43 r201005) 71 42 v8) 
        · refine y_iconst (v := (-1)) dX11_weighing_254 (by decide) ?_
          refine y_goto (tgt := 260) dX11_weighing_255 (by decide) ?_
          refine y_puti dX11_weighing_260 flX11_233 (xlt rfl hn) rfl rfl ?_
          refine z_iinc (j := 7) dX11_weighing_263 (by decide) rfl (by decide) (fun x201008 => ?_)
          refine y_loc (lv' := [(8, .int x201008), (0, .ref 71), (2, .int v2), (3, .int v3), (4, .int v4), (5, .int v5), (6, .int v6), (7, .int v7)]) rfl ?_
          refine y_goto (tgt := 201) dX11_weighing_266 (by decide) ?_
          refine y_sub [(0, .ref 71), (2, .int v2), (3, .int v3), (4, .int v4), (5, .int v5), (6, .int v6), (7, .int v7), (8, .int x201008)] [1, 2, 3, 4, 5, 6, 7, 0] rfl ?_
          exact ih v2 v3 v4 v5 v6 v7 x201008 (xup (xup w201006 71 43 r201005) 71 42 (-1 : Int32)) 
set_option maxRecDepth 20000 in
set_option maxHeartbeats 2000000 in
theorem p_X11_weighing_L24 {G : xG} {d : Nat} {n t : Nat} (hn : 102 ≤ n) (hd : 3 ≤ d) : ∀ (fu : Nat) (v1 : Int32) (v2 : Int32) (v3 : Int32) (v4 : Int32) (v5 : Int32) (v6 : Int32) (v7 : Int32) (w : xI), xC G m_X11_weighing d 24 [(0, .ref 71), (1, .int v1), (2, .int v2), (3, .int v3), (4, .int v4), (5, .int v5), (6, .int v6), (7, .int v7)] [] (xFin n t) w (fun _ : Unit => none) (xFin n t) (f_X11_weighing_L24 fu v1 v2 v3 v4 v5 v6 v7 w) := by
  intro fu
  induction fu with
  | zero => intro v1 v2 v3 v4 v5 v6 v7 w; exact xC.none
  | succ fu ih =>
    intro v1 v2 v3 v4 v5 v6 v7 w
    rw [f_X11_weighing_L24]
    refine y_iload dX11_weighing_24 7 rfl ?_
    refine y_aload_n dX11_weighing_26 rfl 0 rfl ?_
    refine z_geti (v := (w 71 3)) dX11_weighing_27 flX11_111 (xlt rfl hn) rfl rfl rfl ?_
    refine y_icmp_ge (tgt := 161) dX11_weighing_30 (by decide) ?_ ?_
    · refine y_aload_n dX11_weighing_161 rfl 0 rfl ?_
      refine z_geti (v := (w 71 40)) dX11_weighing_162 flX11_227 (xlt rfl hn) rfl rfl rfl ?_
      refine y_aload_n dX11_weighing_165 rfl 0 rfl ?_
      refine y_getr (q := 72) dX11_weighing_166 flX11_7 (xlt rfl hn) rfl rfl rfl ?_
      refine y_iconst (v := 0) dX11_weighing_169 (by decide) ?_
      refine z_iald0 (j := 0) (v := (w 72 0)) dX11_weighing_170 (xlt rfl hn) rfl rfl rfl rfl ?_
      refine y_imul dX11_weighing_171 ?_
      refine y_aload_n dX11_weighing_172 rfl 0 rfl ?_
      refine z_geti (v := (w 71 41)) dX11_weighing_173 flX11_230 (xlt rfl hn) rfl rfl rfl ?_
      refine y_aload_n dX11_weighing_176 rfl 0 rfl ?_
      refine y_getr (q := 72) dX11_weighing_177 flX11_7 (xlt rfl hn) rfl rfl rfl ?_
      refine y_iconst (v := 1) dX11_weighing_180 (by decide) ?_
      refine z_iald0 (j := 1) (v := (w 72 1)) dX11_weighing_181 (xlt rfl hn) rfl rfl rfl rfl ?_
      refine y_imul dX11_weighing_182 ?_
      refine y_callS (As := [.int ((w 71 40) * (w 72 0)), .int ((w 71 41) * (w 72 1))]) (d2 := d - 1) dX11_weighing_183 kX11_217 (by omega) rfl rfl (Nat.le_of_ble_eq_true rfl) (p_X11_apart hn (by omega)  _ _ _) (fun r24001 w24002 _ => ?_)
      refine y_istore (lv' := [(7, .int r24001), (0, .ref 71), (1, .int v1), (2, .int v2), (3, .int v3), (4, .int v4), (5, .int v5), (6, .int v6)]) dX11_weighing_186 (by decide) rfl ?_
      refine y_aload_n dX11_weighing_188 rfl 1 rfl ?_
      refine y_iconst (v := (-1)) dX11_weighing_189 (by decide) ?_
      refine y_puti dX11_weighing_190 flX11_233 (xlt rfl hn) rfl rfl ?_
      refine y_aload_n dX11_weighing_193 rfl 1 rfl ?_
      refine y_iconst (v := (-1)) dX11_weighing_194 (by decide) ?_
      refine y_puti dX11_weighing_195 flX11_236 (xlt rfl hn) rfl rfl ?_
      refine y_iconst (v := 0) dX11_weighing_198 (by decide) ?_
      refine y_istore (lv' := [(8, .int (0 : Int32)), (7, .int r24001), (0, .ref 71), (1, .int v1), (2, .int v2), (3, .int v3), (4, .int v4), (5, .int v5), (6, .int v6)]) dX11_weighing_199 (by decide) rfl ?_
      refine y_sub [(0, .ref 71), (2, .int v2), (3, .int v3), (4, .int v4), (5, .int v5), (6, .int v6), (7, .int r24001), (8, .int (0 : Int32))] [2, 4, 5, 6, 7, 8, 1, 0] rfl ?_
      refine p_X11_weighing_L201 hn hd 2000 v2 v3 v4 v5 v6 r24001 (0 : Int32) (xup (xup w24002 71 42 (-1 : Int32)) 71 43 (-1 : Int32)) 
    · refine y_iload_n dX11_weighing_33 rfl 1 rfl ?_
      refine y_iload dX11_weighing_34 7 rfl ?_
      refine y_ishr dX11_weighing_36 ?_
      refine y_iconst (v := 1) dX11_weighing_37 (by decide) ?_
      refine y_iand dX11_weighing_38 ?_
      refine y_iconst (v := 1) dX11_weighing_39 (by decide) ?_
      refine y_icmp_ne (tgt := 155) dX11_weighing_40 (by decide) ?_ ?_
      · refine z_iinc (j := 7) dX11_weighing_155 (by decide) rfl (by decide) (fun x24003 => ?_)
        refine y_loc (lv' := [(7, .int x24003), (0, .ref 71), (1, .int v1), (2, .int v2), (3, .int v3), (4, .int v4), (5, .int v5), (6, .int v6)]) rfl ?_
        refine y_goto (tgt := 24) dX11_weighing_158 (by decide) ?_
        refine y_sub [(0, .ref 71), (1, .int v1), (2, .int v2), (3, .int v3), (4, .int v4), (5, .int v5), (6, .int v6), (7, .int x24003)] [1, 2, 3, 4, 5, 6, 7, 0] rfl ?_
        exact ih v1 v2 v3 v4 v5 v6 x24003 w 
      · refine y_aload_n dX11_weighing_43 rfl 0 rfl ?_
        refine y_dup dX11_weighing_44 rfl ?_
        refine z_geti (v := (w 71 40)) dX11_weighing_45 flX11_227 (xlt rfl hn) rfl rfl rfl ?_
        refine y_aload_n dX11_weighing_48 rfl 0 rfl ?_
        refine y_getr (q := 74) dX11_weighing_49 flX11_16 (xlt rfl hn) rfl rfl rfl ?_
        refine y_iload dX11_weighing_52 7 rfl ?_
        refine z_iald (v := (w 74 v7.toNatClampNeg)) dX11_weighing_54 (xlt rfl hn) rfl rfl ?_
        refine y_iconst (v := 1) dX11_weighing_55 (by decide) ?_
        refine y_icmp_ne (tgt := 69) dX11_weighing_56 (by decide) ?_ ?_
        · refine y_iconst (v := 0) dX11_weighing_69 (by decide) ?_
          refine p_X11_weighing_L70 hn hd ?_ v1 v2 v3 v4 v5 v6 v7 (0 : Int32) (w 71 40) w 
          · intro v1_24004 v2_24004 v3_24004 v4_24004 v5_24004 v6_24004 v7_24004 w24004 
            exact ih v1_24004 v2_24004 v3_24004 v4_24004 v5_24004 v6_24004 v7_24004 w24004 
        · refine y_aload_n dX11_weighing_59 rfl 0 rfl ?_
          refine y_iload dX11_weighing_60 7 rfl ?_
          refine y_iload_n dX11_weighing_62 rfl 2 rfl ?_
          refine y_callV (As := [.int v7, .int v2]) (d2 := d - 1) dX11_weighing_63 kX11_211 (by omega) rfl rfl (Nat.le_of_ble_eq_true rfl) (xlt rfl hn) rfl rfl (p_X11_weighs hn (by omega)  _ _ _) (fun r24005 w24006 _ => ?_)
          refine y_goto (tgt := 70) dX11_weighing_66 (by decide) ?_
          refine p_X11_weighing_L70 hn hd ?_ v1 v2 v3 v4 v5 v6 v7 r24005 (w 71 40) w24006 
          · intro v1_24007 v2_24007 v3_24007 v4_24007 v5_24007 v6_24007 v7_24007 w24007 
            exact ih v1_24007 v2_24007 v3_24007 v4_24007 v5_24007 v6_24007 v7_24007 w24007 
set_option maxRecDepth 20000 in
set_option maxHeartbeats 2000000 in
theorem p_X11_weighing {G : xG} {d : Nat} {n t : Nat} (hn : 102 ≤ n) (hd : 3 ≤ d) (a1 : Int32) (a2 : Int32) (w : xI) : xMet G m_X11_weighing d [.ref 71, .int a1, .int a2] (xFin n t) w (fun _ : Unit => none) (xFin n t) (f_X11_weighing a1 a2 w) := by
  refine xMet.of rfl (Nat.le_of_ble_eq_true rfl) ?_
  unfold f_X11_weighing
  show xC G m_X11_weighing d 0 [(0, .ref 71), (1, .int a1), (2, .int a2)] [] (xFin n t) w _ _ _
  refine y_aload_n dX11_weighing_0 rfl 0 rfl ?_
  refine y_iconst (v := 0) dX11_weighing_1 (by decide) ?_
  refine y_puti dX11_weighing_2 flX11_227 (xlt rfl hn) rfl rfl ?_
  refine y_aload_n dX11_weighing_5 rfl 0 rfl ?_
  refine y_iconst (v := 0) dX11_weighing_6 (by decide) ?_
  refine y_puti dX11_weighing_7 flX11_230 (xlt rfl hn) rfl rfl ?_
  refine y_iconst (v := 0) dX11_weighing_10 (by decide) ?_
  refine y_istore_n (lv' := [(3, .int (0 : Int32)), (0, .ref 71), (1, .int a1), (2, .int a2)]) dX11_weighing_11 rfl (by decide) rfl ?_
  refine y_iconst (v := 0) dX11_weighing_12 (by decide) ?_
  refine y_istore (lv' := [(4, .int (0 : Int32)), (3, .int (0 : Int32)), (0, .ref 71), (1, .int a1), (2, .int a2)]) dX11_weighing_13 (by decide) rfl ?_
  refine y_iconst (v := 0) dX11_weighing_15 (by decide) ?_
  refine y_istore (lv' := [(5, .int (0 : Int32)), (4, .int (0 : Int32)), (3, .int (0 : Int32)), (0, .ref 71), (1, .int a1), (2, .int a2)]) dX11_weighing_16 (by decide) rfl ?_
  refine y_iconst (v := 1) dX11_weighing_18 (by decide) ?_
  refine y_istore (lv' := [(6, .int (1 : Int32)), (5, .int (0 : Int32)), (4, .int (0 : Int32)), (3, .int (0 : Int32)), (0, .ref 71), (1, .int a1), (2, .int a2)]) dX11_weighing_19 (by decide) rfl ?_
  refine y_iconst (v := 0) dX11_weighing_21 (by decide) ?_
  refine y_istore (lv' := [(7, .int (0 : Int32)), (6, .int (1 : Int32)), (5, .int (0 : Int32)), (4, .int (0 : Int32)), (3, .int (0 : Int32)), (0, .ref 71), (1, .int a1), (2, .int a2)]) dX11_weighing_22 (by decide) rfl ?_
  refine y_sub [(0, .ref 71), (1, .int a1), (2, .int a2), (3, .int (0 : Int32)), (4, .int (0 : Int32)), (5, .int (0 : Int32)), (6, .int (1 : Int32)), (7, .int (0 : Int32))] [5, 6, 7, 4, 3, 2, 1, 0] rfl ?_
  refine p_X11_weighing_L24 hn hd 2000 a1 a2 (0 : Int32) (0 : Int32) (0 : Int32) (1 : Int32) (0 : Int32) (xup (xup w 71 40 (0 : Int32)) 71 41 (0 : Int32)) 
