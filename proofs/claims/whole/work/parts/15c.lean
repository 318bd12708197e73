-- ===== X3_choose: WeighedGate$Pairs.choose()V =====
set_option maxRecDepth 20000 in
set_option maxHeartbeats 2000000 in
theorem p_X3_choose_L57 {G : xG} {d : Nat} {n t : Nat} (hn : 71 ≤ n) (hd : 52 ≤ d) {K25 : Int32 → Int32 → xI → Option (Unit × xI)} (hK25 : ∀ (v1 : Int32) (v2 : Int32) (w : xI), xC G m_X3_choose d 25 [(0, .ref 25), (1, .int v1), (2, .int v2)] [] (xFin n t) w (fun _ : Unit => none) (xFin n t) (K25 v1 v2 w)) (v1 : Int32) (v2 : Int32) (s0 : Int32) (w : xI) : xC G m_X3_choose d 57 [(0, .ref 25), (1, .int v1), (2, .int v2)] [.int s0] (xFin n t) w (fun _ : Unit => none) (xFin n t) (f_X3_choose_L57 K25 v1 v2 s0 w) := by
  unfold f_X3_choose_L57
  refine y_istore_n (lv' := [(3, .int s0), (0, .ref 25), (1, .int v1), (2, .int v2)]) dX3_choose_57 rfl (by decide) rfl ?_
  refine y_iload_n dX3_choose_58 rfl 0 rfl ?_
  refine y_iconst (v := (-1)) dX3_choose_59 (by decide) ?_
  refine y_icmp_eq (tgt := 83) dX3_choose_60 (by decide) ?_ ?_
  · refine z_iinc (j := 3) dX3_choose_83 (by decide) rfl (by decide) (fun x57001 => ?_)
    refine y_loc (lv' := [(2, .int x57001), (3, .int s0), (0, .ref 25), (1, .int v1)]) rfl ?_
    refine y_goto (tgt := 25) dX3_choose_86 (by decide) ?_
    refine y_sub [(0, .ref 25), (1, .int v1), (2, .int x57001)] [2, 3, 0] rfl ?_
    exact hK25 v1 x57001 w 
  · refine y_aload_n dX3_choose_63 rfl 1 rfl ?_
    refine y_getr (q := 27) dX3_choose_64 flX3_15 (xlt rfl hn) rfl rfl rfl ?_
    refine y_iload_n dX3_choose_67 rfl 3 rfl ?_
    refine y_iload_n dX3_choose_68 rfl 0 rfl ?_
    refine y_iast dX3_choose_69 (xlt rfl hn) rfl ?_
    refine y_aload_n dX3_choose_70 rfl 1 rfl ?_
    refine y_getr (q := 27) dX3_choose_71 flX3_15 (xlt rfl hn) rfl rfl rfl ?_
    refine y_iload_n dX3_choose_74 rfl 0 rfl ?_
    refine y_iload_n dX3_choose_75 rfl 3 rfl ?_
    refine y_iast dX3_choose_76 (xlt rfl hn) rfl ?_
    refine y_iload_n dX3_choose_77 rfl 2 rfl ?_
    refine y_iconst (v := 1) dX3_choose_78 (by decide) ?_
    refine y_iload_n dX3_choose_79 rfl 0 rfl ?_
    refine y_ishl dX3_choose_80 ?_
    refine y_ior dX3_choose_81 ?_
    refine y_let (fun x57002 => ?_)
    refine y_istore_n (lv' := [(1, .int x57002), (3, .int s0), (0, .ref 25), (2, .int v2)]) dX3_choose_82 rfl (by decide) rfl ?_
    refine z_iinc (j := 3) dX3_choose_83 (by decide) rfl (by decide) (fun x57003 => ?_)
    refine y_loc (lv' := [(2, .int x57003), (1, .int x57002), (3, .int s0), (0, .ref 25)]) rfl ?_
    refine y_goto (tgt := 25) dX3_choose_86 (by decide) ?_
    refine y_sub [(0, .ref 25), (1, .int x57002), (2, .int x57003)] [3, 1, 0] rfl ?_
    exact hK25 x57002 x57003 (xup (xup w 27 v2.toNatClampNeg s0) 27 s0.toNatClampNeg v2) 
set_option maxRecDepth 20000 in
set_option maxHeartbeats 2000000 in
theorem p_X3_choose_L25 {G : xG} {d : Nat} {n t : Nat} (hn : 71 ≤ n) (hd : 52 ≤ d) : ∀ (fu : Nat) (v1 : Int32) (v2 : Int32) (w : xI), xC G m_X3_choose d 25 [(0, .ref 25), (1, .int v1), (2, .int v2)] [] (xFin n t) w (fun _ : Unit => none) (xFin n t) (f_X3_choose_L25 fu v1 v2 w) := by
  intro fu
  induction fu with
  | zero => intro v1 v2 w; exact xC.none
  | succ fu ih =>
    intro v1 v2 w
    rw [f_X3_choose_L25]
    refine y_iload_n dX3_choose_25 rfl 2 rfl ?_
    refine y_aload_n dX3_choose_26 rfl 0 rfl ?_
    refine y_getr (q := 5) dX3_choose_27 flX3_22 (xlt rfl hn) rfl rfl rfl ?_
    refine z_geti (v := (w 5 2)) dX3_choose_30 flX3_37 (xlt rfl hn) rfl rfl rfl ?_
    refine y_icmp_ge (tgt := 89) dX3_choose_33 (by decide) ?_ ?_
    · exact y_return dX3_choose_89 rfl rfl
    · refine y_aload_n dX3_choose_36 rfl 0 rfl ?_
      refine y_getr (q := 21) dX3_choose_37 flX3_18 (xlt rfl hn) rfl rfl rfl ?_
      refine y_iload_n dX3_choose_40 rfl 2 rfl ?_
      refine y_callV (As := [.int v2]) (d2 := d - 1) dX3_choose_41 kX3_45 (by omega) rfl rfl (Nat.le_of_ble_eq_true rfl) (xlt rfl hn) rfl rfl (p_X8_isInward hn (by omega)  _ _) (fun r25001 w25002 _ => ?_)
      refine y_if_eq (tgt := 56) dX3_choose_44 (by decide) ?_ ?_
      · refine y_iconst (v := (-1)) dX3_choose_56 (by decide) ?_
        refine p_X3_choose_L57 hn hd ?_ v1 v2 (-1 : Int32) w25002 
        · intro v1_25003 v2_25003 w25003 
          exact ih v1_25003 v2_25003 w25003 
      · refine y_aload_n dX3_choose_47 rfl 0 rfl ?_
        refine y_iload_n dX3_choose_48 rfl 2 rfl ?_
        refine y_iload_n dX3_choose_49 rfl 1 rfl ?_
        refine y_callV (As := [.int v2, .int v1]) (d2 := d - 1) dX3_choose_50 kX3_75 (by omega) rfl rfl (Nat.le_of_ble_eq_true rfl) (xlt rfl hn) rfl rfl (p_X3_firstOther hn (by omega)  _ _ _) (fun r25004 w25005 _ => ?_)
        refine y_goto (tgt := 57) dX3_choose_53 (by decide) ?_
        refine p_X3_choose_L57 hn hd ?_ v1 v2 r25004 w25005 
        · intro v1_25006 v2_25006 w25006 
          exact ih v1_25006 v2_25006 w25006 
set_option maxRecDepth 20000 in
set_option maxHeartbeats 2000000 in
theorem p_X3_choose_L2 {G : xG} {d : Nat} {n t : Nat} (hn : 71 ≤ n) (hd : 52 ≤ d) : ∀ (fu : Nat) (v1 : Int32) (w : xI), xC G m_X3_choose d 2 [(0, .ref 25), (1, .int v1)] [] (xFin n t) w (fun _ : Unit => none) (xFin n t) (f_X3_choose_L2 fu v1 w) := by
  intro fu
  induction fu with
  | zero => intro v1 w; exact xC.none
  | succ fu ih =>
    intro v1 w
    rw [f_X3_choose_L2]
    refine y_iload_n dX3_choose_2 rfl 1 rfl ?_
    refine y_bipush (v := 10) dX3_choose_3 (by decide) ?_
    refine y_icmp_ge (tgt := 21) dX3_choose_5 (by decide) ?_ ?_
    · refine y_iconst (v := 0) dX3_choose_21 (by decide) ?_
      refine y_istore_n (lv' := [(1, .int (0 : Int32)), (0, .ref 25)]) dX3_choose_22 rfl (by decide) rfl ?_
      refine y_iconst (v := 0) dX3_choose_23 (by decide) ?_
      refine y_istore_n (lv' := [(2, .int (0 : Int32)), (1, .int (0 : Int32)), (0, .ref 25)]) dX3_choose_24 rfl (by decide) rfl ?_
      refine y_sub [(0, .ref 25), (1, .int (0 : Int32)), (2, .int (0 : Int32))] [2, 1, 0] rfl ?_
      refine p_X3_choose_L25 hn hd 2000 (0 : Int32) (0 : Int32) w 
    · refine y_aload_n dX3_choose_8 rfl 0 rfl ?_
      refine y_getr (q := 27) dX3_choose_9 flX3_15 (xlt rfl hn) rfl rfl rfl ?_
      refine y_iload_n dX3_choose_12 rfl 1 rfl ?_
      refine y_iconst (v := (-1)) dX3_choose_13 (by decide) ?_
      refine y_iast dX3_choose_14 (xlt rfl hn) rfl ?_
      refine z_iinc (j := 1) dX3_choose_15 (by decide) rfl (by decide) (fun x2001 => ?_)
      refine y_loc (lv' := [(1, .int x2001), (0, .ref 25)]) rfl ?_
      refine y_goto (tgt := 2) dX3_choose_18 (by decide) ?_
      refine y_sub [(0, .ref 25), (1, .int x2001)] [1, 0] rfl ?_
      exact ih x2001 (xup w 27 v1.toNatClampNeg (-1 : Int32)) 
set_option maxRecDepth 20000 in
set_option maxHeartbeats 2000000 in
theorem p_X3_choose {G : xG} {d : Nat} {n t : Nat} (hn : 71 ≤ n) (hd : 52 ≤ d) (w : xI) : xMet G m_X3_choose d [.ref 25] (xFin n t) w (fun _ : Unit => none) (xFin n t) (f_X3_choose  w) := by
  refine xMet.of rfl (Nat.le_of_ble_eq_true rfl) ?_
  unfold f_X3_choose
  show xC G m_X3_choose d 0 [(0, .ref 25)] [] (xFin n t) w _ _ _
  refine y_iconst (v := 0) dX3_choose_0 (by decide) ?_
  refine y_istore_n (lv' := [(1, .int (0 : Int32)), (0, .ref 25)]) dX3_choose_1 rfl (by decide) rfl ?_
  refine y_sub [(0, .ref 25), (1, .int (0 : Int32))] [1, 0] rfl ?_
  refine p_X3_choose_L2 hn hd 2000 (0 : Int32) w 
-- ===== X4_put: WeighedGate$Reader.put(I)V =====
set_option maxRecDepth 20000 in
set_option maxHeartbeats 2000000 in
theorem p_X4_put {G : xG} {d : Nat} {n t : Nat} (hn : 71 ≤ n) (hd : 0 ≤ d) (a1 : Int32) (w : xI) : xMet G m_X4_put d [.ref 19, .int a1] (xFin n t) w (fun _ : Unit => none) (xFin n t) (f_X4_put a1 w) := by
  refine xMet.of rfl (Nat.le_of_ble_eq_true rfl) ?_
  unfold f_X4_put
  show xC G m_X4_put d 0 [(0, .ref 19), (1, .int a1)] [] (xFin n t) w _ _ _
  refine y_aload_n dX4_put_0 rfl 0 rfl ?_
  refine z_geti (v := (w 19 1)) dX4_put_1 flX4_15 (xlt rfl hn) rfl rfl rfl ?_
  refine y_sipush (v := 160) dX4_put_4 (by decide) ?_
  refine y_icmp_ge (tgt := 30) dX4_put_7 (by decide) ?_ ?_
  · exact y_return dX4_put_30 rfl rfl
  · refine y_aload_n dX4_put_10 rfl 0 rfl ?_
    refine y_getr (q := 20) dX4_put_11 flX4_9 (xlt rfl hn) rfl rfl rfl ?_
    refine y_aload_n dX4_put_14 rfl 0 rfl ?_
    refine z_geti (v := (w 19 1)) dX4_put_15 flX4_15 (xlt rfl hn) rfl rfl rfl ?_
    refine y_iload_n dX4_put_18 rfl 1 rfl ?_
    refine y_iast dX4_put_19 (xlt rfl hn) rfl ?_
    refine y_aload_n dX4_put_20 rfl 0 rfl ?_
    refine y_dup dX4_put_21 rfl ?_
    refine z_geti (v := (w 19 1)) dX4_put_22 flX4_15 (xlt rfl hn) rfl rfl rfl ?_
    refine y_iconst (v := 1) dX4_put_25 (by decide) ?_
    refine y_iadd dX4_put_26 ?_
    refine y_puti dX4_put_27 flX4_15 (xlt rfl hn) rfl rfl ?_
    exact y_return dX4_put_30 rfl rfl
-- ===== X7_clear: WeighedGate$Text.clear()V =====
set_option maxRecDepth 20000 in
set_option maxHeartbeats 2000000 in
theorem p_X7_clear {G : xG} {d : Nat} {n t : Nat} (hn : 71 ≤ n) (hd : 0 ≤ d) {o0 : Nat} (ho0 : okT o0) (w : xI) : xMet G m_X7_clear d [.ref o0] (xFin n t) w (fun _ : Unit => none) (xFin n t) (f_X7_clear o0 w) := by
  refine xMet.of rfl (Nat.le_of_ble_eq_true rfl) ?_
  unfold f_X7_clear
  show xC G m_X7_clear d 0 [(0, .ref o0)] [] (xFin n t) w _ _ _
  refine y_aload_n dX7_clear_0 rfl 0 rfl ?_
  refine y_iconst (v := 0) dX7_clear_1 (by decide) ?_
  refine y_puti dX7_clear_2 flX7_21 (okT_k ho0 hn) (okT_s ho0) rfl ?_
  exact y_return dX7_clear_5 rfl rfl
-- ===== X4_isBlank: WeighedGate$Reader.isBlank(I)Z =====
set_option maxRecDepth 20000 in
set_option maxHeartbeats 2000000 in
theorem p_X4_isBlank {G : xG} {d : Nat} {n t : Nat} (hn : 71 ≤ n) (hd : 0 ≤ d) (a1 : Int32) (w : xI) : xMet G m_X4_isBlank d [.int a1] (xFin n t) w (fun x : Int32 => some (Value.int x)) (xFin n t) (f_X4_isBlank a1 w) := by
  refine xMet.of rfl (Nat.le_of_ble_eq_true rfl) ?_
  unfold f_X4_isBlank
  show xC G m_X4_isBlank d 0 [(0, .int a1)] [] (xFin n t) w _ _ _
  refine y_iload_n dX4_isBlank_0 rfl 0 rfl ?_
  refine y_bipush (v := 32) dX4_isBlank_1 (by decide) ?_
  refine y_icmp_eq (tgt := 12) dX4_isBlank_3 (by decide) ?_ ?_
  · refine y_iconst (v := 1) dX4_isBlank_12 (by decide) ?_
    refine y_goto (tgt := 17) dX4_isBlank_13 (by decide) ?_
    exact y_ireturn dX4_isBlank_17 rfl rfl rfl
  · refine y_iload_n dX4_isBlank_6 rfl 0 rfl ?_
    refine y_bipush (v := 10) dX4_isBlank_7 (by decide) ?_
    refine y_icmp_ne (tgt := 16) dX4_isBlank_9 (by decide) ?_ ?_
    · refine y_iconst (v := 0) dX4_isBlank_16 (by decide) ?_
      exact y_ireturn dX4_isBlank_17 rfl rfl rfl
    · refine y_iconst (v := 1) dX4_isBlank_12 (by decide) ?_
      refine y_goto (tgt := 17) dX4_isBlank_13 (by decide) ?_
      exact y_ireturn dX4_isBlank_17 rfl rfl rfl
-- ===== X4_isLetter: WeighedGate$Reader.isLetter(I)Z =====
set_option maxRecDepth 20000 in
set_option maxHeartbeats 2000000 in
theorem p_X4_isLetter {G : xG} {d : Nat} {n t : Nat} (hn : 71 ≤ n) (hd : 0 ≤ d) (a1 : Int32) (w : xI) : xMet G m_X4_isLetter d [.int a1] (xFin n t) w (fun x : Int32 => some (Value.int x)) (xFin n t) (f_X4_isLetter a1 w) := by
  refine xMet.of rfl (Nat.le_of_ble_eq_true rfl) ?_
  unfold f_X4_isLetter
  show xC G m_X4_isLetter d 0 [(0, .int a1)] [] (xFin n t) w _ _ _
  refine y_iload_n dX4_isLetter_0 rfl 0 rfl ?_
  refine y_bipush (v := 97) dX4_isLetter_1 (by decide) ?_
  refine y_icmp_lt (tgt := 16) dX4_isLetter_3 (by decide) ?_ ?_
  · refine y_iconst (v := 0) dX4_isLetter_16 (by decide) ?_
    exact y_ireturn dX4_isLetter_17 rfl rfl rfl
  · refine y_iload_n dX4_isLetter_6 rfl 0 rfl ?_
    refine y_bipush (v := 122) dX4_isLetter_7 (by decide) ?_
    refine y_icmp_gt (tgt := 16) dX4_isLetter_9 (by decide) ?_ ?_
    · refine y_iconst (v := 0) dX4_isLetter_16 (by decide) ?_
      exact y_ireturn dX4_isLetter_17 rfl rfl rfl
    · refine y_iconst (v := 1) dX4_isLetter_12 (by decide) ?_
      refine y_goto (tgt := 17) dX4_isLetter_13 (by decide) ?_
      exact y_ireturn dX4_isLetter_17 rfl rfl rfl
-- ===== X4_spells: WeighedGate$Reader.spells(Ljava/lang/String;)Z =====
set_option maxRecDepth 20000 in
set_option maxHeartbeats 2000000 in
theorem p_X4_spells_L20 {G : xG} {d : Nat} {n t : Nat} (hn : 71 ≤ n) (hd : 6 ≤ d) {o1 : Nat} (ho1 : o1 < 13) : ∀ (fu : Nat) (v2 : Int32) (w : xI), xC G m_X4_spells d 20 [(0, .ref 19), (1, .ref (1000000 + o1)), (2, .int v2)] [] (xFin n t) w (fun x : Int32 => some (Value.int x)) (xFin n t) (f_X4_spells_L20 o1 fu v2 w) := by
  intro fu
  induction fu with
  | zero => intro v2 w; exact xC.none
  | succ fu ih =>
    intro v2 w
    rw [f_X4_spells_L20]
    refine y_iload_n dX4_spells_20 rfl 2 rfl ?_
    refine y_aload_n dX4_spells_21 rfl 1 rfl ?_
    refine y_strlen dX4_spells_22 kX4_127 (Nat.le_of_ble_eq_true rfl) (by omega) ho1 ?_
    refine y_icmp_ge (tgt := 55) dX4_spells_25 (by decide) ?_ ?_
    · refine y_iconst (v := 1) dX4_spells_55 (by decide) ?_
      exact y_ireturn dX4_spells_56 rfl rfl rfl
    · refine y_aload_n dX4_spells_28 rfl 0 rfl ?_
      refine y_getr (q := 20) dX4_spells_29 flX4_9 (xlt rfl hn) rfl rfl rfl ?_
      refine y_aload_n dX4_spells_32 rfl 0 rfl ?_
      refine z_geti (v := (w 19 3)) dX4_spells_33 flX4_57 (xlt rfl hn) rfl rfl rfl ?_
      refine y_iload_n dX4_spells_36 rfl 2 rfl ?_
      refine y_iadd dX4_spells_37 ?_
      refine z_iald (v := (w 20 ((w 19 3) + v2).toNatClampNeg)) dX4_spells_38 (xlt rfl hn) rfl rfl ?_
      refine y_aload_n dX4_spells_39 rfl 1 rfl ?_
      refine y_iload_n dX4_spells_40 rfl 2 rfl ?_
      refine y_strat dX4_spells_41 kX4_132 (Nat.le_of_ble_eq_true rfl) (by omega) ho1 ?_
      refine y_icmp_eq (tgt := 49) dX4_spells_44 (by decide) ?_ ?_
      · refine z_iinc (j := 2) dX4_spells_49 (by decide) rfl (by decide) (fun x20001 => ?_)
        refine y_loc (lv' := [(2, .int x20001), (0, .ref 19), (1, .ref (1000000 + o1))]) rfl ?_
        refine y_goto (tgt := 20) dX4_spells_52 (by decide) ?_
        refine y_sub [(0, .ref 19), (1, .ref (1000000 + o1)), (2, .int x20001)] [1, 2, 0] rfl ?_
        exact ih x20001 w 
      · refine y_iconst (v := 0) dX4_spells_47 (by decide) ?_
        exact y_ireturn dX4_spells_48 rfl rfl rfl
set_option maxRecDepth 20000 in
set_option maxHeartbeats 2000000 in
theorem p_X4_spells {G : xG} {d : Nat} {n t : Nat} (hn : 71 ≤ n) (hd : 6 ≤ d) {o1 : Nat} (ho1 : o1 < 13) (w : xI) : xMet G m_X4_spells d [.ref 19, .ref (1000000 + o1)] (xFin n t) w (fun x : Int32 => some (Value.int x)) (xFin n t) (f_X4_spells o1 w) := by
  refine xMet.of rfl (Nat.le_of_ble_eq_true rfl) ?_
  unfold f_X4_spells
  show xC G m_X4_spells d 0 [(0, .ref 19), (1, .ref (1000000 + o1))] [] (xFin n t) w _ _ _
  refine y_aload_n dX4_spells_0 rfl 0 rfl ?_
  refine z_geti (v := (w 19 2)) dX4_spells_1 flX4_28 (xlt rfl hn) rfl rfl rfl ?_
  refine y_aload_n dX4_spells_4 rfl 0 rfl ?_
  refine z_geti (v := (w 19 3)) dX4_spells_5 flX4_57 (xlt rfl hn) rfl rfl rfl ?_
  refine y_isub dX4_spells_8 ?_
  refine y_aload_n dX4_spells_9 rfl 1 rfl ?_
  refine y_strlen dX4_spells_10 kX4_127 (Nat.le_of_ble_eq_true rfl) (by omega) ho1 ?_
  refine y_icmp_eq (tgt := 18) dX4_spells_13 (by decide) ?_ ?_
  · refine y_iconst (v := 0) dX4_spells_18 (by decide) ?_
    refine y_istore_n (lv' := [(2, .int (0 : Int32)), (0, .ref 19), (1, .ref (1000000 + o1))]) dX4_spells_19 rfl (by decide) rfl ?_
    refine y_sub [(0, .ref 19), (1, .ref (1000000 + o1)), (2, .int (0 : Int32))] [1, 2, 0] rfl ?_
    refine p_X4_spells_L20 hn hd ho1 2000 (0 : Int32) w 
  · refine y_iconst (v := 0) dX4_spells_16 (by decide) ?_
    exact y_ireturn dX4_spells_17 rfl rfl rfl
-- ===== X4_nextWord: WeighedGate$Reader.nextWord()I =====
set_option maxRecDepth 20000 in
set_option maxHeartbeats 2000000 in
theorem p_X4_nextWord_L39 {G : xG} {d : Nat} {n t : Nat} (hn : 71 ≤ n) (hd : 7 ≤ d) (w : xI) : xC G m_X4_nextWord d 39 [(0, .ref 19)] [] (xFin n t) w (fun x : Int32 => some (Value.int x)) (xFin n t) (f_X4_nextWord_L39  w) := by
  unfold f_X4_nextWord_L39
  refine y_aload_n dX4_nextWord_39 rfl 0 rfl ?_
  refine y_str (i := 1) (tx := "in") dX4_nextWord_40 (by decide +kernel) (by decide) ?_
  refine y_callV (As := [.ref (1000000 + 1)]) (d2 := d - 1) dX4_nextWord_42 kX4_101 (by omega) rfl rfl (Nat.le_of_ble_eq_true rfl) (xlt rfl hn) rfl rfl (p_X4_spells hn (by omega) (by decide)  _) (fun r39001 w39002 _ => ?_)
  refine y_if_eq (tgt := 50) dX4_nextWord_45 (by decide) ?_ ?_
  · refine y_aload_n dX4_nextWord_50 rfl 0 rfl ?_
    refine y_str (i := 2) (tx := "out") dX4_nextWord_51 (by decide +kernel) (by decide) ?_
    refine y_callV (As := [.ref (1000000 + 2)]) (d2 := d - 1) dX4_nextWord_53 kX4_101 (by omega) rfl rfl (Nat.le_of_ble_eq_true rfl) (xlt rfl hn) rfl rfl (p_X4_spells hn (by omega) (by decide)  _) (fun r39003 w39004 _ => ?_)
    refine y_if_eq (tgt := 62) dX4_nextWord_56 (by decide) ?_ ?_
    · refine y_aload_n dX4_nextWord_62 rfl 0 rfl ?_
      refine y_str (i := 3) (tx := "off") dX4_nextWord_63 (by decide +kernel) (by decide) ?_
      refine y_callV (As := [.ref (1000000 + 3)]) (d2 := d - 1) dX4_nextWord_65 kX4_101 (by omega) rfl rfl (Nat.le_of_ble_eq_true rfl) (xlt rfl hn) rfl rfl (p_X4_spells hn (by omega) (by decide)  _) (fun r39005 w39006 _ => ?_)
      refine y_if_eq (tgt := 74) dX4_nextWord_68 (by decide) ?_ ?_
      · refine y_aload_n dX4_nextWord_74 rfl 0 rfl ?_
        refine y_str (i := 4) (tx := "hour") dX4_nextWord_75 (by decide +kernel) (by decide) ?_
        refine y_callV (As := [.ref (1000000 + 4)]) (d2 := d - 1) dX4_nextWord_77 kX4_101 (by omega) rfl rfl (Nat.le_of_ble_eq_true rfl) (xlt rfl hn) rfl rfl (p_X4_spells hn (by omega) (by decide)  _) (fun r39007 w39008 _ => ?_)
        refine y_if_eq (tgt := 86) dX4_nextWord_80 (by decide) ?_ ?_
        · refine y_aload_n dX4_nextWord_86 rfl 0 rfl ?_
          refine y_str (i := 5) (tx := "many") dX4_nextWord_87 (by decide +kernel) (by decide) ?_
          refine y_callV (As := [.ref (1000000 + 5)]) (d2 := d - 1) dX4_nextWord_89 kX4_101 (by omega) rfl rfl (Nat.le_of_ble_eq_true rfl) (xlt rfl hn) rfl rfl (p_X4_spells hn (by omega) (by decide)  _) (fun r39009 w39010 _ => ?_)
          refine y_if_eq (tgt := 98) dX4_nextWord_92 (by decide) ?_ ?_
          · refine y_aload_n dX4_nextWord_98 rfl 0 rfl ?_
            refine y_str (i := 6) (tx := "stones") dX4_nextWord_99 (by decide +kernel) (by decide) ?_
            refine y_callV (As := [.ref (1000000 + 6)]) (d2 := d - 1) dX4_nextWord_101 kX4_101 (by omega) rfl rfl (Nat.le_of_ble_eq_true rfl) (xlt rfl hn) rfl rfl (p_X4_spells hn (by omega) (by decide)  _) (fun r39011 w39012 _ => ?_)
            refine y_if_eq (tgt := 110) dX4_nextWord_104 (by decide) ?_ ?_
            · refine y_aload_n dX4_nextWord_110 rfl 0 rfl ?_
              refine y_str (i := 7) (tx := "may") dX4_nextWord_111 (by decide +kernel) (by decide) ?_
              refine y_callV (As := [.ref (1000000 + 7)]) (d2 := d - 1) dX4_nextWord_113 kX4_101 (by omega) rfl rfl (Nat.le_of_ble_eq_true rfl) (xlt rfl hn) rfl rfl (p_X4_spells hn (by omega) (by decide)  _) (fun r39013 w39014 _ => ?_)
              refine y_if_eq (tgt := 122) dX4_nextWord_116 (by decide) ?_ ?_
              · refine y_aload_n dX4_nextWord_122 rfl 0 rfl ?_
                refine y_str (i := 8) (tx := "fine") dX4_nextWord_123 (by decide +kernel) (by decide) ?_
                refine y_callV (As := [.ref (1000000 + 8)]) (d2 := d - 1) dX4_nextWord_125 kX4_101 (by omega) rfl rfl (Nat.le_of_ble_eq_true rfl) (xlt rfl hn) rfl rfl (p_X4_spells hn (by omega) (by decide)  _) (fun r39015 w39016 _ => ?_)
                refine y_if_eq (tgt := 134) dX4_nextWord_128 (by decide) ?_ ?_
                · refine y_aload_n dX4_nextWord_134 rfl 0 rfl ?_
                  refine y_str (i := 9) (tx := "toll") dX4_nextWord_135 (by decide +kernel) (by decide) ?_
                  refine y_callV (As := [.ref (1000000 + 9)]) (d2 := d - 1) dX4_nextWord_137 kX4_101 (by omega) rfl rfl (Nat.le_of_ble_eq_true rfl) (xlt rfl hn) rfl rfl (p_X4_spells hn (by omega) (by decide)  _) (fun r39017 w39018 _ => ?_)
                  refine y_if_eq (tgt := 146) dX4_nextWord_140 (by decide) ?_ ?_
                  · refine y_aload_n dX4_nextWord_146 rfl 0 rfl ?_
                    refine y_str (i := 10) (tx := "or") dX4_nextWord_147 (by decide +kernel) (by decide) ?_
                    refine y_callV (As := [.ref (1000000 + 10)]) (d2 := d - 1) dX4_nextWord_149 kX4_101 (by omega) rfl rfl (Nat.le_of_ble_eq_true rfl) (xlt rfl hn) rfl rfl (p_X4_spells hn (by omega) (by decide)  _) (fun r39019 w39020 _ => ?_)
                    refine y_if_eq (tgt := 158) dX4_nextWord_152 (by decide) ?_ ?_
                    · refine y_aload_n dX4_nextWord_158 rfl 0 rfl ?_
                      refine y_str (i := 11) (tx := "and") dX4_nextWord_159 (by decide +kernel) (by decide) ?_
                      refine y_callV (As := [.ref (1000000 + 11)]) (d2 := d - 1) dX4_nextWord_161 kX4_101 (by omega) rfl rfl (Nat.le_of_ble_eq_true rfl) (xlt rfl hn) rfl rfl (p_X4_spells hn (by omega) (by decide)  _) (fun r39021 w39022 _ => ?_)
                      refine y_if_eq (tgt := 170) dX4_nextWord_164 (by decide) ?_ ?_
                      · refine y_aload_n dX4_nextWord_170 rfl 0 rfl ?_
                        refine y_str (i := 12) (tx := "not") dX4_nextWord_171 (by decide +kernel) (by decide) ?_
                        refine y_callV (As := [.ref (1000000 + 12)]) (d2 := d - 1) dX4_nextWord_173 kX4_101 (by omega) rfl rfl (Nat.le_of_ble_eq_true rfl) (xlt rfl hn) rfl rfl (p_X4_spells hn (by omega) (by decide)  _) (fun r39023 w39024 _ => ?_)
                        refine y_if_eq (tgt := 184) dX4_nextWord_176 (by decide) ?_ ?_
                        · refine y_bipush (v := (-23)) dX4_nextWord_184 (by decide) ?_
                          exact y_ireturn dX4_nextWord_186 rfl rfl rfl
                        · refine y_bipush (v := (-9)) dX4_nextWord_179 (by decide) ?_
                          refine y_goto (tgt := 186) dX4_nextWord_181 (by decide) ?_
                          exact y_ireturn dX4_nextWord_186 rfl rfl rfl
                      · refine y_bipush (v := (-8)) dX4_nextWord_167 (by decide) ?_
                        exact y_ireturn dX4_nextWord_169 rfl rfl rfl
                    · refine y_bipush (v := (-7)) dX4_nextWord_155 (by decide) ?_
                      exact y_ireturn dX4_nextWord_157 rfl rfl rfl
                  · refine y_bipush (v := (-21)) dX4_nextWord_143 (by decide) ?_
                    exact y_ireturn dX4_nextWord_145 rfl rfl rfl
                · refine y_bipush (v := (-20)) dX4_nextWord_131 (by decide) ?_
                  exact y_ireturn dX4_nextWord_133 rfl rfl rfl
              · refine y_bipush (v := (-19)) dX4_nextWord_119 (by decide) ?_
                exact y_ireturn dX4_nextWord_121 rfl rfl rfl
            · refine y_bipush (v := (-6)) dX4_nextWord_107 (by decide) ?_
              exact y_ireturn dX4_nextWord_109 rfl rfl rfl
          · refine y_bipush (v := (-5)) dX4_nextWord_95 (by decide) ?_
            exact y_ireturn dX4_nextWord_97 rfl rfl rfl
        · refine y_bipush (v := (-4)) dX4_nextWord_83 (by decide) ?_
          exact y_ireturn dX4_nextWord_85 rfl rfl rfl
      · refine y_bipush (v := (-3)) dX4_nextWord_71 (by decide) ?_
        exact y_ireturn dX4_nextWord_73 rfl rfl rfl
    · refine y_bipush (v := (-2)) dX4_nextWord_59 (by decide) ?_
      exact y_ireturn dX4_nextWord_61 rfl rfl rfl
  · refine y_iconst (v := (-1)) dX4_nextWord_48 (by decide) ?_
    exact y_ireturn dX4_nextWord_49 rfl rfl rfl
set_option maxRecDepth 20000 in
set_option maxHeartbeats 2000000 in
theorem p_X4_nextWord_L0 {G : xG} {d : Nat} {n t : Nat} (hn : 71 ≤ n) (hd : 7 ≤ d) : ∀ (fu : Nat) (w : xI), xC G m_X4_nextWord d 0 [(0, .ref 19)] [] (xFin n t) w (fun x : Int32 => some (Value.int x)) (xFin n t) (f_X4_nextWord_L0 fu  w) := by
  intro fu
  induction fu with
  | zero => intro w; exact xC.none
  | succ fu ih =>
    intro w
    rw [f_X4_nextWord_L0]
    refine y_aload_n dX4_nextWord_0 rfl 0 rfl ?_
    refine z_geti (v := (w 19 2)) dX4_nextWord_1 flX4_28 (xlt rfl hn) rfl rfl rfl ?_
    refine y_aload_n dX4_nextWord_4 rfl 0 rfl ?_
    refine z_geti (v := (w 19 1)) dX4_nextWord_5 flX4_15 (xlt rfl hn) rfl rfl rfl ?_
    refine y_icmp_ge (tgt := 39) dX4_nextWord_8 (by decide) ?_ ?_
    · refine p_X4_nextWord_L39 hn hd w 
    · refine y_aload_n dX4_nextWord_11 rfl 0 rfl ?_
      refine y_getr (q := 20) dX4_nextWord_12 flX4_9 (xlt rfl hn) rfl rfl rfl ?_
      refine y_aload_n dX4_nextWord_15 rfl 0 rfl ?_
      refine z_geti (v := (w 19 2)) dX4_nextWord_16 flX4_28 (xlt rfl hn) rfl rfl rfl ?_
      refine z_iald (v := (w 20 (w 19 2).toNatClampNeg)) dX4_nextWord_19 (xlt rfl hn) rfl rfl ?_
      refine y_callS (As := [.int (w 20 (w 19 2).toNatClampNeg)]) (d2 := d - 1) dX4_nextWord_20 kX4_82 (by omega) rfl rfl (Nat.le_of_ble_eq_true rfl) (p_X4_isLetter hn (by omega)  _ _) (fun r1 w2 _ => ?_)
      refine y_if_eq (tgt := 39) dX4_nextWord_23 (by decide) ?_ ?_
      · refine p_X4_nextWord_L39 hn hd w2 
      · refine y_aload_n dX4_nextWord_26 rfl 0 rfl ?_
        refine y_dup dX4_nextWord_27 rfl ?_
        refine z_geti (v := (w2 19 2)) dX4_nextWord_28 flX4_28 (xlt rfl hn) rfl rfl rfl ?_
        refine y_iconst (v := 1) dX4_nextWord_31 (by decide) ?_
        refine y_iadd dX4_nextWord_32 ?_
        refine y_puti dX4_nextWord_33 flX4_28 (xlt rfl hn) rfl rfl ?_
        refine y_goto (tgt := 0) dX4_nextWord_36 (by decide) ?_
        exact ih (xup w2 19 2 ((w2 19 2) + (1 : Int32))) 
set_option maxRecDepth 20000 in
set_option maxHeartbeats 2000000 in
theorem p_X4_nextWord {G : xG} {d : Nat} {n t : Nat} (hn : 71 ≤ n) (hd : 7 ≤ d) (w : xI) : xMet G m_X4_nextWord d [.ref 19] (xFin n t) w (fun x : Int32 => some (Value.int x)) (xFin n t) (f_X4_nextWord  w) := by
  refine xMet.of rfl (Nat.le_of_ble_eq_true rfl) ?_
  unfold f_X4_nextWord
  show xC G m_X4_nextWord d 0 [(0, .ref 19)] [] (xFin n t) w _ _ _
  refine p_X4_nextWord_L0 hn hd 2000 w 
-- ===== X4_isDigit: WeighedGate$Reader.isDigit(I)Z =====
set_option maxRecDepth 20000 in
set_option maxHeartbeats 2000000 in
theorem p_X4_isDigit {G : xG} {d : Nat} {n t : Nat} (hn : 71 ≤ n) (hd : 0 ≤ d) (a1 : Int32) (w : xI) : xMet G m_X4_isDigit d [.int a1] (xFin n t) w (fun x : Int32 => some (Value.int x)) (xFin n t) (f_X4_isDigit a1 w) := by
  refine xMet.of rfl (Nat.le_of_ble_eq_true rfl) ?_
  unfold f_X4_isDigit
  show xC G m_X4_isDigit d 0 [(0, .int a1)] [] (xFin n t) w _ _ _
  refine y_iload_n dX4_isDigit_0 rfl 0 rfl ?_
  refine y_bipush (v := 48) dX4_isDigit_1 (by decide) ?_
  refine y_icmp_lt (tgt := 16) dX4_isDigit_3 (by decide) ?_ ?_
  · refine y_iconst (v := 0) dX4_isDigit_16 (by decide) ?_
    exact y_ireturn dX4_isDigit_17 rfl rfl rfl
  · refine y_iload_n dX4_isDigit_6 rfl 0 rfl ?_
    refine y_bipush (v := 57) dX4_isDigit_7 (by decide) ?_
    refine y_icmp_gt (tgt := 16) dX4_isDigit_9 (by decide) ?_ ?_
    · refine y_iconst (v := 0) dX4_isDigit_16 (by decide) ?_
      exact y_ireturn dX4_isDigit_17 rfl rfl rfl
    · refine y_iconst (v := 1) dX4_isDigit_12 (by decide) ?_
      refine y_goto (tgt := 17) dX4_isDigit_13 (by decide) ?_
      exact y_ireturn dX4_isDigit_17 rfl rfl rfl
-- ===== X4_nextNumber: WeighedGate$Reader.nextNumber()I =====
set_option maxRecDepth 20000 in
set_option maxHeartbeats 2000000 in
theorem p_X4_nextNumber_L2 {G : xG} {d : Nat} {n t : Nat} (hn : 71 ≤ n) (hd : 1 ≤ d) : ∀ (fu : Nat) (v1 : Int32) (w : xI), xC G m_X4_nextNumber d 2 [(0, .ref 19), (1, .int v1)] [] (xFin n t) w (fun x : Int32 => some (Value.int x)) (xFin n t) (f_X4_nextNumber_L2 fu v1 w) := by
  intro fu
  induction fu with
  | zero => intro v1 w; exact xC.none
  | succ fu ih =>
    intro v1 w
    rw [f_X4_nextNumber_L2]
    refine y_aload_n dX4_nextNumber_2 rfl 0 rfl ?_
    refine z_geti (v := (w 19 2)) dX4_nextNumber_3 flX4_28 (xlt rfl hn) rfl rfl rfl ?_
    refine y_aload_n dX4_nextNumber_6 rfl 0 rfl ?_
    refine z_geti (v := (w 19 1)) dX4_nextNumber_7 flX4_15 (xlt rfl hn) rfl rfl rfl ?_
    refine y_icmp_ge (tgt := 59) dX4_nextNumber_10 (by decide) ?_ ?_
    · refine y_aload_n dX4_nextNumber_59 rfl 0 rfl ?_
      refine z_geti (v := (w 19 2)) dX4_nextNumber_60 flX4_28 (xlt rfl hn) rfl rfl rfl ?_
      refine y_aload_n dX4_nextNumber_63 rfl 0 rfl ?_
      refine z_geti (v := (w 19 3)) dX4_nextNumber_64 flX4_57 (xlt rfl hn) rfl rfl rfl ?_
      refine y_isub dX4_nextNumber_67 ?_
      refine y_iconst (v := 4) dX4_nextNumber_68 (by decide) ?_
      refine y_icmp_le (tgt := 77) dX4_nextNumber_69 (by decide) ?_ ?_
      · refine y_iload_n dX4_nextNumber_77 rfl 1 rfl ?_
        exact y_ireturn dX4_nextNumber_78 rfl rfl rfl
      · refine y_bipush (v := (-23)) dX4_nextNumber_72 (by decide) ?_
        refine y_goto (tgt := 78) dX4_nextNumber_74 (by decide) ?_
        exact y_ireturn dX4_nextNumber_78 rfl rfl rfl
    · refine y_aload_n dX4_nextNumber_13 rfl 0 rfl ?_
      refine y_getr (q := 20) dX4_nextNumber_14 flX4_9 (xlt rfl hn) rfl rfl rfl ?_
      refine y_aload_n dX4_nextNumber_17 rfl 0 rfl ?_
      refine z_geti (v := (w 19 2)) dX4_nextNumber_18 flX4_28 (xlt rfl hn) rfl rfl rfl ?_
      refine z_iald (v := (w 20 (w 19 2).toNatClampNeg)) dX4_nextNumber_21 (xlt rfl hn) rfl rfl ?_
      refine y_callS (As := [.int (w 20 (w 19 2).toNatClampNeg)]) (d2 := d - 1) dX4_nextNumber_22 kX4_89 (by omega) rfl rfl (Nat.le_of_ble_eq_true rfl) (p_X4_isDigit hn (by omega)  _ _) (fun r2001 w2002 _ => ?_)
      refine y_if_eq (tgt := 59) dX4_nextNumber_25 (by decide) ?_ ?_
      · refine y_aload_n dX4_nextNumber_59 rfl 0 rfl ?_
        refine z_geti (v := (w2002 19 2)) dX4_nextNumber_60 flX4_28 (xlt rfl hn) rfl rfl rfl ?_
        refine y_aload_n dX4_nextNumber_63 rfl 0 rfl ?_
        refine z_geti (v := (w2002 19 3)) dX4_nextNumber_64 flX4_57 (xlt rfl hn) rfl rfl rfl ?_
        refine y_isub dX4_nextNumber_67 ?_
        refine y_iconst (v := 4) dX4_nextNumber_68 (by decide) ?_
        refine y_icmp_le (tgt := 77) dX4_nextNumber_69 (by decide) ?_ ?_
        · refine y_iload_n dX4_nextNumber_77 rfl 1 rfl ?_
          exact y_ireturn dX4_nextNumber_78 rfl rfl rfl
        · refine y_bipush (v := (-23)) dX4_nextNumber_72 (by decide) ?_
          refine y_goto (tgt := 78) dX4_nextNumber_74 (by decide) ?_
          exact y_ireturn dX4_nextNumber_78 rfl rfl rfl
      · refine y_bipush (v := 10) dX4_nextNumber_28 (by decide) ?_
        refine y_iload_n dX4_nextNumber_30 rfl 1 rfl ?_
        refine y_imul dX4_nextNumber_31 ?_
        refine y_aload_n dX4_nextNumber_32 rfl 0 rfl ?_
        refine y_getr (q := 20) dX4_nextNumber_33 flX4_9 (xlt rfl hn) rfl rfl rfl ?_
        refine y_aload_n dX4_nextNumber_36 rfl 0 rfl ?_
        refine z_geti (v := (w2002 19 2)) dX4_nextNumber_37 flX4_28 (xlt rfl hn) rfl rfl rfl ?_
        refine z_iald (v := (w2002 20 (w2002 19 2).toNatClampNeg)) dX4_nextNumber_40 (xlt rfl hn) rfl rfl ?_
        refine y_iadd dX4_nextNumber_41 ?_
        refine y_bipush (v := 48) dX4_nextNumber_42 (by decide) ?_
        refine y_isub dX4_nextNumber_44 ?_
        refine y_let (fun x2003 => ?_)
        refine y_istore_n (lv' := [(1, .int x2003), (0, .ref 19)]) dX4_nextNumber_45 rfl (by decide) rfl ?_
        refine y_aload_n dX4_nextNumber_46 rfl 1 rfl ?_
        refine y_dup dX4_nextNumber_47 rfl ?_
        refine z_geti (v := (w2002 19 2)) dX4_nextNumber_48 flX4_28 (xlt rfl hn) rfl rfl rfl ?_
        refine y_iconst (v := 1) dX4_nextNumber_51 (by decide) ?_
        refine y_iadd dX4_nextNumber_52 ?_
        refine y_puti dX4_nextNumber_53 flX4_28 (xlt rfl hn) rfl rfl ?_
        refine y_goto (tgt := 2) dX4_nextNumber_56 (by decide) ?_
        refine y_sub [(0, .ref 19), (1, .int x2003)] [1, 0] rfl ?_
        exact ih x2003 (xup w2002 19 2 ((w2002 19 2) + (1 : Int32))) 
set_option maxRecDepth 20000 in
set_option maxHeartbeats 2000000 in
theorem p_X4_nextNumber {G : xG} {d : Nat} {n t : Nat} (hn : 71 ≤ n) (hd : 1 ≤ d) (w : xI) : xMet G m_X4_nextNumber d [.ref 19] (xFin n t) w (fun x : Int32 => some (Value.int x)) (xFin n t) (f_X4_nextNumber  w) := by
  refine xMet.of rfl (Nat.le_of_ble_eq_true rfl) ?_
  unfold f_X4_nextNumber
  show xC G m_X4_nextNumber d 0 [(0, .ref 19)] [] (xFin n t) w _ _ _
  refine y_iconst (v := 0) dX4_nextNumber_0 (by decide) ?_
  refine y_istore_n (lv' := [(1, .int (0 : Int32)), (0, .ref 19)]) dX4_nextNumber_1 rfl (by decide) rfl ?_
  refine y_sub [(0, .ref 19), (1, .int (0 : Int32))] [1, 0] rfl ?_
  refine p_X4_nextNumber_L2 hn hd 2000 (0 : Int32) w 
-- ===== X4_signOf: WeighedGate$Reader.signOf(I)I =====
set_option maxRecDepth 20000 in
set_option maxHeartbeats 2000000 in
theorem p_X4_signOf {G : xG} {d : Nat} {n t : Nat} (hn : 71 ≤ n) (hd : 0 ≤ d) (a1 : Int32) (w : xI) : xMet G m_X4_signOf d [.int a1] (xFin n t) w (fun x : Int32 => some (Value.int x)) (xFin n t) (f_X4_signOf a1 w) := by
  refine xMet.of rfl (Nat.le_of_ble_eq_true rfl) ?_
  unfold f_X4_signOf
  show xC G m_X4_signOf d 0 [(0, .int a1)] [] (xFin n t) w _ _ _
  refine y_iload_n dX4_signOf_0 rfl 0 rfl ?_
  refine xC.ite (fun hs1 => ?_) (fun hs1 => ?_)
  · refine y_table (tgt := 104) (v := 40) dX4_signOf_1 hs1 (by decide) (by decide) rfl (by decide) ?_
    refine y_bipush (v := (-16)) dX4_signOf_104 (by decide) ?_
    exact y_ireturn dX4_signOf_106 rfl rfl rfl
  · refine xC.ite (fun hs2 => ?_) (fun hs2 => ?_)
    · refine y_table (tgt := 107) (v := 41) dX4_signOf_1 hs2 (by decide) (by decide) rfl (by decide) ?_
      refine y_bipush (v := (-17)) dX4_signOf_107 (by decide) ?_
      exact y_ireturn dX4_signOf_109 rfl rfl rfl
    · refine xC.ite (fun hs3 => ?_) (fun hs3 => ?_)
      · refine y_table (tgt := 119) (v := 42) dX4_signOf_1 hs3 (by decide) (by decide) rfl (by decide) ?_
        refine y_bipush (v := (-14)) dX4_signOf_119 (by decide) ?_
        exact y_ireturn dX4_signOf_121 rfl rfl rfl
      · refine xC.ite (fun hs4 => ?_) (fun hs4 => ?_)
        · refine y_table (tgt := 113) (v := 43) dX4_signOf_1 hs4 (by decide) (by decide) rfl (by decide) ?_
          refine y_bipush (v := (-12)) dX4_signOf_113 (by decide) ?_
          exact y_ireturn dX4_signOf_115 rfl rfl rfl
        · refine xC.ite (fun hs5 => ?_) (fun hs5 => ?_)
          · refine y_table (tgt := 128) (v := 44) dX4_signOf_1 hs5 (by decide) (by decide) rfl (by decide) ?_
            refine y_bipush (v := (-23)) dX4_signOf_128 (by decide) ?_
            exact y_ireturn dX4_signOf_130 rfl rfl rfl
          · refine xC.ite (fun hs6 => ?_) (fun hs6 => ?_)
            · refine y_table (tgt := 116) (v := 45) dX4_signOf_1 hs6 (by decide) (by decide) rfl (by decide) ?_
              refine y_bipush (v := (-13)) dX4_signOf_116 (by decide) ?_
              exact y_ireturn dX4_signOf_118 rfl rfl rfl
            · refine xC.ite (fun hs7 => ?_) (fun hs7 => ?_)
              · refine y_table (tgt := 128) (v := 46) dX4_signOf_1 hs7 (by decide) (by decide) rfl (by decide) ?_
                refine y_bipush (v := (-23)) dX4_signOf_128 (by decide) ?_
                exact y_ireturn dX4_signOf_130 rfl rfl rfl
              · refine xC.ite (fun hs8 => ?_) (fun hs8 => ?_)
                · refine y_table (tgt := 128) (v := 47) dX4_signOf_1 hs8 (by decide) (by decide) rfl (by decide) ?_
                  refine y_bipush (v := (-23)) dX4_signOf_128 (by decide) ?_
                  exact y_ireturn dX4_signOf_130 rfl rfl rfl
                · refine xC.ite (fun hs9 => ?_) (fun hs9 => ?_)
                  · refine y_table (tgt := 128) (v := 48) dX4_signOf_1 hs9 (by decide) (by decide) rfl (by decide) ?_
                    refine y_bipush (v := (-23)) dX4_signOf_128 (by decide) ?_
                    exact y_ireturn dX4_signOf_130 rfl rfl rfl
                  · refine xC.ite (fun hs10 => ?_) (fun hs10 => ?_)
                    · refine y_table (tgt := 128) (v := 49) dX4_signOf_1 hs10 (by decide) (by decide) rfl (by decide) ?_
                      refine y_bipush (v := (-23)) dX4_signOf_128 (by decide) ?_
                      exact y_ireturn dX4_signOf_130 rfl rfl rfl
                    · refine xC.ite (fun hs11 => ?_) (fun hs11 => ?_)
                      · refine y_table (tgt := 128) (v := 50) dX4_signOf_1 hs11 (by decide) (by decide) rfl (by decide) ?_
                        refine y_bipush (v := (-23)) dX4_signOf_128 (by decide) ?_
                        exact y_ireturn dX4_signOf_130 rfl rfl rfl
                      · refine xC.ite (fun hs12 => ?_) (fun hs12 => ?_)
                        · refine y_table (tgt := 128) (v := 51) dX4_signOf_1 hs12 (by decide) (by decide) rfl (by decide) ?_
                          refine y_bipush (v := (-23)) dX4_signOf_128 (by decide) ?_
                          exact y_ireturn dX4_signOf_130 rfl rfl rfl
                        · refine xC.ite (fun hs13 => ?_) (fun hs13 => ?_)
                          · refine y_table (tgt := 128) (v := 52) dX4_signOf_1 hs13 (by decide) (by decide) rfl (by decide) ?_
                            refine y_bipush (v := (-23)) dX4_signOf_128 (by decide) ?_
                            exact y_ireturn dX4_signOf_130 rfl rfl rfl
                          · refine xC.ite (fun hs14 => ?_) (fun hs14 => ?_)
                            · refine y_table (tgt := 128) (v := 53) dX4_signOf_1 hs14 (by decide) (by decide) rfl (by decide) ?_
                              refine y_bipush (v := (-23)) dX4_signOf_128 (by decide) ?_
                              exact y_ireturn dX4_signOf_130 rfl rfl rfl
                            · refine xC.ite (fun hs15 => ?_) (fun hs15 => ?_)
                              · refine y_table (tgt := 128) (v := 54) dX4_signOf_1 hs15 (by decide) (by decide) rfl (by decide) ?_
                                refine y_bipush (v := (-23)) dX4_signOf_128 (by decide) ?_
                                exact y_ireturn dX4_signOf_130 rfl rfl rfl
                              · refine xC.ite (fun hs16 => ?_) (fun hs16 => ?_)
                                · refine y_table (tgt := 128) (v := 55) dX4_signOf_1 hs16 (by decide) (by decide) rfl (by decide) ?_
                                  refine y_bipush (v := (-23)) dX4_signOf_128 (by decide) ?_
                                  exact y_ireturn dX4_signOf_130 rfl rfl rfl
                                · refine xC.ite (fun hs17 => ?_) (fun hs17 => ?_)
                                  · refine y_table (tgt := 128) (v := 56) dX4_signOf_1 hs17 (by decide) (by decide) rfl (by decide) ?_
                                    refine y_bipush (v := (-23)) dX4_signOf_128 (by decide) ?_
                                    exact y_ireturn dX4_signOf_130 rfl rfl rfl
                                  · refine xC.ite (fun hs18 => ?_) (fun hs18 => ?_)
                                    · refine y_table (tgt := 128) (v := 57) dX4_signOf_1 hs18 (by decide) (by decide) rfl (by decide) ?_
                                      refine y_bipush (v := (-23)) dX4_signOf_128 (by decide) ?_
                                      exact y_ireturn dX4_signOf_130 rfl rfl rfl
                                    · refine xC.ite (fun hs19 => ?_) (fun hs19 => ?_)
                                      · refine y_table (tgt := 128) (v := 58) dX4_signOf_1 hs19 (by decide) (by decide) rfl (by decide) ?_
                                        refine y_bipush (v := (-23)) dX4_signOf_128 (by decide) ?_
                                        exact y_ireturn dX4_signOf_130 rfl rfl rfl
                                      · refine xC.ite (fun hs20 => ?_) (fun hs20 => ?_)
                                        · refine y_table (tgt := 110) (v := 59) dX4_signOf_1 hs20 (by decide) (by decide) rfl (by decide) ?_
                                          refine y_bipush (v := (-18)) dX4_signOf_110 (by decide) ?_
                                          exact y_ireturn dX4_signOf_112 rfl rfl rfl
                                        · refine xC.ite (fun hs21 => ?_) (fun hs21 => ?_)
                                          · refine y_table (tgt := 122) (v := 60) dX4_signOf_1 hs21 (by decide) (by decide) rfl (by decide) ?_
                                            refine y_bipush (v := (-10)) dX4_signOf_122 (by decide) ?_
                                            exact y_ireturn dX4_signOf_124 rfl rfl rfl
                                          · refine xC.ite (fun hs22 => ?_) (fun hs22 => ?_)
                                            · refine y_table (tgt := 125) (v := 61) dX4_signOf_1 hs22 (by decide) (by decide) rfl (by decide) ?_
                                              refine y_bipush (v := (-11)) dX4_signOf_125 (by decide) ?_
                                              exact y_ireturn dX4_signOf_127 rfl rfl rfl
                                            · refine y_tableD (tgt := 128) dX4_signOf_1 (by have z0 := lv_neT hs1 (show (40 : Int32).toInt = 40 from rfl); have z1 := lv_neT hs2 (show (41 : Int32).toInt = 41 from rfl); have z2 := lv_neT hs3 (show (42 : Int32).toInt = 42 from rfl); have z3 := lv_neT hs4 (show (43 : Int32).toInt = 43 from rfl); have z4 := lv_neT hs5 (show (44 : Int32).toInt = 44 from rfl); have z5 := lv_neT hs6 (show (45 : Int32).toInt = 45 from rfl); have z6 := lv_neT hs7 (show (46 : Int32).toInt = 46 from rfl); have z7 := lv_neT hs8 (show (47 : Int32).toInt = 47 from rfl); have z8 := lv_neT hs9 (show (48 : Int32).toInt = 48 from rfl); have z9 := lv_neT hs10 (show (49 : Int32).toInt = 49 from rfl); have z10 := lv_neT hs11 (show (50 : Int32).toInt = 50 from rfl); have z11 := lv_neT hs12 (show (51 : Int32).toInt = 51 from rfl); have z12 := lv_neT hs13 (show (52 : Int32).toInt = 52 from rfl); have z13 := lv_neT hs14 (show (53 : Int32).toInt = 53 from rfl); have z14 := lv_neT hs15 (show (54 : Int32).toInt = 54 from rfl); have z15 := lv_neT hs16 (show (55 : Int32).toInt = 55 from rfl); have z16 := lv_neT hs17 (show (56 : Int32).toInt = 56 from rfl); have z17 := lv_neT hs18 (show (57 : Int32).toInt = 57 from rfl); have z18 := lv_neT hs19 (show (58 : Int32).toInt = 58 from rfl); have z19 := lv_neT hs20 (show (59 : Int32).toInt = 59 from rfl); have z20 := lv_neT hs21 (show (60 : Int32).toInt = 60 from rfl); have z21 := lv_neT hs22 (show (61 : Int32).toInt = 61 from rfl); omega) (by decide) ?_
                                              refine y_bipush (v := (-23)) dX4_signOf_128 (by decide) ?_
                                              exact y_ireturn dX4_signOf_130 rfl rfl rfl
-- ===== X4_advance: WeighedGate$Reader.advance()V =====
set_option maxRecDepth 20000 in
set_option maxHeartbeats 2000000 in
theorem p_X4_advance_L39 {G : xG} {d : Nat} {n t : Nat} (hn : 71 ≤ n) (hd : 8 ≤ d) (w : xI) : xC G m_X4_advance d 39 [(0, .ref 19)] [] (xFin n t) w (fun _ : Unit => none) (xFin n t) (f_X4_advance_L39  w) := by
  unfold f_X4_advance_L39
  refine y_aload_n dX4_advance_39 rfl 0 rfl ?_
  refine y_aload_n dX4_advance_40 rfl 0 rfl ?_
  refine z_geti (v := (w 19 2)) dX4_advance_41 flX4_28 (xlt rfl hn) rfl rfl rfl ?_
  refine y_puti dX4_advance_44 flX4_57 (xlt rfl hn) rfl rfl ?_
  refine y_aload_n dX4_advance_47 rfl 0 rfl ?_
  refine z_geti (v := (w 19 2)) dX4_advance_48 flX4_28 (xlt rfl hn) rfl rfl rfl ?_
  refine y_aload_n dX4_advance_51 rfl 0 rfl ?_
  refine z_geti (v := (w 19 1)) dX4_advance_52 flX4_15 (xlt rfl hn) rfl rfl rfl ?_
  refine y_icmp_lt (tgt := 67) dX4_advance_55 (by decide) ?_ ?_
  · refine y_aload_n dX4_advance_67 rfl 0 rfl ?_
    refine y_getr (q := 20) dX4_advance_68 flX4_9 (xlt rfl hn) rfl rfl rfl ?_
    refine y_aload_n dX4_advance_71 rfl 0 rfl ?_
    refine z_geti (v := (w 19 2)) dX4_advance_72 flX4_28 (xlt rfl hn) rfl rfl rfl ?_
    refine z_iald (v := (w 20 (w 19 2).toNatClampNeg)) dX4_advance_75 (xlt rfl hn) rfl rfl ?_
    refine y_callS (As := [.int (w 20 (w 19 2).toNatClampNeg)]) (d2 := d - 1) dX4_advance_76 kX4_82 (by omega) rfl rfl (Nat.le_of_ble_eq_true rfl) (p_X4_isLetter hn (by omega)  _ _) (fun r39001 w39002 _ => ?_)
    refine y_if_eq (tgt := 93) dX4_advance_79 (by decide) ?_ ?_
    · refine y_aload_n dX4_advance_93 rfl 0 rfl ?_
      refine y_getr (q := 20) dX4_advance_94 flX4_9 (xlt rfl hn) rfl rfl rfl ?_
      refine y_aload_n dX4_advance_97 rfl 0 rfl ?_
      refine z_geti (v := (w39002 19 2)) dX4_advance_98 flX4_28 (xlt rfl hn) rfl rfl rfl ?_
      refine z_iald (v := (w39002 20 (w39002 19 2).toNatClampNeg)) dX4_advance_101 (xlt rfl hn) rfl rfl ?_
      refine y_callS (As := [.int (w39002 20 (w39002 19 2).toNatClampNeg)]) (d2 := d - 1) dX4_advance_102 kX4_89 (by omega) rfl rfl (Nat.le_of_ble_eq_true rfl) (p_X4_isDigit hn (by omega)  _ _) (fun r39003 w39004 _ => ?_)
      refine y_if_eq (tgt := 119) dX4_advance_105 (by decide) ?_ ?_
      · refine y_aload_n dX4_advance_119 rfl 0 rfl ?_
        refine y_aload_n dX4_advance_120 rfl 0 rfl ?_
        refine y_getr (q := 20) dX4_advance_121 flX4_9 (xlt rfl hn) rfl rfl rfl ?_
        refine y_aload_n dX4_advance_124 rfl 0 rfl ?_
        refine z_geti (v := (w39004 19 2)) dX4_advance_125 flX4_28 (xlt rfl hn) rfl rfl rfl ?_
        refine z_iald (v := (w39004 20 (w39004 19 2).toNatClampNeg)) dX4_advance_128 (xlt rfl hn) rfl rfl ?_
        refine y_callS (As := [.int (w39004 20 (w39004 19 2).toNatClampNeg)]) (d2 := d - 1) dX4_advance_129 kX4_95 (by omega) rfl rfl (Nat.le_of_ble_eq_true rfl) (p_X4_signOf hn (by omega)  _ _) (fun r39005 w39006 _ => ?_)
        refine y_puti dX4_advance_132 flX4_51 (xlt rfl hn) rfl rfl ?_
        refine y_aload_n dX4_advance_135 rfl 0 rfl ?_
        refine y_dup dX4_advance_136 rfl ?_
        refine z_geti (v := (w39006 19 2)) dX4_advance_137 flX4_28 (xlt rfl hn) rfl rfl rfl ?_
        refine y_iconst (v := 1) dX4_advance_140 (by decide) ?_
        refine y_iadd dX4_advance_141 ?_
        refine y_puti dX4_advance_142 flX4_28 (xlt rfl hn) rfl rfl ?_
        exact y_return dX4_advance_145 rfl rfl
      · refine y_aload_n dX4_advance_108 rfl 0 rfl ?_
        refine y_aload_n dX4_advance_109 rfl 0 rfl ?_
        refine y_callV (As := []) (d2 := d - 1) dX4_advance_110 kX4_92 (by omega) rfl rfl (Nat.le_of_ble_eq_true rfl) (xlt rfl hn) rfl rfl (p_X4_nextNumber hn (by omega)   _) (fun r39007 w39008 _ => ?_)
        refine y_puti dX4_advance_113 flX4_51 (xlt rfl hn) rfl rfl ?_
        refine y_goto (tgt := 145) dX4_advance_116 (by decide) ?_
        exact y_return dX4_advance_145 rfl rfl
    · refine y_aload_n dX4_advance_82 rfl 0 rfl ?_
      refine y_aload_n dX4_advance_83 rfl 0 rfl ?_
      refine y_callV (As := []) (d2 := d - 1) dX4_advance_84 kX4_85 (by omega) rfl rfl (Nat.le_of_ble_eq_true rfl) (xlt rfl hn) rfl rfl (p_X4_nextWord hn (by omega)   _) (fun r39009 w39010 _ => ?_)
      refine y_puti dX4_advance_87 flX4_51 (xlt rfl hn) rfl rfl ?_
      refine y_goto (tgt := 145) dX4_advance_90 (by decide) ?_
      exact y_return dX4_advance_145 rfl rfl
  · refine y_aload_n dX4_advance_58 rfl 0 rfl ?_
    refine y_bipush (v := (-22)) dX4_advance_59 (by decide) ?_
    refine y_puti dX4_advance_61 flX4_51 (xlt rfl hn) rfl rfl ?_
    refine y_goto (tgt := 145) dX4_advance_64 (by decide) ?_
    exact y_return dX4_advance_145 rfl rfl
set_option maxRecDepth 20000 in
set_option maxHeartbeats 2000000 in
theorem p_X4_advance_L0 {G : xG} {d : Nat} {n t : Nat} (hn : 71 ≤ n) (hd : 8 ≤ d) : ∀ (fu : Nat) (w : xI), xC G m_X4_advance d 0 [(0, .ref 19)] [] (xFin n t) w (fun _ : Unit => none) (xFin n t) (f_X4_advance_L0 fu  w) := by
  intro fu
  induction fu with
  | zero => intro w; exact xC.none
  | succ fu ih =>
    intro w
    rw [f_X4_advance_L0]
    refine y_aload_n dX4_advance_0 rfl 0 rfl ?_
    refine z_geti (v := (w 19 2)) dX4_advance_1 flX4_28 (xlt rfl hn) rfl rfl rfl ?_
    refine y_aload_n dX4_advance_4 rfl 0 rfl ?_
    refine z_geti (v := (w 19 1)) dX4_advance_5 flX4_15 (xlt rfl hn) rfl rfl rfl ?_
    refine y_icmp_ge (tgt := 39) dX4_advance_8 (by decide) ?_ ?_
    · refine p_X4_advance_L39 hn hd w 
    · refine y_aload_n dX4_advance_11 rfl 0 rfl ?_
      refine y_getr (q := 20) dX4_advance_12 flX4_9 (xlt rfl hn) rfl rfl rfl ?_
      refine y_aload_n dX4_advance_15 rfl 0 rfl ?_
      refine z_geti (v := (w 19 2)) dX4_advance_16 flX4_28 (xlt rfl hn) rfl rfl rfl ?_
      refine z_iald (v := (w 20 (w 19 2).toNatClampNeg)) dX4_advance_19 (xlt rfl hn) rfl rfl ?_
      refine y_callS (As := [.int (w 20 (w 19 2).toNatClampNeg)]) (d2 := d - 1) dX4_advance_20 kX4_78 (by omega) rfl rfl (Nat.le_of_ble_eq_true rfl) (p_X4_isBlank hn (by omega)  _ _) (fun r1 w2 _ => ?_)
      refine y_if_eq (tgt := 39) dX4_advance_23 (by decide) ?_ ?_
      · refine p_X4_advance_L39 hn hd w2 
      · refine y_aload_n dX4_advance_26 rfl 0 rfl ?_
        refine y_dup dX4_advance_27 rfl ?_
        refine z_geti (v := (w2 19 2)) dX4_advance_28 flX4_28 (xlt rfl hn) rfl rfl rfl ?_
        refine y_iconst (v := 1) dX4_advance_31 (by decide) ?_
        refine y_iadd dX4_advance_32 ?_
        refine y_puti dX4_advance_33 flX4_28 (xlt rfl hn) rfl rfl ?_
        refine y_goto (tgt := 0) dX4_advance_36 (by decide) ?_
        exact ih (xup w2 19 2 ((w2 19 2) + (1 : Int32))) 
set_option maxRecDepth 20000 in
set_option maxHeartbeats 2000000 in
theorem p_X4_advance {G : xG} {d : Nat} {n t : Nat} (hn : 71 ≤ n) (hd : 8 ≤ d) (w : xI) : xMet G m_X4_advance d [.ref 19] (xFin n t) w (fun _ : Unit => none) (xFin n t) (f_X4_advance  w) := by
  refine xMet.of rfl (Nat.le_of_ble_eq_true rfl) ?_
  unfold f_X4_advance
  show xC G m_X4_advance d 0 [(0, .ref 19)] [] (xFin n t) w _ _ _
  refine p_X4_advance_L0 hn hd 2000 w 
-- ===== X4_fail: WeighedGate$Reader.fail()V =====
set_option maxRecDepth 20000 in
set_option maxHeartbeats 2000000 in
theorem p_X4_fail {G : xG} {d : Nat} {n t : Nat} (hn : 71 ≤ n) (hd : 0 ≤ d) (w : xI) : xMet G m_X4_fail d [.ref 19] (xFin n t) w (fun _ : Unit => none) (xFin n t) (f_X4_fail  w) := by
  refine xMet.of rfl (Nat.le_of_ble_eq_true rfl) ?_
  unfold f_X4_fail
  show xC G m_X4_fail d 0 [(0, .ref 19)] [] (xFin n t) w _ _ _
  refine y_aload_n dX4_fail_0 rfl 0 rfl ?_
  refine z_geti (v := (w 19 6)) dX4_fail_1 flX4_34 (xlt rfl hn) rfl rfl rfl ?_
  refine y_iconst (v := (-1)) dX4_fail_4 (by decide) ?_
  refine y_icmp_ne (tgt := 16) dX4_fail_5 (by decide) ?_ ?_
  · refine y_aload_n dX4_fail_16 rfl 0 rfl ?_
    refine y_bipush (v := (-23)) dX4_fail_17 (by decide) ?_
    refine y_puti dX4_fail_19 flX4_51 (xlt rfl hn) rfl rfl ?_
    exact y_return dX4_fail_22 rfl rfl
  · refine y_aload_n dX4_fail_8 rfl 0 rfl ?_
    refine y_aload_n dX4_fail_9 rfl 0 rfl ?_
    refine z_geti (v := (w 19 3)) dX4_fail_10 flX4_57 (xlt rfl hn) rfl rfl rfl ?_
    refine y_puti dX4_fail_13 flX4_34 (xlt rfl hn) rfl rfl ?_
    refine y_aload_n dX4_fail_16 rfl 0 rfl ?_
    refine y_bipush (v := (-23)) dX4_fail_17 (by decide) ?_
    refine y_puti dX4_fail_19 flX4_51 (xlt rfl hn) rfl rfl ?_
    exact y_return dX4_fail_22 rfl rfl
-- ===== X4_expect: WeighedGate$Reader.expect(I)V =====
set_option maxRecDepth 20000 in
set_option maxHeartbeats 2000000 in
theorem p_X4_expect {G : xG} {d : Nat} {n t : Nat} (hn : 71 ≤ n) (hd : 9 ≤ d) (a1 : Int32) (w : xI) : xMet G m_X4_expect d [.ref 19, .int a1] (xFin n t) w (fun _ : Unit => none) (xFin n t) (f_X4_expect a1 w) := by
  refine xMet.of rfl (Nat.le_of_ble_eq_true rfl) ?_
  unfold f_X4_expect
  show xC G m_X4_expect d 0 [(0, .ref 19), (1, .int a1)] [] (xFin n t) w _ _ _
  refine y_aload_n dX4_expect_0 rfl 0 rfl ?_
  refine z_geti (v := (w 19 4)) dX4_expect_1 flX4_51 (xlt rfl hn) rfl rfl rfl ?_
  refine y_iload_n dX4_expect_4 rfl 1 rfl ?_
  refine y_icmp_ne (tgt := 15) dX4_expect_5 (by decide) ?_ ?_
  · refine y_aload_n dX4_expect_15 rfl 0 rfl ?_
    refine y_callV (As := []) (d2 := d - 1) dX4_expect_16 kX4_54 (by omega) rfl rfl (Nat.le_of_ble_eq_true rfl) (xlt rfl hn) rfl rfl (p_X4_fail hn (by omega)   _) (fun r1 w2 _ => ?_)
    exact y_return dX4_expect_19 rfl rfl
  · refine y_aload_n dX4_expect_8 rfl 0 rfl ?_
    refine y_callV (As := []) (d2 := d - 1) dX4_expect_9 kX4_37 (by omega) rfl rfl (Nat.le_of_ble_eq_true rfl) (xlt rfl hn) rfl rfl (p_X4_advance hn (by omega)   _) (fun r3 w4 _ => ?_)
    refine y_goto (tgt := 19) dX4_expect_12 (by decide) ?_
    exact y_return dX4_expect_19 rfl rfl
-- ===== X4_joins: WeighedGate$Reader.joins(II)Z =====
set_option maxRecDepth 20000 in
set_option maxHeartbeats 2000000 in
theorem p_X4_joins {G : xG} {d : Nat} {n t : Nat} (hn : 71 ≤ n) (hd : 0 ≤ d) (a1 : Int32) (a2 : Int32) (w : xI) : xMet G m_X4_joins d [.int a1, .int a2] (xFin n t) w (fun x : Int32 => some (Value.int x)) (xFin n t) (f_X4_joins a1 a2 w) := by
  refine xMet.of rfl (Nat.le_of_ble_eq_true rfl) ?_
  unfold f_X4_joins
  show xC G m_X4_joins d 0 [(0, .int a1), (1, .int a2)] [] (xFin n t) w _ _ _
  refine y_iload_n dX4_joins_0 rfl 0 rfl ?_
  refine xC.ite (fun hs1 => ?_) (fun hs1 => ?_)
  · refine y_table (tgt := 36) (v := 0) dX4_joins_1 hs1 (by decide) (by decide) rfl (by decide) ?_
    refine y_iload_n dX4_joins_36 rfl 1 rfl ?_
    refine y_bipush (v := (-7)) dX4_joins_37 (by decide) ?_
    refine y_icmp_ne (tgt := 46) dX4_joins_39 (by decide) ?_ ?_
    · refine y_iconst (v := 0) dX4_joins_46 (by decide) ?_
      exact y_ireturn dX4_joins_47 rfl rfl rfl
    · refine y_iconst (v := 1) dX4_joins_42 (by decide) ?_
      refine y_goto (tgt := 47) dX4_joins_43 (by decide) ?_
      exact y_ireturn dX4_joins_47 rfl rfl rfl
  · refine xC.ite (fun hs2 => ?_) (fun hs2 => ?_)
    · refine y_table (tgt := 48) (v := 1) dX4_joins_1 hs2 (by decide) (by decide) rfl (by decide) ?_
      refine y_iload_n dX4_joins_48 rfl 1 rfl ?_
      refine y_bipush (v := (-8)) dX4_joins_49 (by decide) ?_
      refine y_icmp_ne (tgt := 58) dX4_joins_51 (by decide) ?_ ?_
      · refine y_iconst (v := 0) dX4_joins_58 (by decide) ?_
        exact y_ireturn dX4_joins_59 rfl rfl rfl
      · refine y_iconst (v := 1) dX4_joins_54 (by decide) ?_
        refine y_goto (tgt := 59) dX4_joins_55 (by decide) ?_
        exact y_ireturn dX4_joins_59 rfl rfl rfl
    · refine xC.ite (fun hs3 => ?_) (fun hs3 => ?_)
      · refine y_table (tgt := 60) (v := 2) dX4_joins_1 hs3 (by decide) (by decide) rfl (by decide) ?_
        refine y_iload_n dX4_joins_60 rfl 1 rfl ?_
        refine y_bipush (v := (-10)) dX4_joins_61 (by decide) ?_
        refine y_icmp_eq (tgt := 72) dX4_joins_63 (by decide) ?_ ?_
        · refine y_iconst (v := 1) dX4_joins_72 (by decide) ?_
          refine y_goto (tgt := 77) dX4_joins_73 (by decide) ?_
          exact y_ireturn dX4_joins_77 rfl rfl rfl
        · refine y_iload_n dX4_joins_66 rfl 1 rfl ?_
          refine y_bipush (v := (-11)) dX4_joins_67 (by decide) ?_
          refine y_icmp_ne (tgt := 76) dX4_joins_69 (by decide) ?_ ?_
          · refine y_iconst (v := 0) dX4_joins_76 (by decide) ?_
            exact y_ireturn dX4_joins_77 rfl rfl rfl
          · refine y_iconst (v := 1) dX4_joins_72 (by decide) ?_
            refine y_goto (tgt := 77) dX4_joins_73 (by decide) ?_
            exact y_ireturn dX4_joins_77 rfl rfl rfl
      · refine xC.ite (fun hs4 => ?_) (fun hs4 => ?_)
        · refine y_table (tgt := 78) (v := 3) dX4_joins_1 hs4 (by decide) (by decide) rfl (by decide) ?_
          refine y_iload_n dX4_joins_78 rfl 1 rfl ?_
          refine y_bipush (v := (-12)) dX4_joins_79 (by decide) ?_
          refine y_icmp_eq (tgt := 90) dX4_joins_81 (by decide) ?_ ?_
          · refine y_iconst (v := 1) dX4_joins_90 (by decide) ?_
            refine y_goto (tgt := 95) dX4_joins_91 (by decide) ?_
            exact y_ireturn dX4_joins_95 rfl rfl rfl
          · refine y_iload_n dX4_joins_84 rfl 1 rfl ?_
            refine y_bipush (v := (-13)) dX4_joins_85 (by decide) ?_
            refine y_icmp_ne (tgt := 94) dX4_joins_87 (by decide) ?_ ?_
            · refine y_iconst (v := 0) dX4_joins_94 (by decide) ?_
              exact y_ireturn dX4_joins_95 rfl rfl rfl
            · refine y_iconst (v := 1) dX4_joins_90 (by decide) ?_
              refine y_goto (tgt := 95) dX4_joins_91 (by decide) ?_
              exact y_ireturn dX4_joins_95 rfl rfl rfl
        · refine xC.ite (fun hs5 => ?_) (fun hs5 => ?_)
          · refine y_table (tgt := 96) (v := 4) dX4_joins_1 hs5 (by decide) (by decide) rfl (by decide) ?_
            refine y_iload_n dX4_joins_96 rfl 1 rfl ?_
            refine y_bipush (v := (-14)) dX4_joins_97 (by decide) ?_
            refine y_icmp_ne (tgt := 106) dX4_joins_99 (by decide) ?_ ?_
            · refine y_iconst (v := 0) dX4_joins_106 (by decide) ?_
              exact y_ireturn dX4_joins_107 rfl rfl rfl
            · refine y_iconst (v := 1) dX4_joins_102 (by decide) ?_
              refine y_goto (tgt := 107) dX4_joins_103 (by decide) ?_
              exact y_ireturn dX4_joins_107 rfl rfl rfl
          · refine y_tableD (tgt := 108) dX4_joins_1 (by have z0 := lv_neT hs1 (show (0 : Int32).toInt = 0 from rfl); have z1 := lv_neT hs2 (show (1 : Int32).toInt = 1 from rfl); have z2 := lv_neT hs3 (show (2 : Int32).toInt = 2 from rfl); have z3 := lv_neT hs4 (show (3 : Int32).toInt = 3 from rfl); have z4 := lv_neT hs5 (show (4 : Int32).toInt = 4 from rfl); omega) (by decide) ?_
            refine y_iconst (v := 0) dX4_joins_108 (by decide) ?_
            exact y_ireturn dX4_joins_109 rfl rfl rfl
-- ===== X7_add: WeighedGate$Text.add(I)V =====
set_option maxRecDepth 20000 in
set_option maxHeartbeats 2000000 in
theorem p_X7_add {G : xG} {d : Nat} {n t : Nat} (hn : 71 ≤ n) (hd : 0 ≤ d) {o0 : Nat} (ho0 : okT o0) (a1 : Int32) (w : xI) : xMet G m_X7_add d [.ref o0, .int a1] (xFin n t) w (fun _ : Unit => none) (xFin n t) (f_X7_add o0 a1 w) := by
  refine xMet.of rfl (Nat.le_of_ble_eq_true rfl) ?_
  unfold f_X7_add
  show xC G m_X7_add d 0 [(0, .ref o0), (1, .int a1)] [] (xFin n t) w _ _ _
  refine y_aload_n dX7_add_0 rfl 0 rfl ?_
  refine z_geti (v := (w o0 3)) dX7_add_1 flX7_21 (okT_k ho0 hn) (okT_s ho0) rfl rfl ?_
  refine y_sipush (v := 160) dX7_add_4 (by decide) ?_
  refine y_icmp_ge (tgt := 30) dX7_add_7 (by decide) ?_ ?_
  · exact y_return dX7_add_30 rfl rfl
  · refine y_aload_n dX7_add_10 rfl 0 rfl ?_
    refine y_getr (q := (o0 + 1)) dX7_add_11 flX7_9 (okT_k ho0 hn) (okT_s ho0) rfl (okT_r1 ho0 _) ?_
    refine y_aload_n dX7_add_14 rfl 0 rfl ?_
    refine z_geti (v := (w o0 3)) dX7_add_15 flX7_21 (okT_k ho0 hn) (okT_s ho0) rfl rfl ?_
    refine y_iload_n dX7_add_18 rfl 1 rfl ?_
    refine y_iast dX7_add_19 (okT_k1 ho0 hn) (okT_s1 ho0) ?_
    refine y_aload_n dX7_add_20 rfl 0 rfl ?_
    refine y_dup dX7_add_21 rfl ?_
    refine z_geti (v := ((xup w (o0 + 1) (w o0 3).toNatClampNeg a1) o0 3)) dX7_add_22 flX7_21 (okT_k ho0 hn) (okT_s ho0) rfl rfl ?_
    refine y_iconst (v := 1) dX7_add_25 (by decide) ?_
    refine y_iadd dX7_add_26 ?_
    refine y_puti dX7_add_27 flX7_21 (okT_k ho0 hn) (okT_s ho0) rfl ?_
    exact y_return dX7_add_30 rfl rfl
-- ===== X4_opens: WeighedGate$Reader.opens()Z =====
set_option maxRecDepth 20000 in
set_option maxHeartbeats 2000000 in
theorem p_X4_opens {G : xG} {d : Nat} {n t : Nat} (hn : 71 ≤ n) (hd : 9 ≤ d) (w : xI) : xMet G m_X4_opens d [.ref 19] (xFin n t) w (fun x : Int32 => some (Value.int x)) (xFin n t) (f_X4_opens  w) := by
  refine xMet.of rfl (Nat.le_of_ble_eq_true rfl) ?_
  unfold f_X4_opens
  show xC G m_X4_opens d 0 [(0, .ref 19)] [] (xFin n t) w _ _ _
  refine y_aload_n dX4_opens_0 rfl 0 rfl ?_
  refine z_geti (v := (w 19 5)) dX4_opens_1 flX4_31 (xlt rfl hn) rfl rfl rfl ?_
  refine y_iconst (v := 5) dX4_opens_4 (by decide) ?_
  refine y_icmp_lt (tgt := 14) dX4_opens_5 (by decide) ?_ ?_
  · refine y_aload_n dX4_opens_14 rfl 0 rfl ?_
    refine y_dup dX4_opens_15 rfl ?_
    refine z_geti (v := (w 19 5)) dX4_opens_16 flX4_31 (xlt rfl hn) rfl rfl rfl ?_
    refine y_iconst (v := 1) dX4_opens_19 (by decide) ?_
    refine y_iadd dX4_opens_20 ?_
    refine y_puti dX4_opens_21 flX4_31 (xlt rfl hn) rfl rfl ?_
    refine y_aload_n dX4_opens_24 rfl 0 rfl ?_
    refine y_callV (As := []) (d2 := d - 1) dX4_opens_25 kX4_37 (by omega) rfl rfl (Nat.le_of_ble_eq_true rfl) (xlt rfl hn) rfl rfl (p_X4_advance hn (by omega)   _) (fun r1 w2 _ => ?_)
    refine y_iconst (v := 1) dX4_opens_28 (by decide) ?_
    exact y_ireturn dX4_opens_29 rfl rfl rfl
  · refine y_aload_n dX4_opens_8 rfl 0 rfl ?_
    refine y_callV (As := []) (d2 := d - 1) dX4_opens_9 kX4_54 (by omega) rfl rfl (Nat.le_of_ble_eq_true rfl) (xlt rfl hn) rfl rfl (p_X4_fail hn (by omega)   _) (fun r3 w4 _ => ?_)
    refine y_iconst (v := 0) dX4_opens_12 (by decide) ?_
    exact y_ireturn dX4_opens_13 rfl rfl rfl
-- ===== X4_readBehind: WeighedGate$Reader.readBehind(II)V =====
set_option maxRecDepth 20000 in
set_option maxHeartbeats 2000000 in
theorem p_X4_readBehind {G : xG} {d : Nat} {n t : Nat} (hn : 71 ≤ n) (hd : 14 ≤ d) {rec : Int32 → xI → Option (Unit × xI)} {d0 : Nat} (hd0 : d0 + 1 ≤ d) (hrec : ∀ (a1 : Int32) (w : xI), xMet G m_X4_readLevel d0 [.ref 19, .int a1] (xFin n t) w (fun _ : Unit => none) (xFin n t) (rec a1 w)) (a1 : Int32) (a2 : Int32) (w : xI) : xMet G m_X4_readBehind d [.ref 19, .int a1, .int a2] (xFin n t) w (fun _ : Unit => none) (xFin n t) (f_X4_readBehind rec a1 a2 w) := by
  refine xMet.of rfl (Nat.le_of_ble_eq_true rfl) ?_
  unfold f_X4_readBehind
  show xC G m_X4_readBehind d 0 [(0, .ref 19), (1, .int a1), (2, .int a2)] [] (xFin n t) w _ _ _
  refine y_aload_n dX4_readBehind_0 rfl 0 rfl ?_
  refine y_callV (As := []) (d2 := d - 1) dX4_readBehind_1 kX4_74 (by omega) rfl rfl (Nat.le_of_ble_eq_true rfl) (xlt rfl hn) rfl rfl (p_X4_opens hn (by omega)   _) (fun r1 w2 _ => ?_)
  refine y_if_eq (tgt := 30) dX4_readBehind_4 (by decide) ?_ ?_
  · exact y_return dX4_readBehind_30 rfl rfl
  · refine y_aload_n dX4_readBehind_7 rfl 0 rfl ?_
    refine y_iload_n dX4_readBehind_8 rfl 1 rfl ?_
    refine y_callV (As := [.int a1]) (d2 := d0) dX4_readBehind_9 kX4_44 (by omega) rfl rfl (Nat.le_of_ble_eq_true rfl) (xlt rfl hn) rfl rfl (hrec _ _) (fun r3 w4 _ => ?_)
    refine y_aload_n dX4_readBehind_12 rfl 0 rfl ?_
    refine y_dup dX4_readBehind_13 rfl ?_
    refine z_geti (v := (w4 19 5)) dX4_readBehind_14 flX4_31 (xlt rfl hn) rfl rfl rfl ?_
    refine y_iconst (v := 1) dX4_readBehind_17 (by decide) ?_
    refine y_isub dX4_readBehind_18 ?_
    refine y_puti dX4_readBehind_19 flX4_31 (xlt rfl hn) rfl rfl ?_
    refine y_aload_n dX4_readBehind_22 rfl 0 rfl ?_
    refine y_getinto (v := (w4 19 7)) dX4_readBehind_23 flX4_19 hn rfl (fun o6 hok8 => ?_)
    refine y_iload_n dX4_readBehind_26 rfl 2 rfl ?_
    refine y_callV (As := [.int a2]) (d2 := d - 1) dX4_readBehind_27 kX4_71 (by omega) rfl rfl (Nat.le_of_ble_eq_true rfl) (okT_k hok8 hn) (okT_s hok8) rfl (p_X7_add hn (by omega) hok8 _ _) (fun r9 w10 _ => ?_)
    exact y_return dX4_readBehind_30 rfl rfl
-- ===== X4_readOne: WeighedGate$Reader.readOne()V =====
set_option maxRecDepth 20000 in
set_option maxHeartbeats 2000000 in
theorem p_X4_readOne {G : xG} {d : Nat} {n t : Nat} (hn : 71 ≤ n) (hd : 15 ≤ d) {rec : Int32 → xI → Option (Unit × xI)} {d0 : Nat} (hd0 : d0 + 2 ≤ d) (hrec : ∀ (a1 : Int32) (w : xI), xMet G m_X4_readLevel d0 [.ref 19, .int a1] (xFin n t) w (fun _ : Unit => none) (xFin n t) (rec a1 w)) (w : xI) : xMet G m_X4_readOne d [.ref 19] (xFin n t) w (fun _ : Unit => none) (xFin n t) (f_X4_readOne rec  w) := by
  refine xMet.of rfl (Nat.le_of_ble_eq_true rfl) ?_
  unfold f_X4_readOne
  show xC G m_X4_readOne d 0 [(0, .ref 19)] [] (xFin n t) w _ _ _
  refine y_aload_n dX4_readOne_0 rfl 0 rfl ?_
  refine z_geti (v := (w 19 4)) dX4_readOne_1 flX4_51 (xlt rfl hn) rfl rfl rfl ?_
  refine y_bipush (v := (-6)) dX4_readOne_4 (by decide) ?_
  refine y_icmp_lt (tgt := 27) dX4_readOne_6 (by decide) ?_ ?_
  · refine y_aload_n dX4_readOne_27 rfl 0 rfl ?_
    refine z_geti (v := (w 19 4)) dX4_readOne_28 flX4_51 (xlt rfl hn) rfl rfl rfl ?_
    refine y_bipush (v := (-16)) dX4_readOne_31 (by decide) ?_
    refine y_icmp_ne (tgt := 67) dX4_readOne_33 (by decide) ?_ ?_
    · refine y_aload_n dX4_readOne_67 rfl 0 rfl ?_
      refine y_callV (As := []) (d2 := d - 1) dX4_readOne_68 kX4_54 (by omega) rfl rfl (Nat.le_of_ble_eq_true rfl) (xlt rfl hn) rfl rfl (p_X4_fail hn (by omega)   _) (fun r1 w2 _ => ?_)
      exact y_return dX4_readOne_71 rfl rfl
    · refine y_aload_n dX4_readOne_36 rfl 0 rfl ?_
      refine y_callV (As := []) (d2 := d - 1) dX4_readOne_37 kX4_74 (by omega) rfl rfl (Nat.le_of_ble_eq_true rfl) (xlt rfl hn) rfl rfl (p_X4_opens hn (by omega)   _) (fun r3 w4 _ => ?_)
      refine y_if_eq (tgt := 71) dX4_readOne_40 (by decide) ?_ ?_
      · exact y_return dX4_readOne_71 rfl rfl
      · refine y_aload_n dX4_readOne_43 rfl 0 rfl ?_
        refine y_iconst (v := 0) dX4_readOne_44 (by decide) ?_
        refine y_callV (As := [.int (0 : Int32)]) (d2 := d0) dX4_readOne_45 kX4_44 (by omega) rfl rfl (Nat.le_of_ble_eq_true rfl) (xlt rfl hn) rfl rfl (hrec _ _) (fun r5 w6 _ => ?_)
        refine y_aload_n dX4_readOne_48 rfl 0 rfl ?_
        refine y_dup dX4_readOne_49 rfl ?_
        refine z_geti (v := (w6 19 5)) dX4_readOne_50 flX4_31 (xlt rfl hn) rfl rfl rfl ?_
        refine y_iconst (v := 1) dX4_readOne_53 (by decide) ?_
        refine y_isub dX4_readOne_54 ?_
        refine y_puti dX4_readOne_55 flX4_31 (xlt rfl hn) rfl rfl ?_
        refine y_aload_n dX4_readOne_58 rfl 0 rfl ?_
        refine y_bipush (v := (-17)) dX4_readOne_59 (by decide) ?_
        refine y_callV (As := [.int (-17 : Int32)]) (d2 := d - 1) dX4_readOne_61 kX4_40 (by omega) rfl rfl (Nat.le_of_ble_eq_true rfl) (xlt rfl hn) rfl rfl (p_X4_expect hn (by omega)  _ _) (fun r7 w8 _ => ?_)
        refine y_goto (tgt := 71) dX4_readOne_64 (by decide) ?_
        exact y_return dX4_readOne_71 rfl rfl
  · refine y_aload_n dX4_readOne_9 rfl 0 rfl ?_
    refine y_getinto (v := (w 19 7)) dX4_readOne_10 flX4_19 hn rfl (fun o10 hok12 => ?_)
    refine y_aload_n dX4_readOne_13 rfl 0 rfl ?_
    refine z_geti (v := (w 19 4)) dX4_readOne_14 flX4_51 (xlt rfl hn) rfl rfl rfl ?_
    refine y_callV (As := [.int (w 19 4)]) (d2 := d - 1) dX4_readOne_17 kX4_71 (by omega) rfl rfl (Nat.le_of_ble_eq_true rfl) (okT_k hok12 hn) (okT_s hok12) rfl (p_X7_add hn (by omega) hok12 _ _) (fun r13 w14 _ => ?_)
    refine y_aload_n dX4_readOne_20 rfl 0 rfl ?_
    refine y_callV (As := []) (d2 := d - 1) dX4_readOne_21 kX4_37 (by omega) rfl rfl (Nat.le_of_ble_eq_true rfl) (xlt rfl hn) rfl rfl (p_X4_advance hn (by omega)   _) (fun r15 w16 _ => ?_)
    refine y_goto (tgt := 71) dX4_readOne_24 (by decide) ?_
    exact y_return dX4_readOne_71 rfl rfl
-- ===== X4_readLevel: WeighedGate$Reader.readLevel(I)V =====
set_option maxRecDepth 20000 in
set_option maxHeartbeats 2000000 in
theorem p_X4_readLevel_L76 {G : xG} {d : Nat} {n t : Nat} (hn : 71 ≤ n) (hd : 16 ≤ d) {rec : Int32 → xI → Option (Unit × xI)} {d0 : Nat} (hd0 : d0 + 3 ≤ d) (hrec : ∀ (a1 : Int32) (w : xI), xMet G m_X4_readLevel d0 [.ref 19, .int a1] (xFin n t) w (fun _ : Unit => none) (xFin n t) (rec a1 w)) : ∀ (fu : Nat) (v1 : Int32) (v2 : Int32) (v3 : Int32) (w : xI), xC G m_X4_readLevel d 76 [(0, .ref 19), (1, .int v1), (2, .int v2), (3, .int v3)] [] (xFin n t) w (fun _ : Unit => none) (xFin n t) (f_X4_readLevel_L76 rec fu v1 v2 v3 w) := by
  intro fu
  induction fu with
  | zero => intro v1 v2 v3 w; exact xC.none
  | succ fu ih =>
    intro v1 v2 v3 w
    rw [f_X4_readLevel_L76]
    refine y_iload_n dX4_readLevel_76 rfl 3 rfl ?_
    refine y_iload_n dX4_readLevel_77 rfl 2 rfl ?_
    refine y_icmp_ge (tgt := 124) dX4_readLevel_78 (by decide) ?_ ?_
    · exact y_return dX4_readLevel_124 rfl rfl
    · refine y_iload_n dX4_readLevel_81 rfl 1 rfl ?_
      refine y_aload_n dX4_readLevel_82 rfl 0 rfl ?_
      refine z_geti (v := (w 19 4)) dX4_readLevel_83 flX4_51 (xlt rfl hn) rfl rfl rfl ?_
      refine y_callS (As := [.int v1, .int (w 19 4)]) (d2 := d - 1) dX4_readLevel_86 kX4_67 (by omega) rfl rfl (Nat.le_of_ble_eq_true rfl) (p_X4_joins hn (by omega)  _ _ _) (fun r76001 w76002 _ => ?_)
      refine y_if_eq (tgt := 124) dX4_readLevel_89 (by decide) ?_ ?_
      · exact y_return dX4_readLevel_124 rfl rfl
      · refine y_aload_n dX4_readLevel_92 rfl 0 rfl ?_
        refine z_geti (v := (w76002 19 4)) dX4_readLevel_93 flX4_51 (xlt rfl hn) rfl rfl rfl ?_
        refine y_let (fun x76003 => ?_)
        refine y_istore (lv' := [(4, .int x76003), (0, .ref 19), (1, .int v1), (2, .int v2), (3, .int v3)]) dX4_readLevel_96 (by decide) rfl ?_
        refine y_aload_n dX4_readLevel_98 rfl 1 rfl ?_
        refine y_callV (As := []) (d2 := d - 1) dX4_readLevel_99 kX4_37 (by omega) rfl rfl (Nat.le_of_ble_eq_true rfl) (xlt rfl hn) rfl rfl (p_X4_advance hn (by omega)   _) (fun r76004 w76005 _ => ?_)
        refine y_aload_n dX4_readLevel_102 rfl 1 rfl ?_
        refine y_iload_n dX4_readLevel_103 rfl 2 rfl ?_
        refine y_iconst (v := 1) dX4_readLevel_104 (by decide) ?_
        refine y_iadd dX4_readLevel_105 ?_
        refine y_callV (As := [.int (v1 + (1 : Int32))]) (d2 := d0) dX4_readLevel_106 kX4_44 (by omega) rfl rfl (Nat.le_of_ble_eq_true rfl) (xlt rfl hn) rfl rfl (hrec _ _) (fun r76006 w76007 _ => ?_)
        refine y_aload_n dX4_readLevel_109 rfl 1 rfl ?_
        refine y_getinto (v := (w76007 19 7)) dX4_readLevel_110 flX4_19 hn rfl (fun o76009 hok76011 => ?_)
        refine y_iload dX4_readLevel_113 0 rfl ?_
        refine y_callV (As := [.int x76003]) (d2 := d - 1) dX4_readLevel_115 kX4_71 (by omega) rfl rfl (Nat.le_of_ble_eq_true rfl) (okT_k hok76011 hn) (okT_s hok76011) rfl (p_X7_add hn (by omega) hok76011 _ _) (fun r76012 w76013 _ => ?_)
        refine z_iinc (j := 4) dX4_readLevel_118 (by decide) rfl (by decide) (fun x76014 => ?_)
        refine y_loc (lv' := [(3, .int x76014), (4, .int x76003), (0, .ref 19), (1, .int v1), (2, .int v2)]) rfl ?_
        refine y_goto (tgt := 76) dX4_readLevel_121 (by decide) ?_
        refine y_sub [(0, .ref 19), (1, .int v1), (2, .int v2), (3, .int x76014)] [2, 3, 4, 0] rfl ?_
        exact ih v1 v2 x76014 w76013 
set_option maxRecDepth 20000 in
set_option maxHeartbeats 2000000 in
theorem p_X4_readLevel_L44 {G : xG} {d : Nat} {n t : Nat} (hn : 71 ≤ n) (hd : 16 ≤ d) {rec : Int32 → xI → Option (Unit × xI)} {d0 : Nat} (hd0 : d0 + 3 ≤ d) (hrec : ∀ (a1 : Int32) (w : xI), xMet G m_X4_readLevel d0 [.ref 19, .int a1] (xFin n t) w (fun _ : Unit => none) (xFin n t) (rec a1 w)) (v1 : Int32) (w : xI) : xC G m_X4_readLevel d 44 [(0, .ref 19), (1, .int v1)] [] (xFin n t) w (fun _ : Unit => none) (xFin n t) (f_X4_readLevel_L44 rec v1 w) := by
  unfold f_X4_readLevel_L44
  refine y_iload_n dX4_readLevel_44 rfl 1 rfl ?_
  refine y_iconst (v := 5) dX4_readLevel_45 (by decide) ?_
  refine y_icmp_ne (tgt := 54) dX4_readLevel_46 (by decide) ?_ ?_
  · refine y_aload_n dX4_readLevel_54 rfl 0 rfl ?_
    refine y_iload_n dX4_readLevel_55 rfl 1 rfl ?_
    refine y_iconst (v := 1) dX4_readLevel_56 (by decide) ?_
    refine y_iadd dX4_readLevel_57 ?_
    refine y_callV (As := [.int (v1 + (1 : Int32))]) (d2 := d0) dX4_readLevel_58 kX4_44 (by omega) rfl rfl (Nat.le_of_ble_eq_true rfl) (xlt rfl hn) rfl rfl (hrec _ _) (fun r44001 w44002 _ => ?_)
    refine y_iload_n dX4_readLevel_61 rfl 1 rfl ?_
    refine y_iconst (v := 2) dX4_readLevel_62 (by decide) ?_
    refine y_icmp_ne (tgt := 70) dX4_readLevel_63 (by decide) ?_ ?_
    · refine y_sipush (v := 160) dX4_readLevel_70 (by decide) ?_
      refine y_istore_n (lv' := [(2, .int (160 : Int32)), (0, .ref 19), (1, .int v1)]) dX4_readLevel_73 rfl (by decide) rfl ?_
      refine y_iconst (v := 0) dX4_readLevel_74 (by decide) ?_
      refine y_istore_n (lv' := [(3, .int (0 : Int32)), (2, .int (160 : Int32)), (0, .ref 19), (1, .int v1)]) dX4_readLevel_75 rfl (by decide) rfl ?_
      refine y_sub [(0, .ref 19), (1, .int v1), (2, .int (160 : Int32)), (3, .int (0 : Int32))] [2, 3, 1, 0] rfl ?_
      refine p_X4_readLevel_L76 hn hd hd0 hrec 2000 v1 (160 : Int32) (0 : Int32) w44002 
    · refine y_iconst (v := 1) dX4_readLevel_66 (by decide) ?_
      refine y_goto (tgt := 73) dX4_readLevel_67 (by decide) ?_
      refine y_istore_n (lv' := [(2, .int (1 : Int32)), (0, .ref 19), (1, .int v1)]) dX4_readLevel_73 rfl (by decide) rfl ?_
      refine y_iconst (v := 0) dX4_readLevel_74 (by decide) ?_
      refine y_istore_n (lv' := [(3, .int (0 : Int32)), (2, .int (1 : Int32)), (0, .ref 19), (1, .int v1)]) dX4_readLevel_75 rfl (by decide) rfl ?_
      refine y_sub [(0, .ref 19), (1, .int v1), (2, .int (1 : Int32)), (3, .int (0 : Int32))] [2, 3, 1, 0] rfl ?_
      refine p_X4_readLevel_L76 hn hd hd0 hrec 2000 v1 (1 : Int32) (0 : Int32) w44002 
  · refine y_aload_n dX4_readLevel_49 rfl 0 rfl ?_
    refine y_callV (As := []) (d2 := d - 1) dX4_readLevel_50 kX4_64 (by omega) rfl rfl (Nat.le_of_ble_eq_true rfl) (xlt rfl hn) rfl rfl (p_X4_readOne hn (by omega) (by omega) hrec   _) (fun r44003 w44004 _ => ?_)
    exact y_return dX4_readLevel_53 rfl rfl
set_option maxRecDepth 20000 in
set_option maxHeartbeats 2000000 in
theorem p_X4_readLevel_o {G : xG} {d : Nat} {n t : Nat} (hn : 71 ≤ n) (hd : 16 ≤ d) {rec : Int32 → xI → Option (Unit × xI)} {d0 : Nat} (hd0 : d0 + 3 ≤ d) (hrec : ∀ (a1 : Int32) (w : xI), xMet G m_X4_readLevel d0 [.ref 19, .int a1] (xFin n t) w (fun _ : Unit => none) (xFin n t) (rec a1 w)) (a1 : Int32) (w : xI) : xMet G m_X4_readLevel d [.ref 19, .int a1] (xFin n t) w (fun _ : Unit => none) (xFin n t) (f_X4_readLevel_o rec a1 w) := by
  refine xMet.of rfl (Nat.le_of_ble_eq_true rfl) ?_
  unfold f_X4_readLevel_o
  show xC G m_X4_readLevel d 0 [(0, .ref 19), (1, .int a1)] [] (xFin n t) w _ _ _
  refine y_iload_n dX4_readLevel_0 rfl 1 rfl ?_
  refine y_iconst (v := 2) dX4_readLevel_1 (by decide) ?_
  refine y_icmp_ne (tgt := 22) dX4_readLevel_2 (by decide) ?_ ?_
  · refine y_iload_n dX4_readLevel_22 rfl 1 rfl ?_
    refine y_iconst (v := 5) dX4_readLevel_23 (by decide) ?_
    refine y_icmp_ne (tgt := 44) dX4_readLevel_24 (by decide) ?_ ?_
    · refine p_X4_readLevel_L44 hn hd hd0 hrec a1 w 
    · refine y_aload_n dX4_readLevel_27 rfl 0 rfl ?_
      refine z_geti (v := (w 19 4)) dX4_readLevel_28 flX4_51 (xlt rfl hn) rfl rfl rfl ?_
      refine y_bipush (v := (-13)) dX4_readLevel_31 (by decide) ?_
      refine y_icmp_ne (tgt := 44) dX4_readLevel_33 (by decide) ?_ ?_
      · refine p_X4_readLevel_L44 hn hd hd0 hrec a1 w 
      · refine y_aload_n dX4_readLevel_36 rfl 0 rfl ?_
        refine y_iload_n dX4_readLevel_37 rfl 1 rfl ?_
        refine y_bipush (v := (-15)) dX4_readLevel_38 (by decide) ?_
        refine y_callV (As := [.int a1, .int (-15 : Int32)]) (d2 := d - 1) dX4_readLevel_40 kX4_60 (by omega) rfl rfl (Nat.le_of_ble_eq_true rfl) (xlt rfl hn) rfl rfl (p_X4_readBehind hn (by omega) (by omega) hrec  _ _ _) (fun r1 w2 _ => ?_)
        exact y_return dX4_readLevel_43 rfl rfl
  · refine y_aload_n dX4_readLevel_5 rfl 0 rfl ?_
    refine z_geti (v := (w 19 4)) dX4_readLevel_6 flX4_51 (xlt rfl hn) rfl rfl rfl ?_
    refine y_bipush (v := (-9)) dX4_readLevel_9 (by decide) ?_
    refine y_icmp_ne (tgt := 22) dX4_readLevel_11 (by decide) ?_ ?_
    · refine y_iload_n dX4_readLevel_22 rfl 1 rfl ?_
      refine y_iconst (v := 5) dX4_readLevel_23 (by decide) ?_
      refine y_icmp_ne (tgt := 44) dX4_readLevel_24 (by decide) ?_ ?_
      · refine p_X4_readLevel_L44 hn hd hd0 hrec a1 w 
      · refine y_aload_n dX4_readLevel_27 rfl 0 rfl ?_
        refine z_geti (v := (w 19 4)) dX4_readLevel_28 flX4_51 (xlt rfl hn) rfl rfl rfl ?_
        refine y_bipush (v := (-13)) dX4_readLevel_31 (by decide) ?_
        refine y_icmp_ne (tgt := 44) dX4_readLevel_33 (by decide) ?_ ?_
        · refine p_X4_readLevel_L44 hn hd hd0 hrec a1 w 
        · refine y_aload_n dX4_readLevel_36 rfl 0 rfl ?_
          refine y_iload_n dX4_readLevel_37 rfl 1 rfl ?_
          refine y_bipush (v := (-15)) dX4_readLevel_38 (by decide) ?_
          refine y_callV (As := [.int a1, .int (-15 : Int32)]) (d2 := d - 1) dX4_readLevel_40 kX4_60 (by omega) rfl rfl (Nat.le_of_ble_eq_true rfl) (xlt rfl hn) rfl rfl (p_X4_readBehind hn (by omega) (by omega) hrec  _ _ _) (fun r3 w4 _ => ?_)
          exact y_return dX4_readLevel_43 rfl rfl
    · refine y_aload_n dX4_readLevel_14 rfl 0 rfl ?_
      refine y_iload_n dX4_readLevel_15 rfl 1 rfl ?_
      refine y_bipush (v := (-9)) dX4_readLevel_16 (by decide) ?_
      refine y_callV (As := [.int a1, .int (-9 : Int32)]) (d2 := d - 1) dX4_readLevel_18 kX4_60 (by omega) rfl rfl (Nat.le_of_ble_eq_true rfl) (xlt rfl hn) rfl rfl (p_X4_readBehind hn (by omega) (by omega) hrec  _ _ _) (fun r5 w6 _ => ?_)
      exact y_return dX4_readLevel_21 rfl rfl
theorem p_X4_readLevel {G : xG} (fu : Nat) {n t : Nat} (hn : 71 ≤ n) : ∀ {d : Nat} (hd : 3 * fu + 16 ≤ d) (a1 : Int32) (w : xI), xMet G m_X4_readLevel d [.ref 19, .int a1] (xFin n t) w (fun _ : Unit => none) (xFin n t) (f_X4_readLevel fu a1 w) := by
  induction fu with
  | zero => intro d hd a1 w a w2 h; cases h
  | succ fu ih =>
    intro d hd a1 w
    exact p_X4_readLevel_o hn (by omega) (d0 := d - 3) (by omega) (fun a1 w => ih (by omega) a1 w) a1 w
-- ===== X4_readInto: WeighedGate$Reader.readInto(LWeighedGate$Text;)I =====
set_option maxRecDepth 20000 in
set_option maxHeartbeats 2000000 in
theorem p_X4_readInto_L33 {G : xG} {d : Nat} {n t : Nat} (hn : 71 ≤ n) (hd : 287 ≤ d) {o1 : Nat} (ho1 : okT o1) : ∀ (fu : Nat) (v2 : Int32) (w : xI), xC G m_X4_readInto d 33 [(0, .ref 19), (2, .int v2)] [] (xFin n t) w (fun x : Int32 => some (Value.int x)) (xFin n t) (f_X4_readInto_L33 o1 fu v2 w) := by
  intro fu
  induction fu with
  | zero => intro v2 w; exact xC.none
  | succ fu ih =>
    intro v2 w
    rw [f_X4_readInto_L33]
    refine y_iload_n dX4_readInto_33 rfl 1 rfl ?_
    refine y_iconst (v := 2) dX4_readInto_34 (by decide) ?_
    refine y_icmp_gt (tgt := 79) dX4_readInto_35 (by decide) ?_ ?_
    · refine y_aload_n dX4_readInto_79 rfl 0 rfl ?_
      refine z_geti (v := (w 19 4)) dX4_readInto_80 flX4_51 (xlt rfl hn) rfl rfl rfl ?_
      refine y_bipush (v := (-22)) dX4_readInto_83 (by decide) ?_
      refine y_icmp_eq (tgt := 92) dX4_readInto_85 (by decide) ?_ ?_
      · refine y_aload_n dX4_readInto_92 rfl 0 rfl ?_
        refine y_iconst (v := 0) dX4_readInto_93 (by decide) ?_
        refine y_puti dX4_readInto_94 flX4_15 (xlt rfl hn) rfl rfl ?_
        refine y_aload_n dX4_readInto_97 rfl 0 rfl ?_
        refine z_geti (v := (w 19 6)) dX4_readInto_98 flX4_34 (xlt rfl hn) rfl rfl rfl ?_
        exact y_ireturn dX4_readInto_101 rfl rfl rfl
      · refine y_aload_n dX4_readInto_88 rfl 0 rfl ?_
        refine y_callV (As := []) (d2 := d - 1) dX4_readInto_89 kX4_54 (by omega) rfl rfl (Nat.le_of_ble_eq_true rfl) (xlt rfl hn) rfl rfl (p_X4_fail hn (by omega)   _) (fun r33001 w33002 _ => ?_)
        refine y_aload_n dX4_readInto_92 rfl 0 rfl ?_
        refine y_iconst (v := 0) dX4_readInto_93 (by decide) ?_
        refine y_puti dX4_readInto_94 flX4_15 (xlt rfl hn) rfl rfl ?_
        refine y_aload_n dX4_readInto_97 rfl 0 rfl ?_
        refine z_geti (v := (w33002 19 6)) dX4_readInto_98 flX4_34 (xlt rfl hn) rfl rfl rfl ?_
        exact y_ireturn dX4_readInto_101 rfl rfl rfl
    · refine y_aload_n dX4_readInto_38 rfl 0 rfl ?_
      refine y_bipush (v := (-19)) dX4_readInto_39 (by decide) ?_
      refine y_iload_n dX4_readInto_41 rfl 1 rfl ?_
      refine y_isub dX4_readInto_42 ?_
      refine y_callV (As := [.int ((-19 : Int32) - v2)]) (d2 := d - 1) dX4_readInto_43 kX4_40 (by omega) rfl rfl (Nat.le_of_ble_eq_true rfl) (xlt rfl hn) rfl rfl (p_X4_expect hn (by omega)  _ _) (fun r33003 w33004 _ => ?_)
      refine y_aload_n dX4_readInto_46 rfl 0 rfl ?_
      refine y_iconst (v := 0) dX4_readInto_47 (by decide) ?_
      refine y_callV (As := [.int (0 : Int32)]) (d2 := d - 1) dX4_readInto_48 kX4_44 (by omega) rfl rfl (Nat.le_of_ble_eq_true rfl) (xlt rfl hn) rfl rfl (p_X4_readLevel 90 hn (by omega)  _ _) (fun r33005 w33006 _ => ?_)
      refine y_aload_n dX4_readInto_51 rfl 0 rfl ?_
      refine y_bipush (v := (-18)) dX4_readInto_52 (by decide) ?_
      refine y_callV (As := [.int (-18 : Int32)]) (d2 := d - 1) dX4_readInto_54 kX4_40 (by omega) rfl rfl (Nat.le_of_ble_eq_true rfl) (xlt rfl hn) rfl rfl (p_X4_expect hn (by omega)  _ _) (fun r33007 w33008 _ => ?_)
      refine y_aload_n dX4_readInto_57 rfl 0 rfl ?_
      refine y_getinto (v := (w33008 19 7)) dX4_readInto_58 flX4_19 hn rfl (fun o33010 hok33012 => ?_)
      refine y_getr (q := (o33010 + 2)) dX4_readInto_61 flX4_47 (okT_k hok33012 hn) (okT_s hok33012) rfl (okT_r2 hok33012 _) ?_
      refine y_iload_n dX4_readInto_64 rfl 1 rfl ?_
      refine y_aload_n dX4_readInto_65 rfl 0 rfl ?_
      refine y_getinto (v := (w33008 19 7)) dX4_readInto_66 flX4_19 hn rfl (fun o33014 hok33016 => ?_)
      refine z_geti (v := (w33008 o33014 3)) dX4_readInto_69 flX4_50 (okT_k hok33016 hn) (okT_s hok33016) rfl rfl ?_
      refine y_iast dX4_readInto_72 (okT_k2 hok33012 hn) (okT_s2 hok33012) ?_
      refine z_iinc (j := 1) dX4_readInto_73 (by decide) rfl (by decide) (fun x33017 => ?_)
      refine y_loc (lv' := [(2, .int x33017), (0, .ref 19)]) rfl ?_
      refine y_goto (tgt := 33) dX4_readInto_76 (by decide) ?_
      refine y_sub [(0, .ref 19), (2, .int x33017)] [1, 0] rfl ?_
      exact ih x33017 (xup w33008 (o33010 + 2) v2.toNatClampNeg (w33008 o33014 3)) 
set_option maxRecDepth 20000 in
set_option maxHeartbeats 2000000 in
theorem p_X4_readInto {G : xG} {d : Nat} {n t : Nat} (hn : 71 ≤ n) (hd : 287 ≤ d) {o1 : Nat} (ho1 : okT o1) (w : xI) : xMet G m_X4_readInto d [.ref 19, .ref o1] (xFin n t) w (fun x : Int32 => some (Value.int x)) (xFin n t) (f_X4_readInto o1 w) := by
  refine xMet.of rfl (Nat.le_of_ble_eq_true rfl) ?_
  unfold f_X4_readInto
  show xC G m_X4_readInto d 0 [(0, .ref 19), (1, .ref o1)] [] (xFin n t) w _ _ _
  refine y_aload_n dX4_readInto_0 rfl 0 rfl ?_
  refine y_aload_n dX4_readInto_1 rfl 1 rfl ?_
  refine y_putr (x := Int32.ofNat o1) dX4_readInto_2 flX4_19 (xlt rfl hn) rfl rfl (okT_into ho1) ?_
  refine y_aload_n dX4_readInto_5 rfl 0 rfl ?_
  refine y_getinto (v := (Int32.ofNat o1)) dX4_readInto_6 flX4_19 hn rfl (fun o2 hok4 => ?_)
  refine y_callV (As := []) (d2 := d - 1) dX4_readInto_9 kX4_23 (by omega) rfl rfl (Nat.le_of_ble_eq_true rfl) (okT_k hok4 hn) (okT_s hok4) rfl (p_X7_clear hn (by omega) hok4  _) (fun r5 w6 _ => ?_)
  refine y_aload_n dX4_readInto_12 rfl 0 rfl ?_
  refine y_iconst (v := 0) dX4_readInto_13 (by decide) ?_
  refine y_puti dX4_readInto_14 flX4_28 (xlt rfl hn) rfl rfl ?_
  refine y_aload_n dX4_readInto_17 rfl 0 rfl ?_
  refine y_iconst (v := 0) dX4_readInto_18 (by decide) ?_
  refine y_puti dX4_readInto_19 flX4_31 (xlt rfl hn) rfl rfl ?_
  refine y_aload_n dX4_readInto_22 rfl 0 rfl ?_
  refine y_iconst (v := (-1)) dX4_readInto_23 (by decide) ?_
  refine y_puti dX4_readInto_24 flX4_34 (xlt rfl hn) rfl rfl ?_
  refine y_aload_n dX4_readInto_27 rfl 0 rfl ?_
  refine y_callV (As := []) (d2 := d - 1) dX4_readInto_28 kX4_37 (by omega) rfl rfl (Nat.le_of_ble_eq_true rfl) (xlt rfl hn) rfl rfl (p_X4_advance hn (by omega)   _) (fun r7 w8 _ => ?_)
  refine y_iconst (v := 0) dX4_readInto_31 (by decide) ?_
  refine y_istore_n (lv' := [(2, .int (0 : Int32)), (0, .ref 19), (1, .ref o1)]) dX4_readInto_32 rfl (by decide) rfl ?_
  refine y_sub [(0, .ref 19), (2, .int (0 : Int32))] [1, 0] rfl ?_
  refine p_X4_readInto_L33 hn hd ho1 2000 (0 : Int32) w8 
-- ===== X5_makes: WeighedGate$Scale.makes(I)Z =====
set_option maxRecDepth 20000 in
set_option maxHeartbeats 2000000 in
theorem p_X5_makes {G : xG} {d : Nat} {n t : Nat} (hn : 71 ≤ n) (hd : 1 ≤ d) (a1 : Int32) (w : xI) : xMet G m_X5_makes d [.ref 1, .int a1] (xFin n t) w (fun x : Int32 => some (Value.int x)) (xFin n t) (f_X5_makes a1 w) := by
  refine xMet.of rfl (Nat.le_of_ble_eq_true rfl) ?_
  unfold f_X5_makes
  show xC G m_X5_makes d 0 [(0, .ref 1), (1, .int a1)] [] (xFin n t) w _ _ _
  refine y_aload_n dX5_makes_0 rfl 0 rfl ?_
  refine y_iload_n dX5_makes_1 rfl 1 rfl ?_
  refine y_callV (As := [.int a1]) (d2 := d - 1) dX5_makes_2 kX5_38 (by omega) rfl rfl (Nat.le_of_ble_eq_true rfl) (xlt rfl hn) rfl rfl (p_X5_fewestFor hn (by omega)  _ _) (fun r1 w2 _ => ?_)
  refine y_iconst (v := (-1)) dX5_makes_5 (by decide) ?_
  refine y_icmp_eq (tgt := 13) dX5_makes_6 (by decide) ?_ ?_
  · refine y_iconst (v := 0) dX5_makes_13 (by decide) ?_
    exact y_ireturn dX5_makes_14 rfl rfl rfl
  · refine y_iconst (v := 1) dX5_makes_9 (by decide) ?_
    refine y_goto (tgt := 14) dX5_makes_10 (by decide) ?_
    exact y_ireturn dX5_makes_14 rfl rfl rfl
-- ===== X5_madeWith: WeighedGate$Scale.madeWith(II)I =====
set_option maxRecDepth 20000 in
set_option maxHeartbeats 2000000 in
theorem p_X5_madeWith_L5 {G : xG} {d : Nat} {n t : Nat} (hn : 71 ≤ n) (hd : 2 ≤ d) : ∀ (fu : Nat) (v1 : Int32) (v2 : Int32) (v3 : Int32) (v4 : Int32) (w : xI), xC G m_X5_madeWith d 5 [(0, .ref 1), (1, .int v1), (2, .int v2), (3, .int v3), (4, .int v4)] [] (xFin n t) w (fun x : Int32 => some (Value.int x)) (xFin n t) (f_X5_madeWith_L5 fu v1 v2 v3 v4 w) := by
  intro fu
  induction fu with
  | zero => intro v1 v2 v3 v4 w; exact xC.none
  | succ fu ih =>
    intro v1 v2 v3 v4 w
    rw [f_X5_madeWith_L5]
    refine y_iload dX5_madeWith_5 4 rfl ?_
    refine y_iload_n dX5_madeWith_7 rfl 2 rfl ?_
    refine y_icmp_gt (tgt := 54) dX5_madeWith_8 (by decide) ?_ ?_
    · refine y_iload_n dX5_madeWith_54 rfl 3 rfl ?_
      exact y_ireturn dX5_madeWith_55 rfl rfl rfl
    · refine y_aload_n dX5_madeWith_11 rfl 0 rfl ?_
      refine y_iload dX5_madeWith_12 4 rfl ?_
      refine y_callV (As := [.int v4]) (d2 := d - 1) dX5_madeWith_14 kX5_41 (by omega) rfl rfl (Nat.le_of_ble_eq_true rfl) (xlt rfl hn) rfl rfl (p_X5_makes hn (by omega)  _ _) (fun r5001 w5002 _ => ?_)
      refine y_if_ne (tgt := 45) dX5_madeWith_17 (by decide) ?_ ?_
      · refine z_iinc (j := 3) dX5_madeWith_45 (by decide) rfl (by decide) (fun x5003 => ?_)
        refine y_loc (lv' := [(3, .int x5003), (0, .ref 1), (1, .int v1), (2, .int v2), (4, .int v4)]) rfl ?_
        refine z_iinc (j := 4) dX5_madeWith_48 (by decide) rfl (by decide) (fun x5004 => ?_)
        refine y_loc (lv' := [(4, .int x5004), (3, .int x5003), (0, .ref 1), (1, .int v1), (2, .int v2)]) rfl ?_
        refine y_goto (tgt := 5) dX5_madeWith_51 (by decide) ?_
        refine y_sub [(0, .ref 1), (1, .int v1), (2, .int v2), (3, .int x5003), (4, .int x5004)] [2, 3, 4, 1, 0] rfl ?_
        exact ih v1 v2 x5003 x5004 w5002 
      · refine y_aload_n dX5_madeWith_20 rfl 0 rfl ?_
        refine y_iload dX5_madeWith_21 4 rfl ?_
        refine y_iload_n dX5_madeWith_23 rfl 1 rfl ?_
        refine y_isub dX5_madeWith_24 ?_
        refine y_mabs dX5_madeWith_25 q42 (Nat.le_of_ble_eq_true rfl) (by omega) ?_
        refine y_callV (As := [.int (if 0 ≤ (v4 - v1) then (v4 - v1) else 0 - (v4 - v1))]) (d2 := d - 1) dX5_madeWith_28 kX5_41 (by omega) rfl rfl (Nat.le_of_ble_eq_true rfl) (xlt rfl hn) rfl rfl (p_X5_makes hn (by omega)  _ _) (fun r5005 w5006 _ => ?_)
        refine y_if_ne (tgt := 45) dX5_madeWith_31 (by decide) ?_ ?_
        · refine z_iinc (j := 3) dX5_madeWith_45 (by decide) rfl (by decide) (fun x5007 => ?_)
          refine y_loc (lv' := [(3, .int x5007), (0, .ref 1), (1, .int v1), (2, .int v2), (4, .int v4)]) rfl ?_
          refine z_iinc (j := 4) dX5_madeWith_48 (by decide) rfl (by decide) (fun x5008 => ?_)
          refine y_loc (lv' := [(4, .int x5008), (3, .int x5007), (0, .ref 1), (1, .int v1), (2, .int v2)]) rfl ?_
          refine y_goto (tgt := 5) dX5_madeWith_51 (by decide) ?_
          refine y_sub [(0, .ref 1), (1, .int v1), (2, .int v2), (3, .int x5007), (4, .int x5008)] [2, 3, 4, 1, 0] rfl ?_
          exact ih v1 v2 x5007 x5008 w5006 
        · refine y_aload_n dX5_madeWith_34 rfl 0 rfl ?_
          refine y_iload dX5_madeWith_35 4 rfl ?_
          refine y_iload_n dX5_madeWith_37 rfl 1 rfl ?_
          refine y_iadd dX5_madeWith_38 ?_
          refine y_callV (As := [.int (v4 + v1)]) (d2 := d - 1) dX5_madeWith_39 kX5_41 (by omega) rfl rfl (Nat.le_of_ble_eq_true rfl) (xlt rfl hn) rfl rfl (p_X5_makes hn (by omega)  _ _) (fun r5009 w5010 _ => ?_)
          refine y_if_eq (tgt := 48) dX5_madeWith_42 (by decide) ?_ ?_
          · refine z_iinc (j := 4) dX5_madeWith_48 (by decide) rfl (by decide) (fun x5011 => ?_)
            refine y_loc (lv' := [(4, .int x5011), (0, .ref 1), (1, .int v1), (2, .int v2), (3, .int v3)]) rfl ?_
            refine y_goto (tgt := 5) dX5_madeWith_51 (by decide) ?_
            refine y_sub [(0, .ref 1), (1, .int v1), (2, .int v2), (3, .int v3), (4, .int x5011)] [1, 2, 3, 4, 0] rfl ?_
            exact ih v1 v2 v3 x5011 w5010 
          · refine z_iinc (j := 3) dX5_madeWith_45 (by decide) rfl (by decide) (fun x5012 => ?_)
            refine y_loc (lv' := [(3, .int x5012), (0, .ref 1), (1, .int v1), (2, .int v2), (4, .int v4)]) rfl ?_
            refine z_iinc (j := 4) dX5_madeWith_48 (by decide) rfl (by decide) (fun x5013 => ?_)
            refine y_loc (lv' := [(4, .int x5013), (3, .int x5012), (0, .ref 1), (1, .int v1), (2, .int v2)]) rfl ?_
            refine y_goto (tgt := 5) dX5_madeWith_51 (by decide) ?_
            refine y_sub [(0, .ref 1), (1, .int v1), (2, .int v2), (3, .int x5012), (4, .int x5013)] [2, 3, 4, 1, 0] rfl ?_
            exact ih v1 v2 x5012 x5013 w5010 
set_option maxRecDepth 20000 in
set_option maxHeartbeats 2000000 in
theorem p_X5_madeWith {G : xG} {d : Nat} {n t : Nat} (hn : 71 ≤ n) (hd : 2 ≤ d) (a1 : Int32) (a2 : Int32) (w : xI) : xMet G m_X5_madeWith d [.ref 1, .int a1, .int a2] (xFin n t) w (fun x : Int32 => some (Value.int x)) (xFin n t) (f_X5_madeWith a1 a2 w) := by
  refine xMet.of rfl (Nat.le_of_ble_eq_true rfl) ?_
  unfold f_X5_madeWith
  show xC G m_X5_madeWith d 0 [(0, .ref 1), (1, .int a1), (2, .int a2)] [] (xFin n t) w _ _ _
  refine y_iconst (v := 0) dX5_madeWith_0 (by decide) ?_
  refine y_istore_n (lv' := [(3, .int (0 : Int32)), (0, .ref 1), (1, .int a1), (2, .int a2)]) dX5_madeWith_1 rfl (by decide) rfl ?_
  refine y_iconst (v := 1) dX5_madeWith_2 (by decide) ?_
  refine y_istore (lv' := [(4, .int (1 : Int32)), (3, .int (0 : Int32)), (0, .ref 1), (1, .int a1), (2, .int a2)]) dX5_madeWith_3 (by decide) rfl ?_
  refine y_sub [(0, .ref 1), (1, .int a1), (2, .int a2), (3, .int (0 : Int32)), (4, .int (1 : Int32))] [2, 3, 4, 1, 0] rfl ?_
  refine p_X5_madeWith_L5 hn hd 2000 a1 a2 (0 : Int32) (1 : Int32) w 
