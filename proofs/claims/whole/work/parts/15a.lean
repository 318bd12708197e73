-- ===== X0_weighs: WeighedGate$Cart.weighs(I)I =====
set_option maxRecDepth 20000 in
set_option maxHeartbeats 2000000 in
theorem p_X0_weighs {G : xG} {d : Nat} {n t : Nat} (hn : 71 ≤ n) (hd : 1 ≤ d) {o0 : Nat} (ho0 : okC o0) (a1 : Int32) (w : xI) : xMet G m_X0_weighs d [.ref o0, .int a1] (xFin n t) w (fun x : Int32 => some (Value.int x)) (xFin n t) (f_X0_weighs o0 a1 w) := by
  refine xMet.of rfl (Nat.le_of_ble_eq_true rfl) ?_
  unfold f_X0_weighs
  show xC G m_X0_weighs d 0 [(0, .ref o0), (1, .int a1)] [] (xFin n t) w _ _ _
  refine y_aload_n dX0_weighs_0 rfl 0 rfl ?_
  refine z_geti (v := (w o0 1)) dX0_weighs_1 flX0_9 (okC_k ho0 hn) (okC_s ho0) rfl rfl ?_
  refine xC.ite (fun hs1 => ?_) (fun hs1 => ?_)
  · refine y_lookup (tgt := 32) dX0_weighs_4 (by decide) (by rw [hs1] <;> rfl) (by decide) ?_
    refine y_aload_n dX0_weighs_32 rfl 0 rfl ?_
    refine z_geti (v := (w o0 2)) dX0_weighs_33 flX0_15 (okC_k ho0 hn) (okC_s ho0) rfl rfl ?_
    refine y_aload_n dX0_weighs_36 rfl 0 rfl ?_
    refine z_geti (v := (w o0 4)) dX0_weighs_37 flX0_18 (okC_k ho0 hn) (okC_s ho0) rfl rfl ?_
    refine y_iload_n dX0_weighs_40 rfl 1 rfl ?_
    refine y_imul dX0_weighs_41 ?_
    refine y_iadd dX0_weighs_42 ?_
    exact y_ireturn dX0_weighs_43 rfl rfl rfl
  · refine xC.ite (fun hs2 => ?_) (fun hs2 => ?_)
    · refine y_lookup (tgt := 44) dX0_weighs_4 (by decide) (by rw [hs2] <;> rfl) (by decide) ?_
      refine y_iconst (v := 1) dX0_weighs_44 (by decide) ?_
      refine y_aload_n dX0_weighs_45 rfl 0 rfl ?_
      refine z_geti (v := (w o0 2)) dX0_weighs_46 flX0_15 (okC_k ho0 hn) (okC_s ho0) rfl rfl ?_
      refine y_aload_n dX0_weighs_49 rfl 0 rfl ?_
      refine z_geti (v := (w o0 4)) dX0_weighs_50 flX0_18 (okC_k ho0 hn) (okC_s ho0) rfl rfl ?_
      refine y_iload_n dX0_weighs_53 rfl 1 rfl ?_
      refine y_imul dX0_weighs_54 ?_
      refine y_isub dX0_weighs_55 ?_
      refine y_mmax dX0_weighs_56 q627 (Nat.le_of_ble_eq_true rfl) (by omega) ?_
      exact y_ireturn dX0_weighs_59 rfl rfl rfl
    · refine y_lookup (tgt := 60) (off := 56) dX0_weighs_4 (by decide) (by show Op.lookupswitch.offset [((2 : Int), (28 : Int)), ((5 : Int), (40 : Int))] _ _ = _; rw [lv_osw hs1 (show (2 : Int32).toInt = 2 from rfl)]; rw [lv_osw hs2 (show (5 : Int32).toInt = 5 from rfl)]; rfl) (by decide) ?_
      refine y_aload_n dX0_weighs_60 rfl 0 rfl ?_
      refine z_geti (v := (w o0 2)) dX0_weighs_61 flX0_15 (okC_k ho0 hn) (okC_s ho0) rfl rfl ?_
      exact y_ireturn dX0_weighs_64 rfl rfl rfl
-- ===== X0_spoiled: WeighedGate$Cart.spoiled(I)I =====
set_option maxRecDepth 20000 in
set_option maxHeartbeats 2000000 in
theorem p_X0_spoiled {G : xG} {d : Nat} {n t : Nat} (hn : 71 ≤ n) (hd : 1 ≤ d) {o0 : Nat} (ho0 : okC o0) (a1 : Int32) (w : xI) : xMet G m_X0_spoiled d [.ref o0, .int a1] (xFin n t) w (fun x : Int32 => some (Value.int x)) (xFin n t) (f_X0_spoiled o0 a1 w) := by
  refine xMet.of rfl (Nat.le_of_ble_eq_true rfl) ?_
  unfold f_X0_spoiled
  show xC G m_X0_spoiled d 0 [(0, .ref o0), (1, .int a1)] [] (xFin n t) w _ _ _
  refine y_iconst (v := 0) dX0_spoiled_0 (by decide) ?_
  refine y_aload_n dX0_spoiled_1 rfl 0 rfl ?_
  refine z_geti (v := (w o0 3)) dX0_spoiled_2 flX0_31 (okC_k ho0 hn) (okC_s ho0) rfl rfl ?_
  refine y_aload_n dX0_spoiled_5 rfl 0 rfl ?_
  refine z_geti (v := (w o0 4)) dX0_spoiled_6 flX0_18 (okC_k ho0 hn) (okC_s ho0) rfl rfl ?_
  refine y_iload_n dX0_spoiled_9 rfl 1 rfl ?_
  refine y_imul dX0_spoiled_10 ?_
  refine y_isub dX0_spoiled_11 ?_
  refine y_mmax dX0_spoiled_12 q627 (Nat.le_of_ble_eq_true rfl) (by omega) ?_
  exact y_ireturn dX0_spoiled_15 rfl rfl rfl
-- ===== X0_worth: WeighedGate$Cart.worth(I)I =====
set_option maxRecDepth 20000 in
set_option maxHeartbeats 2000000 in
theorem p_X0_worth {G : xG} {d : Nat} {n t : Nat} (hn : 71 ≤ n) (hd : 2 ≤ d) {o0 : Nat} (ho0 : okC o0) (a1 : Int32) (w : xI) : xMet G m_X0_worth d [.ref o0, .int a1] (xFin n t) w (fun x : Int32 => some (Value.int x)) (xFin n t) (f_X0_worth o0 a1 w) := by
  refine xMet.of rfl (Nat.le_of_ble_eq_true rfl) ?_
  unfold f_X0_worth
  show xC G m_X0_worth d 0 [(0, .ref o0), (1, .int a1)] [] (xFin n t) w _ _ _
  refine y_aload_n dX0_worth_0 rfl 0 rfl ?_
  refine z_geti (v := (w o0 1)) dX0_worth_1 flX0_9 (okC_k ho0 hn) (okC_s ho0) rfl rfl ?_
  refine xC.ite (fun hs1 => ?_) (fun hs1 => ?_)
  · refine y_table (tgt := 36) (v := 1) dX0_worth_4 hs1 (by decide) (by decide) rfl (by decide) ?_
    refine y_aload_n dX0_worth_36 rfl 0 rfl ?_
    refine y_iload_n dX0_worth_37 rfl 1 rfl ?_
    refine y_callV (As := [.int a1]) (d2 := d - 1) dX0_worth_38 kX0_27 (by omega) rfl rfl (Nat.le_of_ble_eq_true rfl) (okC_k ho0 hn) (okC_s ho0) rfl (p_X0_spoiled hn (by omega) ho0 _ _) (fun r2 w3 _ => ?_)
    exact y_ireturn dX0_worth_41 rfl rfl rfl
  · refine xC.ite (fun hs4 => ?_) (fun hs4 => ?_)
    · refine y_table (tgt := 73) (v := 2) dX0_worth_4 hs4 (by decide) (by decide) rfl (by decide) ?_
      refine y_aload_n dX0_worth_73 rfl 0 rfl ?_
      refine z_geti (v := (w o0 3)) dX0_worth_74 flX0_31 (okC_k ho0 hn) (okC_s ho0) rfl rfl ?_
      exact y_ireturn dX0_worth_77 rfl rfl rfl
    · refine xC.ite (fun hs5 => ?_) (fun hs5 => ?_)
      · refine y_table (tgt := 42) (v := 3) dX0_worth_4 hs5 (by decide) (by decide) rfl (by decide) ?_
        refine y_iload_n dX0_worth_42 rfl 1 rfl ?_
        refine y_iconst (v := 3) dX0_worth_43 (by decide) ?_
        refine y_icmp_le (tgt := 51) dX0_worth_44 (by decide) ?_ ?_
        · refine y_iconst (v := 2) dX0_worth_51 (by decide) ?_
          refine y_aload_n dX0_worth_52 rfl 0 rfl ?_
          refine y_iload_n dX0_worth_53 rfl 1 rfl ?_
          refine y_callV (As := [.int a1]) (d2 := d - 1) dX0_worth_54 kX0_27 (by omega) rfl rfl (Nat.le_of_ble_eq_true rfl) (okC_k ho0 hn) (okC_s ho0) rfl (p_X0_spoiled hn (by omega) ho0 _ _) (fun r6 w7 _ => ?_)
          refine y_imul dX0_worth_57 ?_
          exact y_ireturn dX0_worth_58 rfl rfl rfl
        · refine y_iconst (v := 0) dX0_worth_47 (by decide) ?_
          refine y_goto (tgt := 58) dX0_worth_48 (by decide) ?_
          exact y_ireturn dX0_worth_58 rfl rfl rfl
      · refine xC.ite (fun hs8 => ?_) (fun hs8 => ?_)
        · refine y_table (tgt := 59) (v := 4) dX0_worth_4 hs8 (by decide) (by decide) rfl (by decide) ?_
          refine y_iconst (v := 0) dX0_worth_59 (by decide) ?_
          refine y_aload_n dX0_worth_60 rfl 0 rfl ?_
          refine z_geti (v := (w o0 3)) dX0_worth_61 flX0_31 (okC_k ho0 hn) (okC_s ho0) rfl rfl ?_
          refine y_aload_n dX0_worth_64 rfl 0 rfl ?_
          refine z_geti (v := (w o0 4)) dX0_worth_65 flX0_18 (okC_k ho0 hn) (okC_s ho0) rfl rfl ?_
          refine y_isub dX0_worth_68 ?_
          refine y_mmax dX0_worth_69 q627 (Nat.le_of_ble_eq_true rfl) (by omega) ?_
          exact y_ireturn dX0_worth_72 rfl rfl rfl
        · refine y_tableD (tgt := 73) dX0_worth_4 (by have z0 := lv_neT hs1 (show (1 : Int32).toInt = 1 from rfl); have z1 := lv_neT hs4 (show (2 : Int32).toInt = 2 from rfl); have z2 := lv_neT hs5 (show (3 : Int32).toInt = 3 from rfl); have z3 := lv_neT hs8 (show (4 : Int32).toInt = 4 from rfl); omega) (by decide) ?_
          refine y_aload_n dX0_worth_73 rfl 0 rfl ?_
          refine z_geti (v := (w o0 3)) dX0_worth_74 flX0_31 (okC_k ho0 hn) (okC_s ho0) rfl rfl ?_
          exact y_ireturn dX0_worth_77 rfl rfl rfl
-- ===== X0_mayTurn: WeighedGate$Cart.mayTurn()Z =====
set_option maxRecDepth 20000 in
set_option maxHeartbeats 2000000 in
theorem p_X0_mayTurn {G : xG} {d : Nat} {n t : Nat} (hn : 71 ≤ n) (hd : 0 ≤ d) {o0 : Nat} (ho0 : okC o0) (w : xI) : xMet G m_X0_mayTurn d [.ref o0] (xFin n t) w (fun x : Int32 => some (Value.int x)) (xFin n t) (f_X0_mayTurn o0 w) := by
  refine xMet.of rfl (Nat.le_of_ble_eq_true rfl) ?_
  unfold f_X0_mayTurn
  show xC G m_X0_mayTurn d 0 [(0, .ref o0)] [] (xFin n t) w _ _ _
  refine y_aload_n dX0_mayTurn_0 rfl 0 rfl ?_
  refine z_geti (v := (w o0 1)) dX0_mayTurn_1 flX0_9 (okC_k ho0 hn) (okC_s ho0) rfl rfl ?_
  refine y_iconst (v := 4) dX0_mayTurn_4 (by decide) ?_
  refine y_icmp_ne (tgt := 12) dX0_mayTurn_5 (by decide) ?_ ?_
  · refine y_iconst (v := 0) dX0_mayTurn_12 (by decide) ?_
    exact y_ireturn dX0_mayTurn_13 rfl rfl rfl
  · refine y_iconst (v := 1) dX0_mayTurn_8 (by decide) ?_
    refine y_goto (tgt := 13) dX0_mayTurn_9 (by decide) ?_
    exact y_ireturn dX0_mayTurn_13 rfl rfl rfl
-- ===== X0_isA: WeighedGate$Cart.isA(I)Z =====
set_option maxRecDepth 20000 in
set_option maxHeartbeats 2000000 in
theorem p_X0_isA {G : xG} {d : Nat} {n t : Nat} (hn : 71 ≤ n) (hd : 0 ≤ d) {o0 : Nat} (ho0 : okC o0) (a1 : Int32) (w : xI) : xMet G m_X0_isA d [.ref o0, .int a1] (xFin n t) w (fun x : Int32 => some (Value.int x)) (xFin n t) (f_X0_isA o0 a1 w) := by
  refine xMet.of rfl (Nat.le_of_ble_eq_true rfl) ?_
  unfold f_X0_isA
  show xC G m_X0_isA d 0 [(0, .ref o0), (1, .int a1)] [] (xFin n t) w _ _ _
  refine y_iload_n dX0_isA_0 rfl 1 rfl ?_
  refine y_aload_n dX0_isA_1 rfl 0 rfl ?_
  refine z_geti (v := (w o0 1)) dX0_isA_2 flX0_9 (okC_k ho0 hn) (okC_s ho0) rfl rfl ?_
  refine y_icmp_eq (tgt := 38) dX0_isA_5 (by decide) ?_ ?_
  · refine y_iconst (v := 1) dX0_isA_38 (by decide) ?_
    refine y_goto (tgt := 43) dX0_isA_39 (by decide) ?_
    exact y_ireturn dX0_isA_43 rfl rfl rfl
  · refine y_iload_n dX0_isA_8 rfl 1 rfl ?_
    refine y_if_eq (tgt := 38) dX0_isA_9 (by decide) ?_ ?_
    · refine y_iconst (v := 1) dX0_isA_38 (by decide) ?_
      refine y_goto (tgt := 43) dX0_isA_39 (by decide) ?_
      exact y_ireturn dX0_isA_43 rfl rfl rfl
    · refine y_iload_n dX0_isA_12 rfl 1 rfl ?_
      refine y_iconst (v := 1) dX0_isA_13 (by decide) ?_
      refine y_icmp_ne (tgt := 25) dX0_isA_14 (by decide) ?_ ?_
      · refine y_iload_n dX0_isA_25 rfl 1 rfl ?_
        refine y_iconst (v := 2) dX0_isA_26 (by decide) ?_
        refine y_icmp_ne (tgt := 42) dX0_isA_27 (by decide) ?_ ?_
        · refine y_iconst (v := 0) dX0_isA_42 (by decide) ?_
          exact y_ireturn dX0_isA_43 rfl rfl rfl
        · refine y_aload_n dX0_isA_30 rfl 0 rfl ?_
          refine z_geti (v := (w o0 1)) dX0_isA_31 flX0_9 (okC_k ho0 hn) (okC_s ho0) rfl rfl ?_
          refine y_iconst (v := 5) dX0_isA_34 (by decide) ?_
          refine y_icmp_ne (tgt := 42) dX0_isA_35 (by decide) ?_ ?_
          · refine y_iconst (v := 0) dX0_isA_42 (by decide) ?_
            exact y_ireturn dX0_isA_43 rfl rfl rfl
          · refine y_iconst (v := 1) dX0_isA_38 (by decide) ?_
            refine y_goto (tgt := 43) dX0_isA_39 (by decide) ?_
            exact y_ireturn dX0_isA_43 rfl rfl rfl
      · refine y_aload_n dX0_isA_17 rfl 0 rfl ?_
        refine z_geti (v := (w o0 1)) dX0_isA_18 flX0_9 (okC_k ho0 hn) (okC_s ho0) rfl rfl ?_
        refine y_iconst (v := 3) dX0_isA_21 (by decide) ?_
        refine y_icmp_eq (tgt := 38) dX0_isA_22 (by decide) ?_ ?_
        · refine y_iconst (v := 1) dX0_isA_38 (by decide) ?_
          refine y_goto (tgt := 43) dX0_isA_39 (by decide) ?_
          exact y_ireturn dX0_isA_43 rfl rfl rfl
        · refine y_iload_n dX0_isA_25 rfl 1 rfl ?_
          refine y_iconst (v := 2) dX0_isA_26 (by decide) ?_
          refine y_icmp_ne (tgt := 42) dX0_isA_27 (by decide) ?_ ?_
          · refine y_iconst (v := 0) dX0_isA_42 (by decide) ?_
            exact y_ireturn dX0_isA_43 rfl rfl rfl
          · refine y_aload_n dX0_isA_30 rfl 0 rfl ?_
            refine z_geti (v := (w o0 1)) dX0_isA_31 flX0_9 (okC_k ho0 hn) (okC_s ho0) rfl rfl ?_
            refine y_iconst (v := 5) dX0_isA_34 (by decide) ?_
            refine y_icmp_ne (tgt := 42) dX0_isA_35 (by decide) ?_ ?_
            · refine y_iconst (v := 0) dX0_isA_42 (by decide) ?_
              exact y_ireturn dX0_isA_43 rfl rfl rfl
            · refine y_iconst (v := 1) dX0_isA_38 (by decide) ?_
              refine y_goto (tgt := 43) dX0_isA_39 (by decide) ?_
              exact y_ireturn dX0_isA_43 rfl rfl rfl
-- ===== X1_takeComes: WeighedGate$Day.takeComes()V =====
set_option maxRecDepth 20000 in
set_option maxHeartbeats 2000000 in
theorem p_X1_takeComes {G : xG} {d : Nat} {n t : Nat} (hn : 71 ≤ n) (hd : 1 ≤ d) (w : xI) : xMet G m_X1_takeComes d [.ref 28] (xFin n t) w (fun _ : Unit => none) (xFin n t) (f_X1_takeComes  w) := by
  refine xMet.of rfl (Nat.le_of_ble_eq_true rfl) ?_
  unfold f_X1_takeComes
  show xC G m_X1_takeComes d 0 [(0, .ref 28)] [] (xFin n t) w _ _ _
  refine y_aload_n dX1_takeComes_0 rfl 0 rfl ?_
  refine y_getr (q := 5) dX1_takeComes_1 flX1_25 (xlt rfl hn) rfl rfl rfl ?_
  refine y_getr (q := 7) dX1_takeComes_4 flX1_29 (xlt rfl hn) rfl rfl rfl ?_
  refine y_iconst (v := 0) dX1_takeComes_7 (by decide) ?_
  refine y_aload_n dX1_takeComes_8 rfl 0 rfl ?_
  refine y_getr (q := 29) dX1_takeComes_9 flX1_9 (xlt rfl hn) rfl rfl rfl ?_
  refine y_iconst (v := 0) dX1_takeComes_12 (by decide) ?_
  refine y_bipush (v := 10) dX1_takeComes_13 (by decide) ?_
  refine y_copy dX1_takeComes_15 q807 (Nat.le_of_ble_eq_true rfl) (by omega) (xlt rfl hn) (xlt rfl hn) rfl rfl ?_
  exact y_return dX1_takeComes_18 rfl rfl
-- ===== X1_drawComes: WeighedGate$Day.drawComes(I)V =====
set_option maxRecDepth 20000 in
set_option maxHeartbeats 2000000 in
theorem p_X1_drawComes_L8 {G : xG} {d : Nat} {n t : Nat} (hn : 71 ≤ n) (hd : 0 ≤ d) : ∀ (fu : Nat) (v2 : Int64) (v4 : Int32) (w : xI), xC G m_X1_drawComes d 8 [(0, .ref 28), (2, .long v2), (4, .int v4)] [] (xFin n t) w (fun _ : Unit => none) (xFin n t) (f_X1_drawComes_L8 fu v2 v4 w) := by
  intro fu
  induction fu with
  | zero => intro v2 v4 w; exact xC.none
  | succ fu ih =>
    intro v2 v4 w
    rw [f_X1_drawComes_L8]
    refine y_iload dX1_drawComes_8 2 rfl ?_
    refine y_aload_n dX1_drawComes_10 rfl 0 rfl ?_
    refine y_getr (q := 5) dX1_drawComes_11 flX1_25 (xlt rfl hn) rfl rfl rfl ?_
    refine z_geti (v := (w 5 2)) dX1_drawComes_14 flX1_38 (xlt rfl hn) rfl rfl rfl ?_
    refine y_icmp_ge (tgt := 49) dX1_drawComes_17 (by decide) ?_ ?_
    · exact y_return dX1_drawComes_49 rfl rfl
    · refine y_lload_n dX1_drawComes_20 rfl 1 rfl ?_
      refine y_ldc2 (v := 48271) dX1_drawComes_21 q915 ?_
      refine y_lmul dX1_drawComes_24 ?_
      refine y_ldc2 (v := 2147483647) dX1_drawComes_25 q916 ?_
      refine y_lrem dX1_drawComes_28 (by decide) ?_
      refine y_letL (fun x8001 => ?_)
      refine y_lstore_n (lv' := [(2, .long x8001), (0, .ref 28), (4, .int v4)]) dX1_drawComes_29 rfl (by decide) rfl ?_
      refine y_aload_n dX1_drawComes_30 rfl 1 rfl ?_
      refine y_getr (q := 29) dX1_drawComes_31 flX1_9 (xlt rfl hn) rfl rfl rfl ?_
      refine y_iload dX1_drawComes_34 2 rfl ?_
      refine y_lload_n dX1_drawComes_36 rfl 0 rfl ?_
      refine y_ldc2 (v := 10) dX1_drawComes_37 q917 ?_
      refine y_lrem dX1_drawComes_40 (by decide) ?_
      refine y_l2i dX1_drawComes_41 ?_
      refine y_iast dX1_drawComes_42 (xlt rfl hn) rfl ?_
      refine z_iinc (j := 2) dX1_drawComes_43 (by decide) rfl (by decide) (fun x8002 => ?_)
      refine y_loc (lv' := [(4, .int x8002), (2, .long x8001), (0, .ref 28)]) rfl ?_
      refine y_goto (tgt := 8) dX1_drawComes_46 (by decide) ?_
      refine y_sub [(0, .ref 28), (2, .long x8001), (4, .int x8002)] [2, 1, 0] rfl ?_
      exact ih x8001 x8002 (xup w 29 v4.toNatClampNeg ((x8001 - x8001 / (10 : Int64) * (10 : Int64)).toInt32)) 
set_option maxRecDepth 20000 in
set_option maxHeartbeats 2000000 in
theorem p_X1_drawComes {G : xG} {d : Nat} {n t : Nat} (hn : 71 ≤ n) (hd : 0 ≤ d) (a1 : Int32) (w : xI) : xMet G m_X1_drawComes d [.ref 28, .int a1] (xFin n t) w (fun _ : Unit => none) (xFin n t) (f_X1_drawComes a1 w) := by
  refine xMet.of rfl (Nat.le_of_ble_eq_true rfl) ?_
  unfold f_X1_drawComes
  show xC G m_X1_drawComes d 0 [(0, .ref 28), (1, .int a1)] [] (xFin n t) w _ _ _
  refine y_iload_n dX1_drawComes_0 rfl 1 rfl ?_
  refine y_i2l dX1_drawComes_1 ?_
  refine y_lconst (v := 1) dX1_drawComes_2 (by decide) ?_
  refine y_ladd dX1_drawComes_3 ?_
  refine y_letL (fun x1 => ?_)
  refine y_lstore_n (lv' := [(2, .long x1), (0, .ref 28), (1, .int a1)]) dX1_drawComes_4 rfl (by decide) rfl ?_
  refine y_iconst (v := 0) dX1_drawComes_5 (by decide) ?_
  refine y_istore (lv' := [(4, .int (0 : Int32)), (2, .long x1), (0, .ref 28), (1, .int a1)]) dX1_drawComes_6 (by decide) rfl ?_
  refine y_sub [(0, .ref 28), (2, .long x1), (4, .int (0 : Int32))] [2, 1, 0] rfl ?_
  refine p_X1_drawComes_L8 hn hd 2000 x1 (0 : Int32) w 
-- ===== X10_waited: WeighedGate.waited(II)I =====
set_option maxRecDepth 20000 in
set_option maxHeartbeats 2000000 in
theorem p_X10_waited {G : xG} {d : Nat} {n t : Nat} (hn : 71 ≤ n) (hd : 1 ≤ d) (a1 : Int32) (a2 : Int32) (w : xI) : xMet G m_X10_waited d [.int a1, .int a2] (xFin n t) w (fun x : Int32 => some (Value.int x)) (xFin n t) (f_X10_waited a1 a2 w) := by
  refine xMet.of rfl (Nat.le_of_ble_eq_true rfl) ?_
  unfold f_X10_waited
  show xC G m_X10_waited d 0 [(0, .int a1), (1, .int a2)] [] (xFin n t) w _ _ _
  refine y_iconst (v := 0) dX10_waited_0 (by decide) ?_
  refine y_iload_n dX10_waited_1 rfl 0 rfl ?_
  refine y_iload_n dX10_waited_2 rfl 1 rfl ?_
  refine y_isub dX10_waited_3 ?_
  refine y_mmax dX10_waited_4 q622 (Nat.le_of_ble_eq_true rfl) (by omega) ?_
  exact y_ireturn dX10_waited_7 rfl rfl rfl
-- ===== X8_prepare: WeighedGate$Weighing.prepare(I[I)V =====
set_option maxRecDepth 20000 in
set_option maxHeartbeats 2000000 in
theorem p_X8_prepare_L19 {G : xG} {d : Nat} {n t : Nat} (hn : 71 ≤ n) (hd : 3 ≤ d) {o2 : Nat} (ho2 : okA o2 10) : ∀ (fu : Nat) (v1 : Int32) (v3 : Int32) (w : xI), xC G m_X8_prepare d 19 [(0, .ref 21), (1, .int v1), (2, .ref o2), (3, .int v3)] [] (xFin n t) w (fun _ : Unit => none) (xFin n t) (f_X8_prepare_L19 o2 fu v1 v3 w) := by
  intro fu
  induction fu with
  | zero => intro v1 v3 w; exact xC.none
  | succ fu ih =>
    intro v1 v3 w
    rw [f_X8_prepare_L19]
    refine y_iload_n dX8_prepare_19 rfl 3 rfl ?_
    refine y_aload_n dX8_prepare_20 rfl 0 rfl ?_
    refine y_getr (q := 5) dX8_prepare_21 flX8_25 (xlt rfl hn) rfl rfl rfl ?_
    refine z_geti (v := (w 5 2)) dX8_prepare_24 flX8_36 (xlt rfl hn) rfl rfl rfl ?_
    refine y_icmp_ge (tgt := 122) dX8_prepare_27 (by decide) ?_ ?_
    · exact y_return dX8_prepare_122 rfl rfl
    · refine y_aload_n dX8_prepare_30 rfl 0 rfl ?_
      refine y_getr (q := 5) dX8_prepare_31 flX8_25 (xlt rfl hn) rfl rfl rfl ?_
      refine y_getr (q := 6) dX8_prepare_34 flX8_41 (xlt rfl hn) rfl rfl rfl ?_
      refine y_iload_n dX8_prepare_37 rfl 3 rfl ?_
      refine y_aaldC dX8_prepare_38 hn (fun o19002 hok19004 => ?_)
      refine y_astore (lv' := [(4, .ref o19002), (0, .ref 21), (1, .int v1), (2, .ref o2), (3, .int v3)]) dX8_prepare_39 (by decide) rfl ?_
      refine y_iload_n dX8_prepare_41 rfl 2 rfl ?_
      refine y_aload_n dX8_prepare_42 rfl 3 rfl ?_
      refine y_iload_n dX8_prepare_43 rfl 4 rfl ?_
      refine z_iald (v := (w o2 v3.toNatClampNeg)) dX8_prepare_44 (okA_k ho2 hn) (okA_s ho2) rfl ?_
      refine y_callS (As := [.int v1, .int (w o2 v3.toNatClampNeg)]) (d2 := d - 1) dX8_prepare_45 kX8_45 (by omega) rfl rfl (Nat.le_of_ble_eq_true rfl) (p_X10_waited hn (by omega)  _ _ _) (fun r19005 w19006 _ => ?_)
      refine y_istore (lv' := [(5, .int r19005), (4, .ref o19002), (0, .ref 21), (1, .int v1), (2, .ref o2), (3, .int v3)]) dX8_prepare_48 (by decide) rfl ?_
      refine y_aload_n dX8_prepare_50 rfl 2 rfl ?_
      refine y_getr (q := 22) dX8_prepare_51 flX8_9 (xlt rfl hn) rfl rfl rfl ?_
      refine y_iload_n dX8_prepare_54 rfl 5 rfl ?_
      refine y_aload dX8_prepare_55 1 rfl ?_
      refine y_iload dX8_prepare_57 0 rfl ?_
      refine y_callV (As := [.int r19005]) (d2 := d - 1) dX8_prepare_59 kX8_49 (by omega) rfl rfl (Nat.le_of_ble_eq_true rfl) (okC_k hok19004 hn) (okC_s hok19004) rfl (p_X0_weighs hn (by omega) hok19004 _ _) (fun r19007 w19008 _ => ?_)
      refine y_iast dX8_prepare_62 (xlt rfl hn) rfl ?_
      refine y_aload_n dX8_prepare_63 rfl 2 rfl ?_
      refine y_getr (q := 23) dX8_prepare_64 flX8_15 (xlt rfl hn) rfl rfl rfl ?_
      refine y_iload_n dX8_prepare_67 rfl 5 rfl ?_
      refine y_aload dX8_prepare_68 1 rfl ?_
      refine y_iload dX8_prepare_70 0 rfl ?_
      refine y_callV (As := [.int r19005]) (d2 := d - 1) dX8_prepare_72 kX8_55 (by omega) rfl rfl (Nat.le_of_ble_eq_true rfl) (okC_k hok19004 hn) (okC_s hok19004) rfl (p_X0_worth hn (by omega) hok19004 _ _) (fun r19009 w19010 _ => ?_)
      refine y_iast dX8_prepare_75 (xlt rfl hn) rfl ?_
      refine y_aload_n dX8_prepare_76 rfl 4 rfl ?_
      refine y_iload_n dX8_prepare_77 rfl 5 rfl ?_
      refine z_iald (v := ((xup w19010 23 v3.toNatClampNeg r19009) o2 v3.toNatClampNeg)) dX8_prepare_78 (okA_k ho2 hn) (okA_s ho2) rfl ?_
      refine y_iload_n dX8_prepare_79 rfl 3 rfl ?_
      refine y_icmp_gt (tgt := 95) dX8_prepare_80 (by decide) ?_ ?_
      · refine y_aload dX8_prepare_95 1 rfl ?_
        refine z_geti (v := ((xup w19010 23 v3.toNatClampNeg r19009) o19002 0)) dX8_prepare_97 flX8_58 (okC_k hok19004 hn) (okC_s hok19004) rfl rfl ?_
        refine y_iconst (v := 1) dX8_prepare_100 (by decide) ?_
        refine y_icmp_ne (tgt := 116) dX8_prepare_101 (by decide) ?_ ?_
        · refine z_iinc (j := 5) dX8_prepare_116 (by decide) rfl (by decide) (fun x19011 => ?_)
          refine y_loc (lv' := [(3, .int x19011), (5, .int r19005), (4, .ref o19002), (0, .ref 21), (1, .int v1), (2, .ref o2)]) rfl ?_
          refine y_goto (tgt := 19) dX8_prepare_119 (by decide) ?_
          refine y_sub [(0, .ref 21), (1, .int v1), (2, .ref o2), (3, .int x19011)] [3, 4, 5, 0] rfl ?_
          exact ih v1 x19011 (xup w19010 23 v3.toNatClampNeg r19009) 
        · refine y_aload_n dX8_prepare_104 rfl 2 rfl ?_
          refine y_dup dX8_prepare_105 rfl ?_
          refine z_geti (v := (w19010 21 6)) dX8_prepare_106 flX8_33 (xlt rfl hn) rfl rfl rfl ?_
          refine y_iconst (v := 1) dX8_prepare_109 (by decide) ?_
          refine y_iload_n dX8_prepare_110 rfl 5 rfl ?_
          refine y_ishl dX8_prepare_111 ?_
          refine y_ior dX8_prepare_112 ?_
          refine y_puti dX8_prepare_113 flX8_33 (xlt rfl hn) rfl rfl ?_
          refine z_iinc (j := 5) dX8_prepare_116 (by decide) rfl (by decide) (fun x19012 => ?_)
          refine y_loc (lv' := [(3, .int x19012), (5, .int r19005), (4, .ref o19002), (0, .ref 21), (1, .int v1), (2, .ref o2)]) rfl ?_
          refine y_goto (tgt := 19) dX8_prepare_119 (by decide) ?_
          refine y_sub [(0, .ref 21), (1, .int v1), (2, .ref o2), (3, .int x19012)] [3, 4, 5, 0] rfl ?_
          exact ih v1 x19012 (xup (xup w19010 23 v3.toNatClampNeg r19009) 21 6 ((w19010 21 6) ||| ((1 : Int32) <<< (v3 &&& 31)))) 
      · refine y_aload_n dX8_prepare_83 rfl 2 rfl ?_
        refine y_dup dX8_prepare_84 rfl ?_
        refine z_geti (v := (w19010 21 5)) dX8_prepare_85 flX8_29 (xlt rfl hn) rfl rfl rfl ?_
        refine y_iconst (v := 1) dX8_prepare_88 (by decide) ?_
        refine y_iload_n dX8_prepare_89 rfl 5 rfl ?_
        refine y_ishl dX8_prepare_90 ?_
        refine y_ior dX8_prepare_91 ?_
        refine y_puti dX8_prepare_92 flX8_29 (xlt rfl hn) rfl rfl ?_
        refine y_aload dX8_prepare_95 1 rfl ?_
        refine z_geti (v := ((xup (xup w19010 23 v3.toNatClampNeg r19009) 21 5 ((w19010 21 5) ||| ((1 : Int32) <<< (v3 &&& 31)))) o19002 0)) dX8_prepare_97 flX8_58 (okC_k hok19004 hn) (okC_s hok19004) rfl rfl ?_
        refine y_iconst (v := 1) dX8_prepare_100 (by decide) ?_
        refine y_icmp_ne (tgt := 116) dX8_prepare_101 (by decide) ?_ ?_
        · refine z_iinc (j := 5) dX8_prepare_116 (by decide) rfl (by decide) (fun x19013 => ?_)
          refine y_loc (lv' := [(3, .int x19013), (5, .int r19005), (4, .ref o19002), (0, .ref 21), (1, .int v1), (2, .ref o2)]) rfl ?_
          refine y_goto (tgt := 19) dX8_prepare_119 (by decide) ?_
          refine y_sub [(0, .ref 21), (1, .int v1), (2, .ref o2), (3, .int x19013)] [3, 4, 5, 0] rfl ?_
          exact ih v1 x19013 (xup (xup w19010 23 v3.toNatClampNeg r19009) 21 5 ((w19010 21 5) ||| ((1 : Int32) <<< (v3 &&& 31)))) 
        · refine y_aload_n dX8_prepare_104 rfl 2 rfl ?_
          refine y_dup dX8_prepare_105 rfl ?_
          refine z_geti (v := (w19010 21 6)) dX8_prepare_106 flX8_33 (xlt rfl hn) rfl rfl rfl ?_
          refine y_iconst (v := 1) dX8_prepare_109 (by decide) ?_
          refine y_iload_n dX8_prepare_110 rfl 5 rfl ?_
          refine y_ishl dX8_prepare_111 ?_
          refine y_ior dX8_prepare_112 ?_
          refine y_puti dX8_prepare_113 flX8_33 (xlt rfl hn) rfl rfl ?_
          refine z_iinc (j := 5) dX8_prepare_116 (by decide) rfl (by decide) (fun x19014 => ?_)
          refine y_loc (lv' := [(3, .int x19014), (5, .int r19005), (4, .ref o19002), (0, .ref 21), (1, .int v1), (2, .ref o2)]) rfl ?_
          refine y_goto (tgt := 19) dX8_prepare_119 (by decide) ?_
          refine y_sub [(0, .ref 21), (1, .int v1), (2, .ref o2), (3, .int x19014)] [3, 4, 5, 0] rfl ?_
          exact ih v1 x19014 (xup (xup (xup w19010 23 v3.toNatClampNeg r19009) 21 5 ((w19010 21 5) ||| ((1 : Int32) <<< (v3 &&& 31)))) 21 6 ((w19010 21 6) ||| ((1 : Int32) <<< (v3 &&& 31)))) 
set_option maxRecDepth 20000 in
set_option maxHeartbeats 2000000 in
theorem p_X8_prepare {G : xG} {d : Nat} {n t : Nat} (hn : 71 ≤ n) (hd : 3 ≤ d) {o2 : Nat} (ho2 : okA o2 10) (a1 : Int32) (w : xI) : xMet G m_X8_prepare d [.ref 21, .int a1, .ref o2] (xFin n t) w (fun _ : Unit => none) (xFin n t) (f_X8_prepare a1 o2 w) := by
  refine xMet.of rfl (Nat.le_of_ble_eq_true rfl) ?_
  unfold f_X8_prepare
  show xC G m_X8_prepare d 0 [(0, .ref 21), (1, .int a1), (2, .ref o2)] [] (xFin n t) w _ _ _
  refine y_aload_n dX8_prepare_0 rfl 0 rfl ?_
  refine y_iconst (v := 0) dX8_prepare_1 (by decide) ?_
  refine y_puti dX8_prepare_2 flX8_29 (xlt rfl hn) rfl rfl ?_
  refine y_aload_n dX8_prepare_5 rfl 0 rfl ?_
  refine y_iconst (v := 0) dX8_prepare_6 (by decide) ?_
  refine y_puti dX8_prepare_7 flX8_33 (xlt rfl hn) rfl rfl ?_
  refine y_aload_n dX8_prepare_10 rfl 0 rfl ?_
  refine y_getr (q := 24) dX8_prepare_11 flX8_18 (xlt rfl hn) rfl rfl rfl ?_
  refine y_iconst (v := 3) dX8_prepare_14 (by decide) ?_
  refine y_iload_n dX8_prepare_15 rfl 1 rfl ?_
  refine z_iast0 (j := 3) dX8_prepare_16 (xlt rfl hn) rfl rfl rfl ?_
  refine y_iconst (v := 0) dX8_prepare_17 (by decide) ?_
  refine y_istore_n (lv' := [(3, .int (0 : Int32)), (0, .ref 21), (1, .int a1), (2, .ref o2)]) dX8_prepare_18 rfl (by decide) rfl ?_
  refine y_sub [(0, .ref 21), (1, .int a1), (2, .ref o2), (3, .int (0 : Int32))] [1, 2, 3, 0] rfl ?_
  refine p_X8_prepare_L19 hn hd ho2 2000 a1 (0 : Int32) (xup (xup (xup w 21 5 (0 : Int32)) 21 6 (0 : Int32)) 24 3 a1) 
-- ===== J6_bitCount_0f7a4: java/lang/Integer.bitCount(I)I =====
set_option maxRecDepth 20000 in
set_option maxHeartbeats 2000000 in
theorem p_J6_bitCount_0f7a4 {G : xG} {d : Nat} {n t : Nat} (hn : 71 ≤ n) (hd : 0 ≤ d) (a1 : Int32) (w : xI) : xMet G m_J6_bitCount_0f7a4 d [.int a1] (xFin n t) w (fun x : Int32 => some (Value.int x)) (xFin n t) (f_J6_bitCount_0f7a4 a1 w) := by
  refine xMet.of rfl (Nat.le_of_ble_eq_true rfl) ?_
  unfold f_J6_bitCount_0f7a4
  show xC G m_J6_bitCount_0f7a4 d 0 [(0, .int a1)] [] (xFin n t) w _ _ _
  refine y_iload_n dJ6_bitCount_0f7a4_0 rfl 0 rfl ?_
  refine y_iload_n dJ6_bitCount_0f7a4_1 rfl 0 rfl ?_
  refine y_iconst (v := 1) dJ6_bitCount_0f7a4_2 (by decide) ?_
  refine y_iushr dJ6_bitCount_0f7a4_3 rfl ?_
  refine y_ldcw (v := 1431655765) dJ6_bitCount_0f7a4_4 q722 ?_
  refine y_iand dJ6_bitCount_0f7a4_7 ?_
  refine y_isub dJ6_bitCount_0f7a4_8 ?_
  refine y_let (fun x1 => ?_)
  refine y_istore_n (lv' := [(0, .int x1)]) dJ6_bitCount_0f7a4_9 rfl (by decide) rfl ?_
  refine y_iload_n dJ6_bitCount_0f7a4_10 rfl 0 rfl ?_
  refine y_ldcw (v := 858993459) dJ6_bitCount_0f7a4_11 q723 ?_
  refine y_iand dJ6_bitCount_0f7a4_14 ?_
  refine y_iload_n dJ6_bitCount_0f7a4_15 rfl 0 rfl ?_
  refine y_iconst (v := 2) dJ6_bitCount_0f7a4_16 (by decide) ?_
  refine y_iushr dJ6_bitCount_0f7a4_17 rfl ?_
  refine y_ldcw (v := 858993459) dJ6_bitCount_0f7a4_18 q723 ?_
  refine y_iand dJ6_bitCount_0f7a4_21 ?_
  refine y_iadd dJ6_bitCount_0f7a4_22 ?_
  refine y_let (fun x2 => ?_)
  refine y_istore_n (lv' := [(0, .int x2)]) dJ6_bitCount_0f7a4_23 rfl (by decide) rfl ?_
  refine y_iload_n dJ6_bitCount_0f7a4_24 rfl 0 rfl ?_
  refine y_iload_n dJ6_bitCount_0f7a4_25 rfl 0 rfl ?_
  refine y_iconst (v := 4) dJ6_bitCount_0f7a4_26 (by decide) ?_
  refine y_iushr dJ6_bitCount_0f7a4_27 rfl ?_
  refine y_iadd dJ6_bitCount_0f7a4_28 ?_
  refine y_ldcw (v := 252645135) dJ6_bitCount_0f7a4_29 q724 ?_
  refine y_iand dJ6_bitCount_0f7a4_32 ?_
  refine y_let (fun x3 => ?_)
  refine y_istore_n (lv' := [(0, .int x3)]) dJ6_bitCount_0f7a4_33 rfl (by decide) rfl ?_
  refine y_iload_n dJ6_bitCount_0f7a4_34 rfl 0 rfl ?_
  refine y_iload_n dJ6_bitCount_0f7a4_35 rfl 0 rfl ?_
  refine y_bipush (v := 8) dJ6_bitCount_0f7a4_36 (by decide) ?_
  refine y_iushr dJ6_bitCount_0f7a4_38 rfl ?_
  refine y_iadd dJ6_bitCount_0f7a4_39 ?_
  refine y_let (fun x4 => ?_)
  refine y_istore_n (lv' := [(0, .int x4)]) dJ6_bitCount_0f7a4_40 rfl (by decide) rfl ?_
  refine y_iload_n dJ6_bitCount_0f7a4_41 rfl 0 rfl ?_
  refine y_iload_n dJ6_bitCount_0f7a4_42 rfl 0 rfl ?_
  refine y_bipush (v := 16) dJ6_bitCount_0f7a4_43 (by decide) ?_
  refine y_iushr dJ6_bitCount_0f7a4_45 rfl ?_
  refine y_iadd dJ6_bitCount_0f7a4_46 ?_
  refine y_let (fun x5 => ?_)
  refine y_istore_n (lv' := [(0, .int x5)]) dJ6_bitCount_0f7a4_47 rfl (by decide) rfl ?_
  refine y_iload_n dJ6_bitCount_0f7a4_48 rfl 0 rfl ?_
  refine y_bipush (v := 63) dJ6_bitCount_0f7a4_49 (by decide) ?_
  refine y_iand dJ6_bitCount_0f7a4_51 ?_
  exact y_ireturn dJ6_bitCount_0f7a4_52 rfl rfl rfl
-- ===== X10_within: WeighedGate.within(III)Z =====
set_option maxRecDepth 20000 in
set_option maxHeartbeats 2000000 in
theorem p_X10_within {G : xG} {d : Nat} {n t : Nat} (hn : 71 ≤ n) (hd : 0 ≤ d) (a1 : Int32) (a2 : Int32) (a3 : Int32) (w : xI) : xMet G m_X10_within d [.int a1, .int a2, .int a3] (xFin n t) w (fun x : Int32 => some (Value.int x)) (xFin n t) (f_X10_within a1 a2 a3 w) := by
  refine xMet.of rfl (Nat.le_of_ble_eq_true rfl) ?_
  unfold f_X10_within
  show xC G m_X10_within d 0 [(0, .int a1), (1, .int a2), (2, .int a3)] [] (xFin n t) w _ _ _
  refine y_iload_n dX10_within_0 rfl 0 rfl ?_
  refine y_iload_n dX10_within_1 rfl 1 rfl ?_
  refine y_icmp_lt (tgt := 14) dX10_within_2 (by decide) ?_ ?_
  · refine y_iconst (v := 0) dX10_within_14 (by decide) ?_
    exact y_ireturn dX10_within_15 rfl rfl rfl
  · refine y_iload_n dX10_within_5 rfl 0 rfl ?_
    refine y_iload_n dX10_within_6 rfl 2 rfl ?_
    refine y_icmp_gt (tgt := 14) dX10_within_7 (by decide) ?_ ?_
    · refine y_iconst (v := 0) dX10_within_14 (by decide) ?_
      exact y_ireturn dX10_within_15 rfl rfl rfl
    · refine y_iconst (v := 1) dX10_within_10 (by decide) ?_
      refine y_goto (tgt := 15) dX10_within_11 (by decide) ?_
      exact y_ireturn dX10_within_15 rfl rfl rfl
-- ===== X8_fillsPans: WeighedGate$Weighing.fillsPans(I)Z =====
set_option maxRecDepth 20000 in
set_option maxHeartbeats 2000000 in
theorem p_X8_fillsPans {G : xG} {d : Nat} {n t : Nat} (hn : 71 ≤ n) (hd : 1 ≤ d) (a1 : Int32) (w : xI) : xMet G m_X8_fillsPans d [.ref 21, .int a1] (xFin n t) w (fun x : Int32 => some (Value.int x)) (xFin n t) (f_X8_fillsPans a1 w) := by
  refine xMet.of rfl (Nat.le_of_ble_eq_true rfl) ?_
  unfold f_X8_fillsPans
  show xC G m_X8_fillsPans d 0 [(0, .ref 21), (1, .int a1)] [] (xFin n t) w _ _ _
  refine y_iload_n dX8_fillsPans_0 rfl 1 rfl ?_
  refine y_aload_n dX8_fillsPans_1 rfl 0 rfl ?_
  refine z_geti (v := (w 21 6)) dX8_fillsPans_2 flX8_33 (xlt rfl hn) rfl rfl rfl ?_
  refine y_iand dX8_fillsPans_5 ?_
  refine y_callS (As := [.int (a1 &&& (w 21 6))]) (d2 := d - 1) dX8_fillsPans_6 kX8_98 (by omega) rfl rfl (Nat.le_of_ble_eq_true rfl) (p_J6_bitCount_0f7a4 hn (by omega)  _ _) (fun r1 w2 _ => ?_)
  refine y_iconst (v := 1) dX8_fillsPans_9 (by decide) ?_
  refine y_iconst (v := 2) dX8_fillsPans_10 (by decide) ?_
  refine y_callS (As := [.int r1, .int (1 : Int32), .int (2 : Int32)]) (d2 := d - 1) dX8_fillsPans_11 kX8_103 (by omega) rfl rfl (Nat.le_of_ble_eq_true rfl) (p_X10_within hn (by omega)  _ _ _ _) (fun r3 w4 _ => ?_)
  refine y_if_eq (tgt := 40) dX8_fillsPans_14 (by decide) ?_ ?_
  · refine y_iconst (v := 0) dX8_fillsPans_40 (by decide) ?_
    exact y_ireturn dX8_fillsPans_41 rfl rfl rfl
  · refine y_iload_n dX8_fillsPans_17 rfl 1 rfl ?_
    refine y_aload_n dX8_fillsPans_18 rfl 0 rfl ?_
    refine z_geti (v := (w4 21 6)) dX8_fillsPans_19 flX8_33 (xlt rfl hn) rfl rfl rfl ?_
    refine y_iconst (v := (-1)) dX8_fillsPans_22 (by decide) ?_
    refine y_ixor dX8_fillsPans_23 ?_
    refine y_iand dX8_fillsPans_24 ?_
    refine y_callS (As := [.int (a1 &&& ((w4 21 6) ^^^ (-1 : Int32)))]) (d2 := d - 1) dX8_fillsPans_25 kX8_98 (by omega) rfl rfl (Nat.le_of_ble_eq_true rfl) (p_J6_bitCount_0f7a4 hn (by omega)  _ _) (fun r5 w6 _ => ?_)
    refine y_iconst (v := 1) dX8_fillsPans_28 (by decide) ?_
    refine y_iconst (v := 2) dX8_fillsPans_29 (by decide) ?_
    refine y_callS (As := [.int r5, .int (1 : Int32), .int (2 : Int32)]) (d2 := d - 1) dX8_fillsPans_30 kX8_103 (by omega) rfl rfl (Nat.le_of_ble_eq_true rfl) (p_X10_within hn (by omega)  _ _ _ _) (fun r7 w8 _ => ?_)
    refine y_if_eq (tgt := 40) dX8_fillsPans_33 (by decide) ?_ ?_
    · refine y_iconst (v := 0) dX8_fillsPans_40 (by decide) ?_
      exact y_ireturn dX8_fillsPans_41 rfl rfl rfl
    · refine y_iconst (v := 1) dX8_fillsPans_36 (by decide) ?_
      refine y_goto (tgt := 41) dX8_fillsPans_37 (by decide) ?_
      exact y_ireturn dX8_fillsPans_41 rfl rfl rfl
-- ===== X8_worthOf: WeighedGate$Weighing.worthOf(I)I =====
set_option maxRecDepth 20000 in
set_option maxHeartbeats 2000000 in
theorem p_X8_worthOf_L4 {G : xG} {d : Nat} {n t : Nat} (hn : 71 ≤ n) (hd : 0 ≤ d) : ∀ (fu : Nat) (v1 : Int32) (v2 : Int32) (v3 : Int32) (w : xI), xC G m_X8_worthOf d 4 [(0, .ref 21), (1, .int v1), (2, .int v2), (3, .int v3)] [] (xFin n t) w (fun x : Int32 => some (Value.int x)) (xFin n t) (f_X8_worthOf_L4 fu v1 v2 v3 w) := by
  intro fu
  induction fu with
  | zero => intro v1 v2 v3 w; exact xC.none
  | succ fu ih =>
    intro v1 v2 v3 w
    rw [f_X8_worthOf_L4]
    refine y_iload_n dX8_worthOf_4 rfl 3 rfl ?_
    refine y_aload_n dX8_worthOf_5 rfl 0 rfl ?_
    refine y_getr (q := 5) dX8_worthOf_6 flX8_25 (xlt rfl hn) rfl rfl rfl ?_
    refine z_geti (v := (w 5 2)) dX8_worthOf_9 flX8_36 (xlt rfl hn) rfl rfl rfl ?_
    refine y_icmp_ge (tgt := 39) dX8_worthOf_12 (by decide) ?_ ?_
    · refine y_iload_n dX8_worthOf_39 rfl 2 rfl ?_
      exact y_ireturn dX8_worthOf_40 rfl rfl rfl
    · refine y_iload_n dX8_worthOf_15 rfl 1 rfl ?_
      refine y_iload_n dX8_worthOf_16 rfl 3 rfl ?_
      refine y_ishr dX8_worthOf_17 ?_
      refine y_iconst (v := 1) dX8_worthOf_18 (by decide) ?_
      refine y_iand dX8_worthOf_19 ?_
      refine y_iconst (v := 1) dX8_worthOf_20 (by decide) ?_
      refine y_icmp_ne (tgt := 33) dX8_worthOf_21 (by decide) ?_ ?_
      · refine z_iinc (j := 3) dX8_worthOf_33 (by decide) rfl (by decide) (fun x4001 => ?_)
        refine y_loc (lv' := [(3, .int x4001), (0, .ref 21), (1, .int v1), (2, .int v2)]) rfl ?_
        refine y_goto (tgt := 4) dX8_worthOf_36 (by decide) ?_
        refine y_sub [(0, .ref 21), (1, .int v1), (2, .int v2), (3, .int x4001)] [1, 2, 3, 0] rfl ?_
        exact ih v1 v2 x4001 w 
      · refine y_iload_n dX8_worthOf_24 rfl 2 rfl ?_
        refine y_aload_n dX8_worthOf_25 rfl 0 rfl ?_
        refine y_getr (q := 23) dX8_worthOf_26 flX8_15 (xlt rfl hn) rfl rfl rfl ?_
        refine y_iload_n dX8_worthOf_29 rfl 3 rfl ?_
        refine z_iald (v := (w 23 v3.toNatClampNeg)) dX8_worthOf_30 (xlt rfl hn) rfl rfl ?_
        refine y_iadd dX8_worthOf_31 ?_
        refine y_let (fun x4002 => ?_)
        refine y_istore_n (lv' := [(2, .int x4002), (0, .ref 21), (1, .int v1), (3, .int v3)]) dX8_worthOf_32 rfl (by decide) rfl ?_
        refine z_iinc (j := 3) dX8_worthOf_33 (by decide) rfl (by decide) (fun x4003 => ?_)
        refine y_loc (lv' := [(3, .int x4003), (2, .int x4002), (0, .ref 21), (1, .int v1)]) rfl ?_
        refine y_goto (tgt := 4) dX8_worthOf_36 (by decide) ?_
        refine y_sub [(0, .ref 21), (1, .int v1), (2, .int x4002), (3, .int x4003)] [2, 3, 1, 0] rfl ?_
        exact ih v1 x4002 x4003 w 
set_option maxRecDepth 20000 in
set_option maxHeartbeats 2000000 in
theorem p_X8_worthOf {G : xG} {d : Nat} {n t : Nat} (hn : 71 ≤ n) (hd : 0 ≤ d) (a1 : Int32) (w : xI) : xMet G m_X8_worthOf d [.ref 21, .int a1] (xFin n t) w (fun x : Int32 => some (Value.int x)) (xFin n t) (f_X8_worthOf a1 w) := by
  refine xMet.of rfl (Nat.le_of_ble_eq_true rfl) ?_
  unfold f_X8_worthOf
  show xC G m_X8_worthOf d 0 [(0, .ref 21), (1, .int a1)] [] (xFin n t) w _ _ _
  refine y_iconst (v := 0) dX8_worthOf_0 (by decide) ?_
  refine y_istore_n (lv' := [(2, .int (0 : Int32)), (0, .ref 21), (1, .int a1)]) dX8_worthOf_1 rfl (by decide) rfl ?_
  refine y_iconst (v := 0) dX8_worthOf_2 (by decide) ?_
  refine y_istore_n (lv' := [(3, .int (0 : Int32)), (2, .int (0 : Int32)), (0, .ref 21), (1, .int a1)]) dX8_worthOf_3 rfl (by decide) rfl ?_
  refine y_sub [(0, .ref 21), (1, .int a1), (2, .int (0 : Int32)), (3, .int (0 : Int32))] [2, 3, 1, 0] rfl ?_
  refine p_X8_worthOf_L4 hn hd 2000 a1 (0 : Int32) (0 : Int32) w 
-- ===== X8_weightOf: WeighedGate$Weighing.weightOf(I)I =====
set_option maxRecDepth 20000 in
set_option maxHeartbeats 2000000 in
theorem p_X8_weightOf_L4 {G : xG} {d : Nat} {n t : Nat} (hn : 71 ≤ n) (hd : 0 ≤ d) : ∀ (fu : Nat) (v1 : Int32) (v2 : Int32) (v3 : Int32) (w : xI), xC G m_X8_weightOf d 4 [(0, .ref 21), (1, .int v1), (2, .int v2), (3, .int v3)] [] (xFin n t) w (fun x : Int32 => some (Value.int x)) (xFin n t) (f_X8_weightOf_L4 fu v1 v2 v3 w) := by
  intro fu
  induction fu with
  | zero => intro v1 v2 v3 w; exact xC.none
  | succ fu ih =>
    intro v1 v2 v3 w
    rw [f_X8_weightOf_L4]
    refine y_iload_n dX8_weightOf_4 rfl 3 rfl ?_
    refine y_aload_n dX8_weightOf_5 rfl 0 rfl ?_
    refine y_getr (q := 5) dX8_weightOf_6 flX8_25 (xlt rfl hn) rfl rfl rfl ?_
    refine z_geti (v := (w 5 2)) dX8_weightOf_9 flX8_36 (xlt rfl hn) rfl rfl rfl ?_
    refine y_icmp_ge (tgt := 39) dX8_weightOf_12 (by decide) ?_ ?_
    · refine y_iload_n dX8_weightOf_39 rfl 2 rfl ?_
      exact y_ireturn dX8_weightOf_40 rfl rfl rfl
    · refine y_iload_n dX8_weightOf_15 rfl 1 rfl ?_
      refine y_iload_n dX8_weightOf_16 rfl 3 rfl ?_
      refine y_ishr dX8_weightOf_17 ?_
      refine y_iconst (v := 1) dX8_weightOf_18 (by decide) ?_
      refine y_iand dX8_weightOf_19 ?_
      refine y_iconst (v := 1) dX8_weightOf_20 (by decide) ?_
      refine y_icmp_ne (tgt := 33) dX8_weightOf_21 (by decide) ?_ ?_
      · refine z_iinc (j := 3) dX8_weightOf_33 (by decide) rfl (by decide) (fun x4001 => ?_)
        refine y_loc (lv' := [(3, .int x4001), (0, .ref 21), (1, .int v1), (2, .int v2)]) rfl ?_
        refine y_goto (tgt := 4) dX8_weightOf_36 (by decide) ?_
        refine y_sub [(0, .ref 21), (1, .int v1), (2, .int v2), (3, .int x4001)] [1, 2, 3, 0] rfl ?_
        exact ih v1 v2 x4001 w 
      · refine y_iload_n dX8_weightOf_24 rfl 2 rfl ?_
        refine y_aload_n dX8_weightOf_25 rfl 0 rfl ?_
        refine y_getr (q := 22) dX8_weightOf_26 flX8_9 (xlt rfl hn) rfl rfl rfl ?_
        refine y_iload_n dX8_weightOf_29 rfl 3 rfl ?_
        refine z_iald (v := (w 22 v3.toNatClampNeg)) dX8_weightOf_30 (xlt rfl hn) rfl rfl ?_
        refine y_iadd dX8_weightOf_31 ?_
        refine y_let (fun x4002 => ?_)
        refine y_istore_n (lv' := [(2, .int x4002), (0, .ref 21), (1, .int v1), (3, .int v3)]) dX8_weightOf_32 rfl (by decide) rfl ?_
        refine z_iinc (j := 3) dX8_weightOf_33 (by decide) rfl (by decide) (fun x4003 => ?_)
        refine y_loc (lv' := [(3, .int x4003), (2, .int x4002), (0, .ref 21), (1, .int v1)]) rfl ?_
        refine y_goto (tgt := 4) dX8_weightOf_36 (by decide) ?_
        refine y_sub [(0, .ref 21), (1, .int v1), (2, .int x4002), (3, .int x4003)] [2, 3, 1, 0] rfl ?_
        exact ih v1 x4002 x4003 w 
set_option maxRecDepth 20000 in
set_option maxHeartbeats 2000000 in
theorem p_X8_weightOf {G : xG} {d : Nat} {n t : Nat} (hn : 71 ≤ n) (hd : 0 ≤ d) (a1 : Int32) (w : xI) : xMet G m_X8_weightOf d [.ref 21, .int a1] (xFin n t) w (fun x : Int32 => some (Value.int x)) (xFin n t) (f_X8_weightOf a1 w) := by
  refine xMet.of rfl (Nat.le_of_ble_eq_true rfl) ?_
  unfold f_X8_weightOf
  show xC G m_X8_weightOf d 0 [(0, .ref 21), (1, .int a1)] [] (xFin n t) w _ _ _
  refine y_iconst (v := 0) dX8_weightOf_0 (by decide) ?_
  refine y_istore_n (lv' := [(2, .int (0 : Int32)), (0, .ref 21), (1, .int a1)]) dX8_weightOf_1 rfl (by decide) rfl ?_
  refine y_iconst (v := 0) dX8_weightOf_2 (by decide) ?_
  refine y_istore_n (lv' := [(3, .int (0 : Int32)), (2, .int (0 : Int32)), (0, .ref 21), (1, .int a1)]) dX8_weightOf_3 rfl (by decide) rfl ?_
  refine y_sub [(0, .ref 21), (1, .int a1), (2, .int (0 : Int32)), (3, .int (0 : Int32))] [2, 3, 1, 0] rfl ?_
  refine p_X8_weightOf_L4 hn hd 2000 a1 (0 : Int32) (0 : Int32) w 
-- ===== X5_fewestFor: WeighedGate$Scale.fewestFor(I)I =====
set_option maxRecDepth 20000 in
set_option maxHeartbeats 2000000 in
theorem p_X5_fewestFor {G : xG} {d : Nat} {n t : Nat} (hn : 71 ≤ n) (hd : 0 ≤ d) (a1 : Int32) (w : xI) : xMet G m_X5_fewestFor d [.ref 1, .int a1] (xFin n t) w (fun x : Int32 => some (Value.int x)) (xFin n t) (f_X5_fewestFor a1 w) := by
  refine xMet.of rfl (Nat.le_of_ble_eq_true rfl) ?_
  unfold f_X5_fewestFor
  show xC G m_X5_fewestFor d 0 [(0, .ref 1), (1, .int a1)] [] (xFin n t) w _ _ _
  refine y_iload_n dX5_fewestFor_0 rfl 1 rfl ?_
  refine y_if_lt (tgt := 20) dX5_fewestFor_1 (by decide) ?_ ?_
  · refine y_iconst (v := (-1)) dX5_fewestFor_20 (by decide) ?_
    exact y_ireturn dX5_fewestFor_21 rfl rfl rfl
  · refine y_iload_n dX5_fewestFor_4 rfl 1 rfl ?_
    refine y_sipush (v := 999) dX5_fewestFor_5 (by decide) ?_
    refine y_icmp_gt (tgt := 20) dX5_fewestFor_8 (by decide) ?_ ?_
    · refine y_iconst (v := (-1)) dX5_fewestFor_20 (by decide) ?_
      exact y_ireturn dX5_fewestFor_21 rfl rfl rfl
    · refine y_aload_n dX5_fewestFor_11 rfl 0 rfl ?_
      refine y_getr (q := 4) dX5_fewestFor_12 flX5_18 (xlt rfl hn) rfl rfl rfl ?_
      refine y_iload_n dX5_fewestFor_15 rfl 1 rfl ?_
      refine z_iald (v := (w 4 a1.toNatClampNeg)) dX5_fewestFor_16 (xlt rfl hn) rfl rfl ?_
      refine y_goto (tgt := 21) dX5_fewestFor_17 (by decide) ?_
      exact y_ireturn dX5_fewestFor_21 rfl rfl rfl
-- ===== X5_offOf: WeighedGate$Scale.offOf(I)I =====
set_option maxRecDepth 20000 in
set_option maxHeartbeats 2000000 in
theorem p_X5_offOf_L2 {G : xG} {d : Nat} {n t : Nat} (hn : 71 ≤ n) (hd : 1 ≤ d) : ∀ (fu : Nat) (v1 : Int32) (v2 : Int32) (w : xI), xC G m_X5_offOf d 2 [(0, .ref 1), (1, .int v1), (2, .int v2)] [] (xFin n t) w (fun x : Int32 => some (Value.int x)) (xFin n t) (f_X5_offOf_L2 fu v1 v2 w) := by
  intro fu
  induction fu with
  | zero => intro v1 v2 w; exact xC.none
  | succ fu ih =>
    intro v1 v2 w
    rw [f_X5_offOf_L2]
    refine y_iload_n dX5_offOf_2 rfl 2 rfl ?_
    refine y_aload_n dX5_offOf_3 rfl 0 rfl ?_
    refine y_getr (q := 2) dX5_offOf_4 flX5_9 (xlt rfl hn) rfl rfl rfl ?_
    refine y_iconst (v := 2) dX5_offOf_7 (by decide) ?_
    refine z_iald0 (j := 2) (v := (w 2 2)) dX5_offOf_8 (xlt rfl hn) rfl rfl rfl rfl ?_
    refine y_icmp_gt (tgt := 42) dX5_offOf_9 (by decide) ?_ ?_
    · refine y_iconst (v := (-1)) dX5_offOf_42 (by decide) ?_
      exact y_ireturn dX5_offOf_43 rfl rfl rfl
    · refine y_aload_n dX5_offOf_12 rfl 0 rfl ?_
      refine y_iload_n dX5_offOf_13 rfl 1 rfl ?_
      refine y_iload_n dX5_offOf_14 rfl 2 rfl ?_
      refine y_isub dX5_offOf_15 ?_
      refine y_callV (As := [.int (v1 - v2)]) (d2 := d - 1) dX5_offOf_16 kX5_38 (by omega) rfl rfl (Nat.le_of_ble_eq_true rfl) (xlt rfl hn) rfl rfl (p_X5_fewestFor hn (by omega)  _ _) (fun r2001 w2002 _ => ?_)
      refine y_iconst (v := (-1)) dX5_offOf_19 (by decide) ?_
      refine y_icmp_ne (tgt := 34) dX5_offOf_20 (by decide) ?_ ?_
      · refine y_iload_n dX5_offOf_34 rfl 2 rfl ?_
        exact y_ireturn dX5_offOf_35 rfl rfl rfl
      · refine y_aload_n dX5_offOf_23 rfl 0 rfl ?_
        refine y_iload_n dX5_offOf_24 rfl 1 rfl ?_
        refine y_iload_n dX5_offOf_25 rfl 2 rfl ?_
        refine y_iadd dX5_offOf_26 ?_
        refine y_callV (As := [.int (v1 + v2)]) (d2 := d - 1) dX5_offOf_27 kX5_38 (by omega) rfl rfl (Nat.le_of_ble_eq_true rfl) (xlt rfl hn) rfl rfl (p_X5_fewestFor hn (by omega)  _ _) (fun r2003 w2004 _ => ?_)
        refine y_iconst (v := (-1)) dX5_offOf_30 (by decide) ?_
        refine y_icmp_eq (tgt := 36) dX5_offOf_31 (by decide) ?_ ?_
        · refine z_iinc (j := 2) dX5_offOf_36 (by decide) rfl (by decide) (fun x2005 => ?_)
          refine y_loc (lv' := [(2, .int x2005), (0, .ref 1), (1, .int v1)]) rfl ?_
          refine y_goto (tgt := 2) dX5_offOf_39 (by decide) ?_
          refine y_sub [(0, .ref 1), (1, .int v1), (2, .int x2005)] [1, 2, 0] rfl ?_
          exact ih v1 x2005 w2004 
        · refine y_iload_n dX5_offOf_34 rfl 2 rfl ?_
          exact y_ireturn dX5_offOf_35 rfl rfl rfl
set_option maxRecDepth 20000 in
set_option maxHeartbeats 2000000 in
theorem p_X5_offOf {G : xG} {d : Nat} {n t : Nat} (hn : 71 ≤ n) (hd : 1 ≤ d) (a1 : Int32) (w : xI) : xMet G m_X5_offOf d [.ref 1, .int a1] (xFin n t) w (fun x : Int32 => some (Value.int x)) (xFin n t) (f_X5_offOf a1 w) := by
  refine xMet.of rfl (Nat.le_of_ble_eq_true rfl) ?_
  unfold f_X5_offOf
  show xC G m_X5_offOf d 0 [(0, .ref 1), (1, .int a1)] [] (xFin n t) w _ _ _
  refine y_iconst (v := 0) dX5_offOf_0 (by decide) ?_
  refine y_istore_n (lv' := [(2, .int (0 : Int32)), (0, .ref 1), (1, .int a1)]) dX5_offOf_1 rfl (by decide) rfl ?_
  refine y_sub [(0, .ref 1), (1, .int a1), (2, .int (0 : Int32))] [1, 2, 0] rfl ?_
  refine p_X5_offOf_L2 hn hd 2000 a1 (0 : Int32) w 
-- ===== X5_stonesFor: WeighedGate$Scale.stonesFor(II)I =====
set_option maxRecDepth 20000 in
set_option maxHeartbeats 2000000 in
theorem p_X5_stonesFor {G : xG} {d : Nat} {n t : Nat} (hn : 71 ≤ n) (hd : 1 ≤ d) (a1 : Int32) (a2 : Int32) (w : xI) : xMet G m_X5_stonesFor d [.ref 1, .int a1, .int a2] (xFin n t) w (fun x : Int32 => some (Value.int x)) (xFin n t) (f_X5_stonesFor a1 a2 w) := by
  refine xMet.of rfl (Nat.le_of_ble_eq_true rfl) ?_
  unfold f_X5_stonesFor
  show xC G m_X5_stonesFor d 0 [(0, .ref 1), (1, .int a1), (2, .int a2)] [] (xFin n t) w _ _ _
  refine y_aload_n dX5_stonesFor_0 rfl 0 rfl ?_
  refine y_iload_n dX5_stonesFor_1 rfl 1 rfl ?_
  refine y_iload_n dX5_stonesFor_2 rfl 2 rfl ?_
  refine y_isub dX5_stonesFor_3 ?_
  refine y_callV (As := [.int (a1 - a2)]) (d2 := d - 1) dX5_stonesFor_4 kX5_38 (by omega) rfl rfl (Nat.le_of_ble_eq_true rfl) (xlt rfl hn) rfl rfl (p_X5_fewestFor hn (by omega)  _ _) (fun r1 w2 _ => ?_)
  refine y_istore_n (lv' := [(3, .int r1), (0, .ref 1), (1, .int a1), (2, .int a2)]) dX5_stonesFor_7 rfl (by decide) rfl ?_
  refine y_aload_n dX5_stonesFor_8 rfl 1 rfl ?_
  refine y_iload_n dX5_stonesFor_9 rfl 2 rfl ?_
  refine y_iload_n dX5_stonesFor_10 rfl 3 rfl ?_
  refine y_iadd dX5_stonesFor_11 ?_
  refine y_callV (As := [.int (a1 + a2)]) (d2 := d - 1) dX5_stonesFor_12 kX5_38 (by omega) rfl rfl (Nat.le_of_ble_eq_true rfl) (xlt rfl hn) rfl rfl (p_X5_fewestFor hn (by omega)  _ _) (fun r3 w4 _ => ?_)
  refine y_istore (lv' := [(4, .int r3), (3, .int r1), (0, .ref 1), (1, .int a1), (2, .int a2)]) dX5_stonesFor_15 (by decide) rfl ?_
  refine y_iload_n dX5_stonesFor_17 rfl 1 rfl ?_
  refine y_iconst (v := (-1)) dX5_stonesFor_18 (by decide) ?_
  refine y_icmp_eq (tgt := 28) dX5_stonesFor_19 (by decide) ?_ ?_
  · refine y_iload_n dX5_stonesFor_28 rfl 1 rfl ?_
    refine y_iload dX5_stonesFor_29 0 rfl ?_
    refine y_mmax dX5_stonesFor_31 q717 (Nat.le_of_ble_eq_true rfl) (by omega) ?_
    exact y_ireturn dX5_stonesFor_34 rfl rfl rfl
  · refine y_iload dX5_stonesFor_22 0 rfl ?_
    refine y_iconst (v := (-1)) dX5_stonesFor_24 (by decide) ?_
    refine y_icmp_ne (tgt := 35) dX5_stonesFor_25 (by decide) ?_ ?_
    · refine y_iload_n dX5_stonesFor_35 rfl 1 rfl ?_
      refine y_iload dX5_stonesFor_36 0 rfl ?_
      refine y_mmin dX5_stonesFor_38 q718 (Nat.le_of_ble_eq_true rfl) (by omega) ?_
      exact y_ireturn dX5_stonesFor_41 rfl rfl rfl
    · refine y_iload_n dX5_stonesFor_28 rfl 1 rfl ?_
      refine y_iload dX5_stonesFor_29 0 rfl ?_
      refine y_mmax dX5_stonesFor_31 q717 (Nat.le_of_ble_eq_true rfl) (by omega) ?_
      exact y_ireturn dX5_stonesFor_34 rfl rfl rfl
-- ===== X8_weigh: WeighedGate$Weighing.weigh(I)V =====
set_option maxRecDepth 20000 in
set_option maxHeartbeats 2000000 in
theorem p_X8_weigh_L114 {G : xG} {d : Nat} {n t : Nat} (hn : 71 ≤ n) (hd : 2 ≤ d) (v1 : Int32) (s0 : Int32) (w : xI) : xC G m_X8_weigh d 114 [(0, .ref 21), (1, .int v1)] [.int s0, .ref 21] (xFin n t) w (fun _ : Unit => none) (xFin n t) (f_X8_weigh_L114 v1 s0 w) := by
  unfold f_X8_weigh_L114
  refine y_puti dX8_weigh_114 flX8_95 (xlt rfl hn) rfl rfl ?_
  refine y_aload_n dX8_weigh_117 rfl 0 rfl ?_
  refine y_getr (q := 24) dX8_weigh_118 flX8_18 (xlt rfl hn) rfl rfl rfl ?_
  refine y_iconst (v := 0) dX8_weigh_121 (by decide) ?_
  refine y_aload_n dX8_weigh_122 rfl 0 rfl ?_
  refine z_geti (v := (w 21 9)) dX8_weigh_123 flX8_70 (xlt rfl hn) rfl rfl rfl ?_
  refine z_iast0 (j := 0) dX8_weigh_126 (xlt rfl hn) rfl rfl rfl ?_
  refine y_aload_n dX8_weigh_127 rfl 0 rfl ?_
  refine y_getr (q := 24) dX8_weigh_128 flX8_18 (xlt rfl hn) rfl rfl rfl ?_
  refine y_iconst (v := 1) dX8_weigh_131 (by decide) ?_
  refine y_aload_n dX8_weigh_132 rfl 0 rfl ?_
  refine z_geti (v := (w 21 10)) dX8_weigh_133 flX8_73 (xlt rfl hn) rfl rfl rfl ?_
  refine z_iast0 (j := 1) dX8_weigh_136 (xlt rfl hn) rfl rfl rfl ?_
  refine y_aload_n dX8_weigh_137 rfl 0 rfl ?_
  refine y_getr (q := 24) dX8_weigh_138 flX8_18 (xlt rfl hn) rfl rfl rfl ?_
  refine y_iconst (v := 2) dX8_weigh_141 (by decide) ?_
  refine y_aload_n dX8_weigh_142 rfl 0 rfl ?_
  refine z_geti (v := (w 21 11)) dX8_weigh_143 flX8_89 (xlt rfl hn) rfl rfl rfl ?_
  refine z_iast0 (j := 2) dX8_weigh_146 (xlt rfl hn) rfl rfl rfl ?_
  refine y_aload_n dX8_weigh_147 rfl 0 rfl ?_
  refine y_getr (q := 24) dX8_weigh_148 flX8_18 (xlt rfl hn) rfl rfl rfl ?_
  refine y_iconst (v := 4) dX8_weigh_151 (by decide) ?_
  refine y_iload_n dX8_weigh_152 rfl 1 rfl ?_
  refine y_callS (As := [.int v1]) (d2 := d - 1) dX8_weigh_153 kX8_98 (by omega) rfl rfl (Nat.le_of_ble_eq_true rfl) (p_J6_bitCount_0f7a4 hn (by omega)  _ _) (fun r114001 w114002 _ => ?_)
  refine z_iast0 (j := 4) dX8_weigh_156 (xlt rfl hn) rfl rfl rfl ?_
  refine y_aload_n dX8_weigh_157 rfl 0 rfl ?_
  refine y_getr (q := 24) dX8_weigh_158 flX8_18 (xlt rfl hn) rfl rfl rfl ?_
  refine y_iconst (v := 5) dX8_weigh_161 (by decide) ?_
  refine y_aload_n dX8_weigh_162 rfl 0 rfl ?_
  refine z_geti (v := (w114002 21 12)) dX8_weigh_163 flX8_95 (xlt rfl hn) rfl rfl rfl ?_
  refine z_iast0 (j := 5) dX8_weigh_166 (xlt rfl hn) rfl rfl rfl ?_
  exact y_return dX8_weigh_167 rfl rfl
set_option maxRecDepth 20000 in
set_option maxHeartbeats 2000000 in
theorem p_X8_weigh {G : xG} {d : Nat} {n t : Nat} (hn : 71 ≤ n) (hd : 2 ≤ d) (a1 : Int32) (w : xI) : xMet G m_X8_weigh d [.ref 21, .int a1] (xFin n t) w (fun _ : Unit => none) (xFin n t) (f_X8_weigh a1 w) := by
  refine xMet.of rfl (Nat.le_of_ble_eq_true rfl) ?_
  unfold f_X8_weigh
  show xC G m_X8_weigh d 0 [(0, .ref 21), (1, .int a1)] [] (xFin n t) w _ _ _
  refine y_aload_n dX8_weigh_0 rfl 0 rfl ?_
  refine y_iload_n dX8_weigh_1 rfl 1 rfl ?_
  refine y_puti dX8_weigh_2 flX8_59 (xlt rfl hn) rfl rfl ?_
  refine y_aload_n dX8_weigh_5 rfl 0 rfl ?_
  refine y_aload_n dX8_weigh_6 rfl 0 rfl ?_
  refine y_iload_n dX8_weigh_7 rfl 1 rfl ?_
  refine y_callV (As := [.int a1]) (d2 := d - 1) dX8_weigh_8 kX8_62 (by omega) rfl rfl (Nat.le_of_ble_eq_true rfl) (xlt rfl hn) rfl rfl (p_X8_worthOf hn (by omega)  _ _) (fun r1 w2 _ => ?_)
  refine y_puti dX8_weigh_11 flX8_65 (xlt rfl hn) rfl rfl ?_
  refine y_aload_n dX8_weigh_14 rfl 0 rfl ?_
  refine y_aload_n dX8_weigh_15 rfl 0 rfl ?_
  refine y_iload_n dX8_weigh_16 rfl 1 rfl ?_
  refine y_aload_n dX8_weigh_17 rfl 0 rfl ?_
  refine z_geti (v := (w2 21 6)) dX8_weigh_18 flX8_33 (xlt rfl hn) rfl rfl rfl ?_
  refine y_iand dX8_weigh_21 ?_
  refine y_callV (As := [.int (a1 &&& (w2 21 6))]) (d2 := d - 1) dX8_weigh_22 kX8_67 (by omega) rfl rfl (Nat.le_of_ble_eq_true rfl) (xlt rfl hn) rfl rfl (p_X8_weightOf hn (by omega)  _ _) (fun r3 w4 _ => ?_)
  refine y_puti dX8_weigh_25 flX8_70 (xlt rfl hn) rfl rfl ?_
  refine y_aload_n dX8_weigh_28 rfl 0 rfl ?_
  refine y_aload_n dX8_weigh_29 rfl 0 rfl ?_
  refine y_iload_n dX8_weigh_30 rfl 1 rfl ?_
  refine y_aload_n dX8_weigh_31 rfl 0 rfl ?_
  refine z_geti (v := (w4 21 6)) dX8_weigh_32 flX8_33 (xlt rfl hn) rfl rfl rfl ?_
  refine y_iconst (v := (-1)) dX8_weigh_35 (by decide) ?_
  refine y_ixor dX8_weigh_36 ?_
  refine y_iand dX8_weigh_37 ?_
  refine y_callV (As := [.int (a1 &&& ((w4 21 6) ^^^ (-1 : Int32)))]) (d2 := d - 1) dX8_weigh_38 kX8_67 (by omega) rfl rfl (Nat.le_of_ble_eq_true rfl) (xlt rfl hn) rfl rfl (p_X8_weightOf hn (by omega)  _ _) (fun r5 w6 _ => ?_)
  refine y_puti dX8_weigh_41 flX8_73 (xlt rfl hn) rfl rfl ?_
  refine y_aload_n dX8_weigh_44 rfl 0 rfl ?_
  refine z_geti (v := (w6 21 9)) dX8_weigh_45 flX8_70 (xlt rfl hn) rfl rfl rfl ?_
  refine y_aload_n dX8_weigh_48 rfl 0 rfl ?_
  refine y_getr (q := 1) dX8_weigh_49 flX8_21 (xlt rfl hn) rfl rfl rfl ?_
  refine y_getr (q := 2) dX8_weigh_52 flX8_76 (xlt rfl hn) rfl rfl rfl ?_
  refine y_iconst (v := 0) dX8_weigh_55 (by decide) ?_
  refine z_iald0 (j := 0) (v := (w6 2 0)) dX8_weigh_56 (xlt rfl hn) rfl rfl rfl rfl ?_
  refine y_imul dX8_weigh_57 ?_
  refine y_aload_n dX8_weigh_58 rfl 0 rfl ?_
  refine z_geti (v := r5) dX8_weigh_59 flX8_73 (xlt rfl hn) rfl rfl rfl ?_
  refine y_aload_n dX8_weigh_62 rfl 0 rfl ?_
  refine y_getr (q := 1) dX8_weigh_63 flX8_21 (xlt rfl hn) rfl rfl rfl ?_
  refine y_getr (q := 2) dX8_weigh_66 flX8_76 (xlt rfl hn) rfl rfl rfl ?_
  refine y_iconst (v := 1) dX8_weigh_69 (by decide) ?_
  refine z_iald0 (j := 1) (v := (w6 2 1)) dX8_weigh_70 (xlt rfl hn) rfl rfl rfl rfl ?_
  refine y_imul dX8_weigh_71 ?_
  refine y_isub dX8_weigh_72 ?_
  refine y_mabs dX8_weigh_73 q708 (Nat.le_of_ble_eq_true rfl) (by omega) ?_
  refine y_let (fun x7 => ?_)
  refine y_istore_n (lv' := [(2, .int x7), (0, .ref 21), (1, .int a1)]) dX8_weigh_76 rfl (by decide) rfl ?_
  refine y_aload_n dX8_weigh_77 rfl 1 rfl ?_
  refine y_aload_n dX8_weigh_78 rfl 1 rfl ?_
  refine y_getr (q := 1) dX8_weigh_79 flX8_21 (xlt rfl hn) rfl rfl rfl ?_
  refine y_iload_n dX8_weigh_82 rfl 0 rfl ?_
  refine y_callV (As := [.int x7]) (d2 := d - 1) dX8_weigh_83 kX8_86 (by omega) rfl rfl (Nat.le_of_ble_eq_true rfl) (xlt rfl hn) rfl rfl (p_X5_offOf hn (by omega)  _ _) (fun r8 w9 _ => ?_)
  refine y_puti dX8_weigh_86 flX8_89 (xlt rfl hn) rfl rfl ?_
  refine y_aload_n dX8_weigh_89 rfl 1 rfl ?_
  refine y_aload_n dX8_weigh_90 rfl 1 rfl ?_
  refine z_geti (v := r8) dX8_weigh_91 flX8_89 (xlt rfl hn) rfl rfl rfl ?_
  refine y_iconst (v := (-1)) dX8_weigh_94 (by decide) ?_
  refine y_icmp_ne (tgt := 102) dX8_weigh_95 (by decide) ?_ ?_
  · refine y_aload_n dX8_weigh_102 rfl 1 rfl ?_
    refine y_getr (q := 1) dX8_weigh_103 flX8_21 (xlt rfl hn) rfl rfl rfl ?_
    refine y_iload_n dX8_weigh_106 rfl 0 rfl ?_
    refine y_aload_n dX8_weigh_107 rfl 1 rfl ?_
    refine z_geti (v := r8) dX8_weigh_108 flX8_89 (xlt rfl hn) rfl rfl rfl ?_
    refine y_callV (As := [.int x7, .int r8]) (d2 := d - 1) dX8_weigh_111 kX8_92 (by omega) rfl rfl (Nat.le_of_ble_eq_true rfl) (xlt rfl hn) rfl rfl (p_X5_stonesFor hn (by omega)  _ _ _) (fun r10 w11 _ => ?_)
    refine y_sub [(0, .ref 21), (1, .int a1)] [1, 2] rfl ?_
    refine p_X8_weigh_L114 hn hd a1 r10 w11 
  · refine y_iconst (v := 0) dX8_weigh_98 (by decide) ?_
    refine y_goto (tgt := 114) dX8_weigh_99 (by decide) ?_
    refine y_sub [(0, .ref 21), (1, .int a1)] [1, 2] rfl ?_
    refine p_X8_weigh_L114 hn hd a1 (0 : Int32) (xup w9 21 11 r8) 
-- ===== X7_joined: WeighedGate$Text.joined(III)I =====
set_option maxRecDepth 20000 in
set_option maxHeartbeats 2000000 in
theorem p_X7_joined {G : xG} {d : Nat} {n t : Nat} (hn : 71 ≤ n) (hd : 0 ≤ d) (a1 : Int32) (a2 : Int32) (a3 : Int32) (w : xI) : xMet G m_X7_joined d [.int a1, .int a2, .int a3] (xFin n t) w (fun x : Int32 => some (Value.int x)) (xFin n t) (f_X7_joined a1 a2 a3 w) := by
  refine xMet.of rfl (Nat.le_of_ble_eq_true rfl) ?_
  unfold f_X7_joined
  show xC G m_X7_joined d 0 [(0, .int a1), (1, .int a2), (2, .int a3)] [] (xFin n t) w _ _ _
  refine y_iload_n dX7_joined_0 rfl 0 rfl ?_
  refine xC.ite (fun hs1 => ?_) (fun hs1 => ?_)
  · refine y_table (tgt := 98) (v := -13) dX7_joined_1 hs1 (by decide) (by decide) rfl (by decide) ?_
    refine y_iload_n dX7_joined_98 rfl 1 rfl ?_
    refine y_iload_n dX7_joined_99 rfl 2 rfl ?_
    refine y_isub dX7_joined_100 ?_
    exact y_ireturn dX7_joined_101 rfl rfl rfl
  · refine xC.ite (fun hs2 => ?_) (fun hs2 => ?_)
    · refine y_table (tgt := 94) (v := -12) dX7_joined_1 hs2 (by decide) (by decide) rfl (by decide) ?_
      refine y_iload_n dX7_joined_94 rfl 1 rfl ?_
      refine y_iload_n dX7_joined_95 rfl 2 rfl ?_
      refine y_iadd dX7_joined_96 ?_
      exact y_ireturn dX7_joined_97 rfl rfl rfl
    · refine xC.ite (fun hs3 => ?_) (fun hs3 => ?_)
      · refine y_table (tgt := 83) (v := -11) dX7_joined_1 hs3 (by decide) (by decide) rfl (by decide) ?_
        refine y_iload_n dX7_joined_83 rfl 1 rfl ?_
        refine y_iload_n dX7_joined_84 rfl 2 rfl ?_
        refine y_icmp_ne (tgt := 92) dX7_joined_85 (by decide) ?_ ?_
        · refine y_iconst (v := 0) dX7_joined_92 (by decide) ?_
          exact y_ireturn dX7_joined_93 rfl rfl rfl
        · refine y_iconst (v := 1) dX7_joined_88 (by decide) ?_
          refine y_goto (tgt := 93) dX7_joined_89 (by decide) ?_
          exact y_ireturn dX7_joined_93 rfl rfl rfl
      · refine xC.ite (fun hs4 => ?_) (fun hs4 => ?_)
        · refine y_table (tgt := 72) (v := -10) dX7_joined_1 hs4 (by decide) (by decide) rfl (by decide) ?_
          refine y_iload_n dX7_joined_72 rfl 1 rfl ?_
          refine y_iload_n dX7_joined_73 rfl 2 rfl ?_
          refine y_icmp_ge (tgt := 81) dX7_joined_74 (by decide) ?_ ?_
          · refine y_iconst (v := 0) dX7_joined_81 (by decide) ?_
            exact y_ireturn dX7_joined_82 rfl rfl rfl
          · refine y_iconst (v := 1) dX7_joined_77 (by decide) ?_
            refine y_goto (tgt := 82) dX7_joined_78 (by decide) ?_
            exact y_ireturn dX7_joined_82 rfl rfl rfl
        · refine xC.ite (fun hs5 => ?_) (fun hs5 => ?_)
          · refine y_table (tgt := 102) (v := -9) dX7_joined_1 hs5 (by decide) (by decide) rfl (by decide) ?_
            refine y_iload_n dX7_joined_102 rfl 1 rfl ?_
            refine y_iload_n dX7_joined_103 rfl 2 rfl ?_
            refine y_imul dX7_joined_104 ?_
            exact y_ireturn dX7_joined_105 rfl rfl rfl
          · refine xC.ite (fun hs6 => ?_) (fun hs6 => ?_)
            · refine y_table (tgt := 58) (v := -8) dX7_joined_1 hs6 (by decide) (by decide) rfl (by decide) ?_
              refine y_iload_n dX7_joined_58 rfl 1 rfl ?_
              refine y_if_eq (tgt := 70) dX7_joined_59 (by decide) ?_ ?_
              · refine y_iconst (v := 0) dX7_joined_70 (by decide) ?_
                exact y_ireturn dX7_joined_71 rfl rfl rfl
              · refine y_iload_n dX7_joined_62 rfl 2 rfl ?_
                refine y_if_eq (tgt := 70) dX7_joined_63 (by decide) ?_ ?_
                · refine y_iconst (v := 0) dX7_joined_70 (by decide) ?_
                  exact y_ireturn dX7_joined_71 rfl rfl rfl
                · refine y_iconst (v := 1) dX7_joined_66 (by decide) ?_
                  refine y_goto (tgt := 71) dX7_joined_67 (by decide) ?_
                  exact y_ireturn dX7_joined_71 rfl rfl rfl
            · refine xC.ite (fun hs7 => ?_) (fun hs7 => ?_)
              · refine y_table (tgt := 44) (v := -7) dX7_joined_1 hs7 (by decide) (by decide) rfl (by decide) ?_
                refine y_iload_n dX7_joined_44 rfl 1 rfl ?_
                refine y_if_ne (tgt := 52) dX7_joined_45 (by decide) ?_ ?_
                · refine y_iconst (v := 1) dX7_joined_52 (by decide) ?_
                  refine y_goto (tgt := 57) dX7_joined_53 (by decide) ?_
                  exact y_ireturn dX7_joined_57 rfl rfl rfl
                · refine y_iload_n dX7_joined_48 rfl 2 rfl ?_
                  refine y_if_eq (tgt := 56) dX7_joined_49 (by decide) ?_ ?_
                  · refine y_iconst (v := 0) dX7_joined_56 (by decide) ?_
                    exact y_ireturn dX7_joined_57 rfl rfl rfl
                  · refine y_iconst (v := 1) dX7_joined_52 (by decide) ?_
                    refine y_goto (tgt := 57) dX7_joined_53 (by decide) ?_
                    exact y_ireturn dX7_joined_57 rfl rfl rfl
              · refine y_tableD (tgt := 102) dX7_joined_1 (by have z0 := lv_neT hs1 (show (-13 : Int32).toInt = -13 from rfl); have z1 := lv_neT hs2 (show (-12 : Int32).toInt = -12 from rfl); have z2 := lv_neT hs3 (show (-11 : Int32).toInt = -11 from rfl); have z3 := lv_neT hs4 (show (-10 : Int32).toInt = -10 from rfl); have z4 := lv_neT hs5 (show (-9 : Int32).toInt = -9 from rfl); have z5 := lv_neT hs6 (show (-8 : Int32).toInt = -8 from rfl); have z6 := lv_neT hs7 (show (-7 : Int32).toInt = -7 from rfl); omega) (by decide) ?_
                refine y_iload_n dX7_joined_102 rfl 1 rfl ?_
                refine y_iload_n dX7_joined_103 rfl 2 rfl ?_
                refine y_imul dX7_joined_104 ?_
                exact y_ireturn dX7_joined_105 rfl rfl rfl
-- ===== X7_says: WeighedGate$Text.says(I[I)I =====
set_option maxRecDepth 20000 in
set_option maxHeartbeats 2000000 in
theorem p_X7_says_L153 {G : xG} {d : Nat} {n t : Nat} (hn : 71 ≤ n) (hd : 1 ≤ d) {o0 : Nat} (ho0 : okT o0) {o2 : Nat} (ho2 : okA o2 6) {K20 : Int32 → Int32 → Int32 → xI → Option (Int32 × xI)} (hK20 : ∀ (v1 : Int32) (v3 : Int32) (v4 : Int32) (w : xI), xC G m_X7_says d 20 [(0, .ref o0), (1, .int v1), (2, .ref o2), (3, .int v3), (4, .int v4)] [] (xFin n t) w (fun x : Int32 => some (Value.int x)) (xFin n t) (K20 v1 v3 v4 w)) (v1 : Int32) (v3 : Int32) (v4 : Int32) (v5 : Int32) (w : xI) : xC G m_X7_says d 153 [(0, .ref o0), (1, .int v1), (2, .ref o2), (3, .int v3), (4, .int v4), (5, .int v5)] [] (xFin n t) w (fun x : Int32 => some (Value.int x)) (xFin n t) (f_X7_says_L153 o0 o2 K20 v1 v3 v4 v5 w) := by
  unfold f_X7_says_L153
  refine y_iload_n dX7_says_153 rfl 3 rfl ?_
  refine y_iconst (v := 2) dX7_says_154 (by decide) ?_
  refine y_icmp_lt (tgt := 188) dX7_says_155 (by decide) ?_ ?_
  · refine z_iinc (j := 4) dX7_says_188 (by decide) rfl (by decide) (fun x153001 => ?_)
    refine y_loc (lv' := [(4, .int x153001), (0, .ref o0), (1, .int v1), (2, .ref o2), (3, .int v3), (5, .int v5)]) rfl ?_
    refine y_goto (tgt := 20) dX7_says_191 (by decide) ?_
    refine y_sub [(0, .ref o0), (1, .int v1), (2, .ref o2), (3, .int v3), (4, .int x153001)] [1, 2, 3, 4, 0] rfl ?_
    exact hK20 v1 v3 x153001 w 
  · refine z_iinc (j := 3) dX7_says_158 (by decide) rfl (by decide) (fun x153002 => ?_)
    refine y_loc (lv' := [(3, .int x153002), (0, .ref o0), (1, .int v1), (2, .ref o2), (4, .int v4), (5, .int v5)]) rfl ?_
    refine y_aload_n dX7_says_161 rfl 1 rfl ?_
    refine y_getr (q := (o0 + 3)) dX7_says_162 flX7_18 (okT_k ho0 hn) (okT_s ho0) rfl (okT_r3 ho0 _) ?_
    refine y_iload_n dX7_says_165 rfl 0 rfl ?_
    refine y_iconst (v := 1) dX7_says_166 (by decide) ?_
    refine y_isub dX7_says_167 ?_
    refine y_iload dX7_says_168 5 rfl ?_
    refine y_aload_n dX7_says_170 rfl 1 rfl ?_
    refine y_getr (q := (o0 + 3)) dX7_says_171 flX7_18 (okT_k ho0 hn) (okT_s ho0) rfl (okT_r3 ho0 _) ?_
    refine y_iload_n dX7_says_174 rfl 0 rfl ?_
    refine y_iconst (v := 1) dX7_says_175 (by decide) ?_
    refine y_isub dX7_says_176 ?_
    refine z_iald (v := (w (o0 + 3) (x153002 - (1 : Int32)).toNatClampNeg)) dX7_says_177 (okT_k3 ho0 hn) (okT_s3 ho0) rfl ?_
    refine y_aload_n dX7_says_178 rfl 1 rfl ?_
    refine y_getr (q := (o0 + 3)) dX7_says_179 flX7_18 (okT_k ho0 hn) (okT_s ho0) rfl (okT_r3 ho0 _) ?_
    refine y_iload_n dX7_says_182 rfl 0 rfl ?_
    refine z_iald (v := (w (o0 + 3) x153002.toNatClampNeg)) dX7_says_183 (okT_k3 ho0 hn) (okT_s3 ho0) rfl ?_
    refine y_callS (As := [.int v5, .int (w (o0 + 3) (x153002 - (1 : Int32)).toNatClampNeg), .int (w (o0 + 3) x153002.toNatClampNeg)]) (d2 := d - 1) dX7_says_184 kX7_25 (by omega) rfl rfl (Nat.le_of_ble_eq_true rfl) (p_X7_joined hn (by omega)  _ _ _ _) (fun r153003 w153004 _ => ?_)
    refine y_iast dX7_says_187 (okT_k3 ho0 hn) (okT_s3 ho0) ?_
    refine z_iinc (j := 4) dX7_says_188 (by decide) rfl (by decide) (fun x153005 => ?_)
    refine y_loc (lv' := [(4, .int x153005), (3, .int x153002), (0, .ref o0), (1, .int v1), (2, .ref o2), (5, .int v5)]) rfl ?_
    refine y_goto (tgt := 20) dX7_says_191 (by decide) ?_
    refine y_sub [(0, .ref o0), (1, .int v1), (2, .ref o2), (3, .int x153002), (4, .int x153005)] [2, 3, 4, 1, 0] rfl ?_
    exact hK20 v1 x153002 x153005 (xup w153004 (o0 + 3) (x153002 - (1 : Int32)).toNatClampNeg r153003) 
set_option maxRecDepth 20000 in
set_option maxHeartbeats 2000000 in
theorem p_X7_says_L121 {G : xG} {d : Nat} {n t : Nat} (hn : 71 ≤ n) (hd : 1 ≤ d) {o0 : Nat} (ho0 : okT o0) {o2 : Nat} (ho2 : okA o2 6) {K20 : Int32 → Int32 → Int32 → xI → Option (Int32 × xI)} (hK20 : ∀ (v1 : Int32) (v3 : Int32) (v4 : Int32) (w : xI), xC G m_X7_says d 20 [(0, .ref o0), (1, .int v1), (2, .ref o2), (3, .int v3), (4, .int v4)] [] (xFin n t) w (fun x : Int32 => some (Value.int x)) (xFin n t) (K20 v1 v3 v4 w)) (v1 : Int32) (v3 : Int32) (v4 : Int32) (v5 : Int32) (w : xI) : xC G m_X7_says d 121 [(0, .ref o0), (1, .int v1), (2, .ref o2), (3, .int v3), (4, .int v4), (5, .int v5)] [] (xFin n t) w (fun x : Int32 => some (Value.int x)) (xFin n t) (f_X7_says_L121 o0 o2 K20 v1 v3 v4 v5 w) := by
  unfold f_X7_says_L121
  refine y_iload dX7_says_121 5 rfl ?_
  refine y_bipush (v := (-15)) dX7_says_123 (by decide) ?_
  refine y_icmp_ne (tgt := 153) dX7_says_125 (by decide) ?_ ?_
  · refine p_X7_says_L153 hn hd ho0 ho2 ?_ v1 v3 v4 v5 w 
    · intro v1_121001 v3_121001 v4_121001 w121001 
      exact hK20 v1_121001 v3_121001 v4_121001 w121001 
  · refine y_iload_n dX7_says_128 rfl 3 rfl ?_
    refine y_iconst (v := 1) dX7_says_129 (by decide) ?_
    refine y_icmp_lt (tgt := 153) dX7_says_130 (by decide) ?_ ?_
    · refine p_X7_says_L153 hn hd ho0 ho2 ?_ v1 v3 v4 v5 w 
      · intro v1_121002 v3_121002 v4_121002 w121002 
        exact hK20 v1_121002 v3_121002 v4_121002 w121002 
    · refine y_aload_n dX7_says_133 rfl 0 rfl ?_
      refine y_getr (q := (o0 + 3)) dX7_says_134 flX7_18 (okT_k ho0 hn) (okT_s ho0) rfl (okT_r3 ho0 _) ?_
      refine y_iload_n dX7_says_137 rfl 3 rfl ?_
      refine y_iconst (v := 1) dX7_says_138 (by decide) ?_
      refine y_isub dX7_says_139 ?_
      refine y_aload_n dX7_says_140 rfl 0 rfl ?_
      refine y_getr (q := (o0 + 3)) dX7_says_141 flX7_18 (okT_k ho0 hn) (okT_s ho0) rfl (okT_r3 ho0 _) ?_
      refine y_iload_n dX7_says_144 rfl 3 rfl ?_
      refine y_iconst (v := 1) dX7_says_145 (by decide) ?_
      refine y_isub dX7_says_146 ?_
      refine z_iald (v := (w (o0 + 3) (v3 - (1 : Int32)).toNatClampNeg)) dX7_says_147 (okT_k3 ho0 hn) (okT_s3 ho0) rfl ?_
      refine y_ineg dX7_says_148 ?_
      refine y_iast dX7_says_149 (okT_k3 ho0 hn) (okT_s3 ho0) ?_
      refine y_goto (tgt := 188) dX7_says_150 (by decide) ?_
      refine z_iinc (j := 4) dX7_says_188 (by decide) rfl (by decide) (fun x121003 => ?_)
      refine y_loc (lv' := [(4, .int x121003), (0, .ref o0), (1, .int v1), (2, .ref o2), (3, .int v3), (5, .int v5)]) rfl ?_
      refine y_goto (tgt := 20) dX7_says_191 (by decide) ?_
      refine y_sub [(0, .ref o0), (1, .int v1), (2, .ref o2), (3, .int v3), (4, .int x121003)] [1, 2, 3, 4, 0] rfl ?_
      exact hK20 v1 v3 x121003 (xup w (o0 + 3) (v3 - (1 : Int32)).toNatClampNeg (-(w (o0 + 3) (v3 - (1 : Int32)).toNatClampNeg))) 
set_option maxRecDepth 20000 in
set_option maxHeartbeats 2000000 in
theorem p_X7_says_L210 {G : xG} {d : Nat} {n t : Nat} (hn : 71 ≤ n) (hd : 1 ≤ d) {o0 : Nat} (ho0 : okT o0) {o2 : Nat} (ho2 : okA o2 6) (v1 : Int32) (s0 : Int32) (w : xI) : xC G m_X7_says d 210 [(1, .int v1)] [.int s0] (xFin n t) w (fun x : Int32 => some (Value.int x)) (xFin n t) (f_X7_says_L210 o0 o2 v1 s0 w) := by
  unfold f_X7_says_L210
  refine y_istore (lv' := [(4, .int s0), (1, .int v1)]) dX7_says_210 (by decide) rfl ?_
  refine y_iload_n dX7_says_212 rfl 1 rfl ?_
  refine y_if_ne (tgt := 227) dX7_says_213 (by decide) ?_ ?_
  · refine y_iconst (v := 0) dX7_says_227 (by decide) ?_
    refine y_bipush (v := 99) dX7_says_228 (by decide) ?_
    refine y_iload dX7_says_230 0 rfl ?_
    refine y_mmin dX7_says_232 q586 (Nat.le_of_ble_eq_true rfl) (by omega) ?_
    refine y_mmax dX7_says_235 q589 (Nat.le_of_ble_eq_true rfl) (by omega) ?_
    exact y_ireturn dX7_says_238 rfl rfl rfl
  · refine y_iload dX7_says_216 0 rfl ?_
    refine y_if_eq (tgt := 225) dX7_says_218 (by decide) ?_ ?_
    · refine y_iconst (v := 0) dX7_says_225 (by decide) ?_
      exact y_ireturn dX7_says_226 rfl rfl rfl
    · refine y_iconst (v := 1) dX7_says_221 (by decide) ?_
      refine y_goto (tgt := 226) dX7_says_222 (by decide) ?_
      exact y_ireturn dX7_says_226 rfl rfl rfl
set_option maxRecDepth 20000 in
set_option maxHeartbeats 2000000 in
theorem p_X7_says_L82 {G : xG} {d : Nat} {n t : Nat} (hn : 71 ≤ n) (hd : 1 ≤ d) {o0 : Nat} (ho0 : okT o0) {o2 : Nat} (ho2 : okA o2 6) {K20 : Int32 → Int32 → Int32 → xI → Option (Int32 × xI)} (hK20 : ∀ (v1 : Int32) (v3 : Int32) (v4 : Int32) (w : xI), xC G m_X7_says d 20 [(0, .ref o0), (1, .int v1), (2, .ref o2), (3, .int v3), (4, .int v4)] [] (xFin n t) w (fun x : Int32 => some (Value.int x)) (xFin n t) (K20 v1 v3 v4 w)) (v1 : Int32) (v3 : Int32) (v4 : Int32) (v5 : Int32) (w : xI) : xC G m_X7_says d 82 [(0, .ref o0), (1, .int v1), (2, .ref o2), (3, .int v3), (4, .int v4), (5, .int v5)] [] (xFin n t) w (fun x : Int32 => some (Value.int x)) (xFin n t) (f_X7_says_L82 o0 o2 K20 v1 v3 v4 v5 w) := by
  unfold f_X7_says_L82
  refine y_iload dX7_says_82 5 rfl ?_
  refine y_bipush (v := (-9)) dX7_says_84 (by decide) ?_
  refine y_icmp_ne (tgt := 121) dX7_says_86 (by decide) ?_ ?_
  · refine p_X7_says_L121 hn hd ho0 ho2 ?_ v1 v3 v4 v5 w 
    · intro v1_82001 v3_82001 v4_82001 w82001 
      exact hK20 v1_82001 v3_82001 v4_82001 w82001 
  · refine y_iload_n dX7_says_89 rfl 3 rfl ?_
    refine y_iconst (v := 1) dX7_says_90 (by decide) ?_
    refine y_icmp_lt (tgt := 121) dX7_says_91 (by decide) ?_ ?_
    · refine p_X7_says_L121 hn hd ho0 ho2 ?_ v1 v3 v4 v5 w 
      · intro v1_82002 v3_82002 v4_82002 w82002 
        exact hK20 v1_82002 v3_82002 v4_82002 w82002 
    · refine y_aload_n dX7_says_94 rfl 0 rfl ?_
      refine y_getr (q := (o0 + 3)) dX7_says_95 flX7_18 (okT_k ho0 hn) (okT_s ho0) rfl (okT_r3 ho0 _) ?_
      refine y_iload_n dX7_says_98 rfl 3 rfl ?_
      refine y_iconst (v := 1) dX7_says_99 (by decide) ?_
      refine y_isub dX7_says_100 ?_
      refine y_aload_n dX7_says_101 rfl 0 rfl ?_
      refine y_getr (q := (o0 + 3)) dX7_says_102 flX7_18 (okT_k ho0 hn) (okT_s ho0) rfl (okT_r3 ho0 _) ?_
      refine y_iload_n dX7_says_105 rfl 3 rfl ?_
      refine y_iconst (v := 1) dX7_says_106 (by decide) ?_
      refine y_isub dX7_says_107 ?_
      refine z_iald (v := (w (o0 + 3) (v3 - (1 : Int32)).toNatClampNeg)) dX7_says_108 (okT_k3 ho0 hn) (okT_s3 ho0) rfl ?_
      refine y_if_ne (tgt := 116) dX7_says_109 (by decide) ?_ ?_
      · refine y_iconst (v := 0) dX7_says_116 (by decide) ?_
        refine y_iast dX7_says_117 (okT_k3 ho0 hn) (okT_s3 ho0) ?_
        refine y_goto (tgt := 188) dX7_says_118 (by decide) ?_
        refine z_iinc (j := 4) dX7_says_188 (by decide) rfl (by decide) (fun x82003 => ?_)
        refine y_loc (lv' := [(4, .int x82003), (0, .ref o0), (1, .int v1), (2, .ref o2), (3, .int v3), (5, .int v5)]) rfl ?_
        refine y_goto (tgt := 20) dX7_says_191 (by decide) ?_
        refine y_sub [(0, .ref o0), (1, .int v1), (2, .ref o2), (3, .int v3), (4, .int x82003)] [1, 2, 3, 4, 0] rfl ?_
        exact hK20 v1 v3 x82003 (xup w (o0 + 3) (v3 - (1 : Int32)).toNatClampNeg (0 : Int32)) 
      · refine y_iconst (v := 1) dX7_says_112 (by decide) ?_
        refine y_goto (tgt := 117) dX7_says_113 (by decide) ?_
        refine y_iast dX7_says_117 (okT_k3 ho0 hn) (okT_s3 ho0) ?_
        refine y_goto (tgt := 188) dX7_says_118 (by decide) ?_
        refine z_iinc (j := 4) dX7_says_188 (by decide) rfl (by decide) (fun x82004 => ?_)
        refine y_loc (lv' := [(4, .int x82004), (0, .ref o0), (1, .int v1), (2, .ref o2), (3, .int v3), (5, .int v5)]) rfl ?_
        refine y_goto (tgt := 20) dX7_says_191 (by decide) ?_
        refine y_sub [(0, .ref o0), (1, .int v1), (2, .ref o2), (3, .int v3), (4, .int x82004)] [1, 2, 3, 4, 0] rfl ?_
        exact hK20 v1 v3 x82004 (xup w (o0 + 3) (v3 - (1 : Int32)).toNatClampNeg (1 : Int32)) 
set_option maxRecDepth 20000 in
set_option maxHeartbeats 2000000 in
theorem p_X7_says_L20 {G : xG} {d : Nat} {n t : Nat} (hn : 71 ≤ n) (hd : 1 ≤ d) {o0 : Nat} (ho0 : okT o0) {o2 : Nat} (ho2 : okA o2 6) : ∀ (fu : Nat) (v1 : Int32) (v3 : Int32) (v4 : Int32) (w : xI), xC G m_X7_says d 20 [(0, .ref o0), (1, .int v1), (2, .ref o2), (3, .int v3), (4, .int v4)] [] (xFin n t) w (fun x : Int32 => some (Value.int x)) (xFin n t) (f_X7_says_L20 o0 o2 fu v1 v3 v4 w) := by
  intro fu
  induction fu with
  | zero => intro v1 v3 v4 w; exact xC.none
  | succ fu ih =>
    intro v1 v3 v4 w
    rw [f_X7_says_L20]
    refine y_iload dX7_says_20 4 rfl ?_
    refine y_aload_n dX7_says_22 rfl 0 rfl ?_
    refine y_getr (q := (o0 + 2)) dX7_says_23 flX7_15 (okT_k ho0 hn) (okT_s ho0) rfl (okT_r2 ho0 _) ?_
    refine y_iload_n dX7_says_26 rfl 1 rfl ?_
    refine z_iald (v := (w (o0 + 2) v1.toNatClampNeg)) dX7_says_27 (okT_k2 ho0 hn) (okT_s2 ho0) rfl ?_
    refine y_icmp_ge (tgt := 194) dX7_says_28 (by decide) ?_ ?_
    · refine y_iload_n dX7_says_194 rfl 3 rfl ?_
      refine y_if_le (tgt := 209) dX7_says_195 (by decide) ?_ ?_
      · refine y_iconst (v := 0) dX7_says_209 (by decide) ?_
        refine y_sub [(1, .int v1)] [1] rfl ?_
        refine p_X7_says_L210 hn hd ho0 ho2 v1 (0 : Int32) w 
      · refine y_aload_n dX7_says_198 rfl 0 rfl ?_
        refine y_getr (q := (o0 + 3)) dX7_says_199 flX7_18 (okT_k ho0 hn) (okT_s ho0) rfl (okT_r3 ho0 _) ?_
        refine y_iload_n dX7_says_202 rfl 3 rfl ?_
        refine y_iconst (v := 1) dX7_says_203 (by decide) ?_
        refine y_isub dX7_says_204 ?_
        refine z_iald (v := (w (o0 + 3) (v3 - (1 : Int32)).toNatClampNeg)) dX7_says_205 (okT_k3 ho0 hn) (okT_s3 ho0) rfl ?_
        refine y_goto (tgt := 210) dX7_says_206 (by decide) ?_
        refine y_sub [(1, .int v1)] [1] rfl ?_
        refine p_X7_says_L210 hn hd ho0 ho2 v1 (w (o0 + 3) (v3 - (1 : Int32)).toNatClampNeg) w 
    · refine y_aload_n dX7_says_31 rfl 0 rfl ?_
      refine y_getr (q := (o0 + 1)) dX7_says_32 flX7_9 (okT_k ho0 hn) (okT_s ho0) rfl (okT_r1 ho0 _) ?_
      refine y_iload dX7_says_35 4 rfl ?_
      refine z_iald (v := (w (o0 + 1) v4.toNatClampNeg)) dX7_says_37 (okT_k1 ho0 hn) (okT_s1 ho0) rfl ?_
      refine y_let (fun x20001 => ?_)
      refine y_istore (lv' := [(5, .int x20001), (0, .ref o0), (1, .int v1), (2, .ref o2), (3, .int v3), (4, .int v4)]) dX7_says_38 (by decide) rfl ?_
      refine y_iload dX7_says_40 0 rfl ?_
      refine y_bipush (v := (-6)) dX7_says_42 (by decide) ?_
      refine y_icmp_lt (tgt := 82) dX7_says_44 (by decide) ?_ ?_
      · refine y_sub [(0, .ref o0), (1, .int v1), (2, .ref o2), (3, .int v3), (4, .int v4), (5, .int x20001)] [1, 2, 3, 4, 5, 0] rfl ?_
        refine p_X7_says_L82 hn hd ho0 ho2 ?_ v1 v3 v4 x20001 w 
        · intro v1_20002 v3_20002 v4_20002 w20002 
          exact ih v1_20002 v3_20002 v4_20002 w20002 
      · refine y_iload_n dX7_says_47 rfl 4 rfl ?_
        refine y_sipush (v := 160) dX7_says_48 (by decide) ?_
        refine y_icmp_ge (tgt := 82) dX7_says_51 (by decide) ?_ ?_
        · refine y_sub [(0, .ref o0), (1, .int v1), (2, .ref o2), (3, .int v3), (4, .int v4), (5, .int x20001)] [1, 2, 3, 4, 5, 0] rfl ?_
          refine p_X7_says_L82 hn hd ho0 ho2 ?_ v1 v3 v4 x20001 w 
          · intro v1_20003 v3_20003 v4_20003 w20003 
            exact ih v1_20003 v3_20003 v4_20003 w20003 
        · refine y_aload_n dX7_says_54 rfl 1 rfl ?_
          refine y_getr (q := (o0 + 3)) dX7_says_55 flX7_18 (okT_k ho0 hn) (okT_s ho0) rfl (okT_r3 ho0 _) ?_
          refine y_iload_n dX7_says_58 rfl 4 rfl ?_
          refine y_iload dX7_says_59 0 rfl ?_
          refine y_if_lt (tgt := 69) dX7_says_61 (by decide) ?_ ?_
          · refine y_aload_n dX7_says_69 rfl 3 rfl ?_
            refine y_iconst (v := (-1)) dX7_says_70 (by decide) ?_
            refine y_iload dX7_says_71 0 rfl ?_
            refine y_isub dX7_says_73 ?_
            refine z_iald (v := (w o2 ((-1 : Int32) - x20001).toNatClampNeg)) dX7_says_74 (okA_k ho2 hn) (okA_s ho2) rfl ?_
            refine y_iast dX7_says_75 (okT_k3 ho0 hn) (okT_s3 ho0) ?_
            refine z_iinc (j := 4) dX7_says_76 (by decide) rfl (by decide) (fun x20004 => ?_)
            refine y_loc (lv' := [(3, .int x20004), (5, .int x20001), (0, .ref o0), (1, .int v1), (2, .ref o2), (4, .int v4)]) rfl ?_
            refine y_goto (tgt := 188) dX7_says_79 (by decide) ?_
            refine z_iinc (j := 5) dX7_says_188 (by decide) rfl (by decide) (fun x20005 => ?_)
            refine y_loc (lv' := [(4, .int x20005), (3, .int x20004), (5, .int x20001), (0, .ref o0), (1, .int v1), (2, .ref o2)]) rfl ?_
            refine y_goto (tgt := 20) dX7_says_191 (by decide) ?_
            refine y_sub [(0, .ref o0), (1, .int v1), (2, .ref o2), (3, .int x20004), (4, .int x20005)] [3, 4, 5, 1, 0] rfl ?_
            exact ih v1 x20004 x20005 (xup w (o0 + 3) v3.toNatClampNeg (w o2 ((-1 : Int32) - x20001).toNatClampNeg)) 
          · refine y_iload dX7_says_64 0 rfl ?_
            refine y_goto (tgt := 75) dX7_says_66 (by decide) ?_
            refine y_iast dX7_says_75 (okT_k3 ho0 hn) (okT_s3 ho0) ?_
            refine z_iinc (j := 4) dX7_says_76 (by decide) rfl (by decide) (fun x20006 => ?_)
            refine y_loc (lv' := [(3, .int x20006), (5, .int x20001), (0, .ref o0), (1, .int v1), (2, .ref o2), (4, .int v4)]) rfl ?_
            refine y_goto (tgt := 188) dX7_says_79 (by decide) ?_
            refine z_iinc (j := 5) dX7_says_188 (by decide) rfl (by decide) (fun x20007 => ?_)
            refine y_loc (lv' := [(4, .int x20007), (3, .int x20006), (5, .int x20001), (0, .ref o0), (1, .int v1), (2, .ref o2)]) rfl ?_
            refine y_goto (tgt := 20) dX7_says_191 (by decide) ?_
            refine y_sub [(0, .ref o0), (1, .int v1), (2, .ref o2), (3, .int x20006), (4, .int x20007)] [3, 4, 5, 1, 0] rfl ?_
            exact ih v1 x20006 x20007 (xup w (o0 + 3) v3.toNatClampNeg x20001) 
set_option maxRecDepth 20000 in
set_option maxHeartbeats 2000000 in
theorem p_X7_says {G : xG} {d : Nat} {n t : Nat} (hn : 71 ≤ n) (hd : 1 ≤ d) {o0 : Nat} (ho0 : okT o0) {o2 : Nat} (ho2 : okA o2 6) (a1 : Int32) (w : xI) : xMet G m_X7_says d [.ref o0, .int a1, .ref o2] (xFin n t) w (fun x : Int32 => some (Value.int x)) (xFin n t) (f_X7_says o0 a1 o2 w) := by
  refine xMet.of rfl (Nat.le_of_ble_eq_true rfl) ?_
  unfold f_X7_says
  show xC G m_X7_says d 0 [(0, .ref o0), (1, .int a1), (2, .ref o2)] [] (xFin n t) w _ _ _
  refine y_iconst (v := 0) dX7_says_0 (by decide) ?_
  refine y_istore_n (lv' := [(3, .int (0 : Int32)), (0, .ref o0), (1, .int a1), (2, .ref o2)]) dX7_says_1 rfl (by decide) rfl ?_
  refine y_iload_n dX7_says_2 rfl 2 rfl ?_
  refine y_if_ne (tgt := 10) dX7_says_3 (by decide) ?_ ?_
  · refine y_aload_n dX7_says_10 rfl 1 rfl ?_
    refine y_getr (q := (o0 + 2)) dX7_says_11 flX7_15 (okT_k ho0 hn) (okT_s ho0) rfl (okT_r2 ho0 _) ?_
    refine y_iload_n dX7_says_14 rfl 2 rfl ?_
    refine y_iconst (v := 1) dX7_says_15 (by decide) ?_
    refine y_isub dX7_says_16 ?_
    refine z_iald (v := (w (o0 + 2) (a1 - (1 : Int32)).toNatClampNeg)) dX7_says_17 (okT_k2 ho0 hn) (okT_s2 ho0) rfl ?_
    refine y_let (fun x1 => ?_)
    refine y_istore (lv' := [(4, .int x1), (3, .int (0 : Int32)), (0, .ref o0), (1, .int a1), (2, .ref o2)]) dX7_says_18 (by decide) rfl ?_
    refine y_sub [(0, .ref o0), (1, .int a1), (2, .ref o2), (3, .int (0 : Int32)), (4, .int x1)] [2, 3, 4, 1, 0] rfl ?_
    refine p_X7_says_L20 hn hd ho0 ho2 2000 a1 (0 : Int32) x1 w 
  · refine y_iconst (v := 0) dX7_says_6 (by decide) ?_
    refine y_goto (tgt := 18) dX7_says_7 (by decide) ?_
    refine y_istore (lv' := [(4, .int (0 : Int32)), (3, .int (0 : Int32)), (0, .ref o0), (1, .int a1), (2, .ref o2)]) dX7_says_18 (by decide) rfl ?_
    refine y_sub [(0, .ref o0), (1, .int a1), (2, .ref o2), (3, .int (0 : Int32)), (4, .int (0 : Int32))] [2, 3, 4, 1, 0] rfl ?_
    refine p_X7_says_L20 hn hd ho0 ho2 2000 a1 (0 : Int32) (0 : Int32) w 
-- ===== X8_mayBe: WeighedGate$Weighing.mayBe(LWeighedGate$Text;)Z =====
set_option maxRecDepth 20000 in
set_option maxHeartbeats 2000000 in
theorem p_X8_mayBe {G : xG} {d : Nat} {n t : Nat} (hn : 71 ≤ n) (hd : 2 ≤ d) {o1 : Nat} (ho1 : okT o1) (w : xI) : xMet G m_X8_mayBe d [.ref 21, .ref o1] (xFin n t) w (fun x : Int32 => some (Value.int x)) (xFin n t) (f_X8_mayBe o1 w) := by
  refine xMet.of rfl (Nat.le_of_ble_eq_true rfl) ?_
  unfold f_X8_mayBe
  show xC G m_X8_mayBe d 0 [(0, .ref 21), (1, .ref o1)] [] (xFin n t) w _ _ _
  refine y_aload_n dX8_mayBe_0 rfl 0 rfl ?_
  refine y_aload_n dX8_mayBe_1 rfl 0 rfl ?_
  refine z_geti (v := (w 21 7)) dX8_mayBe_2 flX8_59 (xlt rfl hn) rfl rfl rfl ?_
  refine y_callV (As := [.int (w 21 7)]) (d2 := d - 1) dX8_mayBe_5 kX8_107 (by omega) rfl rfl (Nat.le_of_ble_eq_true rfl) (xlt rfl hn) rfl rfl (p_X8_fillsPans hn (by omega)  _ _) (fun r1 w2 _ => ?_)
  refine y_if_eq (tgt := 50) dX8_mayBe_8 (by decide) ?_ ?_
  · refine y_iconst (v := 0) dX8_mayBe_50 (by decide) ?_
    exact y_ireturn dX8_mayBe_51 rfl rfl rfl
  · refine y_aload_n dX8_mayBe_11 rfl 0 rfl ?_
    refine z_geti (v := (w2 21 7)) dX8_mayBe_12 flX8_59 (xlt rfl hn) rfl rfl rfl ?_
    refine y_aload_n dX8_mayBe_15 rfl 0 rfl ?_
    refine z_geti (v := (w2 21 5)) dX8_mayBe_16 flX8_29 (xlt rfl hn) rfl rfl rfl ?_
    refine y_iconst (v := (-1)) dX8_mayBe_19 (by decide) ?_
    refine y_ixor dX8_mayBe_20 ?_
    refine y_iand dX8_mayBe_21 ?_
    refine y_if_ne (tgt := 50) dX8_mayBe_22 (by decide) ?_ ?_
    · refine y_iconst (v := 0) dX8_mayBe_50 (by decide) ?_
      exact y_ireturn dX8_mayBe_51 rfl rfl rfl
    · refine y_aload_n dX8_mayBe_25 rfl 0 rfl ?_
      refine z_geti (v := (w2 21 11)) dX8_mayBe_26 flX8_89 (xlt rfl hn) rfl rfl rfl ?_
      refine y_iconst (v := (-1)) dX8_mayBe_29 (by decide) ?_
      refine y_icmp_eq (tgt := 50) dX8_mayBe_30 (by decide) ?_ ?_
      · refine y_iconst (v := 0) dX8_mayBe_50 (by decide) ?_
        exact y_ireturn dX8_mayBe_51 rfl rfl rfl
      · refine y_aload_n dX8_mayBe_33 rfl 1 rfl ?_
        refine y_iconst (v := 0) dX8_mayBe_34 (by decide) ?_
        refine y_aload_n dX8_mayBe_35 rfl 0 rfl ?_
        refine y_getr (q := 24) dX8_mayBe_36 flX8_18 (xlt rfl hn) rfl rfl rfl ?_
        refine y_callV (As := [.int (0 : Int32), .ref 24]) (d2 := d - 1) dX8_mayBe_39 kX8_111 (by omega) rfl rfl (Nat.le_of_ble_eq_true rfl) (okT_k ho1 hn) (okT_s ho1) rfl (p_X7_says hn (by omega) ho1 (okA_c (by decide) rfl) _ _) (fun r3 w4 _ => ?_)
        refine y_iconst (v := 1) dX8_mayBe_42 (by decide) ?_
        refine y_icmp_ne (tgt := 50) dX8_mayBe_43 (by decide) ?_ ?_
        · refine y_iconst (v := 0) dX8_mayBe_50 (by decide) ?_
          exact y_ireturn dX8_mayBe_51 rfl rfl rfl
        · refine y_iconst (v := 1) dX8_mayBe_46 (by decide) ?_
          refine y_goto (tgt := 51) dX8_mayBe_47 (by decide) ?_
          exact y_ireturn dX8_mayBe_51 rfl rfl rfl
-- ===== X8_brings: WeighedGate$Weighing.brings(LWeighedGate$Text;)I =====
set_option maxRecDepth 20000 in
set_option maxHeartbeats 2000000 in
theorem p_X8_brings {G : xG} {d : Nat} {n t : Nat} (hn : 71 ≤ n) (hd : 2 ≤ d) {o1 : Nat} (ho1 : okT o1) (w : xI) : xMet G m_X8_brings d [.ref 21, .ref o1] (xFin n t) w (fun x : Int32 => some (Value.int x)) (xFin n t) (f_X8_brings o1 w) := by
  refine xMet.of rfl (Nat.le_of_ble_eq_true rfl) ?_
  unfold f_X8_brings
  show xC G m_X8_brings d 0 [(0, .ref 21), (1, .ref o1)] [] (xFin n t) w _ _ _
  refine y_aload_n dX8_brings_0 rfl 0 rfl ?_
  refine z_geti (v := (w 21 8)) dX8_brings_1 flX8_65 (xlt rfl hn) rfl rfl rfl ?_
  refine y_aload_n dX8_brings_4 rfl 1 rfl ?_
  refine y_iconst (v := 1) dX8_brings_5 (by decide) ?_
  refine y_aload_n dX8_brings_6 rfl 0 rfl ?_
  refine y_getr (q := 24) dX8_brings_7 flX8_18 (xlt rfl hn) rfl rfl rfl ?_
  refine y_callV (As := [.int (1 : Int32), .ref 24]) (d2 := d - 1) dX8_brings_10 kX8_111 (by omega) rfl rfl (Nat.le_of_ble_eq_true rfl) (okT_k ho1 hn) (okT_s ho1) rfl (p_X7_says hn (by omega) ho1 (okA_c (by decide) rfl) _ _) (fun r1 w2 _ => ?_)
  refine y_isub dX8_brings_13 ?_
  refine y_aload_n dX8_brings_14 rfl 1 rfl ?_
  refine y_iconst (v := 2) dX8_brings_15 (by decide) ?_
  refine y_aload_n dX8_brings_16 rfl 0 rfl ?_
  refine y_getr (q := 24) dX8_brings_17 flX8_18 (xlt rfl hn) rfl rfl rfl ?_
  refine y_callV (As := [.int (2 : Int32), .ref 24]) (d2 := d - 1) dX8_brings_20 kX8_111 (by omega) rfl rfl (Nat.le_of_ble_eq_true rfl) (okT_k ho1 hn) (okT_s ho1) rfl (p_X7_says hn (by omega) ho1 (okA_c (by decide) rfl) _ _) (fun r3 w4 _ => ?_)
  refine y_isub dX8_brings_23 ?_
  exact y_ireturn dX8_brings_24 rfl rfl rfl
