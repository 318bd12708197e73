-- ===== X5_reaches: WeighedGate$Scale.reaches(III)Z =====
set_option maxRecDepth 20000 in
set_option maxHeartbeats 2000000 in
theorem p_X5_reaches_L45 {G : xG} {d : Nat} {n t : Nat} (hn : 71 ≤ n) (hd : 14 ≤ d) {rec : Int32 → Int32 → Int32 → xI → Option (Int32 × xI)} {d0 : Nat} (hd0 : d0 + 1 ≤ d) (hrec : ∀ (a1 : Int32) (a2 : Int32) (a3 : Int32) (w : xI), xMet G m_X5_reaches d0 [.ref 1, .int a1, .int a2, .int a3] (xFin n t) w (fun x : Int32 => some (Value.int x)) (xFin n t) (rec a1 a2 a3 w)) (v1 : Int32) (v2 : Int32) (v3 : Int32) (s0 : Int32) (w : xI) : xC G m_X5_reaches d 45 [(0, .ref 1), (1, .int v1), (2, .int v2), (3, .int v3)] [.int s0] (xFin n t) w (fun x : Int32 => some (Value.int x)) (xFin n t) (f_X5_reaches_L45 rec v1 v2 v3 s0 w) := by
  unfold f_X5_reaches_L45
  refine y_istore (lv' := [(4, .int s0), (0, .ref 1), (1, .int v1), (2, .int v2), (3, .int v3)]) dX5_reaches_45 (by decide) rfl ?_
  refine y_aload_n dX5_reaches_47 rfl 1 rfl ?_
  refine y_iload_n dX5_reaches_48 rfl 2 rfl ?_
  refine y_iload_n dX5_reaches_49 rfl 3 rfl ?_
  refine y_iconst (v := 1) dX5_reaches_50 (by decide) ?_
  refine y_iadd dX5_reaches_51 ?_
  refine y_iload_n dX5_reaches_52 rfl 4 rfl ?_
  refine y_callV (As := [.int v1, .int (v2 + (1 : Int32)), .int v3]) (d2 := d0) dX5_reaches_53 kX5_45 (by omega) rfl rfl (Nat.le_of_ble_eq_true rfl) (xlt rfl hn) rfl rfl (hrec _ _ _ _) (fun r45001 w45002 _ => ?_)
  refine y_if_ne (tgt := 89) dX5_reaches_56 (by decide) ?_ ?_
  · refine y_iconst (v := 1) dX5_reaches_89 (by decide) ?_
    refine y_goto (tgt := 94) dX5_reaches_90 (by decide) ?_
    exact y_ireturn dX5_reaches_94 rfl rfl rfl
  · refine y_aload_n dX5_reaches_59 rfl 1 rfl ?_
    refine y_iload_n dX5_reaches_60 rfl 2 rfl ?_
    refine y_iload dX5_reaches_61 0 rfl ?_
    refine y_isub dX5_reaches_63 ?_
    refine y_iload_n dX5_reaches_64 rfl 3 rfl ?_
    refine y_iconst (v := 1) dX5_reaches_65 (by decide) ?_
    refine y_iadd dX5_reaches_66 ?_
    refine y_iload_n dX5_reaches_67 rfl 4 rfl ?_
    refine y_callV (As := [.int (v1 - s0), .int (v2 + (1 : Int32)), .int v3]) (d2 := d0) dX5_reaches_68 kX5_45 (by omega) rfl rfl (Nat.le_of_ble_eq_true rfl) (xlt rfl hn) rfl rfl (hrec _ _ _ _) (fun r45003 w45004 _ => ?_)
    refine y_if_ne (tgt := 89) dX5_reaches_71 (by decide) ?_ ?_
    · refine y_iconst (v := 1) dX5_reaches_89 (by decide) ?_
      refine y_goto (tgt := 94) dX5_reaches_90 (by decide) ?_
      exact y_ireturn dX5_reaches_94 rfl rfl rfl
    · refine y_aload_n dX5_reaches_74 rfl 1 rfl ?_
      refine y_iload_n dX5_reaches_75 rfl 2 rfl ?_
      refine y_iload dX5_reaches_76 0 rfl ?_
      refine y_iadd dX5_reaches_78 ?_
      refine y_iload_n dX5_reaches_79 rfl 3 rfl ?_
      refine y_iconst (v := 1) dX5_reaches_80 (by decide) ?_
      refine y_iadd dX5_reaches_81 ?_
      refine y_iload_n dX5_reaches_82 rfl 4 rfl ?_
      refine y_callV (As := [.int (v1 + s0), .int (v2 + (1 : Int32)), .int v3]) (d2 := d0) dX5_reaches_83 kX5_45 (by omega) rfl rfl (Nat.le_of_ble_eq_true rfl) (xlt rfl hn) rfl rfl (hrec _ _ _ _) (fun r45005 w45006 _ => ?_)
      refine y_if_eq (tgt := 93) dX5_reaches_86 (by decide) ?_ ?_
      · refine y_iconst (v := 0) dX5_reaches_93 (by decide) ?_
        exact y_ireturn dX5_reaches_94 rfl rfl rfl
      · refine y_iconst (v := 1) dX5_reaches_89 (by decide) ?_
        refine y_goto (tgt := 94) dX5_reaches_90 (by decide) ?_
        exact y_ireturn dX5_reaches_94 rfl rfl rfl
set_option maxRecDepth 20000 in
set_option maxHeartbeats 2000000 in
theorem p_X5_reaches_o {G : xG} {d : Nat} {n t : Nat} (hn : 71 ≤ n) (hd : 14 ≤ d) {rec : Int32 → Int32 → Int32 → xI → Option (Int32 × xI)} {d0 : Nat} (hd0 : d0 + 1 ≤ d) (hrec : ∀ (a1 : Int32) (a2 : Int32) (a3 : Int32) (w : xI), xMet G m_X5_reaches d0 [.ref 1, .int a1, .int a2, .int a3] (xFin n t) w (fun x : Int32 => some (Value.int x)) (xFin n t) (rec a1 a2 a3 w)) (a1 : Int32) (a2 : Int32) (a3 : Int32) (w : xI) : xMet G m_X5_reaches d [.ref 1, .int a1, .int a2, .int a3] (xFin n t) w (fun x : Int32 => some (Value.int x)) (xFin n t) (f_X5_reaches_o rec a1 a2 a3 w) := by
  refine xMet.of rfl (Nat.le_of_ble_eq_true rfl) ?_
  unfold f_X5_reaches_o
  show xC G m_X5_reaches d 0 [(0, .ref 1), (1, .int a1), (2, .int a2), (3, .int a3)] [] (xFin n t) w _ _ _
  refine y_iload_n dX5_reaches_0 rfl 2 rfl ?_
  refine y_aload_n dX5_reaches_1 rfl 0 rfl ?_
  refine z_geti (v := (w 1 2)) dX5_reaches_2 flX5_28 (xlt rfl hn) rfl rfl rfl ?_
  refine y_icmp_ge (tgt := 13) dX5_reaches_5 (by decide) ?_ ?_
  · refine y_iload_n dX5_reaches_13 rfl 1 rfl ?_
    refine y_if_ne (tgt := 21) dX5_reaches_14 (by decide) ?_ ?_
    · refine y_iconst (v := 0) dX5_reaches_21 (by decide) ?_
      exact y_ireturn dX5_reaches_22 rfl rfl rfl
    · refine y_iconst (v := 1) dX5_reaches_17 (by decide) ?_
      refine y_goto (tgt := 22) dX5_reaches_18 (by decide) ?_
      exact y_ireturn dX5_reaches_22 rfl rfl rfl
  · refine y_iload_n dX5_reaches_8 rfl 2 rfl ?_
    refine y_iconst (v := 5) dX5_reaches_9 (by decide) ?_
    refine y_icmp_lt (tgt := 23) dX5_reaches_10 (by decide) ?_ ?_
    · refine y_iload_n dX5_reaches_23 rfl 2 rfl ?_
      refine y_iload_n dX5_reaches_24 rfl 3 rfl ?_
      refine y_icmp_ne (tgt := 39) dX5_reaches_25 (by decide) ?_ ?_
      · refine y_aload_n dX5_reaches_39 rfl 0 rfl ?_
        refine y_getr (q := 3) dX5_reaches_40 flX5_15 (xlt rfl hn) rfl rfl rfl ?_
        refine y_iload_n dX5_reaches_43 rfl 2 rfl ?_
        refine z_iald (v := (w 3 a2.toNatClampNeg)) dX5_reaches_44 (xlt rfl hn) rfl rfl ?_
        refine p_X5_reaches_L45 hn hd hd0 hrec a1 a2 a3 (w 3 a2.toNatClampNeg) w 
      · refine y_aload_n dX5_reaches_28 rfl 0 rfl ?_
        refine y_getr (q := 3) dX5_reaches_29 flX5_15 (xlt rfl hn) rfl rfl rfl ?_
        refine y_iload_n dX5_reaches_32 rfl 2 rfl ?_
        refine z_iald (v := (w 3 a2.toNatClampNeg)) dX5_reaches_33 (xlt rfl hn) rfl rfl ?_
        refine y_iconst (v := 1) dX5_reaches_34 (by decide) ?_
        refine y_iadd dX5_reaches_35 ?_
        refine y_goto (tgt := 45) dX5_reaches_36 (by decide) ?_
        refine p_X5_reaches_L45 hn hd hd0 hrec a1 a2 a3 ((w 3 a2.toNatClampNeg) + (1 : Int32)) w 
    · refine y_iload_n dX5_reaches_13 rfl 1 rfl ?_
      refine y_if_ne (tgt := 21) dX5_reaches_14 (by decide) ?_ ?_
      · refine y_iconst (v := 0) dX5_reaches_21 (by decide) ?_
        exact y_ireturn dX5_reaches_22 rfl rfl rfl
      · refine y_iconst (v := 1) dX5_reaches_17 (by decide) ?_
        refine y_goto (tgt := 22) dX5_reaches_18 (by decide) ?_
        exact y_ireturn dX5_reaches_22 rfl rfl rfl
theorem p_X5_reaches {G : xG} (fu : Nat) {n t : Nat} (hn : 71 ≤ n) : ∀ {d : Nat} (hd : 3 * fu + 14 ≤ d) (a1 : Int32) (a2 : Int32) (a3 : Int32) (w : xI), xMet G m_X5_reaches d [.ref 1, .int a1, .int a2, .int a3] (xFin n t) w (fun x : Int32 => some (Value.int x)) (xFin n t) (f_X5_reaches fu a1 a2 a3 w) := by
  induction fu with
  | zero => intro d hd a1 a2 a3 w a w2 h; cases h
  | succ fu ih =>
    intro d hd a1 a2 a3 w
    exact p_X5_reaches_o hn (by omega) (d0 := d - 3) (by omega) (fun a1 a2 a3 w => ih (by omega) a1 a2 a3 w) a1 a2 a3 w
-- ===== X5_heavierFor: WeighedGate$Scale.heavierFor(I)I =====
set_option maxRecDepth 20000 in
set_option maxHeartbeats 2000000 in
theorem p_X5_heavierFor_L12 {G : xG} {d : Nat} {n t : Nat} (hn : 71 ≤ n) (hd : 39 ≤ d) : ∀ (fu : Nat) (v1 : Int32) (v2 : Int32) (v3 : Int32) (w : xI), xC G m_X5_heavierFor d 12 [(0, .ref 1), (1, .int v1), (2, .int v2), (3, .int v3)] [] (xFin n t) w (fun x : Int32 => some (Value.int x)) (xFin n t) (f_X5_heavierFor_L12 fu v1 v2 v3 w) := by
  intro fu
  induction fu with
  | zero => intro v1 v2 v3 w; exact xC.none
  | succ fu ih =>
    intro v1 v2 v3 w
    rw [f_X5_heavierFor_L12]
    refine y_iload_n dX5_heavierFor_12 rfl 3 rfl ?_
    refine y_aload_n dX5_heavierFor_13 rfl 0 rfl ?_
    refine z_geti (v := (w 1 2)) dX5_heavierFor_14 flX5_28 (xlt rfl hn) rfl rfl rfl ?_
    refine y_icmp_ge (tgt := 42) dX5_heavierFor_17 (by decide) ?_ ?_
    · refine y_iload_n dX5_heavierFor_42 rfl 2 rfl ?_
      exact y_ireturn dX5_heavierFor_43 rfl rfl rfl
    · refine y_aload_n dX5_heavierFor_20 rfl 0 rfl ?_
      refine y_iload_n dX5_heavierFor_21 rfl 1 rfl ?_
      refine y_iconst (v := 0) dX5_heavierFor_22 (by decide) ?_
      refine y_iload_n dX5_heavierFor_23 rfl 3 rfl ?_
      refine y_callV (As := [.int v1, .int (0 : Int32), .int v3]) (d2 := d - 1) dX5_heavierFor_24 kX5_45 (by omega) rfl rfl (Nat.le_of_ble_eq_true rfl) (xlt rfl hn) rfl rfl (p_X5_reaches 8 hn (by omega)  _ _ _ _) (fun r12001 w12002 _ => ?_)
      refine y_if_eq (tgt := 36) dX5_heavierFor_27 (by decide) ?_ ?_
      · refine z_iinc (j := 3) dX5_heavierFor_36 (by decide) rfl (by decide) (fun x12003 => ?_)
        refine y_loc (lv' := [(3, .int x12003), (0, .ref 1), (1, .int v1), (2, .int v2)]) rfl ?_
        refine y_goto (tgt := 12) dX5_heavierFor_39 (by decide) ?_
        refine y_sub [(0, .ref 1), (1, .int v1), (2, .int v2), (3, .int x12003)] [1, 2, 3, 0] rfl ?_
        exact ih v1 v2 x12003 w12002 
      · refine y_iload_n dX5_heavierFor_30 rfl 2 rfl ?_
        refine y_iconst (v := 1) dX5_heavierFor_31 (by decide) ?_
        refine y_iload_n dX5_heavierFor_32 rfl 3 rfl ?_
        refine y_ishl dX5_heavierFor_33 ?_
        refine y_ior dX5_heavierFor_34 ?_
        refine y_let (fun x12004 => ?_)
        refine y_istore_n (lv' := [(2, .int x12004), (0, .ref 1), (1, .int v1), (3, .int v3)]) dX5_heavierFor_35 rfl (by decide) rfl ?_
        refine z_iinc (j := 3) dX5_heavierFor_36 (by decide) rfl (by decide) (fun x12005 => ?_)
        refine y_loc (lv' := [(3, .int x12005), (2, .int x12004), (0, .ref 1), (1, .int v1)]) rfl ?_
        refine y_goto (tgt := 12) dX5_heavierFor_39 (by decide) ?_
        refine y_sub [(0, .ref 1), (1, .int v1), (2, .int x12004), (3, .int x12005)] [2, 3, 1, 0] rfl ?_
        exact ih v1 x12004 x12005 w12002 
set_option maxRecDepth 20000 in
set_option maxHeartbeats 2000000 in
theorem p_X5_heavierFor {G : xG} {d : Nat} {n t : Nat} (hn : 71 ≤ n) (hd : 39 ≤ d) (a1 : Int32) (w : xI) : xMet G m_X5_heavierFor d [.ref 1, .int a1] (xFin n t) w (fun x : Int32 => some (Value.int x)) (xFin n t) (f_X5_heavierFor a1 w) := by
  refine xMet.of rfl (Nat.le_of_ble_eq_true rfl) ?_
  unfold f_X5_heavierFor
  show xC G m_X5_heavierFor d 0 [(0, .ref 1), (1, .int a1)] [] (xFin n t) w _ _ _
  refine y_iconst (v := 0) dX5_heavierFor_0 (by decide) ?_
  refine y_istore_n (lv' := [(2, .int (0 : Int32)), (0, .ref 1), (1, .int a1)]) dX5_heavierFor_1 rfl (by decide) rfl ?_
  refine y_aload_n dX5_heavierFor_2 rfl 1 rfl ?_
  refine y_iload_n dX5_heavierFor_3 rfl 2 rfl ?_
  refine y_callV (As := [.int a1]) (d2 := d - 1) dX5_heavierFor_4 kX5_41 (by omega) rfl rfl (Nat.le_of_ble_eq_true rfl) (xlt rfl hn) rfl rfl (p_X5_makes hn (by omega)  _ _) (fun r1 w2 _ => ?_)
  refine y_if_ne (tgt := 42) dX5_heavierFor_7 (by decide) ?_ ?_
  · refine y_iload_n dX5_heavierFor_42 rfl 0 rfl ?_
    exact y_ireturn dX5_heavierFor_43 rfl rfl rfl
  · refine y_iconst (v := 0) dX5_heavierFor_10 (by decide) ?_
    refine y_istore_n (lv' := [(3, .int (0 : Int32)), (2, .int (0 : Int32)), (0, .ref 1), (1, .int a1)]) dX5_heavierFor_11 rfl (by decide) rfl ?_
    refine y_sub [(0, .ref 1), (1, .int a1), (2, .int (0 : Int32)), (3, .int (0 : Int32))] [2, 3, 1, 0] rfl ?_
    refine p_X5_heavierFor_L12 hn hd 2000 a1 (0 : Int32) (0 : Int32) w2 
-- ===== X6_become: WeighedGate$Sheet.become(II)V =====
set_option maxRecDepth 20000 in
set_option maxHeartbeats 2000000 in
theorem p_X6_become_L12 {G : xG} {d : Nat} {n t : Nat} (hn : 71 ≤ n) (hd : 0 ≤ d) {o0 : Nat} (ho0 : okS o0) : ∀ (fu : Nat) (v3 : Int32) (w : xI), xC G m_X6_become d 12 [(0, .ref o0), (3, .int v3)] [] (xFin n t) w (fun _ : Unit => none) (xFin n t) (f_X6_become_L12 o0 fu v3 w) := by
  intro fu
  induction fu with
  | zero => intro v3 w; exact xC.none
  | succ fu ih =>
    intro v3 w
    rw [f_X6_become_L12]
    refine y_iload_n dX6_become_12 rfl 1 rfl ?_
    refine y_bipush (v := 40) dX6_become_13 (by decide) ?_
    refine y_icmp_ge (tgt := 31) dX6_become_15 (by decide) ?_ ?_
    · exact y_return dX6_become_31 rfl rfl
    · refine y_aload_n dX6_become_18 rfl 0 rfl ?_
      refine y_getr (q := (o0 + 1)) dX6_become_19 flX6_15 (okS_k ho0 hn) (okS_s ho0) rfl (okS_r1 ho0 _) ?_
      refine y_iload_n dX6_become_22 rfl 1 rfl ?_
      refine y_iconst (v := 0) dX6_become_23 (by decide) ?_
      refine y_iast dX6_become_24 (okS_k1 ho0 hn) (okS_s1 ho0) ?_
      refine z_iinc (j := 1) dX6_become_25 (by decide) rfl (by decide) (fun x12001 => ?_)
      refine y_loc (lv' := [(3, .int x12001), (0, .ref o0)]) rfl ?_
      refine y_goto (tgt := 12) dX6_become_28 (by decide) ?_
      refine y_sub [(0, .ref o0), (3, .int x12001)] [1, 0] rfl ?_
      exact ih x12001 (xup w (o0 + 1) v3.toNatClampNeg (0 : Int32)) 
set_option maxRecDepth 20000 in
set_option maxHeartbeats 2000000 in
theorem p_X6_become {G : xG} {d : Nat} {n t : Nat} (hn : 71 ≤ n) (hd : 0 ≤ d) {o0 : Nat} (ho0 : okS o0) (a1 : Int32) (a2 : Int32) (w : xI) : xMet G m_X6_become d [.ref o0, .int a1, .int a2] (xFin n t) w (fun _ : Unit => none) (xFin n t) (f_X6_become o0 a1 a2 w) := by
  refine xMet.of rfl (Nat.le_of_ble_eq_true rfl) ?_
  unfold f_X6_become
  show xC G m_X6_become d 0 [(0, .ref o0), (1, .int a1), (2, .int a2)] [] (xFin n t) w _ _ _
  refine y_aload_n dX6_become_0 rfl 0 rfl ?_
  refine y_iload_n dX6_become_1 rfl 1 rfl ?_
  refine y_puti dX6_become_2 flX6_9 (okS_k ho0 hn) (okS_s ho0) rfl ?_
  refine y_aload_n dX6_become_5 rfl 0 rfl ?_
  refine y_iload_n dX6_become_6 rfl 2 rfl ?_
  refine y_puti dX6_become_7 flX6_19 (okS_k ho0 hn) (okS_s ho0) rfl ?_
  refine y_iconst (v := 0) dX6_become_10 (by decide) ?_
  refine y_istore_n (lv' := [(3, .int (0 : Int32)), (0, .ref o0), (1, .int a1), (2, .int a2)]) dX6_become_11 rfl (by decide) rfl ?_
  refine y_sub [(0, .ref o0), (3, .int (0 : Int32))] [1, 0] rfl ?_
  refine p_X6_become_L12 hn hd ho0 2000 (0 : Int32) (xup (xup w o0 0 a1) o0 1 a2) 
-- ===== X6_put: WeighedGate$Sheet.put(II)V =====
set_option maxRecDepth 20000 in
set_option maxHeartbeats 2000000 in
theorem p_X6_put {G : xG} {d : Nat} {n t : Nat} (hn : 71 ≤ n) (hd : 1 ≤ d) {o0 : Nat} (ho0 : okS o0) (a1 : Int32) (a2 : Int32) (w : xI) : xMet G m_X6_put d [.ref o0, .int a1, .int a2] (xFin n t) w (fun _ : Unit => none) (xFin n t) (f_X6_put o0 a1 a2 w) := by
  refine xMet.of rfl (Nat.le_of_ble_eq_true rfl) ?_
  unfold f_X6_put
  show xC G m_X6_put d 0 [(0, .ref o0), (1, .int a1), (2, .int a2)] [] (xFin n t) w _ _ _
  refine y_iload_n dX6_put_0 rfl 1 rfl ?_
  refine y_iconst (v := 0) dX6_put_1 (by decide) ?_
  refine y_aload_n dX6_put_2 rfl 0 rfl ?_
  refine z_geti (v := (w o0 1)) dX6_put_3 flX6_19 (okS_k ho0 hn) (okS_s ho0) rfl rfl ?_
  refine y_iconst (v := 1) dX6_put_6 (by decide) ?_
  refine y_isub dX6_put_7 ?_
  refine y_callS (As := [.int a1, .int (0 : Int32), .int ((w o0 1) - (1 : Int32))]) (d2 := d - 1) dX6_put_8 kX6_22 (by omega) rfl rfl (Nat.le_of_ble_eq_true rfl) (p_X10_within hn (by omega)  _ _ _ _) (fun r1 w2 _ => ?_)
  refine y_if_ne (tgt := 15) dX6_put_11 (by decide) ?_ ?_
  · refine y_aload_n dX6_put_15 rfl 0 rfl ?_
    refine z_geti (v := (w2 o0 0)) dX6_put_16 flX6_9 (okS_k ho0 hn) (okS_s ho0) rfl rfl ?_
    refine xC.ite (fun hs3 => ?_) (fun hs3 => ?_)
    · refine y_lookup (tgt := 44) dX6_put_19 (by decide) (by rw [hs3] <;> rfl) (by decide) ?_
      refine y_aload_n dX6_put_44 rfl 0 rfl ?_
      refine y_getr (q := (o0 + 1)) dX6_put_45 flX6_15 (okS_k ho0 hn) (okS_s ho0) rfl (okS_r1 ho0 _) ?_
      refine y_iload_n dX6_put_48 rfl 1 rfl ?_
      refine y_iload_n dX6_put_49 rfl 2 rfl ?_
      refine y_i2b dX6_put_50 ?_
      refine y_iast dX6_put_51 (okS_k1 ho0 hn) (okS_s1 ho0) ?_
      refine y_goto (tgt := 73) dX6_put_52 (by decide) ?_
      exact y_return dX6_put_73 rfl rfl
    · refine xC.ite (fun hs4 => ?_) (fun hs4 => ?_)
      · refine y_lookup (tgt := 55) dX6_put_19 (by decide) (by rw [hs4] <;> rfl) (by decide) ?_
        refine y_aload_n dX6_put_55 rfl 0 rfl ?_
        refine y_getr (q := (o0 + 1)) dX6_put_56 flX6_15 (okS_k ho0 hn) (okS_s ho0) rfl (okS_r1 ho0 _) ?_
        refine y_iload_n dX6_put_59 rfl 1 rfl ?_
        refine y_iload_n dX6_put_60 rfl 2 rfl ?_
        refine y_i2s dX6_put_61 ?_
        refine y_iast dX6_put_62 (okS_k1 ho0 hn) (okS_s1 ho0) ?_
        refine y_goto (tgt := 73) dX6_put_63 (by decide) ?_
        exact y_return dX6_put_73 rfl rfl
      · refine y_lookup (tgt := 66) (off := 47) dX6_put_19 (by decide) (by show Op.lookupswitch.offset [((0 : Int), (25 : Int)), ((1 : Int), (36 : Int))] _ _ = _; rw [lv_osw hs3 (show (0 : Int32).toInt = 0 from rfl)]; rw [lv_osw hs4 (show (1 : Int32).toInt = 1 from rfl)]; rfl) (by decide) ?_
        refine y_aload_n dX6_put_66 rfl 0 rfl ?_
        refine y_getr (q := (o0 + 1)) dX6_put_67 flX6_15 (okS_k ho0 hn) (okS_s ho0) rfl (okS_r1 ho0 _) ?_
        refine y_iload_n dX6_put_70 rfl 1 rfl ?_
        refine y_iload_n dX6_put_71 rfl 2 rfl ?_
        refine y_iast dX6_put_72 (okS_k1 ho0 hn) (okS_s1 ho0) ?_
        exact y_return dX6_put_73 rfl rfl
  · exact y_return dX6_put_14 rfl rfl
-- ===== X6_holds: WeighedGate$Sheet.holds(II)Z =====
set_option maxRecDepth 20000 in
set_option maxHeartbeats 2000000 in
theorem p_X6_holds {G : xG} {d : Nat} {n t : Nat} (hn : 71 ≤ n) (hd : 1 ≤ d) {o0 : Nat} (ho0 : okS o0) (a1 : Int32) (a2 : Int32) (w : xI) : xMet G m_X6_holds d [.ref o0, .int a1, .int a2] (xFin n t) w (fun x : Int32 => some (Value.int x)) (xFin n t) (f_X6_holds o0 a1 a2 w) := by
  refine xMet.of rfl (Nat.le_of_ble_eq_true rfl) ?_
  unfold f_X6_holds
  show xC G m_X6_holds d 0 [(0, .ref o0), (1, .int a1), (2, .int a2)] [] (xFin n t) w _ _ _
  refine y_iload_n dX6_holds_0 rfl 2 rfl ?_
  refine y_if_lt (tgt := 30) dX6_holds_1 (by decide) ?_ ?_
  · refine y_iconst (v := 0) dX6_holds_30 (by decide) ?_
    exact y_ireturn dX6_holds_31 rfl rfl rfl
  · refine y_iload_n dX6_holds_4 rfl 1 rfl ?_
    refine y_iconst (v := 0) dX6_holds_5 (by decide) ?_
    refine y_aload_n dX6_holds_6 rfl 0 rfl ?_
    refine z_geti (v := (w o0 1)) dX6_holds_7 flX6_19 (okS_k ho0 hn) (okS_s ho0) rfl rfl ?_
    refine y_callS (As := [.int a1, .int (0 : Int32), .int (w o0 1)]) (d2 := d - 1) dX6_holds_10 kX6_22 (by omega) rfl rfl (Nat.le_of_ble_eq_true rfl) (p_X10_within hn (by omega)  _ _ _ _) (fun r1 w2 _ => ?_)
    refine y_if_eq (tgt := 30) dX6_holds_13 (by decide) ?_ ?_
    · refine y_iconst (v := 0) dX6_holds_30 (by decide) ?_
      exact y_ireturn dX6_holds_31 rfl rfl rfl
    · refine y_iload_n dX6_holds_16 rfl 2 rfl ?_
      refine y_aload_n dX6_holds_17 rfl 0 rfl ?_
      refine z_geti (v := (w2 o0 1)) dX6_holds_18 flX6_19 (okS_k ho0 hn) (okS_s ho0) rfl rfl ?_
      refine y_iload_n dX6_holds_21 rfl 1 rfl ?_
      refine y_isub dX6_holds_22 ?_
      refine y_icmp_gt (tgt := 30) dX6_holds_23 (by decide) ?_ ?_
      · refine y_iconst (v := 0) dX6_holds_30 (by decide) ?_
        exact y_ireturn dX6_holds_31 rfl rfl rfl
      · refine y_iconst (v := 1) dX6_holds_26 (by decide) ?_
        refine y_goto (tgt := 31) dX6_holds_27 (by decide) ?_
        exact y_ireturn dX6_holds_31 rfl rfl rfl
-- ===== X9_has: WeighedGate$Yard.has(I)Z =====
set_option maxRecDepth 20000 in
set_option maxHeartbeats 2000000 in
theorem p_X9_has {G : xG} {d : Nat} {n t : Nat} (hn : 71 ≤ n) (hd : 0 ≤ d) (a1 : Int32) (w : xI) : xMet G m_X9_has d [.ref 5, .int a1] (xFin n t) w (fun x : Int32 => some (Value.int x)) (xFin n t) (f_X9_has a1 w) := by
  refine xMet.of rfl (Nat.le_of_ble_eq_true rfl) ?_
  unfold f_X9_has
  show xC G m_X9_has d 0 [(0, .ref 5), (1, .int a1)] [] (xFin n t) w _ _ _
  refine y_iload_n dX9_has_0 rfl 1 rfl ?_
  refine y_if_lt (tgt := 16) dX9_has_1 (by decide) ?_ ?_
  · refine y_iconst (v := 0) dX9_has_16 (by decide) ?_
    exact y_ireturn dX9_has_17 rfl rfl rfl
  · refine y_iload_n dX9_has_4 rfl 1 rfl ?_
    refine y_aload_n dX9_has_5 rfl 0 rfl ?_
    refine z_geti (v := (w 5 2)) dX9_has_6 flX9_22 (xlt rfl hn) rfl rfl rfl ?_
    refine y_icmp_ge (tgt := 16) dX9_has_9 (by decide) ?_ ?_
    · refine y_iconst (v := 0) dX9_has_16 (by decide) ?_
      exact y_ireturn dX9_has_17 rfl rfl rfl
    · refine y_iconst (v := 1) dX9_has_12 (by decide) ?_
      refine y_goto (tgt := 17) dX9_has_13 (by decide) ?_
      exact y_ireturn dX9_has_17 rfl rfl rfl
-- ===== X9_all: WeighedGate$Yard.all()I =====
set_option maxRecDepth 20000 in
set_option maxHeartbeats 2000000 in
theorem p_X9_all {G : xG} {d : Nat} {n t : Nat} (hn : 71 ≤ n) (hd : 0 ≤ d) (w : xI) : xMet G m_X9_all d [.ref 5] (xFin n t) w (fun x : Int32 => some (Value.int x)) (xFin n t) (f_X9_all  w) := by
  refine xMet.of rfl (Nat.le_of_ble_eq_true rfl) ?_
  unfold f_X9_all
  show xC G m_X9_all d 0 [(0, .ref 5)] [] (xFin n t) w _ _ _
  refine y_iconst (v := 1) dX9_all_0 (by decide) ?_
  refine y_aload_n dX9_all_1 rfl 0 rfl ?_
  refine z_geti (v := (w 5 2)) dX9_all_2 flX9_22 (xlt rfl hn) rfl rfl rfl ?_
  refine y_ishl dX9_all_5 ?_
  refine y_iconst (v := 1) dX9_all_6 (by decide) ?_
  refine y_isub dX9_all_7 ?_
  exact y_ireturn dX9_all_8 rfl rfl rfl
-- ===== X9_hasAll: WeighedGate$Yard.hasAll(I)Z =====
set_option maxRecDepth 20000 in
set_option maxHeartbeats 2000000 in
theorem p_X9_hasAll {G : xG} {d : Nat} {n t : Nat} (hn : 71 ≤ n) (hd : 1 ≤ d) (a1 : Int32) (w : xI) : xMet G m_X9_hasAll d [.ref 5, .int a1] (xFin n t) w (fun x : Int32 => some (Value.int x)) (xFin n t) (f_X9_hasAll a1 w) := by
  refine xMet.of rfl (Nat.le_of_ble_eq_true rfl) ?_
  unfold f_X9_hasAll
  show xC G m_X9_hasAll d 0 [(0, .ref 5), (1, .int a1)] [] (xFin n t) w _ _ _
  refine y_iload_n dX9_hasAll_0 rfl 1 rfl ?_
  refine y_aload_n dX9_hasAll_1 rfl 0 rfl ?_
  refine y_callV (As := []) (d2 := d - 1) dX9_hasAll_2 kX9_26 (by omega) rfl rfl (Nat.le_of_ble_eq_true rfl) (xlt rfl hn) rfl rfl (p_X9_all hn (by omega)   _) (fun r1 w2 _ => ?_)
  refine y_iconst (v := (-1)) dX9_hasAll_5 (by decide) ?_
  refine y_ixor dX9_hasAll_6 ?_
  refine y_iand dX9_hasAll_7 ?_
  refine y_if_ne (tgt := 15) dX9_hasAll_8 (by decide) ?_ ?_
  · refine y_iconst (v := 0) dX9_hasAll_15 (by decide) ?_
    exact y_ireturn dX9_hasAll_16 rfl rfl rfl
  · refine y_iconst (v := 1) dX9_hasAll_11 (by decide) ?_
    refine y_goto (tgt := 16) dX9_hasAll_12 (by decide) ?_
    exact y_ireturn dX9_hasAll_16 rfl rfl rfl
-- ===== X10_scale: WeighedGate.scale(II)I =====
set_option maxRecDepth 20000 in
set_option maxHeartbeats 2000000 in
theorem p_X10_scale_L32 {G : xG} {d : Nat} {n t : Nat} (hn : 71 ≤ n) (hd : 1 ≤ d) (v1 : Int32) (v2 : Int32) (s0 : Int32) (w : xI) : xC G m_X10_scale d 32 [(0, .ref 0), (1, .int v1), (2, .int v2)] [.int s0] (xFin n t) w (fun x : Int32 => some (Value.int x)) (xFin n t) (f_X10_scale_L32 v1 v2 s0 w) := by
  unfold f_X10_scale_L32
  refine y_istore_n (lv' := [(3, .int s0), (0, .ref 0), (1, .int v1), (2, .int v2)]) dX10_scale_32 rfl (by decide) rfl ?_
  refine y_iload_n dX10_scale_33 rfl 0 rfl ?_
  refine y_if_ne (tgt := 40) dX10_scale_34 (by decide) ?_ ?_
  · refine y_aload_n dX10_scale_40 rfl 1 rfl ?_
    refine y_getr (q := 1) dX10_scale_41 flX10_12 (xlt rfl hn) rfl rfl rfl ?_
    refine y_getr (q := 2) dX10_scale_44 flX10_108 (xlt rfl hn) rfl rfl rfl ?_
    refine y_iload_n dX10_scale_47 rfl 2 rfl ?_
    refine z_iald (v := (w 2 v1.toNatClampNeg)) dX10_scale_48 (xlt rfl hn) rfl rfl ?_
    refine y_let (fun x32001 => ?_)
    refine y_istore (lv' := [(4, .int x32001), (3, .int s0), (0, .ref 0), (1, .int v1), (2, .int v2)]) dX10_scale_49 (by decide) rfl ?_
    refine y_aload_n dX10_scale_51 rfl 2 rfl ?_
    refine y_getr (q := 1) dX10_scale_52 flX10_12 (xlt rfl hn) rfl rfl rfl ?_
    refine y_getr (q := 2) dX10_scale_55 flX10_108 (xlt rfl hn) rfl rfl rfl ?_
    refine y_iload_n dX10_scale_58 rfl 3 rfl ?_
    refine y_iload_n dX10_scale_59 rfl 4 rfl ?_
    refine y_iast dX10_scale_60 (xlt rfl hn) rfl ?_
    refine y_iload dX10_scale_61 0 rfl ?_
    exact y_ireturn dX10_scale_63 rfl rfl rfl
  · refine y_bipush (v := (-2)) dX10_scale_37 (by decide) ?_
    exact y_ireturn dX10_scale_39 rfl rfl rfl
set_option maxRecDepth 20000 in
set_option maxHeartbeats 2000000 in
theorem p_X10_scale {G : xG} {d : Nat} {n t : Nat} (hn : 71 ≤ n) (hd : 1 ≤ d) (a1 : Int32) (a2 : Int32) (w : xI) : xMet G m_X10_scale d [.ref 0, .int a1, .int a2] (xFin n t) w (fun x : Int32 => some (Value.int x)) (xFin n t) (f_X10_scale a1 a2 w) := by
  refine xMet.of rfl (Nat.le_of_ble_eq_true rfl) ?_
  unfold f_X10_scale
  show xC G m_X10_scale d 0 [(0, .ref 0), (1, .int a1), (2, .int a2)] [] (xFin n t) w _ _ _
  refine y_iload_n dX10_scale_0 rfl 1 rfl ?_
  refine y_iconst (v := 0) dX10_scale_1 (by decide) ?_
  refine y_iconst (v := 2) dX10_scale_2 (by decide) ?_
  refine y_callS (As := [.int a1, .int (0 : Int32), .int (2 : Int32)]) (d2 := d - 1) dX10_scale_3 kX10_104 (by omega) rfl rfl (Nat.le_of_ble_eq_true rfl) (p_X10_within hn (by omega)  _ _ _ _) (fun r1 w2 _ => ?_)
  refine y_if_ne (tgt := 11) dX10_scale_6 (by decide) ?_ ?_
  · refine y_iload_n dX10_scale_11 rfl 1 rfl ?_
    refine y_iconst (v := 2) dX10_scale_12 (by decide) ?_
    refine y_icmp_ne (tgt := 26) dX10_scale_13 (by decide) ?_ ?_
    · refine y_iload_n dX10_scale_26 rfl 2 rfl ?_
      refine y_iconst (v := 1) dX10_scale_27 (by decide) ?_
      refine y_iconst (v := 3) dX10_scale_28 (by decide) ?_
      refine y_callS (As := [.int a2, .int (1 : Int32), .int (3 : Int32)]) (d2 := d - 1) dX10_scale_29 kX10_104 (by omega) rfl rfl (Nat.le_of_ble_eq_true rfl) (p_X10_within hn (by omega)  _ _ _ _) (fun r3 w4 _ => ?_)
      refine p_X10_scale_L32 hn hd a1 a2 r3 w4 
    · refine y_iload_n dX10_scale_16 rfl 2 rfl ?_
      refine y_iconst (v := 0) dX10_scale_17 (by decide) ?_
      refine y_bipush (v := 9) dX10_scale_18 (by decide) ?_
      refine y_callS (As := [.int a2, .int (0 : Int32), .int (9 : Int32)]) (d2 := d - 1) dX10_scale_20 kX10_104 (by omega) rfl rfl (Nat.le_of_ble_eq_true rfl) (p_X10_within hn (by omega)  _ _ _ _) (fun r5 w6 _ => ?_)
      refine y_goto (tgt := 32) dX10_scale_23 (by decide) ?_
      refine p_X10_scale_L32 hn hd a1 a2 r5 w6 
  · refine y_iconst (v := (-1)) dX10_scale_9 (by decide) ?_
    exact y_ireturn dX10_scale_10 rfl rfl rfl
-- ===== X10_stone: WeighedGate.stone(I)I =====
set_option maxRecDepth 20000 in
set_option maxHeartbeats 2000000 in
theorem p_X10_stone {G : xG} {d : Nat} {n t : Nat} (hn : 71 ≤ n) (hd : 40 ≤ d) (a1 : Int32) (w : xI) : xMet G m_X10_stone d [.ref 0, .int a1] (xFin n t) w (fun x : Int32 => some (Value.int x)) (xFin n t) (f_X10_stone a1 w) := by
  refine xMet.of rfl (Nat.le_of_ble_eq_true rfl) ?_
  unfold f_X10_stone
  show xC G m_X10_stone d 0 [(0, .ref 0), (1, .int a1)] [] (xFin n t) w _ _ _
  refine y_iload_n dX10_stone_0 rfl 1 rfl ?_
  refine y_iconst (v := 1) dX10_stone_1 (by decide) ?_
  refine y_bipush (v := 99) dX10_stone_2 (by decide) ?_
  refine y_callS (As := [.int a1, .int (1 : Int32), .int (99 : Int32)]) (d2 := d - 1) dX10_stone_4 kX10_104 (by omega) rfl rfl (Nat.le_of_ble_eq_true rfl) (p_X10_within hn (by omega)  _ _ _ _) (fun r1 w2 _ => ?_)
  refine y_if_ne (tgt := 13) dX10_stone_7 (by decide) ?_ ?_
  · refine y_aload_n dX10_stone_13 rfl 0 rfl ?_
    refine y_getr (q := 1) dX10_stone_14 flX10_12 (xlt rfl hn) rfl rfl rfl ?_
    refine z_geti (v := (w2 1 2)) dX10_stone_17 flX10_111 (xlt rfl hn) rfl rfl rfl ?_
    refine y_iconst (v := 5) dX10_stone_20 (by decide) ?_
    refine y_icmp_lt (tgt := 27) dX10_stone_21 (by decide) ?_ ?_
    · refine y_aload_n dX10_stone_27 rfl 0 rfl ?_
      refine y_getr (q := 1) dX10_stone_28 flX10_12 (xlt rfl hn) rfl rfl rfl ?_
      refine z_geti (v := (w2 1 2)) dX10_stone_31 flX10_111 (xlt rfl hn) rfl rfl rfl ?_
      refine y_let (fun x3 => ?_)
      refine y_istore_n (lv' := [(2, .int x3), (0, .ref 0), (1, .int a1)]) dX10_stone_34 rfl (by decide) rfl ?_
      refine y_aload_n dX10_stone_35 rfl 1 rfl ?_
      refine y_getr (q := 1) dX10_stone_36 flX10_12 (xlt rfl hn) rfl rfl rfl ?_
      refine y_getr (q := 3) dX10_stone_39 flX10_114 (xlt rfl hn) rfl rfl rfl ?_
      refine y_iload_n dX10_stone_42 rfl 0 rfl ?_
      refine y_iload_n dX10_stone_43 rfl 2 rfl ?_
      refine y_iast dX10_stone_44 (xlt rfl hn) rfl ?_
      refine y_aload_n dX10_stone_45 rfl 1 rfl ?_
      refine y_getr (q := 1) dX10_stone_46 flX10_12 (xlt rfl hn) rfl rfl rfl ?_
      refine y_iload_n dX10_stone_49 rfl 0 rfl ?_
      refine y_iconst (v := 1) dX10_stone_50 (by decide) ?_
      refine y_iadd dX10_stone_51 ?_
      refine y_puti dX10_stone_52 flX10_111 (xlt rfl hn) rfl rfl ?_
      refine y_aload_n dX10_stone_55 rfl 1 rfl ?_
      refine y_getr (q := 1) dX10_stone_56 flX10_12 (xlt rfl hn) rfl rfl rfl ?_
      refine y_callV (As := []) (d2 := d - 1) dX10_stone_59 kX10_117 (by omega) rfl rfl (Nat.le_of_ble_eq_true rfl) (xlt rfl hn) rfl rfl (p_X5_layAll (Nat.le_trans (by decide) hn) rfl (fun _ => rfl) (fun _ => rfl) (by omega)   _) (fun r4 w5 _ => ?_)
      refine y_iload_n dX10_stone_62 rfl 0 rfl ?_
      exact y_ireturn dX10_stone_63 rfl rfl rfl
    · refine y_bipush (v := (-4)) dX10_stone_24 (by decide) ?_
      exact y_ireturn dX10_stone_26 rfl rfl rfl
  · refine y_bipush (v := (-2)) dX10_stone_10 (by decide) ?_
    exact y_ireturn dX10_stone_12 rfl rfl rfl
-- ===== X10_sell: WeighedGate.sell()I =====
set_option maxRecDepth 20000 in
set_option maxHeartbeats 2000000 in
theorem p_X10_sell {G : xG} {d : Nat} {n t : Nat} (hn : 71 ≤ n) (hd : 40 ≤ d) (w : xI) : xMet G m_X10_sell d [.ref 0] (xFin n t) w (fun x : Int32 => some (Value.int x)) (xFin n t) (f_X10_sell  w) := by
  refine xMet.of rfl (Nat.le_of_ble_eq_true rfl) ?_
  unfold f_X10_sell
  show xC G m_X10_sell d 0 [(0, .ref 0)] [] (xFin n t) w _ _ _
  refine y_aload_n dX10_sell_0 rfl 0 rfl ?_
  refine y_getr (q := 1) dX10_sell_1 flX10_12 (xlt rfl hn) rfl rfl rfl ?_
  refine z_geti (v := (w 1 2)) dX10_sell_4 flX10_111 (xlt rfl hn) rfl rfl rfl ?_
  refine y_if_gt (tgt := 13) dX10_sell_7 (by decide) ?_ ?_
  · refine y_aload_n dX10_sell_13 rfl 0 rfl ?_
    refine y_getr (q := 1) dX10_sell_14 flX10_12 (xlt rfl hn) rfl rfl rfl ?_
    refine y_dup dX10_sell_17 rfl ?_
    refine z_geti (v := (w 1 2)) dX10_sell_18 flX10_111 (xlt rfl hn) rfl rfl rfl ?_
    refine y_iconst (v := 1) dX10_sell_21 (by decide) ?_
    refine y_isub dX10_sell_22 ?_
    refine y_puti dX10_sell_23 flX10_111 (xlt rfl hn) rfl rfl ?_
    refine y_aload_n dX10_sell_26 rfl 0 rfl ?_
    refine y_getr (q := 1) dX10_sell_27 flX10_12 (xlt rfl hn) rfl rfl rfl ?_
    refine y_callV (As := []) (d2 := d - 1) dX10_sell_30 kX10_117 (by omega) rfl rfl (Nat.le_of_ble_eq_true rfl) (xlt rfl hn) rfl rfl (p_X5_layAll (Nat.le_trans (by decide) hn) rfl (fun _ => rfl) (fun _ => rfl) (by omega)   _) (fun r1 w2 _ => ?_)
    refine y_aload_n dX10_sell_33 rfl 0 rfl ?_
    refine y_getr (q := 1) dX10_sell_34 flX10_12 (xlt rfl hn) rfl rfl rfl ?_
    refine z_geti (v := (w2 1 2)) dX10_sell_37 flX10_111 (xlt rfl hn) rfl rfl rfl ?_
    exact y_ireturn dX10_sell_40 rfl rfl rfl
  · refine y_bipush (v := (-3)) dX10_sell_10 (by decide) ?_
    exact y_ireturn dX10_sell_12 rfl rfl rfl
-- ===== X10_stoneTold: WeighedGate.stoneTold(I)I =====
set_option maxRecDepth 20000 in
set_option maxHeartbeats 2000000 in
theorem p_X10_stoneTold {G : xG} {d : Nat} {n t : Nat} (hn : 71 ≤ n) (hd : 1 ≤ d) (a1 : Int32) (w : xI) : xMet G m_X10_stoneTold d [.ref 0, .int a1] (xFin n t) w (fun x : Int32 => some (Value.int x)) (xFin n t) (f_X10_stoneTold a1 w) := by
  refine xMet.of rfl (Nat.le_of_ble_eq_true rfl) ?_
  unfold f_X10_stoneTold
  show xC G m_X10_stoneTold d 0 [(0, .ref 0), (1, .int a1)] [] (xFin n t) w _ _ _
  refine y_iload_n dX10_stoneTold_0 rfl 1 rfl ?_
  refine y_iconst (v := 0) dX10_stoneTold_1 (by decide) ?_
  refine y_aload_n dX10_stoneTold_2 rfl 0 rfl ?_
  refine y_getr (q := 1) dX10_stoneTold_3 flX10_12 (xlt rfl hn) rfl rfl rfl ?_
  refine z_geti (v := (w 1 2)) dX10_stoneTold_6 flX10_111 (xlt rfl hn) rfl rfl rfl ?_
  refine y_iconst (v := 1) dX10_stoneTold_9 (by decide) ?_
  refine y_isub dX10_stoneTold_10 ?_
  refine y_callS (As := [.int a1, .int (0 : Int32), .int ((w 1 2) - (1 : Int32))]) (d2 := d - 1) dX10_stoneTold_11 kX10_104 (by omega) rfl rfl (Nat.le_of_ble_eq_true rfl) (p_X10_within hn (by omega)  _ _ _ _) (fun r1 w2 _ => ?_)
  refine y_if_eq (tgt := 29) dX10_stoneTold_14 (by decide) ?_ ?_
  · refine y_bipush (v := (-5)) dX10_stoneTold_29 (by decide) ?_
    exact y_ireturn dX10_stoneTold_31 rfl rfl rfl
  · refine y_aload_n dX10_stoneTold_17 rfl 0 rfl ?_
    refine y_getr (q := 1) dX10_stoneTold_18 flX10_12 (xlt rfl hn) rfl rfl rfl ?_
    refine y_getr (q := 3) dX10_stoneTold_21 flX10_114 (xlt rfl hn) rfl rfl rfl ?_
    refine y_iload_n dX10_stoneTold_24 rfl 1 rfl ?_
    refine z_iald (v := (w2 3 a1.toNatClampNeg)) dX10_stoneTold_25 (xlt rfl hn) rfl rfl ?_
    refine y_goto (tgt := 31) dX10_stoneTold_26 (by decide) ?_
    exact y_ireturn dX10_stoneTold_31 rfl rfl rfl
-- ===== X10_count: WeighedGate.count(I)I =====
set_option maxRecDepth 20000 in
set_option maxHeartbeats 2000000 in
theorem p_X10_count {G : xG} {d : Nat} {n t : Nat} (hn : 71 ≤ n) (hd : 0 ≤ d) (a1 : Int32) (w : xI) : xMet G m_X10_count d [.ref 0, .int a1] (xFin n t) w (fun x : Int32 => some (Value.int x)) (xFin n t) (f_X10_count a1 w) := by
  refine xMet.of rfl (Nat.le_of_ble_eq_true rfl) ?_
  unfold f_X10_count
  show xC G m_X10_count d 0 [(0, .ref 0), (1, .int a1)] [] (xFin n t) w _ _ _
  refine y_iload_n dX10_count_0 rfl 1 rfl ?_
  refine xC.ite (fun hs1 => ?_) (fun hs1 => ?_)
  · refine y_table (tgt := 48) (v := 0) dX10_count_1 hs1 (by decide) (by decide) rfl (by decide) ?_
    refine y_aload_n dX10_count_48 rfl 0 rfl ?_
    refine y_getr (q := 1) dX10_count_49 flX10_12 (xlt rfl hn) rfl rfl rfl ?_
    refine y_getr (q := 2) dX10_count_52 flX10_108 (xlt rfl hn) rfl rfl rfl ?_
    refine y_iload_n dX10_count_55 rfl 1 rfl ?_
    refine z_iald (v := (w 2 a1.toNatClampNeg)) dX10_count_56 (xlt rfl hn) rfl rfl ?_
    exact y_ireturn dX10_count_57 rfl rfl rfl
  · refine xC.ite (fun hs2 => ?_) (fun hs2 => ?_)
    · refine y_table (tgt := 48) (v := 1) dX10_count_1 hs2 (by decide) (by decide) rfl (by decide) ?_
      refine y_aload_n dX10_count_48 rfl 0 rfl ?_
      refine y_getr (q := 1) dX10_count_49 flX10_12 (xlt rfl hn) rfl rfl rfl ?_
      refine y_getr (q := 2) dX10_count_52 flX10_108 (xlt rfl hn) rfl rfl rfl ?_
      refine y_iload_n dX10_count_55 rfl 1 rfl ?_
      refine z_iald (v := (w 2 a1.toNatClampNeg)) dX10_count_56 (xlt rfl hn) rfl rfl ?_
      exact y_ireturn dX10_count_57 rfl rfl rfl
    · refine xC.ite (fun hs3 => ?_) (fun hs3 => ?_)
      · refine y_table (tgt := 48) (v := 2) dX10_count_1 hs3 (by decide) (by decide) rfl (by decide) ?_
        refine y_aload_n dX10_count_48 rfl 0 rfl ?_
        refine y_getr (q := 1) dX10_count_49 flX10_12 (xlt rfl hn) rfl rfl rfl ?_
        refine y_getr (q := 2) dX10_count_52 flX10_108 (xlt rfl hn) rfl rfl rfl ?_
        refine y_iload_n dX10_count_55 rfl 1 rfl ?_
        refine z_iald (v := (w 2 a1.toNatClampNeg)) dX10_count_56 (xlt rfl hn) rfl rfl ?_
        exact y_ireturn dX10_count_57 rfl rfl rfl
      · refine xC.ite (fun hs4 => ?_) (fun hs4 => ?_)
        · refine y_table (tgt := 58) (v := 3) dX10_count_1 hs4 (by decide) (by decide) rfl (by decide) ?_
          refine y_aload_n dX10_count_58 rfl 0 rfl ?_
          refine y_getr (q := 1) dX10_count_59 flX10_12 (xlt rfl hn) rfl rfl rfl ?_
          refine z_geti (v := (w 1 2)) dX10_count_62 flX10_111 (xlt rfl hn) rfl rfl rfl ?_
          exact y_ireturn dX10_count_65 rfl rfl rfl
        · refine xC.ite (fun hs5 => ?_) (fun hs5 => ?_)
          · refine y_table (tgt := 66) (v := 4) dX10_count_1 hs5 (by decide) (by decide) rfl (by decide) ?_
            refine y_aload_n dX10_count_66 rfl 0 rfl ?_
            refine y_getr (q := 5) dX10_count_67 flX10_19 (xlt rfl hn) rfl rfl rfl ?_
            refine z_geti (v := (w 5 2)) dX10_count_70 flX10_120 (xlt rfl hn) rfl rfl rfl ?_
            exact y_ireturn dX10_count_73 rfl rfl rfl
          · refine xC.ite (fun hs6 => ?_) (fun hs6 => ?_)
            · refine y_table (tgt := 74) (v := 5) dX10_count_1 hs6 (by decide) (by decide) rfl (by decide) ?_
              refine y_aload_n dX10_count_74 rfl 0 rfl ?_
              refine z_geti (v := (w 0 3)) dX10_count_75 flX10_100 (xlt rfl hn) rfl rfl rfl ?_
              exact y_ireturn dX10_count_78 rfl rfl rfl
            · refine xC.ite (fun hs7 => ?_) (fun hs7 => ?_)
              · refine y_table (tgt := 79) (v := 6) dX10_count_1 hs7 (by decide) (by decide) rfl (by decide) ?_
                refine y_aload_n dX10_count_79 rfl 0 rfl ?_
                refine z_geti (v := (w 0 4)) dX10_count_80 flX10_123 (xlt rfl hn) rfl rfl rfl ?_
                exact y_ireturn dX10_count_83 rfl rfl rfl
              · refine xC.ite (fun hs8 => ?_) (fun hs8 => ?_)
                · refine y_table (tgt := 84) (v := 7) dX10_count_1 hs8 (by decide) (by decide) rfl (by decide) ?_
                  refine y_aload_n dX10_count_84 rfl 0 rfl ?_
                  refine y_getr (q := 19) dX10_count_85 flX10_32 (xlt rfl hn) rfl rfl rfl ?_
                  refine z_geti (v := (w 19 1)) dX10_count_88 flX10_126 (xlt rfl hn) rfl rfl rfl ?_
                  exact y_ireturn dX10_count_91 rfl rfl rfl
                · refine y_tableD (tgt := 92) dX10_count_1 (by have z0 := lv_neT hs1 (show (0 : Int32).toInt = 0 from rfl); have z1 := lv_neT hs2 (show (1 : Int32).toInt = 1 from rfl); have z2 := lv_neT hs3 (show (2 : Int32).toInt = 2 from rfl); have z3 := lv_neT hs4 (show (3 : Int32).toInt = 3 from rfl); have z4 := lv_neT hs5 (show (4 : Int32).toInt = 4 from rfl); have z5 := lv_neT hs6 (show (5 : Int32).toInt = 5 from rfl); have z6 := lv_neT hs7 (show (6 : Int32).toInt = 6 from rfl); have z7 := lv_neT hs8 (show (7 : Int32).toInt = 7 from rfl); omega) (by decide) ?_
                  refine y_bipush (v := (-2)) dX10_count_92 (by decide) ?_
                  exact y_ireturn dX10_count_94 rfl rfl rfl
-- ===== X10_isByte: WeighedGate.isByte(I)Z =====
set_option maxRecDepth 20000 in
set_option maxHeartbeats 2000000 in
theorem p_X10_isByte {G : xG} {d : Nat} {n t : Nat} (hn : 71 ≤ n) (hd : 1 ≤ d) (a1 : Int32) (w : xI) : xMet G m_X10_isByte d [.int a1] (xFin n t) w (fun x : Int32 => some (Value.int x)) (xFin n t) (f_X10_isByte a1 w) := by
  refine xMet.of rfl (Nat.le_of_ble_eq_true rfl) ?_
  unfold f_X10_isByte
  show xC G m_X10_isByte d 0 [(0, .int a1)] [] (xFin n t) w _ _ _
  refine y_iload_n dX10_isByte_0 rfl 0 rfl ?_
  refine y_iconst (v := 0) dX10_isByte_1 (by decide) ?_
  refine y_sipush (v := 255) dX10_isByte_2 (by decide) ?_
  refine y_callS (As := [.int a1, .int (0 : Int32), .int (255 : Int32)]) (d2 := d - 1) dX10_isByte_5 kX10_104 (by omega) rfl rfl (Nat.le_of_ble_eq_true rfl) (p_X10_within hn (by omega)  _ _ _ _) (fun r1 w2 _ => ?_)
  exact y_zreturn dX10_isByte_8 rfl rfl
-- ===== X10_feed: WeighedGate.feed(IIIIII)I =====
set_option maxRecDepth 20000 in
set_option maxHeartbeats 2000000 in
theorem p_X10_feed_L117 {G : xG} {d : Nat} {n t : Nat} (hn : 71 ≤ n) (hd : 2 ≤ d) (v1 : Int32) (v6 : Int32) (w : xI) : xC G m_X10_feed d 117 [(0, .ref 0), (1, .int v1), (6, .int v6)] [] (xFin n t) w (fun x : Int32 => some (Value.int x)) (xFin n t) (f_X10_feed_L117 v1 v6 w) := by
  unfold f_X10_feed_L117
  refine y_iload_n dX10_feed_117 rfl 1 rfl ?_
  refine y_iconst (v := 4) dX10_feed_118 (by decide) ?_
  refine y_icmp_le (tgt := 131) dX10_feed_119 (by decide) ?_ ?_
  · refine y_aload_n dX10_feed_131 rfl 0 rfl ?_
    refine y_getr (q := 19) dX10_feed_132 flX10_32 (xlt rfl hn) rfl rfl rfl ?_
    refine z_geti (v := (w 19 1)) dX10_feed_135 flX10_126 (xlt rfl hn) rfl rfl rfl ?_
    exact y_ireturn dX10_feed_138 rfl rfl rfl
  · refine y_aload_n dX10_feed_122 rfl 0 rfl ?_
    refine y_getr (q := 19) dX10_feed_123 flX10_32 (xlt rfl hn) rfl rfl rfl ?_
    refine y_iload dX10_feed_126 2 rfl ?_
    refine y_callV (As := [.int v6]) (d2 := d - 1) dX10_feed_128 kX10_92 (by omega) rfl rfl (Nat.le_of_ble_eq_true rfl) (xlt rfl hn) rfl rfl (p_X4_put hn (by omega)  _ _) (fun r117001 w117002 _ => ?_)
    refine y_aload_n dX10_feed_131 rfl 0 rfl ?_
    refine y_getr (q := 19) dX10_feed_132 flX10_32 (xlt rfl hn) rfl rfl rfl ?_
    refine z_geti (v := (w117002 19 1)) dX10_feed_135 flX10_126 (xlt rfl hn) rfl rfl rfl ?_
    exact y_ireturn dX10_feed_138 rfl rfl rfl
set_option maxRecDepth 20000 in
set_option maxHeartbeats 2000000 in
theorem p_X10_feed_L89 {G : xG} {d : Nat} {n t : Nat} (hn : 71 ≤ n) (hd : 2 ≤ d) (v1 : Int32) (v4 : Int32) (v5 : Int32) (v6 : Int32) (w : xI) : xC G m_X10_feed d 89 [(0, .ref 0), (1, .int v1), (4, .int v4), (5, .int v5), (6, .int v6)] [] (xFin n t) w (fun x : Int32 => some (Value.int x)) (xFin n t) (f_X10_feed_L89 v1 v4 v5 v6 w) := by
  unfold f_X10_feed_L89
  refine y_iload_n dX10_feed_89 rfl 1 rfl ?_
  refine y_iconst (v := 2) dX10_feed_90 (by decide) ?_
  refine y_icmp_le (tgt := 103) dX10_feed_91 (by decide) ?_ ?_
  · refine y_iload_n dX10_feed_103 rfl 1 rfl ?_
    refine y_iconst (v := 3) dX10_feed_104 (by decide) ?_
    refine y_icmp_le (tgt := 117) dX10_feed_105 (by decide) ?_ ?_
    · refine y_sub [(0, .ref 0), (1, .int v1), (6, .int v6)] [0, 1, 4] rfl ?_
      refine p_X10_feed_L117 hn hd v1 v6 w 
    · refine y_aload_n dX10_feed_108 rfl 0 rfl ?_
      refine y_getr (q := 19) dX10_feed_109 flX10_32 (xlt rfl hn) rfl rfl rfl ?_
      refine y_iload dX10_feed_112 3 rfl ?_
      refine y_callV (As := [.int v5]) (d2 := d - 1) dX10_feed_114 kX10_92 (by omega) rfl rfl (Nat.le_of_ble_eq_true rfl) (xlt rfl hn) rfl rfl (p_X4_put hn (by omega)  _ _) (fun r89001 w89002 _ => ?_)
      refine y_sub [(0, .ref 0), (1, .int v1), (6, .int v6)] [0, 1, 4] rfl ?_
      refine p_X10_feed_L117 hn hd v1 v6 w89002 
  · refine y_aload_n dX10_feed_94 rfl 0 rfl ?_
    refine y_getr (q := 19) dX10_feed_95 flX10_32 (xlt rfl hn) rfl rfl rfl ?_
    refine y_iload dX10_feed_98 2 rfl ?_
    refine y_callV (As := [.int v4]) (d2 := d - 1) dX10_feed_100 kX10_92 (by omega) rfl rfl (Nat.le_of_ble_eq_true rfl) (xlt rfl hn) rfl rfl (p_X4_put hn (by omega)  _ _) (fun r89003 w89004 _ => ?_)
    refine y_iload_n dX10_feed_103 rfl 1 rfl ?_
    refine y_iconst (v := 3) dX10_feed_104 (by decide) ?_
    refine y_icmp_le (tgt := 117) dX10_feed_105 (by decide) ?_ ?_
    · refine y_sub [(0, .ref 0), (1, .int v1), (6, .int v6)] [0, 1, 4] rfl ?_
      refine p_X10_feed_L117 hn hd v1 v6 w89004 
    · refine y_aload_n dX10_feed_108 rfl 0 rfl ?_
      refine y_getr (q := 19) dX10_feed_109 flX10_32 (xlt rfl hn) rfl rfl rfl ?_
      refine y_iload dX10_feed_112 3 rfl ?_
      refine y_callV (As := [.int v5]) (d2 := d - 1) dX10_feed_114 kX10_92 (by omega) rfl rfl (Nat.le_of_ble_eq_true rfl) (xlt rfl hn) rfl rfl (p_X4_put hn (by omega)  _ _) (fun r89005 w89006 _ => ?_)
      refine y_sub [(0, .ref 0), (1, .int v1), (6, .int v6)] [0, 1, 4] rfl ?_
      refine p_X10_feed_L117 hn hd v1 v6 w89006 
set_option maxRecDepth 20000 in
set_option maxHeartbeats 2000000 in
theorem p_X10_feed {G : xG} {d : Nat} {n t : Nat} (hn : 71 ≤ n) (hd : 2 ≤ d) (a1 : Int32) (a2 : Int32) (a3 : Int32) (a4 : Int32) (a5 : Int32) (a6 : Int32) (w : xI) : xMet G m_X10_feed d [.ref 0, .int a1, .int a2, .int a3, .int a4, .int a5, .int a6] (xFin n t) w (fun x : Int32 => some (Value.int x)) (xFin n t) (f_X10_feed a1 a2 a3 a4 a5 a6 w) := by
  refine xMet.of rfl (Nat.le_of_ble_eq_true rfl) ?_
  unfold f_X10_feed
  show xC G m_X10_feed d 0 [(0, .ref 0), (1, .int a1), (2, .int a2), (3, .int a3), (4, .int a4), (5, .int a5), (6, .int a6)] [] (xFin n t) w _ _ _
  refine y_iload_n dX10_feed_0 rfl 1 rfl ?_
  refine y_iconst (v := 1) dX10_feed_1 (by decide) ?_
  refine y_iconst (v := 5) dX10_feed_2 (by decide) ?_
  refine y_callS (As := [.int a1, .int (1 : Int32), .int (5 : Int32)]) (d2 := d - 1) dX10_feed_3 kX10_104 (by omega) rfl rfl (Nat.le_of_ble_eq_true rfl) (p_X10_within hn (by omega)  _ _ _ _) (fun r1 w2 _ => ?_)
  refine y_if_eq (tgt := 47) dX10_feed_6 (by decide) ?_ ?_
  · refine y_bipush (v := (-2)) dX10_feed_47 (by decide) ?_
    exact y_ireturn dX10_feed_49 rfl rfl rfl
  · refine y_iload_n dX10_feed_9 rfl 2 rfl ?_
    refine y_callS (As := [.int a2]) (d2 := d - 1) dX10_feed_10 kX10_127 (by omega) rfl rfl (Nat.le_of_ble_eq_true rfl) (p_X10_isByte hn (by omega)  _ _) (fun r3 w4 _ => ?_)
    refine y_if_eq (tgt := 47) dX10_feed_13 (by decide) ?_ ?_
    · refine y_bipush (v := (-2)) dX10_feed_47 (by decide) ?_
      exact y_ireturn dX10_feed_49 rfl rfl rfl
    · refine y_iload_n dX10_feed_16 rfl 3 rfl ?_
      refine y_callS (As := [.int a3]) (d2 := d - 1) dX10_feed_17 kX10_127 (by omega) rfl rfl (Nat.le_of_ble_eq_true rfl) (p_X10_isByte hn (by omega)  _ _) (fun r5 w6 _ => ?_)
      refine y_if_eq (tgt := 47) dX10_feed_20 (by decide) ?_ ?_
      · refine y_bipush (v := (-2)) dX10_feed_47 (by decide) ?_
        exact y_ireturn dX10_feed_49 rfl rfl rfl
      · refine y_iload dX10_feed_23 4 rfl ?_
        refine y_callS (As := [.int a4]) (d2 := d - 1) dX10_feed_25 kX10_127 (by omega) rfl rfl (Nat.le_of_ble_eq_true rfl) (p_X10_isByte hn (by omega)  _ _) (fun r7 w8 _ => ?_)
        refine y_if_eq (tgt := 47) dX10_feed_28 (by decide) ?_ ?_
        · refine y_bipush (v := (-2)) dX10_feed_47 (by decide) ?_
          exact y_ireturn dX10_feed_49 rfl rfl rfl
        · refine y_iload dX10_feed_31 5 rfl ?_
          refine y_callS (As := [.int a5]) (d2 := d - 1) dX10_feed_33 kX10_127 (by omega) rfl rfl (Nat.le_of_ble_eq_true rfl) (p_X10_isByte hn (by omega)  _ _) (fun r9 w10 _ => ?_)
          refine y_if_eq (tgt := 47) dX10_feed_36 (by decide) ?_ ?_
          · refine y_bipush (v := (-2)) dX10_feed_47 (by decide) ?_
            exact y_ireturn dX10_feed_49 rfl rfl rfl
          · refine y_iload dX10_feed_39 6 rfl ?_
            refine y_callS (As := [.int a6]) (d2 := d - 1) dX10_feed_41 kX10_127 (by omega) rfl rfl (Nat.le_of_ble_eq_true rfl) (p_X10_isByte hn (by omega)  _ _) (fun r11 w12 _ => ?_)
            refine y_if_ne (tgt := 50) dX10_feed_44 (by decide) ?_ ?_
            · refine y_aload_n dX10_feed_50 rfl 0 rfl ?_
              refine y_getr (q := 19) dX10_feed_51 flX10_32 (xlt rfl hn) rfl rfl rfl ?_
              refine z_geti (v := (w12 19 1)) dX10_feed_54 flX10_126 (xlt rfl hn) rfl rfl rfl ?_
              refine y_iload_n dX10_feed_57 rfl 1 rfl ?_
              refine y_iadd dX10_feed_58 ?_
              refine y_sipush (v := 160) dX10_feed_59 (by decide) ?_
              refine y_icmp_le (tgt := 68) dX10_feed_62 (by decide) ?_ ?_
              · refine y_aload_n dX10_feed_68 rfl 0 rfl ?_
                refine y_getr (q := 19) dX10_feed_69 flX10_32 (xlt rfl hn) rfl rfl rfl ?_
                refine y_iload_n dX10_feed_72 rfl 2 rfl ?_
                refine y_callV (As := [.int a2]) (d2 := d - 1) dX10_feed_73 kX10_92 (by omega) rfl rfl (Nat.le_of_ble_eq_true rfl) (xlt rfl hn) rfl rfl (p_X4_put hn (by omega)  _ _) (fun r13 w14 _ => ?_)
                refine y_iload_n dX10_feed_76 rfl 1 rfl ?_
                refine y_iconst (v := 1) dX10_feed_77 (by decide) ?_
                refine y_icmp_le (tgt := 89) dX10_feed_78 (by decide) ?_ ?_
                · refine y_sub [(0, .ref 0), (1, .int a1), (4, .int a4), (5, .int a5), (6, .int a6)] [0, 1, 4, 5, 6] rfl ?_
                  refine p_X10_feed_L89 hn hd a1 a4 a5 a6 w14 
                · refine y_aload_n dX10_feed_81 rfl 0 rfl ?_
                  refine y_getr (q := 19) dX10_feed_82 flX10_32 (xlt rfl hn) rfl rfl rfl ?_
                  refine y_iload_n dX10_feed_85 rfl 3 rfl ?_
                  refine y_callV (As := [.int a3]) (d2 := d - 1) dX10_feed_86 kX10_92 (by omega) rfl rfl (Nat.le_of_ble_eq_true rfl) (xlt rfl hn) rfl rfl (p_X4_put hn (by omega)  _ _) (fun r15 w16 _ => ?_)
                  refine y_sub [(0, .ref 0), (1, .int a1), (4, .int a4), (5, .int a5), (6, .int a6)] [0, 1, 4, 5, 6] rfl ?_
                  refine p_X10_feed_L89 hn hd a1 a4 a5 a6 w16 
              · refine y_bipush (v := (-4)) dX10_feed_65 (by decide) ?_
                exact y_ireturn dX10_feed_67 rfl rfl rfl
            · refine y_bipush (v := (-2)) dX10_feed_47 (by decide) ?_
              exact y_ireturn dX10_feed_49 rfl rfl rfl
-- ===== X10_text: WeighedGate.text()I =====
set_option maxRecDepth 20000 in
set_option maxHeartbeats 2000000 in
theorem p_X10_text {G : xG} {d : Nat} {n t : Nat} (hn : 71 ≤ n) (hd : 288 ≤ d) (w : xI) : xMet G m_X10_text d [.ref 0] (xFin n t) w (fun x : Int32 => some (Value.int x)) (xFin n t) (f_X10_text  w) := by
  refine xMet.of rfl (Nat.le_of_ble_eq_true rfl) ?_
  unfold f_X10_text
  show xC G m_X10_text d 0 [(0, .ref 0)] [] (xFin n t) w _ _ _
  refine y_aload_n dX10_text_0 rfl 0 rfl ?_
  refine z_geti (v := (w 0 3)) dX10_text_1 flX10_100 (xlt rfl hn) rfl rfl rfl ?_
  refine y_bipush (v := 6) dX10_text_4 (by decide) ?_
  refine y_icmp_lt (tgt := 12) dX10_text_6 (by decide) ?_ ?_
  · refine y_aload_n dX10_text_12 rfl 0 rfl ?_
    refine y_getr (q := 19) dX10_text_13 flX10_32 (xlt rfl hn) rfl rfl rfl ?_
    refine y_aload_n dX10_text_16 rfl 0 rfl ?_
    refine y_getr (q := 18) dX10_text_17 flX10_25 (xlt rfl hn) rfl rfl rfl ?_
    refine y_aload_n dX10_text_20 rfl 0 rfl ?_
    refine z_geti (v := (w 0 3)) dX10_text_21 flX10_100 (xlt rfl hn) rfl rfl rfl ?_
    refine y_aaldT dX10_text_24 hn (fun o2 hok4 => ?_)
    refine y_callV (As := [.ref o2]) (d2 := d - 1) dX10_text_25 kX10_96 (by omega) rfl rfl (Nat.le_of_ble_eq_true rfl) (xlt rfl hn) rfl rfl (p_X4_readInto hn (by omega) hok4  _) (fun r5 w6 _ => ?_)
    refine y_istore_n (lv' := [(1, .int r5), (0, .ref 0)]) dX10_text_28 rfl (by decide) rfl ?_
    refine y_iload_n dX10_text_29 rfl 0 rfl ?_
    refine y_if_lt (tgt := 38) dX10_text_30 (by decide) ?_ ?_
    · refine y_aload_n dX10_text_38 rfl 1 rfl ?_
      refine y_dup dX10_text_39 rfl ?_
      refine z_geti (v := (w6 0 3)) dX10_text_40 flX10_100 (xlt rfl hn) rfl rfl rfl ?_
      refine y_iconst (v := 1) dX10_text_43 (by decide) ?_
      refine y_iadd dX10_text_44 ?_
      refine y_puti dX10_text_45 flX10_100 (xlt rfl hn) rfl rfl ?_
      refine y_aload_n dX10_text_48 rfl 1 rfl ?_
      refine z_geti (v := ((w6 0 3) + (1 : Int32))) dX10_text_49 flX10_100 (xlt rfl hn) rfl rfl rfl ?_
      refine y_iconst (v := 1) dX10_text_52 (by decide) ?_
      refine y_isub dX10_text_53 ?_
      exact y_ireturn dX10_text_54 rfl rfl rfl
    · refine y_bipush (v := (-100)) dX10_text_33 (by decide) ?_
      refine y_iload_n dX10_text_35 rfl 0 rfl ?_
      refine y_isub dX10_text_36 ?_
      exact y_ireturn dX10_text_37 rfl rfl rfl
  · refine y_bipush (v := (-4)) dX10_text_9 (by decide) ?_
    exact y_ireturn dX10_text_11 rfl rfl rfl
-- ===== X10_force: WeighedGate.force(I)I =====
set_option maxRecDepth 20000 in
set_option maxHeartbeats 2000000 in
theorem p_X10_force {G : xG} {d : Nat} {n t : Nat} (hn : 71 ≤ n) (hd : 1 ≤ d) (a1 : Int32) (w : xI) : xMet G m_X10_force d [.ref 0, .int a1] (xFin n t) w (fun x : Int32 => some (Value.int x)) (xFin n t) (f_X10_force a1 w) := by
  refine xMet.of rfl (Nat.le_of_ble_eq_true rfl) ?_
  unfold f_X10_force
  show xC G m_X10_force d 0 [(0, .ref 0), (1, .int a1)] [] (xFin n t) w _ _ _
  refine y_iload_n dX10_force_0 rfl 1 rfl ?_
  refine y_iconst (v := 0) dX10_force_1 (by decide) ?_
  refine y_aload_n dX10_force_2 rfl 0 rfl ?_
  refine z_geti (v := (w 0 3)) dX10_force_3 flX10_100 (xlt rfl hn) rfl rfl rfl ?_
  refine y_iconst (v := 1) dX10_force_6 (by decide) ?_
  refine y_isub dX10_force_7 ?_
  refine y_callS (As := [.int a1, .int (0 : Int32), .int ((w 0 3) - (1 : Int32))]) (d2 := d - 1) dX10_force_8 kX10_104 (by omega) rfl rfl (Nat.le_of_ble_eq_true rfl) (p_X10_within hn (by omega)  _ _ _ _) (fun r1 w2 _ => ?_)
  refine y_if_ne (tgt := 17) dX10_force_11 (by decide) ?_ ?_
  · refine y_aload_n dX10_force_17 rfl 0 rfl ?_
    refine z_geti (v := (w2 0 4)) dX10_force_18 flX10_123 (xlt rfl hn) rfl rfl rfl ?_
    refine y_let (fun x3 => ?_)
    refine y_istore_n (lv' := [(2, .int x3), (0, .ref 0), (1, .int a1)]) dX10_force_21 rfl (by decide) rfl ?_
    refine y_aload_n dX10_force_22 rfl 1 rfl ?_
    refine y_iload_n dX10_force_23 rfl 2 rfl ?_
    refine y_puti dX10_force_24 flX10_123 (xlt rfl hn) rfl rfl ?_
    refine y_iload_n dX10_force_27 rfl 0 rfl ?_
    exact y_ireturn dX10_force_28 rfl rfl rfl
  · refine y_bipush (v := (-2)) dX10_force_14 (by decide) ?_
    exact y_ireturn dX10_force_16 rfl rfl rfl
-- ===== X10_law: WeighedGate.law()LWeighedGate$Text; =====
set_option maxRecDepth 20000 in
set_option maxHeartbeats 2000000 in
theorem p_X10_law {G : xG} {d : Nat} {n t : Nat} (hn : 71 ≤ n) (hd : 0 ≤ d) (w : xI) : xMet G m_X10_law d [.ref 0] (xFin n t) w (fun x : Nat => some (Value.ref x)) (xFin n t) (f_X10_law  w) := by
  refine xMet.of rfl (Nat.le_of_ble_eq_true rfl) ?_
  unfold f_X10_law
  show xC G m_X10_law d 0 [(0, .ref 0)] [] (xFin n t) w _ _ _
  refine y_aload_n dX10_law_0 rfl 0 rfl ?_
  refine y_getr (q := 18) dX10_law_1 flX10_25 (xlt rfl hn) rfl rfl rfl ?_
  refine y_aload_n dX10_law_4 rfl 0 rfl ?_
  refine z_geti (v := (w 0 4)) dX10_law_5 flX10_123 (xlt rfl hn) rfl rfl rfl ?_
  refine y_aaldT dX10_law_8 hn (fun o2 hok4 => ?_)
  exact y_areturn dX10_law_9 rfl rfl
-- ===== X10_asks: WeighedGate.asks(IIII)I =====
set_option maxRecDepth 20000 in
set_option maxHeartbeats 2000000 in
theorem p_X10_asks_L45 {G : xG} {d : Nat} {n t : Nat} (hn : 71 ≤ n) (hd : 2 ≤ d) (v1 : Int32) (v2 : Int32) (v3 : Int32) (v4 : Int32) (s0 : Int32) (w : xI) : xC G m_X10_asks d 45 [(0, .ref 0), (1, .int v1), (2, .int v2), (3, .int v3), (4, .int v4)] [.int s0] (xFin n t) w (fun x : Int32 => some (Value.int x)) (xFin n t) (f_X10_asks_L45 v1 v2 v3 v4 s0 w) := by
  unfold f_X10_asks_L45
  refine y_istore (lv' := [(5, .int s0), (0, .ref 0), (1, .int v1), (2, .int v2), (3, .int v3), (4, .int v4)]) dX10_asks_45 (by decide) rfl ?_
  refine y_iload dX10_asks_47 0 rfl ?_
  refine y_if_ne (tgt := 55) dX10_asks_49 (by decide) ?_ ?_
  · refine y_aload_n dX10_asks_55 rfl 1 rfl ?_
    refine y_getr (q := 38) dX10_asks_56 flX10_74 (xlt rfl hn) rfl rfl rfl ?_
    refine y_iconst (v := 0) dX10_asks_59 (by decide) ?_
    refine y_iload_n dX10_asks_60 rfl 3 rfl ?_
    refine y_sipush (v := 1000) dX10_asks_61 (by decide) ?_
    refine y_idiv dX10_asks_64 (by decide) ?_
    refine z_iast0 (j := 0) dX10_asks_65 (xlt rfl hn) rfl rfl rfl ?_
    refine y_aload_n dX10_asks_66 rfl 1 rfl ?_
    refine y_getr (q := 38) dX10_asks_67 flX10_74 (xlt rfl hn) rfl rfl rfl ?_
    refine y_iconst (v := 1) dX10_asks_70 (by decide) ?_
    refine y_iload_n dX10_asks_71 rfl 3 rfl ?_
    refine y_sipush (v := 1000) dX10_asks_72 (by decide) ?_
    refine y_irem dX10_asks_75 (by decide) ?_
    refine z_iast0 (j := 1) dX10_asks_76 (xlt rfl hn) rfl rfl rfl ?_
    refine y_aload_n dX10_asks_77 rfl 1 rfl ?_
    refine y_getr (q := 38) dX10_asks_78 flX10_74 (xlt rfl hn) rfl rfl rfl ?_
    refine y_iconst (v := 2) dX10_asks_81 (by decide) ?_
    refine y_iload_n dX10_asks_82 rfl 4 rfl ?_
    refine y_bipush (v := 10) dX10_asks_83 (by decide) ?_
    refine y_idiv dX10_asks_85 (by decide) ?_
    refine z_iast0 (j := 2) dX10_asks_86 (xlt rfl hn) rfl rfl rfl ?_
    refine y_aload_n dX10_asks_87 rfl 1 rfl ?_
    refine y_getr (q := 38) dX10_asks_88 flX10_74 (xlt rfl hn) rfl rfl rfl ?_
    refine y_iconst (v := 3) dX10_asks_91 (by decide) ?_
    refine y_iload_n dX10_asks_92 rfl 4 rfl ?_
    refine y_bipush (v := 10) dX10_asks_93 (by decide) ?_
    refine y_irem dX10_asks_95 (by decide) ?_
    refine z_iast0 (j := 3) dX10_asks_96 (xlt rfl hn) rfl rfl rfl ?_
    refine y_aload_n dX10_asks_97 rfl 1 rfl ?_
    refine y_getr (q := 38) dX10_asks_98 flX10_74 (xlt rfl hn) rfl rfl rfl ?_
    refine y_iconst (v := 4) dX10_asks_101 (by decide) ?_
    refine y_iload dX10_asks_102 5 rfl ?_
    refine y_bipush (v := 10) dX10_asks_104 (by decide) ?_
    refine y_idiv dX10_asks_106 (by decide) ?_
    refine z_iast0 (j := 4) dX10_asks_107 (xlt rfl hn) rfl rfl rfl ?_
    refine y_aload_n dX10_asks_108 rfl 1 rfl ?_
    refine y_getr (q := 38) dX10_asks_109 flX10_74 (xlt rfl hn) rfl rfl rfl ?_
    refine y_iconst (v := 5) dX10_asks_112 (by decide) ?_
    refine y_iload dX10_asks_113 5 rfl ?_
    refine y_bipush (v := 10) dX10_asks_115 (by decide) ?_
    refine y_irem dX10_asks_117 (by decide) ?_
    refine z_iast0 (j := 5) dX10_asks_118 (xlt rfl hn) rfl rfl rfl ?_
    refine y_aload_n dX10_asks_119 rfl 1 rfl ?_
    refine y_callV (As := []) (d2 := d - 1) dX10_asks_120 kX10_132 (by omega) rfl rfl (Nat.le_of_ble_eq_true rfl) (xlt rfl hn) rfl rfl (p_X10_law hn (by omega)   _) (fun r45001 w45002 _ => ?_)
    refine xC.chk (fun hz45003 => ?_)
    have hok45004 : okT r45001 := isTxN_ok hz45003
    refine y_iload_n dX10_asks_123 rfl 2 rfl ?_
    refine y_aload_n dX10_asks_124 rfl 1 rfl ?_
    refine y_getr (q := 38) dX10_asks_125 flX10_74 (xlt rfl hn) rfl rfl rfl ?_
    refine y_callV (As := [.int v1, .ref 38]) (d2 := d - 1) dX10_asks_128 kX10_136 (by omega) rfl rfl (Nat.le_of_ble_eq_true rfl) (okT_k hok45004 hn) (okT_s hok45004) rfl (p_X7_says hn (by omega) hok45004 (okA_c (by decide) rfl) _ _) (fun r45005 w45006 _ => ?_)
    exact y_ireturn dX10_asks_131 rfl rfl rfl
  · refine y_bipush (v := (-2)) dX10_asks_52 (by decide) ?_
    exact y_ireturn dX10_asks_54 rfl rfl rfl
set_option maxRecDepth 20000 in
set_option maxHeartbeats 2000000 in
theorem p_X10_asks {G : xG} {d : Nat} {n t : Nat} (hn : 71 ≤ n) (hd : 2 ≤ d) (a1 : Int32) (a2 : Int32) (a3 : Int32) (a4 : Int32) (w : xI) : xMet G m_X10_asks d [.ref 0, .int a1, .int a2, .int a3, .int a4] (xFin n t) w (fun x : Int32 => some (Value.int x)) (xFin n t) (f_X10_asks a1 a2 a3 a4 w) := by
  refine xMet.of rfl (Nat.le_of_ble_eq_true rfl) ?_
  unfold f_X10_asks
  show xC G m_X10_asks d 0 [(0, .ref 0), (1, .int a1), (2, .int a2), (3, .int a3), (4, .int a4)] [] (xFin n t) w _ _ _
  refine y_iload_n dX10_asks_0 rfl 1 rfl ?_
  refine y_iconst (v := 0) dX10_asks_1 (by decide) ?_
  refine y_iconst (v := 2) dX10_asks_2 (by decide) ?_
  refine y_callS (As := [.int a1, .int (0 : Int32), .int (2 : Int32)]) (d2 := d - 1) dX10_asks_3 kX10_104 (by omega) rfl rfl (Nat.le_of_ble_eq_true rfl) (p_X10_within hn (by omega)  _ _ _ _) (fun r1 w2 _ => ?_)
  refine y_if_eq (tgt := 44) dX10_asks_6 (by decide) ?_ ?_
  · refine y_iconst (v := 0) dX10_asks_44 (by decide) ?_
    refine p_X10_asks_L45 hn hd a1 a2 a3 a4 (0 : Int32) w2 
  · refine y_iload_n dX10_asks_9 rfl 2 rfl ?_
    refine y_iconst (v := 0) dX10_asks_10 (by decide) ?_
    refine y_ldc (v := 999999) dX10_asks_11 q574 ?_
    refine y_callS (As := [.int a2, .int (0 : Int32), .int (999999 : Int32)]) (d2 := d - 1) dX10_asks_13 kX10_104 (by omega) rfl rfl (Nat.le_of_ble_eq_true rfl) (p_X10_within hn (by omega)  _ _ _ _) (fun r3 w4 _ => ?_)
    refine y_if_eq (tgt := 44) dX10_asks_16 (by decide) ?_ ?_
    · refine y_iconst (v := 0) dX10_asks_44 (by decide) ?_
      refine p_X10_asks_L45 hn hd a1 a2 a3 a4 (0 : Int32) w4 
    · refine y_iload_n dX10_asks_19 rfl 3 rfl ?_
      refine y_iconst (v := 0) dX10_asks_20 (by decide) ?_
      refine y_bipush (v := 99) dX10_asks_21 (by decide) ?_
      refine y_callS (As := [.int a3, .int (0 : Int32), .int (99 : Int32)]) (d2 := d - 1) dX10_asks_23 kX10_104 (by omega) rfl rfl (Nat.le_of_ble_eq_true rfl) (p_X10_within hn (by omega)  _ _ _ _) (fun r5 w6 _ => ?_)
      refine y_if_eq (tgt := 44) dX10_asks_26 (by decide) ?_ ?_
      · refine y_iconst (v := 0) dX10_asks_44 (by decide) ?_
        refine p_X10_asks_L45 hn hd a1 a2 a3 a4 (0 : Int32) w6 
      · refine y_iload dX10_asks_29 4 rfl ?_
        refine y_iconst (v := 0) dX10_asks_31 (by decide) ?_
        refine y_bipush (v := 99) dX10_asks_32 (by decide) ?_
        refine y_callS (As := [.int a4, .int (0 : Int32), .int (99 : Int32)]) (d2 := d - 1) dX10_asks_34 kX10_104 (by omega) rfl rfl (Nat.le_of_ble_eq_true rfl) (p_X10_within hn (by omega)  _ _ _ _) (fun r7 w8 _ => ?_)
        refine y_if_eq (tgt := 44) dX10_asks_37 (by decide) ?_ ?_
        · refine y_iconst (v := 0) dX10_asks_44 (by decide) ?_
          refine p_X10_asks_L45 hn hd a1 a2 a3 a4 (0 : Int32) w8 
        · refine y_iconst (v := 1) dX10_asks_40 (by decide) ?_
          refine y_goto (tgt := 45) dX10_asks_41 (by decide) ?_
          refine p_X10_asks_L45 hn hd a1 a2 a3 a4 (1 : Int32) w8 
-- ===== X10_cart: WeighedGate.cart(IIIII)I =====
set_option maxRecDepth 20000 in
set_option maxHeartbeats 2000000 in
theorem p_X10_cart_L55 {G : xG} {d : Nat} {n t : Nat} (hn : 71 ≤ n) (hd : 1 ≤ d) (v1 : Int32) (v2 : Int32) (v3 : Int32) (v4 : Int32) (v5 : Int32) (s0 : Int32) (w : xI) : xC G m_X10_cart d 55 [(0, .ref 0), (1, .int v1), (2, .int v2), (3, .int v3), (4, .int v4), (5, .int v5)] [.int s0] (xFin n t) w (fun x : Int32 => some (Value.int x)) (xFin n t) (f_X10_cart_L55 v1 v2 v3 v4 v5 s0 w) := by
  unfold f_X10_cart_L55
  refine y_istore (lv' := [(6, .int s0), (0, .ref 0), (1, .int v1), (2, .int v2), (3, .int v3), (4, .int v4), (5, .int v5)]) dX10_cart_55 (by decide) rfl ?_
  refine y_iload dX10_cart_57 0 rfl ?_
  refine y_if_ne (tgt := 65) dX10_cart_59 (by decide) ?_ ?_
  · refine y_aload_n dX10_cart_65 rfl 1 rfl ?_
    refine y_getr (q := 5) dX10_cart_66 flX10_19 (xlt rfl hn) rfl rfl rfl ?_
    refine z_geti (v := (w 5 2)) dX10_cart_69 flX10_120 (xlt rfl hn) rfl rfl rfl ?_
    refine y_bipush (v := 10) dX10_cart_72 (by decide) ?_
    refine y_icmp_lt (tgt := 80) dX10_cart_74 (by decide) ?_ ?_
    · refine y_aload_n dX10_cart_80 rfl 1 rfl ?_
      refine y_getr (q := 5) dX10_cart_81 flX10_19 (xlt rfl hn) rfl rfl rfl ?_
      refine z_geti (v := (w 5 2)) dX10_cart_84 flX10_120 (xlt rfl hn) rfl rfl rfl ?_
      refine y_let (fun x55001 => ?_)
      refine y_istore (lv' := [(7, .int x55001), (6, .int s0), (0, .ref 0), (1, .int v1), (2, .int v2), (3, .int v3), (4, .int v4), (5, .int v5)]) dX10_cart_87 (by decide) rfl ?_
      refine y_aload_n dX10_cart_89 rfl 2 rfl ?_
      refine y_getr (q := 5) dX10_cart_90 flX10_19 (xlt rfl hn) rfl rfl rfl ?_
      refine y_getr (q := 6) dX10_cart_93 flX10_140 (xlt rfl hn) rfl rfl rfl ?_
      refine y_iload dX10_cart_96 0 rfl ?_
      refine y_aaldC dX10_cart_98 hn (fun o55003 hok55005 => ?_)
      refine y_astore (lv' := [(8, .ref o55003), (7, .int x55001), (6, .int s0), (0, .ref 0), (1, .int v1), (2, .int v2), (3, .int v3), (4, .int v4), (5, .int v5)]) dX10_cart_99 (by decide) rfl ?_
      refine y_aload dX10_cart_101 0 rfl ?_
      refine y_iload_n dX10_cart_103 rfl 4 rfl ?_
      refine y_puti dX10_cart_104 flX10_144 (okC_k hok55005 hn) (okC_s hok55005) rfl ?_
      refine y_aload dX10_cart_107 0 rfl ?_
      refine y_iload_n dX10_cart_109 rfl 5 rfl ?_
      refine y_puti dX10_cart_110 flX10_149 (okC_k hok55005 hn) (okC_s hok55005) rfl ?_
      refine y_aload dX10_cart_113 0 rfl ?_
      refine y_iload_n dX10_cart_115 rfl 6 rfl ?_
      refine y_puti dX10_cart_116 flX10_152 (okC_k hok55005 hn) (okC_s hok55005) rfl ?_
      refine y_aload dX10_cart_119 0 rfl ?_
      refine y_iload dX10_cart_121 7 rfl ?_
      refine y_puti dX10_cart_123 flX10_155 (okC_k hok55005 hn) (okC_s hok55005) rfl ?_
      refine y_aload dX10_cart_126 0 rfl ?_
      refine y_iload dX10_cart_128 8 rfl ?_
      refine y_puti dX10_cart_130 flX10_158 (okC_k hok55005 hn) (okC_s hok55005) rfl ?_
      refine y_aload_n dX10_cart_133 rfl 3 rfl ?_
      refine y_getr (q := 5) dX10_cart_134 flX10_19 (xlt rfl hn) rfl rfl rfl ?_
      refine y_getr (q := 7) dX10_cart_137 flX10_161 (xlt rfl hn) rfl rfl rfl ?_
      refine y_iload dX10_cart_140 1 rfl ?_
      refine y_iconst (v := 0) dX10_cart_142 (by decide) ?_
      refine y_iast dX10_cart_143 (xlt rfl hn) rfl ?_
      refine y_aload_n dX10_cart_144 rfl 3 rfl ?_
      refine y_getr (q := 5) dX10_cart_145 flX10_19 (xlt rfl hn) rfl rfl rfl ?_
      refine y_iload dX10_cart_148 1 rfl ?_
      refine y_iconst (v := 1) dX10_cart_150 (by decide) ?_
      refine y_iadd dX10_cart_151 ?_
      refine y_puti dX10_cart_152 flX10_120 (xlt rfl hn) rfl rfl ?_
      refine y_iload dX10_cart_155 1 rfl ?_
      exact y_ireturn dX10_cart_157 rfl rfl rfl
    · refine y_bipush (v := (-4)) dX10_cart_77 (by decide) ?_
      exact y_ireturn dX10_cart_79 rfl rfl rfl
  · refine y_bipush (v := (-2)) dX10_cart_62 (by decide) ?_
    exact y_ireturn dX10_cart_64 rfl rfl rfl
set_option maxRecDepth 20000 in
set_option maxHeartbeats 2000000 in
theorem p_X10_cart {G : xG} {d : Nat} {n t : Nat} (hn : 71 ≤ n) (hd : 1 ≤ d) (a1 : Int32) (a2 : Int32) (a3 : Int32) (a4 : Int32) (a5 : Int32) (w : xI) : xMet G m_X10_cart d [.ref 0, .int a1, .int a2, .int a3, .int a4, .int a5] (xFin n t) w (fun x : Int32 => some (Value.int x)) (xFin n t) (f_X10_cart a1 a2 a3 a4 a5 w) := by
  refine xMet.of rfl (Nat.le_of_ble_eq_true rfl) ?_
  unfold f_X10_cart
  show xC G m_X10_cart d 0 [(0, .ref 0), (1, .int a1), (2, .int a2), (3, .int a3), (4, .int a4), (5, .int a5)] [] (xFin n t) w _ _ _
  refine y_iload_n dX10_cart_0 rfl 1 rfl ?_
  refine y_iconst (v := 0) dX10_cart_1 (by decide) ?_
  refine y_iconst (v := 1) dX10_cart_2 (by decide) ?_
  refine y_callS (As := [.int a1, .int (0 : Int32), .int (1 : Int32)]) (d2 := d - 1) dX10_cart_3 kX10_104 (by omega) rfl rfl (Nat.le_of_ble_eq_true rfl) (p_X10_within hn (by omega)  _ _ _ _) (fun r1 w2 _ => ?_)
  refine y_if_eq (tgt := 54) dX10_cart_6 (by decide) ?_ ?_
  · refine y_iconst (v := 0) dX10_cart_54 (by decide) ?_
    refine p_X10_cart_L55 hn hd a1 a2 a3 a4 a5 (0 : Int32) w2 
  · refine y_iload_n dX10_cart_9 rfl 2 rfl ?_
    refine y_iconst (v := 0) dX10_cart_10 (by decide) ?_
    refine y_iconst (v := 5) dX10_cart_11 (by decide) ?_
    refine y_callS (As := [.int a2, .int (0 : Int32), .int (5 : Int32)]) (d2 := d - 1) dX10_cart_12 kX10_104 (by omega) rfl rfl (Nat.le_of_ble_eq_true rfl) (p_X10_within hn (by omega)  _ _ _ _) (fun r3 w4 _ => ?_)
    refine y_if_eq (tgt := 54) dX10_cart_15 (by decide) ?_ ?_
    · refine y_iconst (v := 0) dX10_cart_54 (by decide) ?_
      refine p_X10_cart_L55 hn hd a1 a2 a3 a4 a5 (0 : Int32) w4 
    · refine y_iload_n dX10_cart_18 rfl 3 rfl ?_
      refine y_iconst (v := 1) dX10_cart_19 (by decide) ?_
      refine y_bipush (v := 99) dX10_cart_20 (by decide) ?_
      refine y_callS (As := [.int a3, .int (1 : Int32), .int (99 : Int32)]) (d2 := d - 1) dX10_cart_22 kX10_104 (by omega) rfl rfl (Nat.le_of_ble_eq_true rfl) (p_X10_within hn (by omega)  _ _ _ _) (fun r5 w6 _ => ?_)
      refine y_if_eq (tgt := 54) dX10_cart_25 (by decide) ?_ ?_
      · refine y_iconst (v := 0) dX10_cart_54 (by decide) ?_
        refine p_X10_cart_L55 hn hd a1 a2 a3 a4 a5 (0 : Int32) w6 
      · refine y_iload dX10_cart_28 4 rfl ?_
        refine y_iconst (v := 0) dX10_cart_30 (by decide) ?_
        refine y_bipush (v := 99) dX10_cart_31 (by decide) ?_
        refine y_callS (As := [.int a4, .int (0 : Int32), .int (99 : Int32)]) (d2 := d - 1) dX10_cart_33 kX10_104 (by omega) rfl rfl (Nat.le_of_ble_eq_true rfl) (p_X10_within hn (by omega)  _ _ _ _) (fun r7 w8 _ => ?_)
        refine y_if_eq (tgt := 54) dX10_cart_36 (by decide) ?_ ?_
        · refine y_iconst (v := 0) dX10_cart_54 (by decide) ?_
          refine p_X10_cart_L55 hn hd a1 a2 a3 a4 a5 (0 : Int32) w8 
        · refine y_iload dX10_cart_39 5 rfl ?_
          refine y_iconst (v := 0) dX10_cart_41 (by decide) ?_
          refine y_bipush (v := 9) dX10_cart_42 (by decide) ?_
          refine y_callS (As := [.int a5, .int (0 : Int32), .int (9 : Int32)]) (d2 := d - 1) dX10_cart_44 kX10_104 (by omega) rfl rfl (Nat.le_of_ble_eq_true rfl) (p_X10_within hn (by omega)  _ _ _ _) (fun r9 w10 _ => ?_)
          refine y_if_eq (tgt := 54) dX10_cart_47 (by decide) ?_ ?_
          · refine y_iconst (v := 0) dX10_cart_54 (by decide) ?_
            refine p_X10_cart_L55 hn hd a1 a2 a3 a4 a5 (0 : Int32) w10 
          · refine y_iconst (v := 1) dX10_cart_50 (by decide) ?_
            refine y_goto (tgt := 55) dX10_cart_51 (by decide) ?_
            refine p_X10_cart_L55 hn hd a1 a2 a3 a4 a5 (1 : Int32) w10 
-- ===== X10_isHour: WeighedGate.isHour(I)Z =====
set_option maxRecDepth 20000 in
set_option maxHeartbeats 2000000 in
theorem p_X10_isHour {G : xG} {d : Nat} {n t : Nat} (hn : 71 ≤ n) (hd : 1 ≤ d) (a1 : Int32) (w : xI) : xMet G m_X10_isHour d [.int a1] (xFin n t) w (fun x : Int32 => some (Value.int x)) (xFin n t) (f_X10_isHour a1 w) := by
  refine xMet.of rfl (Nat.le_of_ble_eq_true rfl) ?_
  unfold f_X10_isHour
  show xC G m_X10_isHour d 0 [(0, .int a1)] [] (xFin n t) w _ _ _
  refine y_iload_n dX10_isHour_0 rfl 0 rfl ?_
  refine y_iconst (v := 0) dX10_isHour_1 (by decide) ?_
  refine y_bipush (v := 9) dX10_isHour_2 (by decide) ?_
  refine y_callS (As := [.int a1, .int (0 : Int32), .int (9 : Int32)]) (d2 := d - 1) dX10_isHour_4 kX10_104 (by omega) rfl rfl (Nat.le_of_ble_eq_true rfl) (p_X10_within hn (by omega)  _ _ _ _) (fun r1 w2 _ => ?_)
  exact y_zreturn dX10_isHour_7 rfl rfl
-- ===== X10_set: WeighedGate.set(III)I =====
set_option maxRecDepth 20000 in
set_option maxHeartbeats 2000000 in
theorem p_X10_set_L44 {G : xG} {d : Nat} {n t : Nat} (hn : 71 ≤ n) (hd : 2 ≤ d) (v1 : Int32) (v2 : Int32) (v3 : Int32) (s0 : Int32) (w : xI) : xC G m_X10_set d 44 [(0, .ref 0), (1, .int v1), (2, .int v2), (3, .int v3)] [.int s0] (xFin n t) w (fun x : Int32 => some (Value.int x)) (xFin n t) (f_X10_set_L44 v1 v2 v3 s0 w) := by
  unfold f_X10_set_L44
  refine y_istore (lv' := [(4, .int s0), (0, .ref 0), (1, .int v1), (2, .int v2), (3, .int v3)]) dX10_set_44 (by decide) rfl ?_
  refine y_iload dX10_set_46 0 rfl ?_
  refine y_if_ne (tgt := 54) dX10_set_48 (by decide) ?_ ?_
  · refine y_iload_n dX10_set_54 rfl 3 rfl ?_
    refine y_if_ne (tgt := 82) dX10_set_55 (by decide) ?_ ?_
    · refine y_aload_n dX10_set_82 rfl 1 rfl ?_
      refine y_getr (q := 5) dX10_set_83 flX10_19 (xlt rfl hn) rfl rfl rfl ?_
      refine y_getr (q := 6) dX10_set_86 flX10_140 (xlt rfl hn) rfl rfl rfl ?_
      refine y_iload_n dX10_set_89 rfl 2 rfl ?_
      refine y_aaldC dX10_set_90 hn (fun o44002 hok44004 => ?_)
      refine y_astore (lv' := [(5, .ref o44002), (4, .int s0), (0, .ref 0), (1, .int v1), (2, .int v2), (3, .int v3)]) dX10_set_91 (by decide) rfl ?_
      refine y_aload dX10_set_93 0 rfl ?_
      refine y_callV (As := []) (d2 := d - 1) dX10_set_95 kX10_170 (by omega) rfl rfl (Nat.le_of_ble_eq_true rfl) (okC_k hok44004 hn) (okC_s hok44004) rfl (p_X0_mayTurn hn (by omega) hok44004  _) (fun r44005 w44006 _ => ?_)
      refine y_if_ne (tgt := 104) dX10_set_98 (by decide) ?_ ?_
      · refine y_aload dX10_set_104 0 rfl ?_
        refine z_geti (v := (w44006 o44002 0)) dX10_set_106 flX10_144 (okC_k hok44004 hn) (okC_s hok44004) rfl rfl ?_
        refine y_let (fun x44007 => ?_)
        refine y_istore (lv' := [(6, .int x44007), (5, .ref o44002), (4, .int s0), (0, .ref 0), (1, .int v1), (2, .int v2), (3, .int v3)]) dX10_set_109 (by decide) rfl ?_
        refine y_aload dX10_set_111 1 rfl ?_
        refine y_iload_n dX10_set_113 rfl 6 rfl ?_
        refine y_puti dX10_set_114 flX10_144 (okC_k hok44004 hn) (okC_s hok44004) rfl ?_
        refine y_iload dX10_set_117 0 rfl ?_
        exact y_ireturn dX10_set_119 rfl rfl rfl
      · refine y_bipush (v := (-3)) dX10_set_101 (by decide) ?_
        exact y_ireturn dX10_set_103 rfl rfl rfl
    · refine y_aload_n dX10_set_58 rfl 1 rfl ?_
      refine y_getr (q := 5) dX10_set_59 flX10_19 (xlt rfl hn) rfl rfl rfl ?_
      refine y_getr (q := 7) dX10_set_62 flX10_161 (xlt rfl hn) rfl rfl rfl ?_
      refine y_iload_n dX10_set_65 rfl 2 rfl ?_
      refine z_iald (v := (w 7 v1.toNatClampNeg)) dX10_set_66 (xlt rfl hn) rfl rfl ?_
      refine y_let (fun x44008 => ?_)
      refine y_istore (lv' := [(5, .int x44008), (4, .int s0), (0, .ref 0), (1, .int v1), (2, .int v2), (3, .int v3)]) dX10_set_67 (by decide) rfl ?_
      refine y_aload_n dX10_set_69 rfl 2 rfl ?_
      refine y_getr (q := 5) dX10_set_70 flX10_19 (xlt rfl hn) rfl rfl rfl ?_
      refine y_getr (q := 7) dX10_set_73 flX10_161 (xlt rfl hn) rfl rfl rfl ?_
      refine y_iload_n dX10_set_76 rfl 3 rfl ?_
      refine y_iload_n dX10_set_77 rfl 5 rfl ?_
      refine y_iast dX10_set_78 (xlt rfl hn) rfl ?_
      refine y_iload dX10_set_79 0 rfl ?_
      exact y_ireturn dX10_set_81 rfl rfl rfl
  · refine y_bipush (v := (-7)) dX10_set_51 (by decide) ?_
    exact y_ireturn dX10_set_53 rfl rfl rfl
set_option maxRecDepth 20000 in
set_option maxHeartbeats 2000000 in
theorem p_X10_set {G : xG} {d : Nat} {n t : Nat} (hn : 71 ≤ n) (hd : 2 ≤ d) (a1 : Int32) (a2 : Int32) (a3 : Int32) (w : xI) : xMet G m_X10_set d [.ref 0, .int a1, .int a2, .int a3] (xFin n t) w (fun x : Int32 => some (Value.int x)) (xFin n t) (f_X10_set a1 a2 a3 w) := by
  refine xMet.of rfl (Nat.le_of_ble_eq_true rfl) ?_
  unfold f_X10_set
  show xC G m_X10_set d 0 [(0, .ref 0), (1, .int a1), (2, .int a2), (3, .int a3)] [] (xFin n t) w _ _ _
  refine y_aload_n dX10_set_0 rfl 0 rfl ?_
  refine y_getr (q := 5) dX10_set_1 flX10_19 (xlt rfl hn) rfl rfl rfl ?_
  refine y_iload_n dX10_set_4 rfl 1 rfl ?_
  refine y_callV (As := [.int a1]) (d2 := d - 1) dX10_set_5 kX10_164 (by omega) rfl rfl (Nat.le_of_ble_eq_true rfl) (xlt rfl hn) rfl rfl (p_X9_has hn (by omega)  _ _) (fun r1 w2 _ => ?_)
  refine y_if_ne (tgt := 14) dX10_set_8 (by decide) ?_ ?_
  · refine y_iload_n dX10_set_14 rfl 2 rfl ?_
    refine y_if_ne (tgt := 25) dX10_set_15 (by decide) ?_ ?_
    · refine y_iload_n dX10_set_25 rfl 2 rfl ?_
      refine y_iconst (v := 1) dX10_set_26 (by decide) ?_
      refine y_icmp_ne (tgt := 43) dX10_set_27 (by decide) ?_ ?_
      · refine y_iconst (v := 0) dX10_set_43 (by decide) ?_
        refine p_X10_set_L44 hn hd a1 a2 a3 (0 : Int32) w2 
      · refine y_iload_n dX10_set_30 rfl 3 rfl ?_
        refine y_iconst (v := 0) dX10_set_31 (by decide) ?_
        refine y_iconst (v := 1) dX10_set_32 (by decide) ?_
        refine y_callS (As := [.int a3, .int (0 : Int32), .int (1 : Int32)]) (d2 := d - 1) dX10_set_33 kX10_104 (by omega) rfl rfl (Nat.le_of_ble_eq_true rfl) (p_X10_within hn (by omega)  _ _ _ _) (fun r3 w4 _ => ?_)
        refine y_if_eq (tgt := 43) dX10_set_36 (by decide) ?_ ?_
        · refine y_iconst (v := 0) dX10_set_43 (by decide) ?_
          refine p_X10_set_L44 hn hd a1 a2 a3 (0 : Int32) w4 
        · refine y_iconst (v := 1) dX10_set_39 (by decide) ?_
          refine y_goto (tgt := 44) dX10_set_40 (by decide) ?_
          refine p_X10_set_L44 hn hd a1 a2 a3 (1 : Int32) w4 
    · refine y_iload_n dX10_set_18 rfl 3 rfl ?_
      refine y_callS (As := [.int a3]) (d2 := d - 1) dX10_set_19 kX10_167 (by omega) rfl rfl (Nat.le_of_ble_eq_true rfl) (p_X10_isHour hn (by omega)  _ _) (fun r5 w6 _ => ?_)
      refine y_if_ne (tgt := 39) dX10_set_22 (by decide) ?_ ?_
      · refine y_iconst (v := 1) dX10_set_39 (by decide) ?_
        refine y_goto (tgt := 44) dX10_set_40 (by decide) ?_
        refine p_X10_set_L44 hn hd a1 a2 a3 (1 : Int32) w6 
      · refine y_iload_n dX10_set_25 rfl 2 rfl ?_
        refine y_iconst (v := 1) dX10_set_26 (by decide) ?_
        refine y_icmp_ne (tgt := 43) dX10_set_27 (by decide) ?_ ?_
        · refine y_iconst (v := 0) dX10_set_43 (by decide) ?_
          refine p_X10_set_L44 hn hd a1 a2 a3 (0 : Int32) w6 
        · refine y_iload_n dX10_set_30 rfl 3 rfl ?_
          refine y_iconst (v := 0) dX10_set_31 (by decide) ?_
          refine y_iconst (v := 1) dX10_set_32 (by decide) ?_
          refine y_callS (As := [.int a3, .int (0 : Int32), .int (1 : Int32)]) (d2 := d - 1) dX10_set_33 kX10_104 (by omega) rfl rfl (Nat.le_of_ble_eq_true rfl) (p_X10_within hn (by omega)  _ _ _ _) (fun r7 w8 _ => ?_)
          refine y_if_eq (tgt := 43) dX10_set_36 (by decide) ?_ ?_
          · refine y_iconst (v := 0) dX10_set_43 (by decide) ?_
            refine p_X10_set_L44 hn hd a1 a2 a3 (0 : Int32) w8 
          · refine y_iconst (v := 1) dX10_set_39 (by decide) ?_
            refine y_goto (tgt := 44) dX10_set_40 (by decide) ?_
            refine p_X10_set_L44 hn hd a1 a2 a3 (1 : Int32) w8 
  · refine y_bipush (v := (-5)) dX10_set_11 (by decide) ?_
    exact y_ireturn dX10_set_13 rfl rfl rfl
-- ===== X10_cartTold: WeighedGate.cartTold(II)I =====
set_option maxRecDepth 20000 in
set_option maxHeartbeats 2000000 in
theorem p_X10_cartTold {G : xG} {d : Nat} {n t : Nat} (hn : 71 ≤ n) (hd : 1 ≤ d) (a1 : Int32) (a2 : Int32) (w : xI) : xMet G m_X10_cartTold d [.ref 0, .int a1, .int a2] (xFin n t) w (fun x : Int32 => some (Value.int x)) (xFin n t) (f_X10_cartTold a1 a2 w) := by
  refine xMet.of rfl (Nat.le_of_ble_eq_true rfl) ?_
  unfold f_X10_cartTold
  show xC G m_X10_cartTold d 0 [(0, .ref 0), (1, .int a1), (2, .int a2)] [] (xFin n t) w _ _ _
  refine y_aload_n dX10_cartTold_0 rfl 0 rfl ?_
  refine y_getr (q := 5) dX10_cartTold_1 flX10_19 (xlt rfl hn) rfl rfl rfl ?_
  refine y_iload_n dX10_cartTold_4 rfl 1 rfl ?_
  refine y_callV (As := [.int a1]) (d2 := d - 1) dX10_cartTold_5 kX10_164 (by omega) rfl rfl (Nat.le_of_ble_eq_true rfl) (xlt rfl hn) rfl rfl (p_X9_has hn (by omega)  _ _) (fun r1 w2 _ => ?_)
  refine y_if_ne (tgt := 14) dX10_cartTold_8 (by decide) ?_ ?_
  · refine y_aload_n dX10_cartTold_14 rfl 0 rfl ?_
    refine y_getr (q := 5) dX10_cartTold_15 flX10_19 (xlt rfl hn) rfl rfl rfl ?_
    refine y_getr (q := 6) dX10_cartTold_18 flX10_140 (xlt rfl hn) rfl rfl rfl ?_
    refine y_iload_n dX10_cartTold_21 rfl 1 rfl ?_
    refine y_aaldC dX10_cartTold_22 hn (fun o4 hok6 => ?_)
    refine y_astore_n (lv' := [(3, .ref o4), (0, .ref 0), (1, .int a1), (2, .int a2)]) dX10_cartTold_23 rfl (by decide) rfl ?_
    refine y_iload_n dX10_cartTold_24 rfl 3 rfl ?_
    refine xC.ite (fun hs7 => ?_) (fun hs7 => ?_)
    · refine y_table (tgt := 64) (v := 0) dX10_cartTold_25 hs7 (by decide) (by decide) rfl (by decide) ?_
      refine y_aload_n dX10_cartTold_64 rfl 1 rfl ?_
      refine y_getr (q := 5) dX10_cartTold_65 flX10_19 (xlt rfl hn) rfl rfl rfl ?_
      refine y_getr (q := 7) dX10_cartTold_68 flX10_161 (xlt rfl hn) rfl rfl rfl ?_
      refine y_iload_n dX10_cartTold_71 rfl 2 rfl ?_
      refine z_iald (v := (w2 7 a1.toNatClampNeg)) dX10_cartTold_72 (xlt rfl hn) rfl rfl ?_
      exact y_ireturn dX10_cartTold_73 rfl rfl rfl
    · refine xC.ite (fun hs8 => ?_) (fun hs8 => ?_)
      · refine y_table (tgt := 74) (v := 1) dX10_cartTold_25 hs8 (by decide) (by decide) rfl (by decide) ?_
        refine y_aload_n dX10_cartTold_74 rfl 0 rfl ?_
        refine z_geti (v := (w2 o4 0)) dX10_cartTold_75 flX10_144 (okC_k hok6 hn) (okC_s hok6) rfl rfl ?_
        exact y_ireturn dX10_cartTold_78 rfl rfl rfl
      · refine xC.ite (fun hs9 => ?_) (fun hs9 => ?_)
        · refine y_table (tgt := 79) (v := 2) dX10_cartTold_25 hs9 (by decide) (by decide) rfl (by decide) ?_
          refine y_aload_n dX10_cartTold_79 rfl 0 rfl ?_
          refine z_geti (v := (w2 o4 1)) dX10_cartTold_80 flX10_149 (okC_k hok6 hn) (okC_s hok6) rfl rfl ?_
          exact y_ireturn dX10_cartTold_83 rfl rfl rfl
        · refine xC.ite (fun hs10 => ?_) (fun hs10 => ?_)
          · refine y_table (tgt := 84) (v := 3) dX10_cartTold_25 hs10 (by decide) (by decide) rfl (by decide) ?_
            refine y_aload_n dX10_cartTold_84 rfl 0 rfl ?_
            refine z_geti (v := (w2 o4 2)) dX10_cartTold_85 flX10_152 (okC_k hok6 hn) (okC_s hok6) rfl rfl ?_
            exact y_ireturn dX10_cartTold_88 rfl rfl rfl
          · refine xC.ite (fun hs11 => ?_) (fun hs11 => ?_)
            · refine y_table (tgt := 89) (v := 4) dX10_cartTold_25 hs11 (by decide) (by decide) rfl (by decide) ?_
              refine y_aload_n dX10_cartTold_89 rfl 0 rfl ?_
              refine z_geti (v := (w2 o4 3)) dX10_cartTold_90 flX10_155 (okC_k hok6 hn) (okC_s hok6) rfl rfl ?_
              exact y_ireturn dX10_cartTold_93 rfl rfl rfl
            · refine xC.ite (fun hs12 => ?_) (fun hs12 => ?_)
              · refine y_table (tgt := 94) (v := 5) dX10_cartTold_25 hs12 (by decide) (by decide) rfl (by decide) ?_
                refine y_aload_n dX10_cartTold_94 rfl 0 rfl ?_
                refine z_geti (v := (w2 o4 4)) dX10_cartTold_95 flX10_158 (okC_k hok6 hn) (okC_s hok6) rfl rfl ?_
                exact y_ireturn dX10_cartTold_98 rfl rfl rfl
              · refine y_tableD (tgt := 99) dX10_cartTold_25 (by have z0 := lv_neT hs7 (show (0 : Int32).toInt = 0 from rfl); have z1 := lv_neT hs8 (show (1 : Int32).toInt = 1 from rfl); have z2 := lv_neT hs9 (show (2 : Int32).toInt = 2 from rfl); have z3 := lv_neT hs10 (show (3 : Int32).toInt = 3 from rfl); have z4 := lv_neT hs11 (show (4 : Int32).toInt = 4 from rfl); have z5 := lv_neT hs12 (show (5 : Int32).toInt = 5 from rfl); omega) (by decide) ?_
                refine y_bipush (v := (-7)) dX10_cartTold_99 (by decide) ?_
                exact y_ireturn dX10_cartTold_101 rfl rfl rfl
  · refine y_bipush (v := (-5)) dX10_cartTold_11 (by decide) ?_
    exact y_ireturn dX10_cartTold_13 rfl rfl rfl
-- ===== X10_at: WeighedGate.at(III)I =====
set_option maxRecDepth 20000 in
set_option maxHeartbeats 2000000 in
theorem p_X10_at {G : xG} {d : Nat} {n t : Nat} (hn : 71 ≤ n) (hd : 3 ≤ d) (a1 : Int32) (a2 : Int32) (a3 : Int32) (w : xI) : xMet G m_X10_at d [.ref 0, .int a1, .int a2, .int a3] (xFin n t) w (fun x : Int32 => some (Value.int x)) (xFin n t) (f_X10_at a1 a2 a3 w) := by
  refine xMet.of rfl (Nat.le_of_ble_eq_true rfl) ?_
  unfold f_X10_at
  show xC G m_X10_at d 0 [(0, .ref 0), (1, .int a1), (2, .int a2), (3, .int a3)] [] (xFin n t) w _ _ _
  refine y_aload_n dX10_at_0 rfl 0 rfl ?_
  refine y_getr (q := 5) dX10_at_1 flX10_19 (xlt rfl hn) rfl rfl rfl ?_
  refine y_iload_n dX10_at_4 rfl 1 rfl ?_
  refine y_callV (As := [.int a1]) (d2 := d - 1) dX10_at_5 kX10_164 (by omega) rfl rfl (Nat.le_of_ble_eq_true rfl) (xlt rfl hn) rfl rfl (p_X9_has hn (by omega)  _ _) (fun r1 w2 _ => ?_)
  refine y_if_ne (tgt := 14) dX10_at_8 (by decide) ?_ ?_
  · refine y_iload_n dX10_at_14 rfl 2 rfl ?_
    refine y_callS (As := [.int a2]) (d2 := d - 1) dX10_at_15 kX10_167 (by omega) rfl rfl (Nat.le_of_ble_eq_true rfl) (p_X10_isHour hn (by omega)  _ _) (fun r3 w4 _ => ?_)
    refine y_if_eq (tgt := 30) dX10_at_18 (by decide) ?_ ?_
    · refine y_bipush (v := (-7)) dX10_at_30 (by decide) ?_
      exact y_ireturn dX10_at_32 rfl rfl rfl
    · refine y_iload_n dX10_at_21 rfl 3 rfl ?_
      refine y_iconst (v := 0) dX10_at_22 (by decide) ?_
      refine y_iconst (v := 1) dX10_at_23 (by decide) ?_
      refine y_callS (As := [.int a3, .int (0 : Int32), .int (1 : Int32)]) (d2 := d - 1) dX10_at_24 kX10_104 (by omega) rfl rfl (Nat.le_of_ble_eq_true rfl) (p_X10_within hn (by omega)  _ _ _ _) (fun r5 w6 _ => ?_)
      refine y_if_ne (tgt := 33) dX10_at_27 (by decide) ?_ ?_
      · refine y_iload_n dX10_at_33 rfl 2 rfl ?_
        refine y_aload_n dX10_at_34 rfl 0 rfl ?_
        refine y_getr (q := 5) dX10_at_35 flX10_19 (xlt rfl hn) rfl rfl rfl ?_
        refine y_getr (q := 7) dX10_at_38 flX10_161 (xlt rfl hn) rfl rfl rfl ?_
        refine y_iload_n dX10_at_41 rfl 1 rfl ?_
        refine z_iald (v := (w6 7 a1.toNatClampNeg)) dX10_at_42 (xlt rfl hn) rfl rfl ?_
        refine y_callS (As := [.int a2, .int (w6 7 a1.toNatClampNeg)]) (d2 := d - 1) dX10_at_43 kX10_174 (by omega) rfl rfl (Nat.le_of_ble_eq_true rfl) (p_X10_waited hn (by omega)  _ _ _) (fun r7 w8 _ => ?_)
        refine y_istore (lv' := [(4, .int r7), (0, .ref 0), (1, .int a1), (2, .int a2), (3, .int a3)]) dX10_at_46 (by decide) rfl ?_
        refine y_aload_n dX10_at_48 rfl 1 rfl ?_
        refine y_getr (q := 5) dX10_at_49 flX10_19 (xlt rfl hn) rfl rfl rfl ?_
        refine y_getr (q := 6) dX10_at_52 flX10_140 (xlt rfl hn) rfl rfl rfl ?_
        refine y_iload_n dX10_at_55 rfl 2 rfl ?_
        refine y_aaldC dX10_at_56 hn (fun o10 hok12 => ?_)
        refine y_astore (lv' := [(5, .ref o10), (4, .int r7), (0, .ref 0), (1, .int a1), (2, .int a2), (3, .int a3)]) dX10_at_57 (by decide) rfl ?_
        refine y_iload_n dX10_at_59 rfl 5 rfl ?_
        refine y_if_ne (tgt := 73) dX10_at_60 (by decide) ?_ ?_
        · refine y_aload dX10_at_73 0 rfl ?_
          refine y_iload dX10_at_75 1 rfl ?_
          refine y_callV (As := [.int r7]) (d2 := d - 1) dX10_at_77 kX10_182 (by omega) rfl rfl (Nat.le_of_ble_eq_true rfl) (okC_k hok12 hn) (okC_s hok12) rfl (p_X0_worth hn (by omega) hok12 _ _) (fun r13 w14 _ => ?_)
          exact y_ireturn dX10_at_80 rfl rfl rfl
        · refine y_aload dX10_at_63 0 rfl ?_
          refine y_iload dX10_at_65 1 rfl ?_
          refine y_callV (As := [.int r7]) (d2 := d - 1) dX10_at_67 kX10_178 (by omega) rfl rfl (Nat.le_of_ble_eq_true rfl) (okC_k hok12 hn) (okC_s hok12) rfl (p_X0_weighs hn (by omega) hok12 _ _) (fun r15 w16 _ => ?_)
          refine y_goto (tgt := 80) dX10_at_70 (by decide) ?_
          exact y_ireturn dX10_at_80 rfl rfl rfl
      · refine y_bipush (v := (-7)) dX10_at_30 (by decide) ?_
        exact y_ireturn dX10_at_32 rfl rfl rfl
  · refine y_bipush (v := (-5)) dX10_at_11 (by decide) ?_
    exact y_ireturn dX10_at_13 rfl rfl rfl
-- ===== X10_isDifference: WeighedGate.isDifference(I)Z =====
set_option maxRecDepth 20000 in
set_option maxHeartbeats 2000000 in
theorem p_X10_isDifference {G : xG} {d : Nat} {n t : Nat} (hn : 71 ≤ n) (hd : 1 ≤ d) (a1 : Int32) (w : xI) : xMet G m_X10_isDifference d [.int a1] (xFin n t) w (fun x : Int32 => some (Value.int x)) (xFin n t) (f_X10_isDifference a1 w) := by
  refine xMet.of rfl (Nat.le_of_ble_eq_true rfl) ?_
  unfold f_X10_isDifference
  show xC G m_X10_isDifference d 0 [(0, .int a1)] [] (xFin n t) w _ _ _
  refine y_iload_n dX10_isDifference_0 rfl 0 rfl ?_
  refine y_iconst (v := 0) dX10_isDifference_1 (by decide) ?_
  refine y_sipush (v := 999) dX10_isDifference_2 (by decide) ?_
  refine y_callS (As := [.int a1, .int (0 : Int32), .int (999 : Int32)]) (d2 := d - 1) dX10_isDifference_5 kX10_104 (by omega) rfl rfl (Nat.le_of_ble_eq_true rfl) (p_X10_within hn (by omega)  _ _ _ _) (fun r1 w2 _ => ?_)
  exact y_zreturn dX10_isDifference_8 rfl rfl
-- ===== X10_make: WeighedGate.make(I)I =====
set_option maxRecDepth 20000 in
set_option maxHeartbeats 2000000 in
theorem p_X10_make {G : xG} {d : Nat} {n t : Nat} (hn : 71 ≤ n) (hd : 2 ≤ d) (a1 : Int32) (w : xI) : xMet G m_X10_make d [.ref 0, .int a1] (xFin n t) w (fun x : Int32 => some (Value.int x)) (xFin n t) (f_X10_make a1 w) := by
  refine xMet.of rfl (Nat.le_of_ble_eq_true rfl) ?_
  unfold f_X10_make
  show xC G m_X10_make d 0 [(0, .ref 0), (1, .int a1)] [] (xFin n t) w _ _ _
  refine y_iload_n dX10_make_0 rfl 1 rfl ?_
  refine y_callS (As := [.int a1]) (d2 := d - 1) dX10_make_1 kX10_185 (by omega) rfl rfl (Nat.le_of_ble_eq_true rfl) (p_X10_isDifference hn (by omega)  _ _) (fun r1 w2 _ => ?_)
  refine y_if_eq (tgt := 18) dX10_make_4 (by decide) ?_ ?_
  · refine y_bipush (v := (-2)) dX10_make_18 (by decide) ?_
    exact y_ireturn dX10_make_20 rfl rfl rfl
  · refine y_aload_n dX10_make_7 rfl 0 rfl ?_
    refine y_getr (q := 1) dX10_make_8 flX10_12 (xlt rfl hn) rfl rfl rfl ?_
    refine y_iload_n dX10_make_11 rfl 1 rfl ?_
    refine y_callV (As := [.int a1]) (d2 := d - 1) dX10_make_12 kX10_188 (by omega) rfl rfl (Nat.le_of_ble_eq_true rfl) (xlt rfl hn) rfl rfl (p_X5_fewestFor hn (by omega)  _ _) (fun r3 w4 _ => ?_)
    refine y_goto (tgt := 20) dX10_make_15 (by decide) ?_
    exact y_ireturn dX10_make_20 rfl rfl rfl
