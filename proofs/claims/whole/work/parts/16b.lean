-- ===== X11_signOf: WeighedGateModel.signOf()I =====
set_option maxRecDepth 20000 in
set_option maxHeartbeats 2000000 in
theorem p_X11_signOf {G : xG} {d : Nat} {n t : Nat} (hn : 102 ≤ n) (hd : 0 ≤ d) (w : xI) : xMet G m_X11_signOf d [.ref 71] (xFin n t) w (fun x : Int32 => some (Value.int x)) (xFin n t) (f_X11_signOf  w) := by
  refine xMet.of rfl (Nat.le_of_ble_eq_true rfl) ?_
  unfold f_X11_signOf
  show xC G m_X11_signOf d 0 [(0, .ref 71)] [] (xFin n t) w _ _ _
  refine y_aload_n dX11_signOf_0 rfl 0 rfl ?_
  refine z_geti (v := (w 71 30)) dX11_signOf_1 flX11_137 (xlt rfl hn) rfl rfl rfl ?_
  refine y_iconst (v := 4) dX11_signOf_4 (by decide) ?_
  refine y_icmp_ne (tgt := 13) dX11_signOf_5 (by decide) ?_ ?_
  · refine y_aload_n dX11_signOf_13 rfl 0 rfl ?_
    refine z_geti (v := (w 71 30)) dX11_signOf_14 flX11_137 (xlt rfl hn) rfl rfl rfl ?_
    refine y_iconst (v := 5) dX11_signOf_17 (by decide) ?_
    refine y_icmp_ne (tgt := 26) dX11_signOf_18 (by decide) ?_ ?_
    · refine y_aload_n dX11_signOf_26 rfl 0 rfl ?_
      refine z_geti (v := (w 71 30)) dX11_signOf_27 flX11_137 (xlt rfl hn) rfl rfl rfl ?_
      refine y_bipush (v := 60) dX11_signOf_30 (by decide) ?_
      refine y_icmp_ne (tgt := 40) dX11_signOf_32 (by decide) ?_ ?_
      · refine y_aload_n dX11_signOf_40 rfl 0 rfl ?_
        refine z_geti (v := (w 71 30)) dX11_signOf_41 flX11_137 (xlt rfl hn) rfl rfl rfl ?_
        refine y_bipush (v := 61) dX11_signOf_44 (by decide) ?_
        refine y_icmp_ne (tgt := 54) dX11_signOf_46 (by decide) ?_ ?_
        · refine y_aload_n dX11_signOf_54 rfl 0 rfl ?_
          refine z_geti (v := (w 71 30)) dX11_signOf_55 flX11_137 (xlt rfl hn) rfl rfl rfl ?_
          refine y_bipush (v := 43) dX11_signOf_58 (by decide) ?_
          refine y_icmp_ne (tgt := 68) dX11_signOf_60 (by decide) ?_ ?_
          · refine y_aload_n dX11_signOf_68 rfl 0 rfl ?_
            refine z_geti (v := (w 71 30)) dX11_signOf_69 flX11_137 (xlt rfl hn) rfl rfl rfl ?_
            refine y_bipush (v := 45) dX11_signOf_72 (by decide) ?_
            refine y_icmp_ne (tgt := 82) dX11_signOf_74 (by decide) ?_ ?_
            · refine y_aload_n dX11_signOf_82 rfl 0 rfl ?_
              refine z_geti (v := (w 71 30)) dX11_signOf_83 flX11_137 (xlt rfl hn) rfl rfl rfl ?_
              refine y_bipush (v := 42) dX11_signOf_86 (by decide) ?_
              refine y_icmp_ne (tgt := 96) dX11_signOf_88 (by decide) ?_ ?_
              · refine y_iconst (v := (-1)) dX11_signOf_96 (by decide) ?_
                exact y_ireturn dX11_signOf_97 rfl rfl rfl
              · refine y_bipush (v := 18) dX11_signOf_91 (by decide) ?_
                refine y_goto (tgt := 97) dX11_signOf_93 (by decide) ?_
                exact y_ireturn dX11_signOf_97 rfl rfl rfl
            · refine y_bipush (v := 17) dX11_signOf_77 (by decide) ?_
              refine y_goto (tgt := 97) dX11_signOf_79 (by decide) ?_
              exact y_ireturn dX11_signOf_97 rfl rfl rfl
          · refine y_bipush (v := 16) dX11_signOf_63 (by decide) ?_
            refine y_goto (tgt := 97) dX11_signOf_65 (by decide) ?_
            exact y_ireturn dX11_signOf_97 rfl rfl rfl
        · refine y_bipush (v := 15) dX11_signOf_49 (by decide) ?_
          refine y_goto (tgt := 97) dX11_signOf_51 (by decide) ?_
          exact y_ireturn dX11_signOf_97 rfl rfl rfl
      · refine y_bipush (v := 14) dX11_signOf_35 (by decide) ?_
        refine y_goto (tgt := 97) dX11_signOf_37 (by decide) ?_
        exact y_ireturn dX11_signOf_97 rfl rfl rfl
    · refine y_bipush (v := 12) dX11_signOf_21 (by decide) ?_
      refine y_goto (tgt := 97) dX11_signOf_23 (by decide) ?_
      exact y_ireturn dX11_signOf_97 rfl rfl rfl
  · refine y_bipush (v := 11) dX11_signOf_8 (by decide) ?_
    refine y_goto (tgt := 97) dX11_signOf_10 (by decide) ?_
    exact y_ireturn dX11_signOf_97 rfl rfl rfl
-- ===== X11_eRead: WeighedGateModel.eRead()Z =====
set_option maxRecDepth 20000 in
set_option maxHeartbeats 2000000 in
theorem p_X11_eRead_L99 {G : xG} {d : Nat} {n t : Nat} (hn : 102 ≤ n) (hd : 3 ≤ d) {K14 : Int32 → Int32 → xI → Option (Int32 × xI)} (hK14 : ∀ (v1 : Int32) (v2 : Int32) (w : xI), xC G m_X11_eRead d 14 [(0, .ref 71), (1, .int v1), (2, .int v2)] [] (xFin n t) w (fun x : Int32 => some (Value.int x)) (xFin n t) (K14 v1 v2 w)) (v1 : Int32) (w : xI) : xC G m_X11_eRead d 99 [(0, .ref 71), (1, .int v1)] [] (xFin n t) w (fun x : Int32 => some (Value.int x)) (xFin n t) (f_X11_eRead_L99 K14 v1 w) := by
  unfold f_X11_eRead_L99
  refine y_aload_n dX11_eRead_99 rfl 0 rfl ?_
  refine z_geti (v := (w 71 30)) dX11_eRead_100 flX11_137 (xlt rfl hn) rfl rfl rfl ?_
  refine y_bipush (v := 45) dX11_eRead_103 (by decide) ?_
  refine y_icmp_ne (tgt := 124) dX11_eRead_105 (by decide) ?_ ?_
  · refine y_aload_n dX11_eRead_124 rfl 0 rfl ?_
    refine z_geti (v := (w 71 30)) dX11_eRead_125 flX11_137 (xlt rfl hn) rfl rfl rfl ?_
    refine y_bipush (v := 40) dX11_eRead_128 (by decide) ?_
    refine y_icmp_ne (tgt := 148) dX11_eRead_130 (by decide) ?_ ?_
    · refine y_iconst (v := 0) dX11_eRead_148 (by decide) ?_
      exact y_ireturn dX11_eRead_149 rfl rfl rfl
    · refine y_aload_n dX11_eRead_133 rfl 0 rfl ?_
      refine y_iconst (v := 0) dX11_eRead_134 (by decide) ?_
      refine y_callV (As := [.int (0 : Int32)]) (d2 := d - 1) dX11_eRead_135 kX11_174 (by omega) rfl rfl (Nat.le_of_ble_eq_true rfl) (xlt rfl hn) rfl rfl (p_X11_opensOne hn (by omega)  _ _) (fun r99001 w99002 _ => ?_)
      refine y_if_ne (tgt := 143) dX11_eRead_138 (by decide) ?_ ?_
      · refine y_iconst (v := 1) dX11_eRead_143 (by decide) ?_
        refine y_istore_n (lv' := [(2, .int (1 : Int32)), (0, .ref 71), (1, .int v1)]) dX11_eRead_144 rfl (by decide) rfl ?_
        refine y_goto (tgt := 14) dX11_eRead_145 (by decide) ?_
        refine y_sub [(0, .ref 71), (1, .int v1), (2, .int (1 : Int32))] [1, 2, 0] rfl ?_
        exact hK14 v1 (1 : Int32) w99002 
      · refine y_iconst (v := 0) dX11_eRead_141 (by decide) ?_
        exact y_ireturn dX11_eRead_142 rfl rfl rfl
  · refine y_aload_n dX11_eRead_108 rfl 0 rfl ?_
    refine y_bipush (v := 19) dX11_eRead_109 (by decide) ?_
    refine y_callV (As := [.int (19 : Int32)]) (d2 := d - 1) dX11_eRead_111 kX11_174 (by omega) rfl rfl (Nat.le_of_ble_eq_true rfl) (xlt rfl hn) rfl rfl (p_X11_opensOne hn (by omega)  _ _) (fun r99003 w99004 _ => ?_)
    refine y_if_ne (tgt := 119) dX11_eRead_114 (by decide) ?_ ?_
    · refine y_iconst (v := 0) dX11_eRead_119 (by decide) ?_
      refine y_istore_n (lv' := [(2, .int (0 : Int32)), (0, .ref 71), (1, .int v1)]) dX11_eRead_120 rfl (by decide) rfl ?_
      refine y_goto (tgt := 14) dX11_eRead_121 (by decide) ?_
      refine y_sub [(0, .ref 71), (1, .int v1), (2, .int (0 : Int32))] [1, 2, 0] rfl ?_
      exact hK14 v1 (0 : Int32) w99004 
    · refine y_iconst (v := 0) dX11_eRead_117 (by decide) ?_
      exact y_ireturn dX11_eRead_118 rfl rfl rfl
set_option maxRecDepth 20000 in
set_option maxHeartbeats 2000000 in
theorem p_X11_eRead_L38 {G : xG} {d : Nat} {n t : Nat} (hn : 102 ≤ n) (hd : 3 ≤ d) {K14 : Int32 → Int32 → xI → Option (Int32 × xI)} (hK14 : ∀ (v1 : Int32) (v2 : Int32) (w : xI), xC G m_X11_eRead d 14 [(0, .ref 71), (1, .int v1), (2, .int v2)] [] (xFin n t) w (fun x : Int32 => some (Value.int x)) (xFin n t) (K14 v1 v2 w)) (v2 : Int32) (w : xI) : xC G m_X11_eRead d 38 [(0, .ref 71), (2, .int v2)] [] (xFin n t) w (fun x : Int32 => some (Value.int x)) (xFin n t) (f_X11_eRead_L38 K14 v2 w) := by
  unfold f_X11_eRead_L38
  refine y_aload_n dX11_eRead_38 rfl 0 rfl ?_
  refine y_aload_n dX11_eRead_39 rfl 0 rfl ?_
  refine z_geti (v := (w 71 30)) dX11_eRead_40 flX11_137 (xlt rfl hn) rfl rfl rfl ?_
  refine y_iconst (v := 1) dX11_eRead_43 (by decide) ?_
  refine y_icmp_ne (tgt := 57) dX11_eRead_44 (by decide) ?_ ?_
  · refine y_aload_n dX11_eRead_57 rfl 0 rfl ?_
    refine z_geti (v := (w 71 31)) dX11_eRead_58 flX11_140 (xlt rfl hn) rfl rfl rfl ?_
    refine y_callV (As := [.int (w 71 31)]) (d2 := d - 1) dX11_eRead_61 kX11_160 (by omega) rfl rfl (Nat.le_of_ble_eq_true rfl) (xlt rfl hn) rfl rfl (p_X11_puts hn (by omega)  _ _) (fun r38001 w38002 _ => ?_)
    refine y_aload_n dX11_eRead_64 rfl 0 rfl ?_
    refine y_bipush (v := 7) dX11_eRead_65 (by decide) ?_
    refine y_callV (As := [.int (7 : Int32)]) (d2 := d - 1) dX11_eRead_67 kX11_167 (by omega) rfl rfl (Nat.le_of_ble_eq_true rfl) (xlt rfl hn) rfl rfl (p_X11_unwinds hn (by omega)  _ _) (fun r38003 w38004 _ => ?_)
    refine y_iconst (v := 0) dX11_eRead_70 (by decide) ?_
    refine y_istore_n (lv' := [(1, .int (0 : Int32)), (0, .ref 71), (2, .int v2)]) dX11_eRead_71 rfl (by decide) rfl ?_
    refine y_goto (tgt := 14) dX11_eRead_72 (by decide) ?_
    refine y_sub [(0, .ref 71), (1, .int (0 : Int32)), (2, .int v2)] [1, 0, 2] rfl ?_
    exact hK14 (0 : Int32) v2 w38004 
  · refine y_ldc (v := 100000) dX11_eRead_47 q999 ?_
    refine y_aload_n dX11_eRead_49 rfl 0 rfl ?_
    refine z_geti (v := (w 71 31)) dX11_eRead_50 flX11_140 (xlt rfl hn) rfl rfl rfl ?_
    refine y_iadd dX11_eRead_53 ?_
    refine y_goto (tgt := 61) dX11_eRead_54 (by decide) ?_
    refine y_callV (As := [.int ((100000 : Int32) + (w 71 31))]) (d2 := d - 1) dX11_eRead_61 kX11_160 (by omega) rfl rfl (Nat.le_of_ble_eq_true rfl) (xlt rfl hn) rfl rfl (p_X11_puts hn (by omega)  _ _) (fun r38005 w38006 _ => ?_)
    refine y_aload_n dX11_eRead_64 rfl 0 rfl ?_
    refine y_bipush (v := 7) dX11_eRead_65 (by decide) ?_
    refine y_callV (As := [.int (7 : Int32)]) (d2 := d - 1) dX11_eRead_67 kX11_167 (by omega) rfl rfl (Nat.le_of_ble_eq_true rfl) (xlt rfl hn) rfl rfl (p_X11_unwinds hn (by omega)  _ _) (fun r38007 w38008 _ => ?_)
    refine y_iconst (v := 0) dX11_eRead_70 (by decide) ?_
    refine y_istore_n (lv' := [(1, .int (0 : Int32)), (0, .ref 71), (2, .int v2)]) dX11_eRead_71 rfl (by decide) rfl ?_
    refine y_goto (tgt := 14) dX11_eRead_72 (by decide) ?_
    refine y_sub [(0, .ref 71), (1, .int (0 : Int32)), (2, .int v2)] [1, 0, 2] rfl ?_
    exact hK14 (0 : Int32) v2 w38008 
set_option maxRecDepth 20000 in
set_option maxHeartbeats 2000000 in
theorem p_X11_eRead_L14 {G : xG} {d : Nat} {n t : Nat} (hn : 102 ≤ n) (hd : 3 ≤ d) : ∀ (fu : Nat) (v1 : Int32) (v2 : Int32) (w : xI), xC G m_X11_eRead d 14 [(0, .ref 71), (1, .int v1), (2, .int v2)] [] (xFin n t) w (fun x : Int32 => some (Value.int x)) (xFin n t) (f_X11_eRead_L14 fu v1 v2 w) := by
  intro fu
  induction fu with
  | zero => intro v1 v2 w; exact xC.none
  | succ fu ih =>
    intro v1 v2 w
    rw [f_X11_eRead_L14]
    refine y_aload_n dX11_eRead_14 rfl 0 rfl ?_
    refine y_callV (As := []) (d2 := d - 1) dX11_eRead_15 kX11_170 (by omega) rfl rfl (Nat.le_of_ble_eq_true rfl) (xlt rfl hn) rfl rfl (p_X11_next hn (by omega)   _) (fun r14001 w14002 _ => ?_)
    refine y_iload_n dX11_eRead_18 rfl 1 rfl ?_
    refine y_if_eq (tgt := 150) dX11_eRead_19 (by decide) ?_ ?_
    · refine y_aload_n dX11_eRead_150 rfl 0 rfl ?_
      refine z_geti (v := (w14002 71 30)) dX11_eRead_151 flX11_137 (xlt rfl hn) rfl rfl rfl ?_
      refine y_bipush (v := 59) dX11_eRead_154 (by decide) ?_
      refine y_icmp_ne (tgt := 177) dX11_eRead_156 (by decide) ?_ ?_
      · refine y_aload_n dX11_eRead_177 rfl 0 rfl ?_
        refine z_geti (v := (w14002 71 30)) dX11_eRead_178 flX11_137 (xlt rfl hn) rfl rfl rfl ?_
        refine y_bipush (v := 41) dX11_eRead_181 (by decide) ?_
        refine y_icmp_ne (tgt := 229) dX11_eRead_183 (by decide) ?_ ?_
        · refine y_aload_n dX11_eRead_229 rfl 0 rfl ?_
          refine y_callV (As := []) (d2 := d - 1) dX11_eRead_230 kX11_177 (by omega) rfl rfl (Nat.le_of_ble_eq_true rfl) (xlt rfl hn) rfl rfl (p_X11_signOf hn (by omega)   _) (fun r14003 w14004 _ => ?_)
          refine y_istore_n (lv' := [(3, .int r14003), (0, .ref 71), (1, .int v1), (2, .int v2)]) dX11_eRead_233 rfl (by decide) rfl ?_
          refine y_iload_n dX11_eRead_234 rfl 0 rfl ?_
          refine y_iconst (v := (-1)) dX11_eRead_235 (by decide) ?_
          refine y_icmp_eq (tgt := 247) dX11_eRead_236 (by decide) ?_ ?_
          · refine y_iconst (v := 0) dX11_eRead_247 (by decide) ?_
            exact y_ireturn dX11_eRead_248 rfl rfl rfl
          · refine y_aload_n dX11_eRead_239 rfl 1 rfl ?_
            refine y_iload_n dX11_eRead_240 rfl 0 rfl ?_
            refine y_callV (As := [.int r14003]) (d2 := d - 1) dX11_eRead_241 kX11_180 (by omega) rfl rfl (Nat.le_of_ble_eq_true rfl) (xlt rfl hn) rfl rfl (p_X11_between hn (by omega)  _ _) (fun r14005 w14006 _ => ?_)
            refine y_if_ne (tgt := 249) dX11_eRead_244 (by decide) ?_ ?_
            · refine y_iconst (v := 1) dX11_eRead_249 (by decide) ?_
              refine y_istore_n (lv' := [(1, .int (1 : Int32)), (3, .int r14003), (0, .ref 71), (2, .int v2)]) dX11_eRead_250 rfl (by decide) rfl ?_
              refine y_iload_n dX11_eRead_251 rfl 1 rfl ?_
              refine y_bipush (v := 12) dX11_eRead_252 (by decide) ?_
              refine y_icmp_gt (tgt := 261) dX11_eRead_254 (by decide) ?_ ?_
              · refine y_iconst (v := 0) dX11_eRead_261 (by decide) ?_
                refine y_istore_n (lv' := [(2, .int (0 : Int32)), (1, .int (1 : Int32)), (3, .int r14003), (0, .ref 71)]) dX11_eRead_262 rfl (by decide) rfl ?_
                refine y_goto (tgt := 14) dX11_eRead_263 (by decide) ?_
                refine y_sub [(0, .ref 71), (1, .int (1 : Int32)), (2, .int (0 : Int32))] [3, 1, 0] rfl ?_
                exact ih (1 : Int32) (0 : Int32) w14006 
              · refine y_iconst (v := 1) dX11_eRead_257 (by decide) ?_
                refine y_goto (tgt := 262) dX11_eRead_258 (by decide) ?_
                refine y_istore_n (lv' := [(2, .int (1 : Int32)), (1, .int (1 : Int32)), (3, .int r14003), (0, .ref 71)]) dX11_eRead_262 rfl (by decide) rfl ?_
                refine y_goto (tgt := 14) dX11_eRead_263 (by decide) ?_
                refine y_sub [(0, .ref 71), (1, .int (1 : Int32)), (2, .int (1 : Int32))] [3, 1, 0] rfl ?_
                exact ih (1 : Int32) (1 : Int32) w14006 
            · refine y_iconst (v := 0) dX11_eRead_247 (by decide) ?_
              exact y_ireturn dX11_eRead_248 rfl rfl rfl
        · refine y_aload_n dX11_eRead_186 rfl 0 rfl ?_
          refine y_iconst (v := 1) dX11_eRead_187 (by decide) ?_
          refine y_callV (As := [.int (1 : Int32)]) (d2 := d - 1) dX11_eRead_188 kX11_167 (by omega) rfl rfl (Nat.le_of_ble_eq_true rfl) (xlt rfl hn) rfl rfl (p_X11_unwinds hn (by omega)  _ _) (fun r14007 w14008 _ => ?_)
          refine y_aload_n dX11_eRead_191 rfl 0 rfl ?_
          refine z_geti (v := (w14008 71 34)) dX11_eRead_192 flX11_150 (xlt rfl hn) rfl rfl rfl ?_
          refine y_if_ne (tgt := 200) dX11_eRead_195 (by decide) ?_ ?_
          · refine y_aload_n dX11_eRead_200 rfl 0 rfl ?_
            refine y_dup dX11_eRead_201 rfl ?_
            refine z_geti (v := (w14008 71 34)) dX11_eRead_202 flX11_150 (xlt rfl hn) rfl rfl rfl ?_
            refine y_iconst (v := 1) dX11_eRead_205 (by decide) ?_
            refine y_isub dX11_eRead_206 ?_
            refine y_puti dX11_eRead_207 flX11_150 (xlt rfl hn) rfl rfl ?_
            refine y_aload_n dX11_eRead_210 rfl 0 rfl ?_
            refine y_dup dX11_eRead_211 rfl ?_
            refine z_geti (v := (w14008 71 35)) dX11_eRead_212 flX11_157 (xlt rfl hn) rfl rfl rfl ?_
            refine y_iconst (v := 1) dX11_eRead_215 (by decide) ?_
            refine y_isub dX11_eRead_216 ?_
            refine y_puti dX11_eRead_217 flX11_157 (xlt rfl hn) rfl rfl ?_
            refine y_aload_n dX11_eRead_220 rfl 0 rfl ?_
            refine y_bipush (v := 7) dX11_eRead_221 (by decide) ?_
            refine y_callV (As := [.int (7 : Int32)]) (d2 := d - 1) dX11_eRead_223 kX11_167 (by omega) rfl rfl (Nat.le_of_ble_eq_true rfl) (xlt rfl hn) rfl rfl (p_X11_unwinds hn (by omega)  _ _) (fun r14009 w14010 _ => ?_)
            refine y_goto (tgt := 14) dX11_eRead_226 (by decide) ?_
            exact ih v1 v2 w14010 
          · refine y_iconst (v := 0) dX11_eRead_198 (by decide) ?_
            exact y_ireturn dX11_eRead_199 rfl rfl rfl
      · refine y_aload_n dX11_eRead_159 rfl 0 rfl ?_
        refine y_iconst (v := 1) dX11_eRead_160 (by decide) ?_
        refine y_callV (As := [.int (1 : Int32)]) (d2 := d - 1) dX11_eRead_161 kX11_167 (by omega) rfl rfl (Nat.le_of_ble_eq_true rfl) (xlt rfl hn) rfl rfl (p_X11_unwinds hn (by omega)  _ _) (fun r14011 w14012 _ => ?_)
        refine y_aload_n dX11_eRead_164 rfl 0 rfl ?_
        refine z_geti (v := (w14012 71 34)) dX11_eRead_165 flX11_150 (xlt rfl hn) rfl rfl rfl ?_
        refine y_if_ne (tgt := 175) dX11_eRead_168 (by decide) ?_ ?_
        · refine y_iconst (v := 0) dX11_eRead_175 (by decide) ?_
          exact y_ireturn dX11_eRead_176 rfl rfl rfl
        · refine y_iconst (v := 1) dX11_eRead_171 (by decide) ?_
          refine y_goto (tgt := 176) dX11_eRead_172 (by decide) ?_
          exact y_ireturn dX11_eRead_176 rfl rfl rfl
    · refine y_aload_n dX11_eRead_22 rfl 0 rfl ?_
      refine z_geti (v := (w14002 71 30)) dX11_eRead_23 flX11_137 (xlt rfl hn) rfl rfl rfl ?_
      refine y_iconst (v := 1) dX11_eRead_26 (by decide) ?_
      refine y_icmp_eq (tgt := 38) dX11_eRead_27 (by decide) ?_ ?_
      · refine y_sub [(0, .ref 71), (2, .int v2)] [0, 2] rfl ?_
        refine p_X11_eRead_L38 hn hd ?_ v2 w14002 
        · intro v1_14013 v2_14013 w14013 
          exact ih v1_14013 v2_14013 w14013 
      · refine y_aload_n dX11_eRead_30 rfl 0 rfl ?_
        refine z_geti (v := (w14002 71 30)) dX11_eRead_31 flX11_137 (xlt rfl hn) rfl rfl rfl ?_
        refine y_iconst (v := 2) dX11_eRead_34 (by decide) ?_
        refine y_icmp_ne (tgt := 75) dX11_eRead_35 (by decide) ?_ ?_
        · refine y_aload_n dX11_eRead_75 rfl 0 rfl ?_
          refine z_geti (v := (w14002 71 30)) dX11_eRead_76 flX11_137 (xlt rfl hn) rfl rfl rfl ?_
          refine y_bipush (v := 6) dX11_eRead_79 (by decide) ?_
          refine y_icmp_ne (tgt := 99) dX11_eRead_81 (by decide) ?_ ?_
          · refine y_sub [(0, .ref 71), (1, .int v1)] [0, 1] rfl ?_
            refine p_X11_eRead_L99 hn hd ?_ v1 w14002 
            · intro v1_14014 v2_14014 w14014 
              exact ih v1_14014 v2_14014 w14014 
          · refine y_iload_n dX11_eRead_84 rfl 2 rfl ?_
            refine y_if_eq (tgt := 99) dX11_eRead_85 (by decide) ?_ ?_
            · refine y_sub [(0, .ref 71), (1, .int v1)] [0, 1] rfl ?_
              refine p_X11_eRead_L99 hn hd ?_ v1 w14002 
              · intro v1_14015 v2_14015 w14015 
                exact ih v1_14015 v2_14015 w14015 
            · refine y_aload_n dX11_eRead_88 rfl 0 rfl ?_
              refine y_bipush (v := 13) dX11_eRead_89 (by decide) ?_
              refine y_callV (As := [.int (13 : Int32)]) (d2 := d - 1) dX11_eRead_91 kX11_174 (by omega) rfl rfl (Nat.le_of_ble_eq_true rfl) (xlt rfl hn) rfl rfl (p_X11_opensOne hn (by omega)  _ _) (fun r14016 w14017 _ => ?_)
              refine y_if_ne (tgt := 14) dX11_eRead_94 (by decide) ?_ ?_
              · exact ih v1 v2 w14017 
              · refine y_iconst (v := 0) dX11_eRead_97 (by decide) ?_
                exact y_ireturn dX11_eRead_98 rfl rfl rfl
        · refine y_sub [(0, .ref 71), (2, .int v2)] [0, 2] rfl ?_
          refine p_X11_eRead_L38 hn hd ?_ v2 w14002 
          · intro v1_14018 v2_14018 w14018 
            exact ih v1_14018 v2_14018 w14018 
set_option maxRecDepth 20000 in
set_option maxHeartbeats 2000000 in
theorem p_X11_eRead {G : xG} {d : Nat} {n t : Nat} (hn : 102 ≤ n) (hd : 3 ≤ d) (w : xI) : xMet G m_X11_eRead d [.ref 71] (xFin n t) w (fun x : Int32 => some (Value.int x)) (xFin n t) (f_X11_eRead  w) := by
  refine xMet.of rfl (Nat.le_of_ble_eq_true rfl) ?_
  unfold f_X11_eRead
  show xC G m_X11_eRead d 0 [(0, .ref 71)] [] (xFin n t) w _ _ _
  refine y_aload_n dX11_eRead_0 rfl 0 rfl ?_
  refine y_iconst (v := 0) dX11_eRead_1 (by decide) ?_
  refine y_puti dX11_eRead_2 flX11_150 (xlt rfl hn) rfl rfl ?_
  refine y_aload_n dX11_eRead_5 rfl 0 rfl ?_
  refine y_iconst (v := 0) dX11_eRead_6 (by decide) ?_
  refine y_puti dX11_eRead_7 flX11_157 (xlt rfl hn) rfl rfl ?_
  refine y_iconst (v := 1) dX11_eRead_10 (by decide) ?_
  refine y_istore_n (lv' := [(1, .int (1 : Int32)), (0, .ref 71)]) dX11_eRead_11 rfl (by decide) rfl ?_
  refine y_iconst (v := 1) dX11_eRead_12 (by decide) ?_
  refine y_istore_n (lv' := [(2, .int (1 : Int32)), (1, .int (1 : Int32)), (0, .ref 71)]) dX11_eRead_13 rfl (by decide) rfl ?_
  refine y_sub [(0, .ref 71), (1, .int (1 : Int32)), (2, .int (1 : Int32))] [2, 1, 0] rfl ?_
  refine p_X11_eRead_L14 hn hd 2000 (1 : Int32) (1 : Int32) (xup (xup w 71 34 (0 : Int32)) 71 35 (0 : Int32)) 
-- ===== X11_text: WeighedGateModel.text()I =====
set_option maxRecDepth 20000 in
set_option maxHeartbeats 2000000 in
theorem p_X11_text_L60 {G : xG} {d : Nat} {n t : Nat} (hn : 102 ≤ n) (hd : 4 ≤ d) {K26 : Int32 → Int32 → xI → Option (Int32 × xI)} (hK26 : ∀ (v1 : Int32) (v2 : Int32) (w : xI), xC G m_X11_text d 26 [(0, .ref 71), (1, .int v1), (2, .int v2)] [] (xFin n t) w (fun x : Int32 => some (Value.int x)) (xFin n t) (K26 v1 v2 w)) (v2 : Int32) (s0 : Int32) (w : xI) : xC G m_X11_text d 60 [(0, .ref 71), (2, .int v2)] [.int s0] (xFin n t) w (fun x : Int32 => some (Value.int x)) (xFin n t) (f_X11_text_L60 K26 v2 s0 w) := by
  unfold f_X11_text_L60
  refine y_istore_n (lv' := [(1, .int s0), (0, .ref 71), (2, .int v2)]) dX11_text_60 rfl (by decide) rfl ?_
  refine y_aload_n dX11_text_61 rfl 1 rfl ?_
  refine y_getr (q := 82) dX11_text_62 flX11_40 (xlt rfl hn) rfl rfl rfl ?_
  refine y_iconst (v := 4) dX11_text_65 (by decide) ?_
  refine y_aload_n dX11_text_66 rfl 1 rfl ?_
  refine z_geti (v := (w 71 14)) dX11_text_67 flX11_121 (xlt rfl hn) rfl rfl rfl ?_
  refine y_imul dX11_text_70 ?_
  refine y_iload_n dX11_text_71 rfl 2 rfl ?_
  refine y_iadd dX11_text_72 ?_
  refine y_aload_n dX11_text_73 rfl 1 rfl ?_
  refine z_geti (v := (w 71 36)) dX11_text_74 flX11_147 (xlt rfl hn) rfl rfl rfl ?_
  refine y_iast dX11_text_77 (xlt rfl hn) rfl ?_
  refine y_iload_n dX11_text_78 rfl 0 rfl ?_
  refine y_if_eq (tgt := 93) dX11_text_79 (by decide) ?_ ?_
  · refine y_iconst (v := 0) dX11_text_93 (by decide) ?_
    refine y_istore_n (lv' := [(1, .int (0 : Int32)), (0, .ref 71), (2, .int v2)]) dX11_text_94 rfl (by decide) rfl ?_
    refine z_iinc (j := 2) dX11_text_95 (by decide) rfl (by decide) (fun x60001 => ?_)
    refine y_loc (lv' := [(2, .int x60001), (1, .int (0 : Int32)), (0, .ref 71)]) rfl ?_
    refine y_goto (tgt := 26) dX11_text_98 (by decide) ?_
    refine y_sub [(0, .ref 71), (1, .int (0 : Int32)), (2, .int x60001)] [2, 1, 0] rfl ?_
    exact hK26 (0 : Int32) x60001 (xup w 82 (((4 : Int32) * (w 71 14)) + v2).toNatClampNeg (w 71 36)) 
  · refine y_aload_n dX11_text_82 rfl 1 rfl ?_
    refine y_callV (As := []) (d2 := d - 1) dX11_text_83 kX11_183 (by omega) rfl rfl (Nat.le_of_ble_eq_true rfl) (xlt rfl hn) rfl rfl (p_X11_eRead hn (by omega)   _) (fun r60002 w60003 _ => ?_)
    refine y_if_eq (tgt := 93) dX11_text_86 (by decide) ?_ ?_
    · refine y_iconst (v := 0) dX11_text_93 (by decide) ?_
      refine y_istore_n (lv' := [(1, .int (0 : Int32)), (0, .ref 71), (2, .int v2)]) dX11_text_94 rfl (by decide) rfl ?_
      refine z_iinc (j := 2) dX11_text_95 (by decide) rfl (by decide) (fun x60004 => ?_)
      refine y_loc (lv' := [(2, .int x60004), (1, .int (0 : Int32)), (0, .ref 71)]) rfl ?_
      refine y_goto (tgt := 26) dX11_text_98 (by decide) ?_
      refine y_sub [(0, .ref 71), (1, .int (0 : Int32)), (2, .int x60004)] [2, 1, 0] rfl ?_
      exact hK26 (0 : Int32) x60004 w60003 
    · refine y_iconst (v := 1) dX11_text_89 (by decide) ?_
      refine y_goto (tgt := 94) dX11_text_90 (by decide) ?_
      refine y_istore_n (lv' := [(1, .int (1 : Int32)), (0, .ref 71), (2, .int v2)]) dX11_text_94 rfl (by decide) rfl ?_
      refine z_iinc (j := 2) dX11_text_95 (by decide) rfl (by decide) (fun x60005 => ?_)
      refine y_loc (lv' := [(2, .int x60005), (1, .int (1 : Int32)), (0, .ref 71)]) rfl ?_
      refine y_goto (tgt := 26) dX11_text_98 (by decide) ?_
      refine y_sub [(0, .ref 71), (1, .int (1 : Int32)), (2, .int x60005)] [2, 1, 0] rfl ?_
      exact hK26 (1 : Int32) x60005 w60003 
set_option maxRecDepth 20000 in
set_option maxHeartbeats 2000000 in
theorem p_X11_text_L122 {G : xG} {d : Nat} {n t : Nat} (hn : 102 ≤ n) (hd : 4 ≤ d) (v1 : Int32) (w : xI) : xC G m_X11_text d 122 [(0, .ref 71), (1, .int v1)] [] (xFin n t) w (fun x : Int32 => some (Value.int x)) (xFin n t) (f_X11_text_L122 v1 w) := by
  unfold f_X11_text_L122
  refine y_aload_n dX11_text_122 rfl 0 rfl ?_
  refine y_getr (q := 82) dX11_text_123 flX11_40 (xlt rfl hn) rfl rfl rfl ?_
  refine y_iconst (v := 4) dX11_text_126 (by decide) ?_
  refine y_aload_n dX11_text_127 rfl 0 rfl ?_
  refine z_geti (v := (w 71 14)) dX11_text_128 flX11_121 (xlt rfl hn) rfl rfl rfl ?_
  refine y_imul dX11_text_131 ?_
  refine y_iconst (v := 3) dX11_text_132 (by decide) ?_
  refine y_iadd dX11_text_133 ?_
  refine y_aload_n dX11_text_134 rfl 0 rfl ?_
  refine z_geti (v := (w 71 36)) dX11_text_135 flX11_147 (xlt rfl hn) rfl rfl rfl ?_
  refine y_iast dX11_text_138 (xlt rfl hn) rfl ?_
  refine y_aload_n dX11_text_139 rfl 0 rfl ?_
  refine y_iconst (v := 0) dX11_text_140 (by decide) ?_
  refine y_puti dX11_text_141 flX11_104 (xlt rfl hn) rfl rfl ?_
  refine y_iload_n dX11_text_144 rfl 1 rfl ?_
  refine y_if_ne (tgt := 156) dX11_text_145 (by decide) ?_ ?_
  · refine y_aload_n dX11_text_156 rfl 0 rfl ?_
    refine y_dup dX11_text_157 rfl ?_
    refine z_geti (v := (w 71 14)) dX11_text_158 flX11_121 (xlt rfl hn) rfl rfl rfl ?_
    refine y_iconst (v := 1) dX11_text_161 (by decide) ?_
    refine y_iadd dX11_text_162 ?_
    refine y_puti dX11_text_163 flX11_121 (xlt rfl hn) rfl rfl ?_
    refine y_aload_n dX11_text_166 rfl 0 rfl ?_
    refine z_geti (v := ((w 71 14) + (1 : Int32))) dX11_text_167 flX11_121 (xlt rfl hn) rfl rfl rfl ?_
    refine y_iconst (v := 1) dX11_text_170 (by decide) ?_
    refine y_isub dX11_text_171 ?_
    exact y_ireturn dX11_text_172 rfl rfl rfl
  · refine y_bipush (v := (-100)) dX11_text_148 (by decide) ?_
    refine y_aload_n dX11_text_150 rfl 0 rfl ?_
    refine z_geti (v := (w 71 29)) dX11_text_151 flX11_134 (xlt rfl hn) rfl rfl rfl ?_
    refine y_isub dX11_text_154 ?_
    exact y_ireturn dX11_text_155 rfl rfl rfl
set_option maxRecDepth 20000 in
set_option maxHeartbeats 2000000 in
theorem p_X11_text_L26 {G : xG} {d : Nat} {n t : Nat} (hn : 102 ≤ n) (hd : 4 ≤ d) : ∀ (fu : Nat) (v1 : Int32) (v2 : Int32) (w : xI), xC G m_X11_text d 26 [(0, .ref 71), (1, .int v1), (2, .int v2)] [] (xFin n t) w (fun x : Int32 => some (Value.int x)) (xFin n t) (f_X11_text_L26 fu v1 v2 w) := by
  intro fu
  induction fu with
  | zero => intro v1 v2 w; exact xC.none
  | succ fu ih =>
    intro v1 v2 w
    rw [f_X11_text_L26]
    refine y_iload_n dX11_text_26 rfl 2 rfl ?_
    refine y_iconst (v := 3) dX11_text_27 (by decide) ?_
    refine y_icmp_ge (tgt := 101) dX11_text_28 (by decide) ?_ ?_
    · refine y_iload_n dX11_text_101 rfl 1 rfl ?_
      refine y_if_eq (tgt := 122) dX11_text_102 (by decide) ?_ ?_
      · refine y_sub [(0, .ref 71), (1, .int v1)] [0, 1] rfl ?_
        refine p_X11_text_L122 hn hd v1 w 
      · refine y_aload_n dX11_text_105 rfl 0 rfl ?_
        refine y_callV (As := []) (d2 := d - 1) dX11_text_106 kX11_170 (by omega) rfl rfl (Nat.le_of_ble_eq_true rfl) (xlt rfl hn) rfl rfl (p_X11_next hn (by omega)   _) (fun r26001 w26002 _ => ?_)
        refine y_aload_n dX11_text_109 rfl 0 rfl ?_
        refine z_geti (v := (w26002 71 30)) dX11_text_110 flX11_137 (xlt rfl hn) rfl rfl rfl ?_
        refine y_if_ne (tgt := 120) dX11_text_113 (by decide) ?_ ?_
        · refine y_iconst (v := 0) dX11_text_120 (by decide) ?_
          refine y_istore_n (lv' := [(1, .int (0 : Int32)), (0, .ref 71), (2, .int v2)]) dX11_text_121 rfl (by decide) rfl ?_
          refine y_sub [(0, .ref 71), (1, .int (0 : Int32))] [1, 0] rfl ?_
          refine p_X11_text_L122 hn hd (0 : Int32) w26002 
        · refine y_iconst (v := 1) dX11_text_116 (by decide) ?_
          refine y_goto (tgt := 121) dX11_text_117 (by decide) ?_
          refine y_istore_n (lv' := [(1, .int (1 : Int32)), (0, .ref 71), (2, .int v2)]) dX11_text_121 rfl (by decide) rfl ?_
          refine y_sub [(0, .ref 71), (1, .int (1 : Int32))] [1, 0] rfl ?_
          refine p_X11_text_L122 hn hd (1 : Int32) w26002 
    · refine y_iload_n dX11_text_31 rfl 1 rfl ?_
      refine y_if_eq (tgt := 101) dX11_text_32 (by decide) ?_ ?_
      · refine y_iload_n dX11_text_101 rfl 1 rfl ?_
        refine y_if_eq (tgt := 122) dX11_text_102 (by decide) ?_ ?_
        · refine y_sub [(0, .ref 71), (1, .int v1)] [0, 1] rfl ?_
          refine p_X11_text_L122 hn hd v1 w 
        · refine y_aload_n dX11_text_105 rfl 0 rfl ?_
          refine y_callV (As := []) (d2 := d - 1) dX11_text_106 kX11_170 (by omega) rfl rfl (Nat.le_of_ble_eq_true rfl) (xlt rfl hn) rfl rfl (p_X11_next hn (by omega)   _) (fun r26003 w26004 _ => ?_)
          refine y_aload_n dX11_text_109 rfl 0 rfl ?_
          refine z_geti (v := (w26004 71 30)) dX11_text_110 flX11_137 (xlt rfl hn) rfl rfl rfl ?_
          refine y_if_ne (tgt := 120) dX11_text_113 (by decide) ?_ ?_
          · refine y_iconst (v := 0) dX11_text_120 (by decide) ?_
            refine y_istore_n (lv' := [(1, .int (0 : Int32)), (0, .ref 71), (2, .int v2)]) dX11_text_121 rfl (by decide) rfl ?_
            refine y_sub [(0, .ref 71), (1, .int (0 : Int32))] [1, 0] rfl ?_
            refine p_X11_text_L122 hn hd (0 : Int32) w26004 
          · refine y_iconst (v := 1) dX11_text_116 (by decide) ?_
            refine y_goto (tgt := 121) dX11_text_117 (by decide) ?_
            refine y_istore_n (lv' := [(1, .int (1 : Int32)), (0, .ref 71), (2, .int v2)]) dX11_text_121 rfl (by decide) rfl ?_
            refine y_sub [(0, .ref 71), (1, .int (1 : Int32))] [1, 0] rfl ?_
            refine p_X11_text_L122 hn hd (1 : Int32) w26004 
      · refine y_aload_n dX11_text_35 rfl 0 rfl ?_
        refine y_callV (As := []) (d2 := d - 1) dX11_text_36 kX11_170 (by omega) rfl rfl (Nat.le_of_ble_eq_true rfl) (xlt rfl hn) rfl rfl (p_X11_next hn (by omega)   _) (fun r26005 w26006 _ => ?_)
        refine y_aload_n dX11_text_39 rfl 0 rfl ?_
        refine z_geti (v := (w26006 71 30)) dX11_text_40 flX11_137 (xlt rfl hn) rfl rfl rfl ?_
        refine y_iconst (v := 3) dX11_text_43 (by decide) ?_
        refine y_icmp_ne (tgt := 59) dX11_text_44 (by decide) ?_ ?_
        · refine y_iconst (v := 0) dX11_text_59 (by decide) ?_
          refine y_sub [(0, .ref 71), (2, .int v2)] [0, 2] rfl ?_
          refine p_X11_text_L60 hn hd ?_ v2 (0 : Int32) w26006 
          · intro v1_26007 v2_26007 w26007 
            exact ih v1_26007 v2_26007 w26007 
        · refine y_aload_n dX11_text_47 rfl 0 rfl ?_
          refine z_geti (v := (w26006 71 31)) dX11_text_48 flX11_140 (xlt rfl hn) rfl rfl rfl ?_
          refine y_iload_n dX11_text_51 rfl 2 rfl ?_
          refine y_icmp_ne (tgt := 59) dX11_text_52 (by decide) ?_ ?_
          · refine y_iconst (v := 0) dX11_text_59 (by decide) ?_
            refine y_sub [(0, .ref 71), (2, .int v2)] [0, 2] rfl ?_
            refine p_X11_text_L60 hn hd ?_ v2 (0 : Int32) w26006 
            · intro v1_26008 v2_26008 w26008 
              exact ih v1_26008 v2_26008 w26008 
          · refine y_iconst (v := 1) dX11_text_55 (by decide) ?_
            refine y_goto (tgt := 60) dX11_text_56 (by decide) ?_
            refine y_sub [(0, .ref 71), (2, .int v2)] [0, 2] rfl ?_
            refine p_X11_text_L60 hn hd ?_ v2 (1 : Int32) w26006 
            · intro v1_26009 v2_26009 w26009 
              exact ih v1_26009 v2_26009 w26009 
set_option maxRecDepth 20000 in
set_option maxHeartbeats 2000000 in
theorem p_X11_text {G : xG} {d : Nat} {n t : Nat} (hn : 102 ≤ n) (hd : 4 ≤ d) (w : xI) : xMet G m_X11_text d [.ref 71] (xFin n t) w (fun x : Int32 => some (Value.int x)) (xFin n t) (f_X11_text  w) := by
  refine xMet.of rfl (Nat.le_of_ble_eq_true rfl) ?_
  unfold f_X11_text
  show xC G m_X11_text d 0 [(0, .ref 71)] [] (xFin n t) w _ _ _
  refine y_aload_n dX11_text_0 rfl 0 rfl ?_
  refine z_geti (v := (w 71 14)) dX11_text_1 flX11_121 (xlt rfl hn) rfl rfl rfl ?_
  refine y_bipush (v := 6) dX11_text_4 (by decide) ?_
  refine y_icmp_ne (tgt := 12) dX11_text_6 (by decide) ?_ ?_
  · refine y_aload_n dX11_text_12 rfl 0 rfl ?_
    refine y_iconst (v := 0) dX11_text_13 (by decide) ?_
    refine y_puti dX11_text_14 flX11_131 (xlt rfl hn) rfl rfl ?_
    refine y_aload_n dX11_text_17 rfl 0 rfl ?_
    refine y_iconst (v := 0) dX11_text_18 (by decide) ?_
    refine y_puti dX11_text_19 flX11_147 (xlt rfl hn) rfl rfl ?_
    refine y_iconst (v := 1) dX11_text_22 (by decide) ?_
    refine y_istore_n (lv' := [(1, .int (1 : Int32)), (0, .ref 71)]) dX11_text_23 rfl (by decide) rfl ?_
    refine y_iconst (v := 0) dX11_text_24 (by decide) ?_
    refine y_istore_n (lv' := [(2, .int (0 : Int32)), (1, .int (1 : Int32)), (0, .ref 71)]) dX11_text_25 rfl (by decide) rfl ?_
    refine y_sub [(0, .ref 71), (1, .int (1 : Int32)), (2, .int (0 : Int32))] [2, 1, 0] rfl ?_
    refine p_X11_text_L26 hn hd 2000 (1 : Int32) (0 : Int32) (xup (xup w 71 28 (0 : Int32)) 71 36 (0 : Int32)) 
  · refine y_bipush (v := (-4)) dX11_text_9 (by decide) ?_
    exact y_ireturn dX11_text_11 rfl rfl rfl
-- ===== X11_two: WeighedGateModel.two(III)I =====
set_option maxRecDepth 20000 in
set_option maxHeartbeats 2000000 in
theorem p_X11_two {G : xG} {d : Nat} {n t : Nat} (hn : 102 ≤ n) (hd : 0 ≤ d) (a1 : Int32) (a2 : Int32) (a3 : Int32) (w : xI) : xMet G m_X11_two d [.int a1, .int a2, .int a3] (xFin n t) w (fun x : Int32 => some (Value.int x)) (xFin n t) (f_X11_two a1 a2 a3 w) := by
  refine xMet.of rfl (Nat.le_of_ble_eq_true rfl) ?_
  unfold f_X11_two
  show xC G m_X11_two d 0 [(0, .int a1), (1, .int a2), (2, .int a3)] [] (xFin n t) w _ _ _
  refine y_iload_n dX11_two_0 rfl 0 rfl ?_
  refine xC.ite (fun hs1 => ?_) (fun hs1 => ?_)
  · refine y_table (tgt := 44) (v := 11) dX11_two_1 hs1 (by decide) (by decide) rfl (by decide) ?_
    refine y_iload_n dX11_two_44 rfl 1 rfl ?_
    refine y_if_ne (tgt := 52) dX11_two_45 (by decide) ?_ ?_
    · refine y_iconst (v := 1) dX11_two_52 (by decide) ?_
      refine y_goto (tgt := 57) dX11_two_53 (by decide) ?_
      exact y_ireturn dX11_two_57 rfl rfl rfl
    · refine y_iload_n dX11_two_48 rfl 2 rfl ?_
      refine y_if_eq (tgt := 56) dX11_two_49 (by decide) ?_ ?_
      · refine y_iconst (v := 0) dX11_two_56 (by decide) ?_
        exact y_ireturn dX11_two_57 rfl rfl rfl
      · refine y_iconst (v := 1) dX11_two_52 (by decide) ?_
        refine y_goto (tgt := 57) dX11_two_53 (by decide) ?_
        exact y_ireturn dX11_two_57 rfl rfl rfl
  · refine xC.ite (fun hs2 => ?_) (fun hs2 => ?_)
    · refine y_table (tgt := 58) (v := 12) dX11_two_1 hs2 (by decide) (by decide) rfl (by decide) ?_
      refine y_iload_n dX11_two_58 rfl 1 rfl ?_
      refine y_if_eq (tgt := 70) dX11_two_59 (by decide) ?_ ?_
      · refine y_iconst (v := 0) dX11_two_70 (by decide) ?_
        exact y_ireturn dX11_two_71 rfl rfl rfl
      · refine y_iload_n dX11_two_62 rfl 2 rfl ?_
        refine y_if_eq (tgt := 70) dX11_two_63 (by decide) ?_ ?_
        · refine y_iconst (v := 0) dX11_two_70 (by decide) ?_
          exact y_ireturn dX11_two_71 rfl rfl rfl
        · refine y_iconst (v := 1) dX11_two_66 (by decide) ?_
          refine y_goto (tgt := 71) dX11_two_67 (by decide) ?_
          exact y_ireturn dX11_two_71 rfl rfl rfl
    · refine xC.ite (fun hs3 => ?_) (fun hs3 => ?_)
      · refine y_table (tgt := 102) (v := 13) dX11_two_1 hs3 (by decide) (by decide) rfl (by decide) ?_
        refine y_iload_n dX11_two_102 rfl 1 rfl ?_
        refine y_iload_n dX11_two_103 rfl 2 rfl ?_
        refine y_imul dX11_two_104 ?_
        exact y_ireturn dX11_two_105 rfl rfl rfl
      · refine xC.ite (fun hs4 => ?_) (fun hs4 => ?_)
        · refine y_table (tgt := 72) (v := 14) dX11_two_1 hs4 (by decide) (by decide) rfl (by decide) ?_
          refine y_iload_n dX11_two_72 rfl 1 rfl ?_
          refine y_iload_n dX11_two_73 rfl 2 rfl ?_
          refine y_icmp_ge (tgt := 81) dX11_two_74 (by decide) ?_ ?_
          · refine y_iconst (v := 0) dX11_two_81 (by decide) ?_
            exact y_ireturn dX11_two_82 rfl rfl rfl
          · refine y_iconst (v := 1) dX11_two_77 (by decide) ?_
            refine y_goto (tgt := 82) dX11_two_78 (by decide) ?_
            exact y_ireturn dX11_two_82 rfl rfl rfl
        · refine xC.ite (fun hs5 => ?_) (fun hs5 => ?_)
          · refine y_table (tgt := 83) (v := 15) dX11_two_1 hs5 (by decide) (by decide) rfl (by decide) ?_
            refine y_iload_n dX11_two_83 rfl 1 rfl ?_
            refine y_iload_n dX11_two_84 rfl 2 rfl ?_
            refine y_icmp_ne (tgt := 92) dX11_two_85 (by decide) ?_ ?_
            · refine y_iconst (v := 0) dX11_two_92 (by decide) ?_
              exact y_ireturn dX11_two_93 rfl rfl rfl
            · refine y_iconst (v := 1) dX11_two_88 (by decide) ?_
              refine y_goto (tgt := 93) dX11_two_89 (by decide) ?_
              exact y_ireturn dX11_two_93 rfl rfl rfl
          · refine xC.ite (fun hs6 => ?_) (fun hs6 => ?_)
            · refine y_table (tgt := 94) (v := 16) dX11_two_1 hs6 (by decide) (by decide) rfl (by decide) ?_
              refine y_iload_n dX11_two_94 rfl 1 rfl ?_
              refine y_iload_n dX11_two_95 rfl 2 rfl ?_
              refine y_iadd dX11_two_96 ?_
              exact y_ireturn dX11_two_97 rfl rfl rfl
            · refine xC.ite (fun hs7 => ?_) (fun hs7 => ?_)
              · refine y_table (tgt := 98) (v := 17) dX11_two_1 hs7 (by decide) (by decide) rfl (by decide) ?_
                refine y_iload_n dX11_two_98 rfl 1 rfl ?_
                refine y_iload_n dX11_two_99 rfl 2 rfl ?_
                refine y_isub dX11_two_100 ?_
                exact y_ireturn dX11_two_101 rfl rfl rfl
              · refine y_tableD (tgt := 102) dX11_two_1 (by have z0 := lv_neT hs1 (show (11 : Int32).toInt = 11 from rfl); have z1 := lv_neT hs2 (show (12 : Int32).toInt = 12 from rfl); have z2 := lv_neT hs3 (show (13 : Int32).toInt = 13 from rfl); have z3 := lv_neT hs4 (show (14 : Int32).toInt = 14 from rfl); have z4 := lv_neT hs5 (show (15 : Int32).toInt = 15 from rfl); have z5 := lv_neT hs6 (show (16 : Int32).toInt = 16 from rfl); have z6 := lv_neT hs7 (show (17 : Int32).toInt = 17 from rfl); omega) (by decide) ?_
                refine y_iload_n dX11_two_102 rfl 1 rfl ?_
                refine y_iload_n dX11_two_103 rfl 2 rfl ?_
                refine y_imul dX11_two_104 ?_
                exact y_ireturn dX11_two_105 rfl rfl rfl
-- ===== X11_worth: WeighedGateModel.worth(I)I =====
set_option maxRecDepth 20000 in
set_option maxHeartbeats 2000000 in
theorem p_X11_worth_L66 {G : xG} {d : Nat} {n t : Nat} (hn : 102 ≤ n) (hd : 1 ≤ d) {K16 : Int32 → Int32 → Int32 → xI → Option (Int32 × xI)} (hK16 : ∀ (v1 : Int32) (v2 : Int32) (v3 : Int32) (w : xI), xC G m_X11_worth d 16 [(0, .ref 71), (1, .int v1), (2, .int v2), (3, .int v3)] [] (xFin n t) w (fun x : Int32 => some (Value.int x)) (xFin n t) (K16 v1 v2 v3 w)) (v1 : Int32) (v2 : Int32) (v3 : Int32) (v4 : Int32) (w : xI) : xC G m_X11_worth d 66 [(0, .ref 71), (1, .int v1), (2, .int v2), (3, .int v3), (4, .int v4)] [] (xFin n t) w (fun x : Int32 => some (Value.int x)) (xFin n t) (f_X11_worth_L66 K16 v1 v2 v3 v4 w) := by
  unfold f_X11_worth_L66
  refine y_aload_n dX11_worth_66 rfl 0 rfl ?_
  refine y_getr (q := 93) dX11_worth_67 flX11_73 (xlt rfl hn) rfl rfl rfl ?_
  refine y_iload_n dX11_worth_70 rfl 2 rfl ?_
  refine y_iload dX11_worth_71 4 rfl ?_
  refine y_bipush (v := 11) dX11_worth_73 (by decide) ?_
  refine y_icmp_ge (tgt := 88) dX11_worth_75 (by decide) ?_ ?_
  · refine y_iload dX11_worth_88 4 rfl ?_
    refine y_ldc (v := 100000) dX11_worth_90 q999 ?_
    refine y_isub dX11_worth_92 ?_
    refine y_iast dX11_worth_93 (xlt rfl hn) rfl ?_
    refine z_iinc (j := 2) dX11_worth_94 (by decide) rfl (by decide) (fun x66001 => ?_)
    refine y_loc (lv' := [(2, .int x66001), (0, .ref 71), (1, .int v1), (3, .int v3), (4, .int v4)]) rfl ?_
    refine y_goto (tgt := 191) dX11_worth_97 (by decide) ?_
    refine z_iinc (j := 3) dX11_worth_191 (by decide) rfl (by decide) (fun x66002 => ?_)
    refine y_loc (lv' := [(3, .int x66002), (2, .int x66001), (0, .ref 71), (1, .int v1), (4, .int v4)]) rfl ?_
    refine y_goto (tgt := 16) dX11_worth_194 (by decide) ?_
    refine y_sub [(0, .ref 71), (1, .int v1), (2, .int x66001), (3, .int x66002)] [2, 3, 1, 0] rfl ?_
    exact hK16 v1 x66001 x66002 (xup w 93 v2.toNatClampNeg (v4 - (100000 : Int32))) 
  · refine y_aload_n dX11_worth_78 rfl 0 rfl ?_
    refine y_getr (q := 94) dX11_worth_79 flX11_76 (xlt rfl hn) rfl rfl rfl ?_
    refine y_iload dX11_worth_82 4 rfl ?_
    refine z_iald (v := (w 94 v4.toNatClampNeg)) dX11_worth_84 (xlt rfl hn) rfl rfl ?_
    refine y_goto (tgt := 93) dX11_worth_85 (by decide) ?_
    refine y_iast dX11_worth_93 (xlt rfl hn) rfl ?_
    refine z_iinc (j := 2) dX11_worth_94 (by decide) rfl (by decide) (fun x66003 => ?_)
    refine y_loc (lv' := [(2, .int x66003), (0, .ref 71), (1, .int v1), (3, .int v3), (4, .int v4)]) rfl ?_
    refine y_goto (tgt := 191) dX11_worth_97 (by decide) ?_
    refine z_iinc (j := 3) dX11_worth_191 (by decide) rfl (by decide) (fun x66004 => ?_)
    refine y_loc (lv' := [(3, .int x66004), (2, .int x66003), (0, .ref 71), (1, .int v1), (4, .int v4)]) rfl ?_
    refine y_goto (tgt := 16) dX11_worth_194 (by decide) ?_
    refine y_sub [(0, .ref 71), (1, .int v1), (2, .int x66003), (3, .int x66004)] [2, 3, 1, 0] rfl ?_
    exact hK16 v1 x66003 x66004 (xup w 93 v2.toNatClampNeg (w 94 v4.toNatClampNeg)) 
set_option maxRecDepth 20000 in
set_option maxHeartbeats 2000000 in
theorem p_X11_worth_L16 {G : xG} {d : Nat} {n t : Nat} (hn : 102 ≤ n) (hd : 1 ≤ d) : ∀ (fu : Nat) (v1 : Int32) (v2 : Int32) (v3 : Int32) (w : xI), xC G m_X11_worth d 16 [(0, .ref 71), (1, .int v1), (2, .int v2), (3, .int v3)] [] (xFin n t) w (fun x : Int32 => some (Value.int x)) (xFin n t) (f_X11_worth_L16 fu v1 v2 v3 w) := by
  intro fu
  induction fu with
  | zero => intro v1 v2 v3 w; exact xC.none
  | succ fu ih =>
    intro v1 v2 v3 w
    rw [f_X11_worth_L16]
    refine y_iload_n dX11_worth_16 rfl 3 rfl ?_
    refine y_aload_n dX11_worth_17 rfl 0 rfl ?_
    refine y_getr (q := 82) dX11_worth_18 flX11_40 (xlt rfl hn) rfl rfl rfl ?_
    refine y_iconst (v := 4) dX11_worth_21 (by decide) ?_
    refine y_aload_n dX11_worth_22 rfl 0 rfl ?_
    refine z_geti (v := (w 71 15)) dX11_worth_23 flX11_124 (xlt rfl hn) rfl rfl rfl ?_
    refine y_imul dX11_worth_26 ?_
    refine y_iload_n dX11_worth_27 rfl 1 rfl ?_
    refine y_iadd dX11_worth_28 ?_
    refine y_iconst (v := 1) dX11_worth_29 (by decide) ?_
    refine y_iadd dX11_worth_30 ?_
    refine z_iald (v := (w 82 ((((4 : Int32) * (w 71 15)) + v1) + (1 : Int32)).toNatClampNeg)) dX11_worth_31 (xlt rfl hn) rfl rfl ?_
    refine y_icmp_ge (tgt := 197) dX11_worth_32 (by decide) ?_ ?_
    · refine y_aload_n dX11_worth_197 rfl 0 rfl ?_
      refine y_getr (q := 93) dX11_worth_198 flX11_73 (xlt rfl hn) rfl rfl rfl ?_
      refine y_iconst (v := 0) dX11_worth_201 (by decide) ?_
      refine z_iald0 (j := 0) (v := (w 93 0)) dX11_worth_202 (xlt rfl hn) rfl rfl rfl rfl ?_
      exact y_ireturn dX11_worth_203 rfl rfl rfl
    · refine y_aload_n dX11_worth_35 rfl 0 rfl ?_
      refine y_getr (q := 81) dX11_worth_36 flX11_37 (xlt rfl hn) rfl rfl rfl ?_
      refine y_sipush (v := 200) dX11_worth_39 (by decide) ?_
      refine y_aload_n dX11_worth_42 rfl 0 rfl ?_
      refine z_geti (v := (w 71 15)) dX11_worth_43 flX11_124 (xlt rfl hn) rfl rfl rfl ?_
      refine y_imul dX11_worth_46 ?_
      refine y_iload_n dX11_worth_47 rfl 3 rfl ?_
      refine y_iadd dX11_worth_48 ?_
      refine z_iald (v := (w 81 (((200 : Int32) * (w 71 15)) + v3).toNatClampNeg)) dX11_worth_49 (xlt rfl hn) rfl rfl ?_
      refine y_let (fun x16001 => ?_)
      refine y_istore (lv' := [(4, .int x16001), (0, .ref 71), (1, .int v1), (2, .int v2), (3, .int v3)]) dX11_worth_50 (by decide) rfl ?_
      refine y_iload dX11_worth_52 0 rfl ?_
      refine y_ldc (v := 100000) dX11_worth_54 q999 ?_
      refine y_icmp_ge (tgt := 66) dX11_worth_56 (by decide) ?_ ?_
      · refine y_sub [(0, .ref 71), (1, .int v1), (2, .int v2), (3, .int v3), (4, .int x16001)] [1, 2, 3, 4, 0] rfl ?_
        refine p_X11_worth_L66 hn hd ?_ v1 v2 v3 x16001 w 
        · intro v1_16002 v2_16002 v3_16002 w16002 
          exact ih v1_16002 v2_16002 v3_16002 w16002 
      · refine y_iload dX11_worth_59 0 rfl ?_
        refine y_bipush (v := 11) dX11_worth_61 (by decide) ?_
        refine y_icmp_ge (tgt := 100) dX11_worth_63 (by decide) ?_ ?_
        · refine y_iload dX11_worth_100 0 rfl ?_
          refine y_bipush (v := 13) dX11_worth_102 (by decide) ?_
          refine y_icmp_ne (tgt := 134) dX11_worth_104 (by decide) ?_ ?_
          · refine y_iload dX11_worth_134 0 rfl ?_
            refine y_bipush (v := 19) dX11_worth_136 (by decide) ?_
            refine y_icmp_ne (tgt := 161) dX11_worth_138 (by decide) ?_ ?_
            · refine z_iinc (j := 3) dX11_worth_161 (by decide) rfl (by decide) (fun x16003 => ?_)
              refine y_loc (lv' := [(2, .int x16003), (4, .int x16001), (0, .ref 71), (1, .int v1), (3, .int v3)]) rfl ?_
              refine y_aload_n dX11_worth_164 rfl 2 rfl ?_
              refine y_getr (q := 93) dX11_worth_165 flX11_73 (xlt rfl hn) rfl rfl rfl ?_
              refine y_iload_n dX11_worth_168 rfl 0 rfl ?_
              refine y_iconst (v := 1) dX11_worth_169 (by decide) ?_
              refine y_isub dX11_worth_170 ?_
              refine y_iload dX11_worth_171 1 rfl ?_
              refine y_aload_n dX11_worth_173 rfl 2 rfl ?_
              refine y_getr (q := 93) dX11_worth_174 flX11_73 (xlt rfl hn) rfl rfl rfl ?_
              refine y_iload_n dX11_worth_177 rfl 0 rfl ?_
              refine y_iconst (v := 1) dX11_worth_178 (by decide) ?_
              refine y_isub dX11_worth_179 ?_
              refine z_iald (v := (w 93 (x16003 - (1 : Int32)).toNatClampNeg)) dX11_worth_180 (xlt rfl hn) rfl rfl ?_
              refine y_aload_n dX11_worth_181 rfl 2 rfl ?_
              refine y_getr (q := 93) dX11_worth_182 flX11_73 (xlt rfl hn) rfl rfl rfl ?_
              refine y_iload_n dX11_worth_185 rfl 0 rfl ?_
              refine z_iald (v := (w 93 x16003.toNatClampNeg)) dX11_worth_186 (xlt rfl hn) rfl rfl ?_
              refine y_callS (As := [.int x16001, .int (w 93 (x16003 - (1 : Int32)).toNatClampNeg), .int (w 93 x16003.toNatClampNeg)]) (d2 := d - 1) dX11_worth_187 kX11_187 (by omega) rfl rfl (Nat.le_of_ble_eq_true rfl) (p_X11_two hn (by omega)  _ _ _ _) (fun r16004 w16005 _ => ?_)
              refine y_iast dX11_worth_190 (xlt rfl hn) rfl ?_
              refine z_iinc (j := 4) dX11_worth_191 (by decide) rfl (by decide) (fun x16006 => ?_)
              refine y_loc (lv' := [(3, .int x16006), (2, .int x16003), (4, .int x16001), (0, .ref 71), (1, .int v1)]) rfl ?_
              refine y_goto (tgt := 16) dX11_worth_194 (by decide) ?_
              refine y_sub [(0, .ref 71), (1, .int v1), (2, .int x16003), (3, .int x16006)] [3, 4, 1, 0] rfl ?_
              exact ih v1 x16003 x16006 (xup w16005 93 (x16003 - (1 : Int32)).toNatClampNeg r16004) 
            · refine y_aload_n dX11_worth_141 rfl 1 rfl ?_
              refine y_getr (q := 93) dX11_worth_142 flX11_73 (xlt rfl hn) rfl rfl rfl ?_
              refine y_iload_n dX11_worth_145 rfl 3 rfl ?_
              refine y_iconst (v := 1) dX11_worth_146 (by decide) ?_
              refine y_isub dX11_worth_147 ?_
              refine y_aload_n dX11_worth_148 rfl 1 rfl ?_
              refine y_getr (q := 93) dX11_worth_149 flX11_73 (xlt rfl hn) rfl rfl rfl ?_
              refine y_iload_n dX11_worth_152 rfl 3 rfl ?_
              refine y_iconst (v := 1) dX11_worth_153 (by decide) ?_
              refine y_isub dX11_worth_154 ?_
              refine z_iald (v := (w 93 (v2 - (1 : Int32)).toNatClampNeg)) dX11_worth_155 (xlt rfl hn) rfl rfl ?_
              refine y_ineg dX11_worth_156 ?_
              refine y_iast dX11_worth_157 (xlt rfl hn) rfl ?_
              refine y_goto (tgt := 191) dX11_worth_158 (by decide) ?_
              refine z_iinc (j := 4) dX11_worth_191 (by decide) rfl (by decide) (fun x16007 => ?_)
              refine y_loc (lv' := [(3, .int x16007), (4, .int x16001), (0, .ref 71), (1, .int v1), (2, .int v2)]) rfl ?_
              refine y_goto (tgt := 16) dX11_worth_194 (by decide) ?_
              refine y_sub [(0, .ref 71), (1, .int v1), (2, .int v2), (3, .int x16007)] [2, 3, 4, 0] rfl ?_
              exact ih v1 v2 x16007 (xup w 93 (v2 - (1 : Int32)).toNatClampNeg (-(w 93 (v2 - (1 : Int32)).toNatClampNeg))) 
          · refine y_aload_n dX11_worth_107 rfl 1 rfl ?_
            refine y_getr (q := 93) dX11_worth_108 flX11_73 (xlt rfl hn) rfl rfl rfl ?_
            refine y_iload_n dX11_worth_111 rfl 3 rfl ?_
            refine y_iconst (v := 1) dX11_worth_112 (by decide) ?_
            refine y_isub dX11_worth_113 ?_
            refine y_aload_n dX11_worth_114 rfl 1 rfl ?_
            refine y_getr (q := 93) dX11_worth_115 flX11_73 (xlt rfl hn) rfl rfl rfl ?_
            refine y_iload_n dX11_worth_118 rfl 3 rfl ?_
            refine y_iconst (v := 1) dX11_worth_119 (by decide) ?_
            refine y_isub dX11_worth_120 ?_
            refine z_iald (v := (w 93 (v2 - (1 : Int32)).toNatClampNeg)) dX11_worth_121 (xlt rfl hn) rfl rfl ?_
            refine y_if_ne (tgt := 129) dX11_worth_122 (by decide) ?_ ?_
            · refine y_iconst (v := 0) dX11_worth_129 (by decide) ?_
              refine y_iast dX11_worth_130 (xlt rfl hn) rfl ?_
              refine y_goto (tgt := 191) dX11_worth_131 (by decide) ?_
              refine z_iinc (j := 4) dX11_worth_191 (by decide) rfl (by decide) (fun x16008 => ?_)
              refine y_loc (lv' := [(3, .int x16008), (4, .int x16001), (0, .ref 71), (1, .int v1), (2, .int v2)]) rfl ?_
              refine y_goto (tgt := 16) dX11_worth_194 (by decide) ?_
              refine y_sub [(0, .ref 71), (1, .int v1), (2, .int v2), (3, .int x16008)] [2, 3, 4, 0] rfl ?_
              exact ih v1 v2 x16008 (xup w 93 (v2 - (1 : Int32)).toNatClampNeg (0 : Int32)) 
            · refine y_iconst (v := 1) dX11_worth_125 (by decide) ?_
              refine y_goto (tgt := 130) dX11_worth_126 (by decide) ?_
              refine y_iast dX11_worth_130 (xlt rfl hn) rfl ?_
              refine y_goto (tgt := 191) dX11_worth_131 (by decide) ?_
              refine z_iinc (j := 4) dX11_worth_191 (by decide) rfl (by decide) (fun x16009 => ?_)
              refine y_loc (lv' := [(3, .int x16009), (4, .int x16001), (0, .ref 71), (1, .int v1), (2, .int v2)]) rfl ?_
              refine y_goto (tgt := 16) dX11_worth_194 (by decide) ?_
              refine y_sub [(0, .ref 71), (1, .int v1), (2, .int v2), (3, .int x16009)] [2, 3, 4, 0] rfl ?_
              exact ih v1 v2 x16009 (xup w 93 (v2 - (1 : Int32)).toNatClampNeg (1 : Int32)) 
        · refine y_sub [(0, .ref 71), (1, .int v1), (2, .int v2), (3, .int v3), (4, .int x16001)] [1, 2, 3, 4, 0] rfl ?_
          refine p_X11_worth_L66 hn hd ?_ v1 v2 v3 x16001 w 
          · intro v1_16010 v2_16010 v3_16010 w16010 
            exact ih v1_16010 v2_16010 v3_16010 w16010 
set_option maxRecDepth 20000 in
set_option maxHeartbeats 2000000 in
theorem p_X11_worth {G : xG} {d : Nat} {n t : Nat} (hn : 102 ≤ n) (hd : 1 ≤ d) (a1 : Int32) (w : xI) : xMet G m_X11_worth d [.ref 71, .int a1] (xFin n t) w (fun x : Int32 => some (Value.int x)) (xFin n t) (f_X11_worth a1 w) := by
  refine xMet.of rfl (Nat.le_of_ble_eq_true rfl) ?_
  unfold f_X11_worth
  show xC G m_X11_worth d 0 [(0, .ref 71), (1, .int a1)] [] (xFin n t) w _ _ _
  refine y_iconst (v := 0) dX11_worth_0 (by decide) ?_
  refine y_istore_n (lv' := [(2, .int (0 : Int32)), (0, .ref 71), (1, .int a1)]) dX11_worth_1 rfl (by decide) rfl ?_
  refine y_aload_n dX11_worth_2 rfl 1 rfl ?_
  refine y_getr (q := 82) dX11_worth_3 flX11_40 (xlt rfl hn) rfl rfl rfl ?_
  refine y_iconst (v := 4) dX11_worth_6 (by decide) ?_
  refine y_aload_n dX11_worth_7 rfl 1 rfl ?_
  refine z_geti (v := (w 71 15)) dX11_worth_8 flX11_124 (xlt rfl hn) rfl rfl rfl ?_
  refine y_imul dX11_worth_11 ?_
  refine y_iload_n dX11_worth_12 rfl 2 rfl ?_
  refine y_iadd dX11_worth_13 ?_
  refine z_iald (v := (w 82 (((4 : Int32) * (w 71 15)) + a1).toNatClampNeg)) dX11_worth_14 (xlt rfl hn) rfl rfl ?_
  refine y_let (fun x1 => ?_)
  refine y_istore_n (lv' := [(3, .int x1), (2, .int (0 : Int32)), (0, .ref 71), (1, .int a1)]) dX11_worth_15 rfl (by decide) rfl ?_
  refine y_sub [(0, .ref 71), (1, .int a1), (2, .int (0 : Int32)), (3, .int x1)] [2, 3, 1, 0] rfl ?_
  refine p_X11_worth_L16 hn hd 2000 a1 (0 : Int32) x1 w 
-- ===== X11_force: WeighedGateModel.force(I)I =====
set_option maxRecDepth 20000 in
set_option maxHeartbeats 2000000 in
theorem p_X11_force {G : xG} {d : Nat} {n t : Nat} (hn : 102 ≤ n) (hd : 1 ≤ d) (a1 : Int32) (w : xI) : xMet G m_X11_force d [.ref 71, .int a1] (xFin n t) w (fun x : Int32 => some (Value.int x)) (xFin n t) (f_X11_force a1 w) := by
  refine xMet.of rfl (Nat.le_of_ble_eq_true rfl) ?_
  unfold f_X11_force
  show xC G m_X11_force d 0 [(0, .ref 71), (1, .int a1)] [] (xFin n t) w _ _ _
  refine y_iload_n dX11_force_0 rfl 1 rfl ?_
  refine y_iconst (v := 0) dX11_force_1 (by decide) ?_
  refine y_aload_n dX11_force_2 rfl 0 rfl ?_
  refine z_geti (v := (w 71 14)) dX11_force_3 flX11_121 (xlt rfl hn) rfl rfl rfl ?_
  refine y_iconst (v := 1) dX11_force_6 (by decide) ?_
  refine y_isub dX11_force_7 ?_
  refine y_callS (As := [.int a1, .int (0 : Int32), .int ((w 71 14) - (1 : Int32))]) (d2 := d - 1) dX11_force_8 kX11_114 (by omega) rfl rfl (Nat.le_of_ble_eq_true rfl) (p_X11_in hn (by omega)  _ _ _ _) (fun r1 w2 _ => ?_)
  refine y_if_ne (tgt := 17) dX11_force_11 (by decide) ?_ ?_
  · refine y_aload_n dX11_force_17 rfl 0 rfl ?_
    refine z_geti (v := (w2 71 15)) dX11_force_18 flX11_124 (xlt rfl hn) rfl rfl rfl ?_
    refine y_let (fun x3 => ?_)
    refine y_istore_n (lv' := [(2, .int x3), (0, .ref 71), (1, .int a1)]) dX11_force_21 rfl (by decide) rfl ?_
    refine y_aload_n dX11_force_22 rfl 1 rfl ?_
    refine y_iload_n dX11_force_23 rfl 2 rfl ?_
    refine y_puti dX11_force_24 flX11_124 (xlt rfl hn) rfl rfl ?_
    refine y_iload_n dX11_force_27 rfl 0 rfl ?_
    exact y_ireturn dX11_force_28 rfl rfl rfl
  · refine y_bipush (v := (-2)) dX11_force_14 (by decide) ?_
    exact y_ireturn dX11_force_16 rfl rfl rfl
-- ===== X11_asksOf: WeighedGateModel.asksOf(IIIIIII)I =====
set_option maxRecDepth 20000 in
set_option maxHeartbeats 2000000 in
theorem p_X11_asksOf {G : xG} {d : Nat} {n t : Nat} (hn : 102 ≤ n) (hd : 2 ≤ d) (a1 : Int32) (a2 : Int32) (a3 : Int32) (a4 : Int32) (a5 : Int32) (a6 : Int32) (a7 : Int32) (w : xI) : xMet G m_X11_asksOf d [.ref 71, .int a1, .int a2, .int a3, .int a4, .int a5, .int a6, .int a7] (xFin n t) w (fun x : Int32 => some (Value.int x)) (xFin n t) (f_X11_asksOf a1 a2 a3 a4 a5 a6 a7 w) := by
  refine xMet.of rfl (Nat.le_of_ble_eq_true rfl) ?_
  unfold f_X11_asksOf
  show xC G m_X11_asksOf d 0 [(0, .ref 71), (1, .int a1), (2, .int a2), (3, .int a3), (4, .int a4), (5, .int a5), (6, .int a6), (7, .int a7)] [] (xFin n t) w _ _ _
  refine y_aload_n dX11_asksOf_0 rfl 0 rfl ?_
  refine y_getr (q := 94) dX11_asksOf_1 flX11_76 (xlt rfl hn) rfl rfl rfl ?_
  refine y_iconst (v := 0) dX11_asksOf_4 (by decide) ?_
  refine y_iload_n dX11_asksOf_5 rfl 2 rfl ?_
  refine z_iast0 (j := 0) dX11_asksOf_6 (xlt rfl hn) rfl rfl rfl ?_
  refine y_aload_n dX11_asksOf_7 rfl 0 rfl ?_
  refine y_getr (q := 94) dX11_asksOf_8 flX11_76 (xlt rfl hn) rfl rfl rfl ?_
  refine y_iconst (v := 1) dX11_asksOf_11 (by decide) ?_
  refine y_iload_n dX11_asksOf_12 rfl 3 rfl ?_
  refine z_iast0 (j := 1) dX11_asksOf_13 (xlt rfl hn) rfl rfl rfl ?_
  refine y_aload_n dX11_asksOf_14 rfl 0 rfl ?_
  refine y_getr (q := 94) dX11_asksOf_15 flX11_76 (xlt rfl hn) rfl rfl rfl ?_
  refine y_iconst (v := 2) dX11_asksOf_18 (by decide) ?_
  refine y_iload dX11_asksOf_19 4 rfl ?_
  refine z_iast0 (j := 2) dX11_asksOf_21 (xlt rfl hn) rfl rfl rfl ?_
  refine y_aload_n dX11_asksOf_22 rfl 0 rfl ?_
  refine y_getr (q := 94) dX11_asksOf_23 flX11_76 (xlt rfl hn) rfl rfl rfl ?_
  refine y_iconst (v := 3) dX11_asksOf_26 (by decide) ?_
  refine y_iload dX11_asksOf_27 5 rfl ?_
  refine z_iast0 (j := 3) dX11_asksOf_29 (xlt rfl hn) rfl rfl rfl ?_
  refine y_aload_n dX11_asksOf_30 rfl 0 rfl ?_
  refine y_getr (q := 94) dX11_asksOf_31 flX11_76 (xlt rfl hn) rfl rfl rfl ?_
  refine y_iconst (v := 4) dX11_asksOf_34 (by decide) ?_
  refine y_iload dX11_asksOf_35 6 rfl ?_
  refine z_iast0 (j := 4) dX11_asksOf_37 (xlt rfl hn) rfl rfl rfl ?_
  refine y_aload_n dX11_asksOf_38 rfl 0 rfl ?_
  refine y_getr (q := 94) dX11_asksOf_39 flX11_76 (xlt rfl hn) rfl rfl rfl ?_
  refine y_iconst (v := 5) dX11_asksOf_42 (by decide) ?_
  refine y_iload dX11_asksOf_43 7 rfl ?_
  refine z_iast0 (j := 5) dX11_asksOf_45 (xlt rfl hn) rfl rfl rfl ?_
  refine y_aload_n dX11_asksOf_46 rfl 0 rfl ?_
  refine y_iload_n dX11_asksOf_47 rfl 1 rfl ?_
  refine y_callV (As := [.int a1]) (d2 := d - 1) dX11_asksOf_48 kX11_191 (by omega) rfl rfl (Nat.le_of_ble_eq_true rfl) (xlt rfl hn) rfl rfl (p_X11_worth hn (by omega)  _ _) (fun r1 w2 _ => ?_)
  refine y_istore (lv' := [(8, .int r1), (0, .ref 71), (1, .int a1), (2, .int a2), (3, .int a3), (4, .int a4), (5, .int a5), (6, .int a6), (7, .int a7)]) dX11_asksOf_51 (by decide) rfl ?_
  refine y_iload_n dX11_asksOf_53 rfl 2 rfl ?_
  refine y_if_ne (tgt := 70) dX11_asksOf_54 (by decide) ?_ ?_
  · refine y_iload dX11_asksOf_70 0 rfl ?_
    refine y_iconst (v := 0) dX11_asksOf_72 (by decide) ?_
    refine y_bipush (v := 99) dX11_asksOf_73 (by decide) ?_
    refine y_callS (As := [.int r1, .int (0 : Int32), .int (99 : Int32)]) (d2 := d - 1) dX11_asksOf_75 kX11_194 (by omega) rfl rfl (Nat.le_of_ble_eq_true rfl) (p_X11_within hn (by omega)  _ _ _ _) (fun r3 w4 _ => ?_)
    exact y_ireturn dX11_asksOf_78 rfl rfl rfl
  · refine y_iload dX11_asksOf_57 0 rfl ?_
    refine y_if_ne (tgt := 66) dX11_asksOf_59 (by decide) ?_ ?_
    · refine y_iconst (v := 1) dX11_asksOf_66 (by decide) ?_
      refine y_goto (tgt := 78) dX11_asksOf_67 (by decide) ?_
      exact y_ireturn dX11_asksOf_78 rfl rfl rfl
    · refine y_iconst (v := 0) dX11_asksOf_62 (by decide) ?_
      refine y_goto (tgt := 78) dX11_asksOf_63 (by decide) ?_
      exact y_ireturn dX11_asksOf_78 rfl rfl rfl
-- ===== X11_asks: WeighedGateModel.asks(IIII)I =====
set_option maxRecDepth 20000 in
set_option maxHeartbeats 2000000 in
theorem p_X11_asks {G : xG} {d : Nat} {n t : Nat} (hn : 102 ≤ n) (hd : 3 ≤ d) (a1 : Int32) (a2 : Int32) (a3 : Int32) (a4 : Int32) (w : xI) : xMet G m_X11_asks d [.ref 71, .int a1, .int a2, .int a3, .int a4] (xFin n t) w (fun x : Int32 => some (Value.int x)) (xFin n t) (f_X11_asks a1 a2 a3 a4 w) := by
  refine xMet.of rfl (Nat.le_of_ble_eq_true rfl) ?_
  unfold f_X11_asks
  show xC G m_X11_asks d 0 [(0, .ref 71), (1, .int a1), (2, .int a2), (3, .int a3), (4, .int a4)] [] (xFin n t) w _ _ _
  refine y_iload_n dX11_asks_0 rfl 1 rfl ?_
  refine y_iconst (v := 0) dX11_asks_1 (by decide) ?_
  refine y_iconst (v := 2) dX11_asks_2 (by decide) ?_
  refine y_callS (As := [.int a1, .int (0 : Int32), .int (2 : Int32)]) (d2 := d - 1) dX11_asks_3 kX11_114 (by omega) rfl rfl (Nat.le_of_ble_eq_true rfl) (p_X11_in hn (by omega)  _ _ _ _) (fun r1 w2 _ => ?_)
  refine y_if_eq (tgt := 40) dX11_asks_6 (by decide) ?_ ?_
  · refine y_bipush (v := (-2)) dX11_asks_40 (by decide) ?_
    exact y_ireturn dX11_asks_42 rfl rfl rfl
  · refine y_iload_n dX11_asks_9 rfl 2 rfl ?_
    refine y_iconst (v := 0) dX11_asks_10 (by decide) ?_
    refine y_ldc (v := 999999) dX11_asks_11 q1247 ?_
    refine y_callS (As := [.int a2, .int (0 : Int32), .int (999999 : Int32)]) (d2 := d - 1) dX11_asks_13 kX11_114 (by omega) rfl rfl (Nat.le_of_ble_eq_true rfl) (p_X11_in hn (by omega)  _ _ _ _) (fun r3 w4 _ => ?_)
    refine y_if_eq (tgt := 40) dX11_asks_16 (by decide) ?_ ?_
    · refine y_bipush (v := (-2)) dX11_asks_40 (by decide) ?_
      exact y_ireturn dX11_asks_42 rfl rfl rfl
    · refine y_iload_n dX11_asks_19 rfl 3 rfl ?_
      refine y_iconst (v := 0) dX11_asks_20 (by decide) ?_
      refine y_bipush (v := 99) dX11_asks_21 (by decide) ?_
      refine y_callS (As := [.int a3, .int (0 : Int32), .int (99 : Int32)]) (d2 := d - 1) dX11_asks_23 kX11_114 (by omega) rfl rfl (Nat.le_of_ble_eq_true rfl) (p_X11_in hn (by omega)  _ _ _ _) (fun r5 w6 _ => ?_)
      refine y_if_eq (tgt := 40) dX11_asks_26 (by decide) ?_ ?_
      · refine y_bipush (v := (-2)) dX11_asks_40 (by decide) ?_
        exact y_ireturn dX11_asks_42 rfl rfl rfl
      · refine y_iload dX11_asks_29 4 rfl ?_
        refine y_iconst (v := 0) dX11_asks_31 (by decide) ?_
        refine y_bipush (v := 99) dX11_asks_32 (by decide) ?_
        refine y_callS (As := [.int a4, .int (0 : Int32), .int (99 : Int32)]) (d2 := d - 1) dX11_asks_34 kX11_114 (by omega) rfl rfl (Nat.le_of_ble_eq_true rfl) (p_X11_in hn (by omega)  _ _ _ _) (fun r7 w8 _ => ?_)
        refine y_if_ne (tgt := 43) dX11_asks_37 (by decide) ?_ ?_
        · refine y_aload_n dX11_asks_43 rfl 0 rfl ?_
          refine y_iload_n dX11_asks_44 rfl 1 rfl ?_
          refine y_iload_n dX11_asks_45 rfl 2 rfl ?_
          refine y_sipush (v := 1000) dX11_asks_46 (by decide) ?_
          refine y_idiv dX11_asks_49 (by decide) ?_
          refine y_iload_n dX11_asks_50 rfl 2 rfl ?_
          refine y_sipush (v := 1000) dX11_asks_51 (by decide) ?_
          refine y_irem dX11_asks_54 (by decide) ?_
          refine y_iload_n dX11_asks_55 rfl 3 rfl ?_
          refine y_bipush (v := 10) dX11_asks_56 (by decide) ?_
          refine y_idiv dX11_asks_58 (by decide) ?_
          refine y_iload_n dX11_asks_59 rfl 3 rfl ?_
          refine y_bipush (v := 10) dX11_asks_60 (by decide) ?_
          refine y_irem dX11_asks_62 (by decide) ?_
          refine y_iload dX11_asks_63 4 rfl ?_
          refine y_bipush (v := 10) dX11_asks_65 (by decide) ?_
          refine y_idiv dX11_asks_67 (by decide) ?_
          refine y_iload dX11_asks_68 4 rfl ?_
          refine y_bipush (v := 10) dX11_asks_70 (by decide) ?_
          refine y_irem dX11_asks_72 (by decide) ?_
          refine y_callV (As := [.int a1, .int (a2 / (1000 : Int32)), .int (a2 - a2 / (1000 : Int32) * (1000 : Int32)), .int (a3 / (10 : Int32)), .int (a3 - a3 / (10 : Int32) * (10 : Int32)), .int (a4 / (10 : Int32)), .int (a4 - a4 / (10 : Int32) * (10 : Int32))]) (d2 := d - 1) dX11_asks_73 kX11_198 (by omega) rfl rfl (Nat.le_of_ble_eq_true rfl) (xlt rfl hn) rfl rfl (p_X11_asksOf hn (by omega)  _ _ _ _ _ _ _ _) (fun r9 w10 _ => ?_)
          exact y_ireturn dX11_asks_76 rfl rfl rfl
        · refine y_bipush (v := (-2)) dX11_asks_40 (by decide) ?_
          exact y_ireturn dX11_asks_42 rfl rfl rfl
-- ===== X11_cart: WeighedGateModel.cart(IIIII)I =====
set_option maxRecDepth 20000 in
set_option maxHeartbeats 2000000 in
theorem p_X11_cart_L55 {G : xG} {d : Nat} {n t : Nat} (hn : 102 ≤ n) (hd : 1 ≤ d) (v1 : Int32) (v2 : Int32) (v3 : Int32) (v4 : Int32) (v5 : Int32) (s0 : Int32) (w : xI) : xC G m_X11_cart d 55 [(0, .ref 71), (1, .int v1), (2, .int v2), (3, .int v3), (4, .int v4), (5, .int v5)] [.int s0] (xFin n t) w (fun x : Int32 => some (Value.int x)) (xFin n t) (f_X11_cart_L55 v1 v2 v3 v4 v5 s0 w) := by
  unfold f_X11_cart_L55
  refine y_istore (lv' := [(6, .int s0), (0, .ref 71), (1, .int v1), (2, .int v2), (3, .int v3), (4, .int v4), (5, .int v5)]) dX11_cart_55 (by decide) rfl ?_
  refine y_iload dX11_cart_57 0 rfl ?_
  refine y_if_ne (tgt := 65) dX11_cart_59 (by decide) ?_ ?_
  · refine y_aload_n dX11_cart_65 rfl 1 rfl ?_
    refine z_geti (v := (w 71 3)) dX11_cart_66 flX11_111 (xlt rfl hn) rfl rfl rfl ?_
    refine y_bipush (v := 10) dX11_cart_69 (by decide) ?_
    refine y_icmp_ne (tgt := 77) dX11_cart_71 (by decide) ?_ ?_
    · refine y_aload_n dX11_cart_77 rfl 1 rfl ?_
      refine y_getr (q := 74) dX11_cart_78 flX11_16 (xlt rfl hn) rfl rfl rfl ?_
      refine y_aload_n dX11_cart_81 rfl 1 rfl ?_
      refine z_geti (v := (w 71 3)) dX11_cart_82 flX11_111 (xlt rfl hn) rfl rfl rfl ?_
      refine y_iload_n dX11_cart_85 rfl 2 rfl ?_
      refine y_iast dX11_cart_86 (xlt rfl hn) rfl ?_
      refine y_aload_n dX11_cart_87 rfl 1 rfl ?_
      refine y_getr (q := 75) dX11_cart_88 flX11_19 (xlt rfl hn) rfl rfl rfl ?_
      refine y_aload_n dX11_cart_91 rfl 1 rfl ?_
      refine z_geti (v := (w 71 3)) dX11_cart_92 flX11_111 (xlt rfl hn) rfl rfl rfl ?_
      refine y_iload_n dX11_cart_95 rfl 3 rfl ?_
      refine y_iast dX11_cart_96 (xlt rfl hn) rfl ?_
      refine y_aload_n dX11_cart_97 rfl 1 rfl ?_
      refine y_getr (q := 76) dX11_cart_98 flX11_22 (xlt rfl hn) rfl rfl rfl ?_
      refine y_aload_n dX11_cart_101 rfl 1 rfl ?_
      refine z_geti (v := (w 71 3)) dX11_cart_102 flX11_111 (xlt rfl hn) rfl rfl rfl ?_
      refine y_iload_n dX11_cart_105 rfl 4 rfl ?_
      refine y_iast dX11_cart_106 (xlt rfl hn) rfl ?_
      refine y_aload_n dX11_cart_107 rfl 1 rfl ?_
      refine y_getr (q := 77) dX11_cart_108 flX11_25 (xlt rfl hn) rfl rfl rfl ?_
      refine y_aload_n dX11_cart_111 rfl 1 rfl ?_
      refine z_geti (v := (w 71 3)) dX11_cart_112 flX11_111 (xlt rfl hn) rfl rfl rfl ?_
      refine y_iload dX11_cart_115 5 rfl ?_
      refine y_iast dX11_cart_117 (xlt rfl hn) rfl ?_
      refine y_aload_n dX11_cart_118 rfl 1 rfl ?_
      refine y_getr (q := 78) dX11_cart_119 flX11_28 (xlt rfl hn) rfl rfl rfl ?_
      refine y_aload_n dX11_cart_122 rfl 1 rfl ?_
      refine z_geti (v := (w 71 3)) dX11_cart_123 flX11_111 (xlt rfl hn) rfl rfl rfl ?_
      refine y_iload dX11_cart_126 6 rfl ?_
      refine y_iast dX11_cart_128 (xlt rfl hn) rfl ?_
      refine y_aload_n dX11_cart_129 rfl 1 rfl ?_
      refine y_getr (q := 79) dX11_cart_130 flX11_31 (xlt rfl hn) rfl rfl rfl ?_
      refine y_aload_n dX11_cart_133 rfl 1 rfl ?_
      refine z_geti (v := (w 71 3)) dX11_cart_134 flX11_111 (xlt rfl hn) rfl rfl rfl ?_
      refine y_iconst (v := 0) dX11_cart_137 (by decide) ?_
      refine y_iast dX11_cart_138 (xlt rfl hn) rfl ?_
      refine y_aload_n dX11_cart_139 rfl 1 rfl ?_
      refine y_dup dX11_cart_140 rfl ?_
      refine z_geti (v := (w 71 3)) dX11_cart_141 flX11_111 (xlt rfl hn) rfl rfl rfl ?_
      refine y_iconst (v := 1) dX11_cart_144 (by decide) ?_
      refine y_iadd dX11_cart_145 ?_
      refine y_puti dX11_cart_146 flX11_111 (xlt rfl hn) rfl rfl ?_
      refine y_aload_n dX11_cart_149 rfl 1 rfl ?_
      refine z_geti (v := ((w 71 3) + (1 : Int32))) dX11_cart_150 flX11_111 (xlt rfl hn) rfl rfl rfl ?_
      refine y_iconst (v := 1) dX11_cart_153 (by decide) ?_
      refine y_isub dX11_cart_154 ?_
      exact y_ireturn dX11_cart_155 rfl rfl rfl
    · refine y_bipush (v := (-4)) dX11_cart_74 (by decide) ?_
      exact y_ireturn dX11_cart_76 rfl rfl rfl
  · refine y_bipush (v := (-2)) dX11_cart_62 (by decide) ?_
    exact y_ireturn dX11_cart_64 rfl rfl rfl
set_option maxRecDepth 20000 in
set_option maxHeartbeats 2000000 in
theorem p_X11_cart {G : xG} {d : Nat} {n t : Nat} (hn : 102 ≤ n) (hd : 1 ≤ d) (a1 : Int32) (a2 : Int32) (a3 : Int32) (a4 : Int32) (a5 : Int32) (w : xI) : xMet G m_X11_cart d [.ref 71, .int a1, .int a2, .int a3, .int a4, .int a5] (xFin n t) w (fun x : Int32 => some (Value.int x)) (xFin n t) (f_X11_cart a1 a2 a3 a4 a5 w) := by
  refine xMet.of rfl (Nat.le_of_ble_eq_true rfl) ?_
  unfold f_X11_cart
  show xC G m_X11_cart d 0 [(0, .ref 71), (1, .int a1), (2, .int a2), (3, .int a3), (4, .int a4), (5, .int a5)] [] (xFin n t) w _ _ _
  refine y_iload_n dX11_cart_0 rfl 1 rfl ?_
  refine y_iconst (v := 0) dX11_cart_1 (by decide) ?_
  refine y_iconst (v := 1) dX11_cart_2 (by decide) ?_
  refine y_callS (As := [.int a1, .int (0 : Int32), .int (1 : Int32)]) (d2 := d - 1) dX11_cart_3 kX11_114 (by omega) rfl rfl (Nat.le_of_ble_eq_true rfl) (p_X11_in hn (by omega)  _ _ _ _) (fun r1 w2 _ => ?_)
  refine y_if_eq (tgt := 54) dX11_cart_6 (by decide) ?_ ?_
  · refine y_iconst (v := 0) dX11_cart_54 (by decide) ?_
    refine p_X11_cart_L55 hn hd a1 a2 a3 a4 a5 (0 : Int32) w2 
  · refine y_iload_n dX11_cart_9 rfl 2 rfl ?_
    refine y_iconst (v := 0) dX11_cart_10 (by decide) ?_
    refine y_iconst (v := 5) dX11_cart_11 (by decide) ?_
    refine y_callS (As := [.int a2, .int (0 : Int32), .int (5 : Int32)]) (d2 := d - 1) dX11_cart_12 kX11_114 (by omega) rfl rfl (Nat.le_of_ble_eq_true rfl) (p_X11_in hn (by omega)  _ _ _ _) (fun r3 w4 _ => ?_)
    refine y_if_eq (tgt := 54) dX11_cart_15 (by decide) ?_ ?_
    · refine y_iconst (v := 0) dX11_cart_54 (by decide) ?_
      refine p_X11_cart_L55 hn hd a1 a2 a3 a4 a5 (0 : Int32) w4 
    · refine y_iload_n dX11_cart_18 rfl 3 rfl ?_
      refine y_iconst (v := 1) dX11_cart_19 (by decide) ?_
      refine y_bipush (v := 99) dX11_cart_20 (by decide) ?_
      refine y_callS (As := [.int a3, .int (1 : Int32), .int (99 : Int32)]) (d2 := d - 1) dX11_cart_22 kX11_114 (by omega) rfl rfl (Nat.le_of_ble_eq_true rfl) (p_X11_in hn (by omega)  _ _ _ _) (fun r5 w6 _ => ?_)
      refine y_if_eq (tgt := 54) dX11_cart_25 (by decide) ?_ ?_
      · refine y_iconst (v := 0) dX11_cart_54 (by decide) ?_
        refine p_X11_cart_L55 hn hd a1 a2 a3 a4 a5 (0 : Int32) w6 
      · refine y_iload dX11_cart_28 4 rfl ?_
        refine y_iconst (v := 0) dX11_cart_30 (by decide) ?_
        refine y_bipush (v := 99) dX11_cart_31 (by decide) ?_
        refine y_callS (As := [.int a4, .int (0 : Int32), .int (99 : Int32)]) (d2 := d - 1) dX11_cart_33 kX11_114 (by omega) rfl rfl (Nat.le_of_ble_eq_true rfl) (p_X11_in hn (by omega)  _ _ _ _) (fun r7 w8 _ => ?_)
        refine y_if_eq (tgt := 54) dX11_cart_36 (by decide) ?_ ?_
        · refine y_iconst (v := 0) dX11_cart_54 (by decide) ?_
          refine p_X11_cart_L55 hn hd a1 a2 a3 a4 a5 (0 : Int32) w8 
        · refine y_iload dX11_cart_39 5 rfl ?_
          refine y_iconst (v := 0) dX11_cart_41 (by decide) ?_
          refine y_bipush (v := 9) dX11_cart_42 (by decide) ?_
          refine y_callS (As := [.int a5, .int (0 : Int32), .int (9 : Int32)]) (d2 := d - 1) dX11_cart_44 kX11_114 (by omega) rfl rfl (Nat.le_of_ble_eq_true rfl) (p_X11_in hn (by omega)  _ _ _ _) (fun r9 w10 _ => ?_)
          refine y_if_eq (tgt := 54) dX11_cart_47 (by decide) ?_ ?_
          · refine y_iconst (v := 0) dX11_cart_54 (by decide) ?_
            refine p_X11_cart_L55 hn hd a1 a2 a3 a4 a5 (0 : Int32) w10 
          · refine y_iconst (v := 1) dX11_cart_50 (by decide) ?_
            refine y_goto (tgt := 55) dX11_cart_51 (by decide) ?_
            refine p_X11_cart_L55 hn hd a1 a2 a3 a4 a5 (1 : Int32) w10 
-- ===== X11_set: WeighedGateModel.set(III)I =====
set_option maxRecDepth 20000 in
set_option maxHeartbeats 2000000 in
theorem p_X11_set_L99 {G : xG} {d : Nat} {n t : Nat} (hn : 102 ≤ n) (hd : 2 ≤ d) (v1 : Int32) (v2 : Int32) (v3 : Int32) (v4 : Int32) (s0 : Int32) (s1 : Int32) (w : xI) : xC G m_X11_set d 99 [(0, .ref 71), (1, .int v1), (2, .int v2), (3, .int v3), (4, .int v4)] [.int s0, .int s1, .ref 79] (xFin n t) w (fun x : Int32 => some (Value.int x)) (xFin n t) (f_X11_set_L99 v1 v2 v3 v4 s0 s1 w) := by
  unfold f_X11_set_L99
  refine y_iast dX11_set_99 (xlt rfl hn) rfl ?_
  refine y_aload_n dX11_set_100 rfl 0 rfl ?_
  refine y_getr (q := 74) dX11_set_101 flX11_16 (xlt rfl hn) rfl rfl rfl ?_
  refine y_iload_n dX11_set_104 rfl 1 rfl ?_
  refine y_iload_n dX11_set_105 rfl 2 rfl ?_
  refine y_iconst (v := 1) dX11_set_106 (by decide) ?_
  refine y_icmp_ne (tgt := 114) dX11_set_107 (by decide) ?_ ?_
  · refine y_aload_n dX11_set_114 rfl 0 rfl ?_
    refine y_getr (q := 74) dX11_set_115 flX11_16 (xlt rfl hn) rfl rfl rfl ?_
    refine y_iload_n dX11_set_118 rfl 1 rfl ?_
    refine z_iald (v := (w 74 v1.toNatClampNeg)) dX11_set_119 (xlt rfl hn) rfl rfl ?_
    refine y_iast dX11_set_120 (xlt rfl hn) rfl ?_
    refine y_iload dX11_set_121 4 rfl ?_
    exact y_ireturn dX11_set_123 rfl rfl rfl
  · refine y_iload_n dX11_set_110 rfl 3 rfl ?_
    refine y_goto (tgt := 120) dX11_set_111 (by decide) ?_
    refine y_iast dX11_set_120 (xlt rfl hn) rfl ?_
    refine y_iload dX11_set_121 4 rfl ?_
    exact y_ireturn dX11_set_123 rfl rfl rfl
set_option maxRecDepth 20000 in
set_option maxHeartbeats 2000000 in
theorem p_X11_set_L59 {G : xG} {d : Nat} {n t : Nat} (hn : 102 ≤ n) (hd : 2 ≤ d) (v1 : Int32) (v2 : Int32) (v3 : Int32) (w : xI) : xC G m_X11_set d 59 [(0, .ref 71), (1, .int v1), (2, .int v2), (3, .int v3)] [] (xFin n t) w (fun x : Int32 => some (Value.int x)) (xFin n t) (f_X11_set_L59 v1 v2 v3 w) := by
  unfold f_X11_set_L59
  refine y_iload_n dX11_set_59 rfl 2 rfl ?_
  refine y_if_ne (tgt := 72) dX11_set_60 (by decide) ?_ ?_
  · refine y_aload_n dX11_set_72 rfl 0 rfl ?_
    refine y_getr (q := 74) dX11_set_73 flX11_16 (xlt rfl hn) rfl rfl rfl ?_
    refine y_iload_n dX11_set_76 rfl 1 rfl ?_
    refine z_iald (v := (w 74 v1.toNatClampNeg)) dX11_set_77 (xlt rfl hn) rfl rfl ?_
    refine y_let (fun x59001 => ?_)
    refine y_istore (lv' := [(4, .int x59001), (0, .ref 71), (1, .int v1), (2, .int v2), (3, .int v3)]) dX11_set_78 (by decide) rfl ?_
    refine y_aload_n dX11_set_80 rfl 1 rfl ?_
    refine y_getr (q := 79) dX11_set_81 flX11_31 (xlt rfl hn) rfl rfl rfl ?_
    refine y_iload_n dX11_set_84 rfl 2 rfl ?_
    refine y_iload_n dX11_set_85 rfl 3 rfl ?_
    refine y_if_ne (tgt := 93) dX11_set_86 (by decide) ?_ ?_
    · refine y_aload_n dX11_set_93 rfl 1 rfl ?_
      refine y_getr (q := 79) dX11_set_94 flX11_31 (xlt rfl hn) rfl rfl rfl ?_
      refine y_iload_n dX11_set_97 rfl 2 rfl ?_
      refine z_iald (v := (w 79 v1.toNatClampNeg)) dX11_set_98 (xlt rfl hn) rfl rfl ?_
      refine y_sub [(0, .ref 71), (1, .int v1), (2, .int v2), (3, .int v3), (4, .int x59001)] [1, 2, 3, 4, 0] rfl ?_
      refine p_X11_set_L99 hn hd v1 v2 v3 x59001 (w 79 v1.toNatClampNeg) v1 w 
    · refine y_iload_n dX11_set_89 rfl 4 rfl ?_
      refine y_goto (tgt := 99) dX11_set_90 (by decide) ?_
      refine y_sub [(0, .ref 71), (1, .int v1), (2, .int v2), (3, .int v3), (4, .int x59001)] [1, 2, 3, 4, 0] rfl ?_
      refine p_X11_set_L99 hn hd v1 v2 v3 x59001 v3 v1 w 
  · refine y_aload_n dX11_set_63 rfl 0 rfl ?_
    refine y_getr (q := 79) dX11_set_64 flX11_31 (xlt rfl hn) rfl rfl rfl ?_
    refine y_iload_n dX11_set_67 rfl 1 rfl ?_
    refine z_iald (v := (w 79 v1.toNatClampNeg)) dX11_set_68 (xlt rfl hn) rfl rfl ?_
    refine y_goto (tgt := 78) dX11_set_69 (by decide) ?_
    refine y_let (fun x59002 => ?_)
    refine y_istore (lv' := [(4, .int x59002), (0, .ref 71), (1, .int v1), (2, .int v2), (3, .int v3)]) dX11_set_78 (by decide) rfl ?_
    refine y_aload_n dX11_set_80 rfl 1 rfl ?_
    refine y_getr (q := 79) dX11_set_81 flX11_31 (xlt rfl hn) rfl rfl rfl ?_
    refine y_iload_n dX11_set_84 rfl 2 rfl ?_
    refine y_iload_n dX11_set_85 rfl 3 rfl ?_
    refine y_if_ne (tgt := 93) dX11_set_86 (by decide) ?_ ?_
    · refine y_aload_n dX11_set_93 rfl 1 rfl ?_
      refine y_getr (q := 79) dX11_set_94 flX11_31 (xlt rfl hn) rfl rfl rfl ?_
      refine y_iload_n dX11_set_97 rfl 2 rfl ?_
      refine z_iald (v := (w 79 v1.toNatClampNeg)) dX11_set_98 (xlt rfl hn) rfl rfl ?_
      refine y_sub [(0, .ref 71), (1, .int v1), (2, .int v2), (3, .int v3), (4, .int x59002)] [1, 2, 3, 4, 0] rfl ?_
      refine p_X11_set_L99 hn hd v1 v2 v3 x59002 (w 79 v1.toNatClampNeg) v1 w 
    · refine y_iload_n dX11_set_89 rfl 4 rfl ?_
      refine y_goto (tgt := 99) dX11_set_90 (by decide) ?_
      refine y_sub [(0, .ref 71), (1, .int v1), (2, .int v2), (3, .int v3), (4, .int x59002)] [1, 2, 3, 4, 0] rfl ?_
      refine p_X11_set_L99 hn hd v1 v2 v3 x59002 v3 v1 w 
set_option maxRecDepth 20000 in
set_option maxHeartbeats 2000000 in
theorem p_X11_set_L32 {G : xG} {d : Nat} {n t : Nat} (hn : 102 ≤ n) (hd : 2 ≤ d) (v1 : Int32) (v2 : Int32) (v3 : Int32) (s0 : Int32) (s1 : Int32) (s2 : Int32) (w : xI) : xC G m_X11_set d 32 [(0, .ref 71), (1, .int v1), (2, .int v2), (3, .int v3)] [.int s0, .int s1, .int s2] (xFin n t) w (fun x : Int32 => some (Value.int x)) (xFin n t) (f_X11_set_L32 v1 v2 v3 s0 s1 s2 w) := by
  unfold f_X11_set_L32
  refine y_callS (As := [.int s2, .int s1, .int s0]) (d2 := d - 1) dX11_set_32 kX11_114 (by omega) rfl rfl (Nat.le_of_ble_eq_true rfl) (p_X11_in hn (by omega)  _ _ _ _) (fun r32001 w32002 _ => ?_)
  refine y_if_ne (tgt := 41) dX11_set_35 (by decide) ?_ ?_
  · refine y_iload_n dX11_set_41 rfl 2 rfl ?_
    refine y_iconst (v := 1) dX11_set_42 (by decide) ?_
    refine y_icmp_ne (tgt := 59) dX11_set_43 (by decide) ?_ ?_
    · refine p_X11_set_L59 hn hd v1 v2 v3 w32002 
    · refine y_aload_n dX11_set_46 rfl 0 rfl ?_
      refine y_getr (q := 75) dX11_set_47 flX11_19 (xlt rfl hn) rfl rfl rfl ?_
      refine y_iload_n dX11_set_50 rfl 1 rfl ?_
      refine z_iald (v := (w32002 75 v1.toNatClampNeg)) dX11_set_51 (xlt rfl hn) rfl rfl ?_
      refine y_iconst (v := 4) dX11_set_52 (by decide) ?_
      refine y_icmp_eq (tgt := 59) dX11_set_53 (by decide) ?_ ?_
      · refine p_X11_set_L59 hn hd v1 v2 v3 w32002 
      · refine y_bipush (v := (-3)) dX11_set_56 (by decide) ?_
        exact y_ireturn dX11_set_58 rfl rfl rfl
  · refine y_bipush (v := (-7)) dX11_set_38 (by decide) ?_
    exact y_ireturn dX11_set_40 rfl rfl rfl
set_option maxRecDepth 20000 in
set_option maxHeartbeats 2000000 in
theorem p_X11_set {G : xG} {d : Nat} {n t : Nat} (hn : 102 ≤ n) (hd : 2 ≤ d) (a1 : Int32) (a2 : Int32) (a3 : Int32) (w : xI) : xMet G m_X11_set d [.ref 71, .int a1, .int a2, .int a3] (xFin n t) w (fun x : Int32 => some (Value.int x)) (xFin n t) (f_X11_set a1 a2 a3 w) := by
  refine xMet.of rfl (Nat.le_of_ble_eq_true rfl) ?_
  unfold f_X11_set
  show xC G m_X11_set d 0 [(0, .ref 71), (1, .int a1), (2, .int a2), (3, .int a3)] [] (xFin n t) w _ _ _
  refine y_aload_n dX11_set_0 rfl 0 rfl ?_
  refine y_iload_n dX11_set_1 rfl 1 rfl ?_
  refine y_callV (As := [.int a1]) (d2 := d - 1) dX11_set_2 kX11_202 (by omega) rfl rfl (Nat.le_of_ble_eq_true rfl) (xlt rfl hn) rfl rfl (p_X11_isCart hn (by omega)  _ _) (fun r1 w2 _ => ?_)
  refine y_if_ne (tgt := 11) dX11_set_5 (by decide) ?_ ?_
  · refine y_iload_n dX11_set_11 rfl 2 rfl ?_
    refine y_iconst (v := 0) dX11_set_12 (by decide) ?_
    refine y_iconst (v := 1) dX11_set_13 (by decide) ?_
    refine y_callS (As := [.int a2, .int (0 : Int32), .int (1 : Int32)]) (d2 := d - 1) dX11_set_14 kX11_114 (by omega) rfl rfl (Nat.le_of_ble_eq_true rfl) (p_X11_in hn (by omega)  _ _ _ _) (fun r3 w4 _ => ?_)
    refine y_if_eq (tgt := 38) dX11_set_17 (by decide) ?_ ?_
    · refine y_bipush (v := (-7)) dX11_set_38 (by decide) ?_
      exact y_ireturn dX11_set_40 rfl rfl rfl
    · refine y_iload_n dX11_set_20 rfl 3 rfl ?_
      refine y_iconst (v := 0) dX11_set_21 (by decide) ?_
      refine y_iload_n dX11_set_22 rfl 2 rfl ?_
      refine y_if_ne (tgt := 31) dX11_set_23 (by decide) ?_ ?_
      · refine y_iconst (v := 1) dX11_set_31 (by decide) ?_
        refine p_X11_set_L32 hn hd a1 a2 a3 (1 : Int32) (0 : Int32) a3 w4 
      · refine y_bipush (v := 9) dX11_set_26 (by decide) ?_
        refine y_goto (tgt := 32) dX11_set_28 (by decide) ?_
        refine p_X11_set_L32 hn hd a1 a2 a3 (9 : Int32) (0 : Int32) a3 w4 
  · refine y_bipush (v := (-5)) dX11_set_8 (by decide) ?_
    exact y_ireturn dX11_set_10 rfl rfl rfl
-- ===== X11_cartTold: WeighedGateModel.cartTold(II)I =====
set_option maxRecDepth 20000 in
set_option maxHeartbeats 2000000 in
theorem p_X11_cartTold {G : xG} {d : Nat} {n t : Nat} (hn : 102 ≤ n) (hd : 2 ≤ d) (a1 : Int32) (a2 : Int32) (w : xI) : xMet G m_X11_cartTold d [.ref 71, .int a1, .int a2] (xFin n t) w (fun x : Int32 => some (Value.int x)) (xFin n t) (f_X11_cartTold a1 a2 w) := by
  refine xMet.of rfl (Nat.le_of_ble_eq_true rfl) ?_
  unfold f_X11_cartTold
  show xC G m_X11_cartTold d 0 [(0, .ref 71), (1, .int a1), (2, .int a2)] [] (xFin n t) w _ _ _
  refine y_aload_n dX11_cartTold_0 rfl 0 rfl ?_
  refine y_iload_n dX11_cartTold_1 rfl 1 rfl ?_
  refine y_callV (As := [.int a1]) (d2 := d - 1) dX11_cartTold_2 kX11_202 (by omega) rfl rfl (Nat.le_of_ble_eq_true rfl) (xlt rfl hn) rfl rfl (p_X11_isCart hn (by omega)  _ _) (fun r1 w2 _ => ?_)
  refine y_if_ne (tgt := 11) dX11_cartTold_5 (by decide) ?_ ?_
  · refine y_iload_n dX11_cartTold_11 rfl 2 rfl ?_
    refine xC.ite (fun hs3 => ?_) (fun hs3 => ?_)
    · refine y_table (tgt := 52) (v := 0) dX11_cartTold_12 hs3 (by decide) (by decide) rfl (by decide) ?_
      refine y_aload_n dX11_cartTold_52 rfl 0 rfl ?_
      refine y_getr (q := 79) dX11_cartTold_53 flX11_31 (xlt rfl hn) rfl rfl rfl ?_
      refine y_iload_n dX11_cartTold_56 rfl 1 rfl ?_
      refine z_iald (v := (w2 79 a1.toNatClampNeg)) dX11_cartTold_57 (xlt rfl hn) rfl rfl ?_
      exact y_ireturn dX11_cartTold_58 rfl rfl rfl
    · refine xC.ite (fun hs4 => ?_) (fun hs4 => ?_)
      · refine y_table (tgt := 59) (v := 1) dX11_cartTold_12 hs4 (by decide) (by decide) rfl (by decide) ?_
        refine y_aload_n dX11_cartTold_59 rfl 0 rfl ?_
        refine y_getr (q := 74) dX11_cartTold_60 flX11_16 (xlt rfl hn) rfl rfl rfl ?_
        refine y_iload_n dX11_cartTold_63 rfl 1 rfl ?_
        refine z_iald (v := (w2 74 a1.toNatClampNeg)) dX11_cartTold_64 (xlt rfl hn) rfl rfl ?_
        exact y_ireturn dX11_cartTold_65 rfl rfl rfl
      · refine xC.ite (fun hs5 => ?_) (fun hs5 => ?_)
        · refine y_table (tgt := 66) (v := 2) dX11_cartTold_12 hs5 (by decide) (by decide) rfl (by decide) ?_
          refine y_aload_n dX11_cartTold_66 rfl 0 rfl ?_
          refine y_getr (q := 75) dX11_cartTold_67 flX11_19 (xlt rfl hn) rfl rfl rfl ?_
          refine y_iload_n dX11_cartTold_70 rfl 1 rfl ?_
          refine z_iald (v := (w2 75 a1.toNatClampNeg)) dX11_cartTold_71 (xlt rfl hn) rfl rfl ?_
          exact y_ireturn dX11_cartTold_72 rfl rfl rfl
        · refine xC.ite (fun hs6 => ?_) (fun hs6 => ?_)
          · refine y_table (tgt := 73) (v := 3) dX11_cartTold_12 hs6 (by decide) (by decide) rfl (by decide) ?_
            refine y_aload_n dX11_cartTold_73 rfl 0 rfl ?_
            refine y_getr (q := 76) dX11_cartTold_74 flX11_22 (xlt rfl hn) rfl rfl rfl ?_
            refine y_iload_n dX11_cartTold_77 rfl 1 rfl ?_
            refine z_iald (v := (w2 76 a1.toNatClampNeg)) dX11_cartTold_78 (xlt rfl hn) rfl rfl ?_
            exact y_ireturn dX11_cartTold_79 rfl rfl rfl
          · refine xC.ite (fun hs7 => ?_) (fun hs7 => ?_)
            · refine y_table (tgt := 80) (v := 4) dX11_cartTold_12 hs7 (by decide) (by decide) rfl (by decide) ?_
              refine y_aload_n dX11_cartTold_80 rfl 0 rfl ?_
              refine y_getr (q := 77) dX11_cartTold_81 flX11_25 (xlt rfl hn) rfl rfl rfl ?_
              refine y_iload_n dX11_cartTold_84 rfl 1 rfl ?_
              refine z_iald (v := (w2 77 a1.toNatClampNeg)) dX11_cartTold_85 (xlt rfl hn) rfl rfl ?_
              exact y_ireturn dX11_cartTold_86 rfl rfl rfl
            · refine xC.ite (fun hs8 => ?_) (fun hs8 => ?_)
              · refine y_table (tgt := 87) (v := 5) dX11_cartTold_12 hs8 (by decide) (by decide) rfl (by decide) ?_
                refine y_aload_n dX11_cartTold_87 rfl 0 rfl ?_
                refine y_getr (q := 78) dX11_cartTold_88 flX11_28 (xlt rfl hn) rfl rfl rfl ?_
                refine y_iload_n dX11_cartTold_91 rfl 1 rfl ?_
                refine z_iald (v := (w2 78 a1.toNatClampNeg)) dX11_cartTold_92 (xlt rfl hn) rfl rfl ?_
                exact y_ireturn dX11_cartTold_93 rfl rfl rfl
              · refine y_tableD (tgt := 94) dX11_cartTold_12 (by have z0 := lv_neT hs3 (show (0 : Int32).toInt = 0 from rfl); have z1 := lv_neT hs4 (show (1 : Int32).toInt = 1 from rfl); have z2 := lv_neT hs5 (show (2 : Int32).toInt = 2 from rfl); have z3 := lv_neT hs6 (show (3 : Int32).toInt = 3 from rfl); have z4 := lv_neT hs7 (show (4 : Int32).toInt = 4 from rfl); have z5 := lv_neT hs8 (show (5 : Int32).toInt = 5 from rfl); omega) (by decide) ?_
                refine y_bipush (v := (-7)) dX11_cartTold_94 (by decide) ?_
                exact y_ireturn dX11_cartTold_96 rfl rfl rfl
  · refine y_bipush (v := (-5)) dX11_cartTold_8 (by decide) ?_
    exact y_ireturn dX11_cartTold_10 rfl rfl rfl
-- ===== X11_waited: WeighedGateModel.waited(II)I =====
set_option maxRecDepth 20000 in
set_option maxHeartbeats 2000000 in
theorem p_X11_waited {G : xG} {d : Nat} {n t : Nat} (hn : 102 ≤ n) (hd : 0 ≤ d) (a1 : Int32) (a2 : Int32) (w : xI) : xMet G m_X11_waited d [.ref 71, .int a1, .int a2] (xFin n t) w (fun x : Int32 => some (Value.int x)) (xFin n t) (f_X11_waited a1 a2 w) := by
  refine xMet.of rfl (Nat.le_of_ble_eq_true rfl) ?_
  unfold f_X11_waited
  show xC G m_X11_waited d 0 [(0, .ref 71), (1, .int a1), (2, .int a2)] [] (xFin n t) w _ _ _
  refine y_iload_n dX11_waited_0 rfl 2 rfl ?_
  refine y_aload_n dX11_waited_1 rfl 0 rfl ?_
  refine y_getr (q := 79) dX11_waited_2 flX11_31 (xlt rfl hn) rfl rfl rfl ?_
  refine y_iload_n dX11_waited_5 rfl 1 rfl ?_
  refine z_iald (v := (w 79 a1.toNatClampNeg)) dX11_waited_6 (xlt rfl hn) rfl rfl ?_
  refine y_icmp_ge (tgt := 14) dX11_waited_7 (by decide) ?_ ?_
  · refine y_iload_n dX11_waited_14 rfl 2 rfl ?_
    refine y_aload_n dX11_waited_15 rfl 0 rfl ?_
    refine y_getr (q := 79) dX11_waited_16 flX11_31 (xlt rfl hn) rfl rfl rfl ?_
    refine y_iload_n dX11_waited_19 rfl 1 rfl ?_
    refine z_iald (v := (w 79 a1.toNatClampNeg)) dX11_waited_20 (xlt rfl hn) rfl rfl ?_
    refine y_isub dX11_waited_21 ?_
    exact y_ireturn dX11_waited_22 rfl rfl rfl
  · refine y_iconst (v := 0) dX11_waited_10 (by decide) ?_
    refine y_goto (tgt := 22) dX11_waited_11 (by decide) ?_
    exact y_ireturn dX11_waited_22 rfl rfl rfl
-- ===== X11_weighs: WeighedGateModel.weighs(II)I =====
set_option maxRecDepth 20000 in
set_option maxHeartbeats 2000000 in
theorem p_X11_weighs {G : xG} {d : Nat} {n t : Nat} (hn : 102 ≤ n) (hd : 1 ≤ d) (a1 : Int32) (a2 : Int32) (w : xI) : xMet G m_X11_weighs d [.ref 71, .int a1, .int a2] (xFin n t) w (fun x : Int32 => some (Value.int x)) (xFin n t) (f_X11_weighs a1 a2 w) := by
  refine xMet.of rfl (Nat.le_of_ble_eq_true rfl) ?_
  unfold f_X11_weighs
  show xC G m_X11_weighs d 0 [(0, .ref 71), (1, .int a1), (2, .int a2)] [] (xFin n t) w _ _ _
  refine y_aload_n dX11_weighs_0 rfl 0 rfl ?_
  refine y_getr (q := 78) dX11_weighs_1 flX11_28 (xlt rfl hn) rfl rfl rfl ?_
  refine y_iload_n dX11_weighs_4 rfl 1 rfl ?_
  refine z_iald (v := (w 78 a1.toNatClampNeg)) dX11_weighs_5 (xlt rfl hn) rfl rfl ?_
  refine y_aload_n dX11_weighs_6 rfl 0 rfl ?_
  refine y_iload_n dX11_weighs_7 rfl 1 rfl ?_
  refine y_iload_n dX11_weighs_8 rfl 2 rfl ?_
  refine y_callV (As := [.int a1, .int a2]) (d2 := d - 1) dX11_weighs_9 kX11_205 (by omega) rfl rfl (Nat.le_of_ble_eq_true rfl) (xlt rfl hn) rfl rfl (p_X11_waited hn (by omega)  _ _ _) (fun r1 w2 _ => ?_)
  refine y_imul dX11_weighs_12 ?_
  refine y_let (fun x3 => ?_)
  refine y_istore_n (lv' := [(3, .int x3), (0, .ref 71), (1, .int a1), (2, .int a2)]) dX11_weighs_13 rfl (by decide) rfl ?_
  refine y_aload_n dX11_weighs_14 rfl 1 rfl ?_
  refine y_getr (q := 75) dX11_weighs_15 flX11_19 (xlt rfl hn) rfl rfl rfl ?_
  refine y_iload_n dX11_weighs_18 rfl 2 rfl ?_
  refine z_iald (v := (w2 75 a1.toNatClampNeg)) dX11_weighs_19 (xlt rfl hn) rfl rfl ?_
  refine y_let (fun x4 => ?_)
  refine y_istore (lv' := [(4, .int x4), (3, .int x3), (0, .ref 71), (1, .int a1), (2, .int a2)]) dX11_weighs_20 (by decide) rfl ?_
  refine y_iload dX11_weighs_22 0 rfl ?_
  refine y_iconst (v := 2) dX11_weighs_24 (by decide) ?_
  refine y_icmp_ne (tgt := 39) dX11_weighs_25 (by decide) ?_ ?_
  · refine y_iload dX11_weighs_39 0 rfl ?_
    refine y_iconst (v := 5) dX11_weighs_41 (by decide) ?_
    refine y_icmp_ne (tgt := 63) dX11_weighs_42 (by decide) ?_ ?_
    · refine y_aload_n dX11_weighs_63 rfl 2 rfl ?_
      refine y_getr (q := 76) dX11_weighs_64 flX11_22 (xlt rfl hn) rfl rfl rfl ?_
      refine y_iload_n dX11_weighs_67 rfl 3 rfl ?_
      refine z_iald (v := (w2 76 a1.toNatClampNeg)) dX11_weighs_68 (xlt rfl hn) rfl rfl ?_
      exact y_ireturn dX11_weighs_69 rfl rfl rfl
    · refine y_aload_n dX11_weighs_45 rfl 2 rfl ?_
      refine y_getr (q := 76) dX11_weighs_46 flX11_22 (xlt rfl hn) rfl rfl rfl ?_
      refine y_iload_n dX11_weighs_49 rfl 3 rfl ?_
      refine z_iald (v := (w2 76 a1.toNatClampNeg)) dX11_weighs_50 (xlt rfl hn) rfl rfl ?_
      refine y_iload_n dX11_weighs_51 rfl 1 rfl ?_
      refine y_isub dX11_weighs_52 ?_
      refine y_iconst (v := 1) dX11_weighs_53 (by decide) ?_
      refine y_sipush (v := 999) dX11_weighs_54 (by decide) ?_
      refine y_callS (As := [.int ((w2 76 a1.toNatClampNeg) - x3), .int (1 : Int32), .int (999 : Int32)]) (d2 := d - 1) dX11_weighs_57 kX11_194 (by omega) rfl rfl (Nat.le_of_ble_eq_true rfl) (p_X11_within hn (by omega)  _ _ _ _) (fun r5 w6 _ => ?_)
      refine y_goto (tgt := 69) dX11_weighs_60 (by decide) ?_
      exact y_ireturn dX11_weighs_69 rfl rfl rfl
  · refine y_aload_n dX11_weighs_28 rfl 2 rfl ?_
    refine y_getr (q := 76) dX11_weighs_29 flX11_22 (xlt rfl hn) rfl rfl rfl ?_
    refine y_iload_n dX11_weighs_32 rfl 3 rfl ?_
    refine z_iald (v := (w2 76 a1.toNatClampNeg)) dX11_weighs_33 (xlt rfl hn) rfl rfl ?_
    refine y_iload_n dX11_weighs_34 rfl 1 rfl ?_
    refine y_iadd dX11_weighs_35 ?_
    refine y_goto (tgt := 69) dX11_weighs_36 (by decide) ?_
    exact y_ireturn dX11_weighs_69 rfl rfl rfl
