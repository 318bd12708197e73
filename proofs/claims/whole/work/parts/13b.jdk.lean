theorem kJ0_335 : xLnk RJ0 335 m_J0_coder_7d493 0 1 := ⟨⟨q367, q13, by decide +kernel, by decide⟩, Or.inl q364, ⟨q365, q366⟩⟩
theorem kJ0_492 : xLnk RJ0 492 m_J0_isLatin1_aae02 0 1 := ⟨⟨q377, q13, by decide +kernel, by decide⟩, Or.inl q374, ⟨q375, q376⟩⟩
theorem kJ0_495 : xLnk RJ0 495 m_J1_charAt_3b067 2 0 := ⟨⟨q380, q14, by decide +kernel, by decide⟩, Or.inl q378, q379⟩
theorem kJ1_9 : xLnk RJ1 9 m_J0_checkIndex_df160 2 0 := ⟨⟨q383, q13, by decide +kernel, by decide⟩, Or.inl q381, q382⟩
theorem kJ0_1059 : xLnk RJ0 1059 m_J3_checkIndex_8e157 3 0 := ⟨⟨q388, q15, by decide +kernel, by decide⟩, Or.inl q386, q387⟩
section XS
variable {α : Type} {G : xG} {M : xM} {d pc : Nat} {lv : List (Nat × Value)} {st : List Value} {F : xF} {w : xI} {cv : α → Option Value} {F' : xF} {X : Option (α × xI)}
theorem xa_str {G : xG} {i : Nat} (hi : i < 13) : xa G (1000000 + i) = G.2.2.2.2.1 i := by
  unfold xa
  rw [if_neg (by omega), if_pos (by omega), Nat.add_sub_cancel_left]
theorem xa_byt {G : xG} {i : Nat} (hi : i < 13) : xa G (1500000 + i) = G.2.2.2.2.2.1 i := by
  unfold xa
  rw [if_neg (by omega), if_neg (by omega), if_pos (by omega), Nat.add_sub_cancel_left]
theorem y_sval {i : Nat} (hdg : decode M.2.1 pc = .ok (.getfield 9, 3)) (ho : M.1.cls = RJ0) (hi : i < 13) (K : xC G M d (pc + 3) lv (.ref (1500000 + i) :: st) F w cv F' X) : xC G M d pc lv (.ref (1000000 + i) :: st) F w cv F' X :=
  K.map (Nat.le_refl _) (Nat.le_refl _) fun v w' K hle hle2 => fun p e R s m args below meth c H locs cells slots n0 t0 ls Q C A hn hR hl hQ => by
    obtain ⟨-, k2, -⟩ := C.2.2.2.2.2.2.2.2
    have h := K p e R s m args below meth c H locs cells slots n0 t0 ls Q C A hn hR hl hQ
    have e1 : xv G (.ref (1000000 + i)) = .ref (G.2.2.2.2.1 i) := congrArg Value.ref (xa_str hi)
    have e2 : xv G (.ref (1500000 + i)) = .ref (G.2.2.2.2.2.1 i) := congrArg Value.ref (xa_byt hi)
    rw [List.map_cons, e2] at h
    rw [List.map_cons, e1]
    exact vk_getf (own := RJ0) C.1 C.2.1 (k2.1 i hi).2.2.1 A.2.2 (ho ▸ C.2.2.2.1) (C.2.2.2.2.1 _ q1491) (fun _ hx => hx) hdg h
theorem y_scod {i : Nat} (hdg : decode M.2.1 pc = .ok (.getfield 15, 3)) (ho : M.1.cls = RJ0) (hi : i < 13) (K : xC G M d (pc + 3) lv (.int 0 :: st) F w cv F' X) : xC G M d pc lv (.ref (1000000 + i) :: st) F w cv F' X :=
  K.map (Nat.le_refl _) (Nat.le_refl _) fun v w' K hle hle2 => fun p e R s m args below meth c H locs cells slots n0 t0 ls Q C A hn hR hl hQ => by
    obtain ⟨-, k2, -⟩ := C.2.2.2.2.2.2.2.2
    have h := K p e R s m args below meth c H locs cells slots n0 t0 ls Q C A hn hR hl hQ
    have e1 : xv G (.ref (1000000 + i)) = .ref (G.2.2.2.2.1 i) := congrArg Value.ref (xa_str hi)
    rw [List.map_cons, e1]
    exact vk_getf (own := RJ0) C.1 C.2.1 (k2.1 i hi).2.1 A.2.2 (ho ▸ C.2.2.2.1) (C.2.2.2.2.1 _ q1492) (fun _ hx => hx) hdg h
theorem y_sal {i : Nat} (hdg : decode M.2.1 pc = .ok (.arraylength, 1)) (hi : i < 13) (K : xC G M d (pc + 1) lv (.int (Int32.ofNat (xLen.getD i 0)) :: st) F w cv F' X) : xC G M d pc lv (.ref (1500000 + i) :: st) F w cv F' X :=
  K.map (Nat.le_refl _) (Nat.le_refl _) fun v w' K hle hle2 => fun p e R s m args below meth c H locs cells slots n0 t0 ls Q C A hn hR hl hQ => by
    obtain ⟨-, k2, -⟩ := C.2.2.2.2.2.2.2.2
    have h := K p e R s m args below meth c H locs cells slots n0 t0 ls Q C A hn hR hl hQ
    have e2 : xv G (.ref (1500000 + i)) = .ref (G.2.2.2.2.2.1 i) := congrArg Value.ref (xa_byt hi)
    rw [List.map_cons, e2]
    exact va_tlen C.1 C.2.1 (k2.1 i hi).2.2.2 A.2.2 rfl hdg h
theorem y_sbl {i : Nat} {j : Int32} (hdg : decode M.2.1 pc = .ok (.baload, 1)) (hi : i < 13) (hin : xin j (xLen.getD i 0) = true) (K : xC G M d (pc + 1) lv (.int ((xByt.getD i []).getD j.toNatClampNeg 0) :: st) F w cv F' X) : xC G M d pc lv (.int j :: .ref (1500000 + i) :: st) F w cv F' X :=
  K.map (Nat.le_refl _) (Nat.le_refl _) fun v w' K hle hle2 => fun p e R s m args below meth c H locs cells slots n0 t0 ls Q C A hn hR hl hQ => by
    obtain ⟨-, k2, -⟩ := C.2.2.2.2.2.2.2.2
    have h := K p e R s m args below meth c H locs cells slots n0 t0 ls Q C A hn hR hl hQ
    have e2 : xv G (.ref (1500000 + i)) = .ref (G.2.2.2.2.2.1 i) := congrArg Value.ref (xa_byt hi)
    rw [List.map_cons, List.map_cons, e2]
    exact va_tb C.1 C.2.1 (k2.1 i hi).2.2.2 A.2.2 (xin_spec hin) rfl hdg h
theorem y_sgc (hdg : decode M.2.1 pc = .ok (.getstatic 38, 3)) (ho : M.1.cls = RJ0) (K : xC G M d (pc + 3) lv (.int 1 :: st) F w cv F' X) : xC G M d pc lv st F w cv F' X :=
  K.map (Nat.le_refl _) (Nat.le_refl _) fun v w' K hle hle2 => fun p e R s m args below meth c H locs cells slots n0 t0 ls Q C A hn hR hl hQ => by
    obtain ⟨-, -, -, k4, -⟩ := C.2.2.2.2.2.2.2.2
    exact va_gets (own := RJ0) C.1 C.2.1 k4 A.2.2 (ho ▸ C.2.2.2.1) (C.2.2.2.2.1 _ q368) (fun _ hx => hx) hdg (K p e R s m args below meth c H locs cells slots n0 t0 ls Q C A hn hR hl hQ)
theorem y_sgf (hdg : decode M.2.1 pc = .ok (.getstatic 1053, 3)) (ho : M.1.cls = RJ0) (K : ∀ v : Value, (v = .null ∨ ∃ k, v = .ref k) → xC G M d (pc + 3) lv (v :: st) F w cv F' X) : xC G M d pc lv st F w cv F' X := by
  intro a w' hX
  obtain ⟨h1, h2, -⟩ := K .null (Or.inl rfl) a w' hX
  refine ⟨h1, h2, fun p e R s m args below meth c H locs cells slots n0 t0 ls Q C A hn hR hl hQ => ?_⟩
  obtain ⟨-, -, -, -, k5, -⟩ := C.2.2.2.2.2.2.2.2
  rcases k5 with k5 | ⟨t, k5⟩
  · exact va_gets (own := RJ0) C.1 C.2.1 k5 A.2.2 (ho ▸ C.2.2.2.1) (C.2.2.2.2.1 _ q384) (fun _ hx => hx) hdg ((K .null (Or.inl rfl) a w' hX).2.2 p e R s m args below meth c H locs cells slots n0 t0 ls Q C A hn hR hl hQ)
  · have h := (K (.ref (3000000 + t)) (Or.inr ⟨_, rfl⟩) a w' hX).2.2 p e R s m args below meth c H locs cells slots n0 t0 ls Q C A hn hR hl hQ
    have e2 : xv G (.ref (3000000 + t)) = .ref t := by
      show Value.ref (xa G _) = _
      unfold xa
      rw [if_neg (by omega), if_neg (by omega), if_neg (by omega), if_neg (by omega), Nat.add_sub_cancel_left]
    rw [List.map_cons, e2] at h
    exact va_gets (own := RJ0) C.1 C.2.1 k5 A.2.2 (ho ▸ C.2.2.2.1) (C.2.2.2.2.1 _ q384) (fun _ hx => hx) hdg h
theorem y_if_eqF {x : Int32} {off : Int} {tgt : Nat} (hc : ¬ x = 0) (hdg : decode M.2.1 pc = .ok (.ifCond .eq off, 3)) (ht : (pc : Int) + off = (tgt : Int)) (K : xC G M d (pc + 3) lv st F w cv F' X) : xC G M d pc lv (.int x :: st) F w cv F' X :=
  fun a w' hX => y_if_eq (X1 := none) (X2 := X) hdg ht xC.none K a w' (by rw [if_neg hc]; exact hX)
theorem y_if_neF {x : Int32} {off : Int} {tgt : Nat} (hc : x = 0) (hdg : decode M.2.1 pc = .ok (.ifCond .ne off, 3)) (ht : (pc : Int) + off = (tgt : Int)) (K : xC G M d (pc + 3) lv st F w cv F' X) : xC G M d pc lv (.int x :: st) F w cv F' X :=
  fun a w' hX => y_if_ne (X1 := none) (X2 := X) hdg ht xC.none K a w' (by rw [if_pos hc]; exact hX)
theorem y_if_ltF {x : Int32} {off : Int} {tgt : Nat} (hc : ¬ x < 0) (hdg : decode M.2.1 pc = .ok (.ifCond .lt off, 3)) (ht : (pc : Int) + off = (tgt : Int)) (K : xC G M d (pc + 3) lv st F w cv F' X) : xC G M d pc lv (.int x :: st) F w cv F' X :=
  fun a w' hX => y_if_lt (X1 := none) (X2 := X) hdg ht xC.none K a w' (by rw [if_neg hc]; exact hX)
theorem y_icmp_ltT {x y : Int32} {off : Int} {tgt : Nat} (hc : x < y) (hdg : decode M.2.1 pc = .ok (.if_icmp .lt off, 3)) (ht : (pc : Int) + off = (tgt : Int)) (K : xC G M d tgt lv st F w cv F' X) : xC G M d pc lv (.int y :: .int x :: st) F w cv F' X :=
  fun a w' hX => y_icmp_lt (X1 := X) (X2 := none) hdg ht K xC.none a w' (by rw [if_pos hc]; exact hX)
/-- i2c -/
theorem y_i2c {x v : Int32} (hdg : decode M.2.1 pc = .ok (.i2c, 1)) (hv : (x.toUInt32 % 65536).toInt32 = v) (K : xC G M d (pc + 1) lv (.int v :: st) F w cv F' X) : xC G M d pc lv (.int x :: st) F w cv F' X :=
  K.map (Nat.le_refl _) (Nat.le_refl _) fun v w' K _ _ => fun p e R s m args below meth c H locs cells slots n0 t0 ls Q C A hn hR hl hQ => lv_i2c C.1 C.2.1 hdg hv (K p e R s m args below meth c H locs cells slots n0 t0 ls Q C A hn hR hl hQ)
/-- a call of a String constant's method -/
theorem y_callZ {β : Type} {M2 : xM} {idx n d2 i : Nat} {As st0 : List Value} {F1 : xF} {cv2 : β → Option Value} {Xc : Option (β × xI)} {K : β → xI → Option (α × xI)} (hdg : decode M.2.1 pc = .ok (.invokevirtual idx, 3)) (hL : xLnk M.1.cls idx M2 n 1) (hcl : M2.1.cls = RJ0) (hd : d2 + 1 ≤ d) (hlen : As.length = n) (hst : st0 = As.reverse ++ .ref (1000000 + i) :: st) (hW : (st.map fun v => v.category).sum ≤ 8) (hi : i < 13) (hM : xMet G M2 d2 (.ref (1000000 + i) :: As) F w cv2 F1 Xc)
    (kk : ∀ (b : β) (w1 : xI), Xc = some (b, w1) → xC G M d (pc + 3) lv ((cv2 b).toList ++ st) F1 w1 cv F' (K b w1)) : xC G M d pc lv st0 F w cv F' (xbind Xc K) := by
  subst hst
  refine x_call hL hd hM (fun b w1 hF1 hF2 p e R s m args below meth c H locs cells slots n0 ls C A hR hls hcs hM2 => ?_) kk
  obtain ⟨-, k2, -⟩ := id C.2.2.2.2.2.2.2.2
  have ha : xv G (.ref (1000000 + i)) = .ref (G.2.2.2.2.1 i) := congrArg Value.ref (xa_str hi)
  have hrec := vk_recv k2 hi A.2.2
  have hp : PreV s H M2.1.cls (G.2.2.2.2.1 i) (va_Pc ((.ref (1000000 + i) :: As).map (xv G)) (xPre G F w)) (As.map (xv G)) := ⟨xPre_blind, by rw [hcl]; exact hrec, fun U hU hWm => ⟨by rw [List.map_cons, ha], ⟨by rw [hU]; exact A.1, by rw [hU]; exact A.2.1⟩, C.2.2.2.2.2.2.2.2.go C.2.2.2.2.2.2.2.1 A.2.2 hU hWm⟩⟩
  have hrm : 2 * (F0 m pc ls ((As.reverse ++ .ref (1000000 + i) :: st).map (xv G))).monitorRoom + ((st.map (xv G)).map fun v => v.category).sum ≤ 8 := lv_room (by rw [xv_cats]; exact hW)
  obtain ⟨⟨o1, o2, o3, o4⟩, o5, o6, o7⟩ := hL
  rw [show ((Value.ref (1000000 + i) :: As).map (xv G)).toArray = (Value.ref (G.2.2.2.2.1 i) :: As.map (xv G)).toArray by rw [List.map_cons, ha]]
  rcases o5 with o5 | o5
  · exact va_runV ⟨C.1, C.2.1, C.2.2.1, C.2.2.2.1, C.2.2.2.2.1⟩ hM2 ⟨x_wsr C.2.2.2.2.1 o1 o2 o5 o3 o4 ⟨by omega, by omega⟩, C.2.2.2.2.1 _ o6, C.2.2.2.2.1 _ o7⟩ hp rfl (by rw [List.length_map]; exact hlen) hls (by rw [List.map_append, List.map_reverse, List.map_cons, ha]) hrm hdg hcs
  · exact va_runVN ⟨C.1, C.2.1, C.2.2.1, C.2.2.2.1, C.2.2.2.2.1⟩ hM2 ⟨x_wsrN C.2.2.2.2.1 o1 o2 (C.2.2.2.2.2.2.2.2.2.2.2.2.2.2.2.1 _ o5) o3 o4 ⟨by omega, by omega⟩, C.2.2.2.2.1 _ o6, C.2.2.2.2.1 _ o7⟩ hp rfl (by rw [List.length_map]; exact hlen) hls (by rw [List.map_append, List.map_reverse, List.map_cons, ha]) hrm hdg hcs
end XS
theorem xsb_all : ∀ i, i < 13 → ∀ j, j < xLen.getD i 0 → ((((xByt.getD i []).getD j 0) &&& 255).toUInt32 % 65536).toInt32 = (xByt.getD i []).getD j 0 ∧ narrow .char (.int ((xByt.getD i []).getD j 0)) = .int ((xByt.getD i []).getD j 0) := by decide +kernel
theorem xsl_all : ∀ i, i < 13 → (Int32.ofNat (xLen.getD i 0)) >>> ((0 : Int32) &&& 31) = Int32.ofNat (xLen.getD i 0) := by decide +kernel
abbrev cvI : Int32 → Option Value := fun x => some (Value.int x)
theorem p_J0_coder {G : xG} {d : Nat} {F : xF} (w : xI) {i : Nat} (hi : i < 13) : xMet G m_J0_coder_7d493 d [.ref (1000000 + i)] F w cvI F (some ((0 : Int32), w)) := by
  refine xMet.of rfl (Nat.le_of_ble_eq_true rfl) ?_
  show xC G m_J0_coder_7d493 d 0 [(0, .ref (1000000 + i))] [] F w _ _ _
  refine y_sgc dJ0_coder_7d493_0 rfl ?_
  refine y_if_eqF (by decide) dJ0_coder_7d493_3 (tgt := 13) (by decide) ?_
  refine y_aload_n dJ0_coder_7d493_6 rfl 0 rfl ?_
  refine y_scod dJ0_coder_7d493_7 rfl hi ?_
  refine y_goto (tgt := 14) dJ0_coder_7d493_10 (by decide) ?_
  exact y_ireturn dJ0_coder_7d493_14 rfl rfl rfl
theorem p_J0_length {G : xG} {d : Nat} {F : xF} (w : xI) {i : Nat} (hi : i < 13) (hd : 1 ≤ d) : xMet G m_J0_length_8abf5 d [.ref (1000000 + i)] F w cvI F (some (Int32.ofNat (xLen.getD i 0), w)) := by
  refine xMet.of rfl (Nat.le_of_ble_eq_true rfl) ?_
  show xC G m_J0_length_8abf5 d 0 [(0, .ref (1000000 + i))] [] F w _ _ (xbind (some ((0 : Int32), w)) fun r w1 => some (Int32.ofNat (xLen.getD i 0), w1))
  refine y_aload_n dJ0_length_8abf5_0 rfl 0 rfl ?_
  refine y_sval dJ0_length_8abf5_1 rfl hi ?_
  refine y_sal dJ0_length_8abf5_4 hi ?_
  refine y_aload_n dJ0_length_8abf5_5 rfl 0 rfl ?_
  refine y_callZ (As := []) (d2 := d - 1) dJ0_length_8abf5_6 kJ0_335 rfl (by omega) rfl rfl (Nat.le_of_ble_eq_true rfl) hi (p_J0_coder _ hi) (fun r w1 h => ?_)
  cases h
  refine y_ishr dJ0_length_8abf5_9 ?_
  rw [xsl_all i hi]
  exact y_ireturn dJ0_length_8abf5_10 rfl rfl rfl
theorem p_J0_isLatin1 {G : xG} {d : Nat} {F : xF} (w : xI) {i : Nat} (hi : i < 13) : xMet G m_J0_isLatin1_aae02 d [.ref (1000000 + i)] F w cvI F (some ((1 : Int32), w)) := by
  refine xMet.of rfl (Nat.le_of_ble_eq_true rfl) ?_
  show xC G m_J0_isLatin1_aae02 d 0 [(0, .ref (1000000 + i))] [] F w _ _ _
  refine y_sgc dJ0_isLatin1_aae02_0 rfl ?_
  refine y_if_eqF (by decide) dJ0_isLatin1_aae02_3 (tgt := 17) (by decide) ?_
  refine y_aload_n dJ0_isLatin1_aae02_6 rfl 0 rfl ?_
  refine y_scod dJ0_isLatin1_aae02_7 rfl hi ?_
  refine y_if_neF rfl dJ0_isLatin1_aae02_10 (tgt := 17) (by decide) ?_
  refine y_iconst (v := 1) dJ0_isLatin1_aae02_13 (by decide) ?_
  refine y_goto (tgt := 18) dJ0_isLatin1_aae02_14 (by decide) ?_
  exact y_ireturn dJ0_isLatin1_aae02_18 rfl rfl rfl
theorem p_J3_check {G : xG} {d : Nat} {F : xF} (w : xI) {i n : Int32} {v : Value} (hv : v = .null ∨ ∃ k, v = .ref k) (h0 : ¬ i < 0) (h1 : i < n) : xMet G m_J3_checkIndex_8e157 d [.int i, .int n, v] F w cvI F (some (i, w)) := by
  rcases hv with rfl | ⟨k, rfl⟩
  · refine xMet.of rfl (Nat.le_of_ble_eq_true rfl) ?_
    show xC G m_J3_checkIndex_8e157 d 0 [(0, .int i), (1, .int n), (2, .null)] [] F w _ _ _
    refine y_iload_n dJ3_checkIndex_8e157_0 rfl 0 rfl ?_
    refine y_if_ltF h0 dJ3_checkIndex_8e157_1 (tgt := 9) (by decide) ?_
    refine y_iload_n dJ3_checkIndex_8e157_4 rfl 0 rfl ?_
    refine y_iload_n dJ3_checkIndex_8e157_5 rfl 1 rfl ?_
    refine y_icmp_ltT h1 dJ3_checkIndex_8e157_6 (tgt := 16) (by decide) ?_
    refine y_iload_n dJ3_checkIndex_8e157_16 rfl 0 rfl ?_
    exact y_ireturn dJ3_checkIndex_8e157_17 rfl rfl rfl
  · refine xMet.of rfl (Nat.le_of_ble_eq_true rfl) ?_
    show xC G m_J3_checkIndex_8e157 d 0 [(0, .int i), (1, .int n), (2, .ref k)] [] F w _ _ _
    refine y_iload_n dJ3_checkIndex_8e157_0 rfl 0 rfl ?_
    refine y_if_ltF h0 dJ3_checkIndex_8e157_1 (tgt := 9) (by decide) ?_
    refine y_iload_n dJ3_checkIndex_8e157_4 rfl 0 rfl ?_
    refine y_iload_n dJ3_checkIndex_8e157_5 rfl 1 rfl ?_
    refine y_icmp_ltT h1 dJ3_checkIndex_8e157_6 (tgt := 16) (by decide) ?_
    refine y_iload_n dJ3_checkIndex_8e157_16 rfl 0 rfl ?_
    exact y_ireturn dJ3_checkIndex_8e157_17 rfl rfl rfl
theorem p_J0_check {G : xG} {d : Nat} {F : xF} (w : xI) {i n : Int32} (h0 : ¬ i < 0) (h1 : i < n) (hd : 1 ≤ d) : xMet G m_J0_checkIndex_df160 d [.int i, .int n] F w (fun _ : Unit => none) F (some ((), w)) := by
  refine xMet.of rfl (Nat.le_of_ble_eq_true rfl) ?_
  show xC G m_J0_checkIndex_df160 d 0 [(0, .int i), (1, .int n)] [] F w _ _ (xbind (some (i, w)) fun r w1 => some ((), w1))
  refine y_iload_n dJ0_checkIndex_df160_0 rfl 0 rfl ?_
  refine y_iload_n dJ0_checkIndex_df160_1 rfl 1 rfl ?_
  refine y_sgf dJ0_checkIndex_df160_2 rfl (fun v hv => ?_)
  refine y_callS (As := [.int i, .int n, v]) (d2 := d - 1) dJ0_checkIndex_df160_5 kJ0_1059 (by omega) rfl rfl (Nat.le_of_ble_eq_true rfl) (p_J3_check _ hv h0 h1) (fun r w1 h => ?_)
  cases h
  refine y_pop dJ0_checkIndex_df160_8 rfl ?_
  exact y_return dJ0_checkIndex_df160_9 rfl rfl
theorem p_J1_charAt {G : xG} {d : Nat} {F : xF} (w : xI) {i : Nat} {k : Int32} (hi : i < 13) (hk : xin k (xLen.getD i 0) = true) (hd : 2 ≤ d) : xMet G m_J1_charAt_3b067 d [.ref (1500000 + i), .int k] F w cvI F (some ((xByt.getD i []).getD k.toNatClampNeg 0, w)) := by
  have hin := hk
  unfold xin at hin
  simp only [Bool.and_eq_true, decide_eq_true_eq] at hin
  have hlen : xLen.getD i 0 < 64 := (show ∀ i, i < 13 → xLen.getD i 0 < 64 by decide +kernel) i hi
  have h0 : ¬ k < 0 := Int32.not_lt.mpr hin.1
  have h1 : k < Int32.ofNat (xLen.getD i 0) := by
    have hk0 : (0 : Int) ≤ k.toInt := by simpa using Int32.le_iff_toInt_le.mp hin.1
    have hc : k.toNatClampNeg = k.toInt.toNat := rfl
    rw [Int32.lt_iff_toInt_lt, Int32.toInt_ofNat_of_lt (by omega)]
    omega
  obtain ⟨c1, c2⟩ := xsb_all i hi _ hin.2
  refine xMet.of rfl (Nat.le_of_ble_eq_true rfl) ?_
  show xC G m_J1_charAt_3b067 d 0 [(0, .ref (1500000 + i)), (1, .int k)] [] F w _ _ (xbind (some ((), w)) fun _ w1 => some ((xByt.getD i []).getD k.toNatClampNeg 0, w1))
  refine y_iload_n dJ1_charAt_3b067_0 rfl 1 rfl ?_
  refine y_aload_n dJ1_charAt_3b067_1 rfl 0 rfl ?_
  refine y_sal dJ1_charAt_3b067_2 hi ?_
  refine y_callS (As := [.int k, .int (Int32.ofNat (xLen.getD i 0))]) (d2 := d - 1) dJ1_charAt_3b067_3 kJ1_9 (by omega) rfl rfl (Nat.le_of_ble_eq_true rfl) (p_J0_check _ h0 h1 (by omega)) (fun r w1 h => ?_)
  cases h
  refine y_aload_n dJ1_charAt_3b067_6 rfl 0 rfl ?_
  refine y_iload_n dJ1_charAt_3b067_7 rfl 1 rfl ?_
  refine y_sbl dJ1_charAt_3b067_8 hi hk ?_
  refine y_sipush (v := 255) dJ1_charAt_3b067_9 (by decide) ?_
  refine y_iand dJ1_charAt_3b067_12 ?_
  refine y_i2c dJ1_charAt_3b067_13 c1 ?_
  exact y_ireturn dJ1_charAt_3b067_14 rfl c2 rfl
theorem p_J0_charAt {G : xG} {d : Nat} {F : xF} (w : xI) {i : Nat} {k : Int32} (hi : i < 13) (hk : xin k (xLen.getD i 0) = true) (hd : 3 ≤ d) : xMet G m_J0_charAt_5068e d [.ref (1000000 + i), .int k] F w cvI F (some ((xByt.getD i []).getD k.toNatClampNeg 0, w)) := by
  obtain ⟨c1, c2⟩ := xsb_all i hi _ (xin_lt hk)
  refine xMet.of rfl (Nat.le_of_ble_eq_true rfl) ?_
  show xC G m_J0_charAt_5068e d 0 [(0, .ref (1000000 + i)), (1, .int k)] [] F w _ _ (xbind (some ((1 : Int32), w)) fun _ w1 => xbind (some ((xByt.getD i []).getD k.toNatClampNeg 0, w1)) fun r w2 => some (r, w2))
  refine y_aload_n dJ0_charAt_5068e_0 rfl 0 rfl ?_
  refine y_callZ (As := []) (d2 := d - 1) dJ0_charAt_5068e_1 kJ0_492 rfl (by omega) rfl rfl (Nat.le_of_ble_eq_true rfl) hi (p_J0_isLatin1 _ hi) (fun r w1 h => ?_)
  cases h
  refine y_if_eqF (by decide) dJ0_charAt_5068e_4 (tgt := 16) (by decide) ?_
  refine y_aload_n dJ0_charAt_5068e_7 rfl 0 rfl ?_
  refine y_sval dJ0_charAt_5068e_8 rfl hi ?_
  refine y_iload_n dJ0_charAt_5068e_11 rfl 1 rfl ?_
  refine y_callS (As := [.ref (1500000 + i), .int k]) (d2 := d - 1) dJ0_charAt_5068e_12 kJ0_495 (by omega) rfl rfl (Nat.le_of_ble_eq_true rfl) (p_J1_charAt _ hi hk (by omega)) (fun r w1 h => ?_)
  cases h
  exact y_ireturn dJ0_charAt_5068e_15 rfl c2 rfl
section XS2
variable {α : Type} {G : xG} {M : xM} {d pc : Nat} {lv : List (Nat × Value)} {st : List Value} {F : xF} {w : xI} {cv : α → Option Value} {F' : xF} {X : Option (α × xI)}
/-- String.length() and charAt(int), of a constant -/
theorem y_strlen {idx i : Nat} (hdg : decode M.2.1 pc = .ok (.invokevirtual idx, 3)) (hL : xLnk M.1.cls idx m_J0_length_8abf5 0 1) (hW : (st.map fun v => v.category).sum ≤ 8) (hd : 6 ≤ d) (hi : i < 13) (K : xC G M d (pc + 3) lv (.int (Int32.ofNat (xLen.getD i 0)) :: st) F w cv F' X) : xC G M d pc lv (.ref (1000000 + i) :: st) F w cv F' X := by
  have h := y_callZ (M := M) (d := d) (As := []) (d2 := d - 1) (st := st) (cv := cv) (F' := F') (lv := lv) (K := fun _ _ => X) hdg hL rfl (by omega) rfl rfl hW hi (p_J0_length w hi (by omega)) (fun r w1 h => by cases h; exact K)
  exact h
theorem y_strat {idx i : Nat} {k : Int32} (hdg : decode M.2.1 pc = .ok (.invokevirtual idx, 3)) (hL : xLnk M.1.cls idx m_J0_charAt_5068e 1 1) (hW : (st.map fun v => v.category).sum ≤ 8) (hd : 6 ≤ d) (hi : i < 13) (K : xC G M d (pc + 3) lv (.int ((xByt.getD i []).getD k.toNatClampNeg 0) :: st) F w cv F' X) : xC G M d pc lv (.int k :: .ref (1000000 + i) :: st) F w cv F' (xchk (xin k (xLen.getD i 0)) X) := by
  refine xC.chk (fun hk => ?_)
  have h := y_callZ (M := M) (d := d) (As := [.int k]) (d2 := d - 1) (st := st) (cv := cv) (F' := F') (lv := lv) (K := fun _ _ => X) hdg hL rfl (by omega) rfl rfl hW hi (p_J0_charAt w hi hk (by omega)) (fun r w1 h => by cases h; exact K)
  exact h
end XS2

