def xcopy (w : xI) (k1 k2 : Nat) (sp dp n : Int32) : xI := fun a => if a = k2 then va_cpy (w k1) (w k2) sp.toNatClampNeg dp.toNatClampNeg n.toNatClampNeg else w a
section XR5
variable {α : Type} {G : xG} {M : xM} {d pc : Nat} {lv : List (Nat × Value)} {st : List Value} {F : xF} {w : xI} {cv : α → Option Value} {F' : xF} {X : Option (α × xI)}
theorem y_mmax {idx : Nat} {x y : Int32} (hdg : decode M.2.1 pc = .ok (.invokestatic idx, 3)) (hq : Cond.methodLink M.1.cls idx Lib.Math.max.name ∈ xT0) (hW : (st.map fun v => v.category).sum ≤ 8) (hd : 1 ≤ d) (K : xC G M d (pc + 3) lv (.int (if x < y then y else x) :: st) F w cv F' X) : xC G M d pc lv (.int y :: .int x :: st) F w cv F' X :=
  K.map (Nat.le_refl _) (Nat.le_refl _) fun v w' K hle hle2 => fun p e R s m args below meth c H locs cells slots n0 t0 ls Q C A hn hR hl hQ => va_mmax C.1 C.2.1 (C.2.2.1.trans hl.1.symm) C.2.2.2.1 (C.2.2.2.2.1 _ hq) (C.2.2.2.2.1 _ q590) (C.2.2.2.2.1 _ q3) (C.2.2.2.2.1 _ q591) (by omega) (by rw [xv_cats]; omega) (by omega) (by omega) hdg (K p e R s m args below meth c H locs cells slots n0 t0 ls Q C A hn hR hl hQ)
theorem y_mmin {idx : Nat} {x y : Int32} (hdg : decode M.2.1 pc = .ok (.invokestatic idx, 3)) (hq : Cond.methodLink M.1.cls idx Lib.Math.min.name ∈ xT0) (hW : (st.map fun v => v.category).sum ≤ 8) (hd : 1 ≤ d) (K : xC G M d (pc + 3) lv (.int (if y < x then y else x) :: st) F w cv F' X) : xC G M d pc lv (.int y :: .int x :: st) F w cv F' X :=
  K.map (Nat.le_refl _) (Nat.le_refl _) fun v w' K hle hle2 => fun p e R s m args below meth c H locs cells slots n0 t0 ls Q C A hn hR hl hQ => va_mmin C.1 C.2.1 (C.2.2.1.trans hl.1.symm) C.2.2.2.1 (C.2.2.2.2.1 _ hq) (C.2.2.2.2.1 _ q587) (C.2.2.2.2.1 _ q3) (C.2.2.2.2.1 _ q588) (by omega) (by rw [xv_cats]; omega) (by omega) (by omega) hdg (K p e R s m args below meth c H locs cells slots n0 t0 ls Q C A hn hR hl hQ)
theorem y_mabs {idx : Nat} {x : Int32} (hdg : decode M.2.1 pc = .ok (.invokestatic idx, 3)) (hq : Cond.methodLink M.1.cls idx Lib.Math.abs.name ∈ xT0) (hW : (st.map fun v => v.category).sum ≤ 8) (hd : 1 ≤ d) (K : xC G M d (pc + 3) lv (.int (if 0 ≤ x then x else 0 - x) :: st) F w cv F' X) : xC G M d pc lv (.int x :: st) F w cv F' X :=
  K.map (Nat.le_refl _) (Nat.le_refl _) fun v w' K hle hle2 => fun p e R s m args below meth c H locs cells slots n0 t0 ls Q C A hn hR hl hQ => va_mabs C.1 C.2.1 (C.2.2.1.trans hl.1.symm) C.2.2.2.1 (C.2.2.2.2.1 _ hq) (C.2.2.2.2.1 _ q43) (C.2.2.2.2.1 _ q3) (C.2.2.2.2.1 _ q44) (by omega) (by rw [xv_cats]; omega) (by omega) (by omega) hdg (K p e R s m args below meth c H locs cells slots n0 t0 ls Q C A hn hR hl hQ)
theorem y_obj {idx k : Nat} (hdg : decode M.2.1 pc = .ok (.invokespecial idx, 3)) (hq : Cond.methodLink M.1.cls idx Lib.objectInit ∈ xT0) (hW : (st.map fun v => v.category).sum ≤ 8) (hd : 1 ≤ d) (K : xC G M d (pc + 3) lv st F w cv F' X) : xC G M d pc lv (.ref k :: st) F w cv F' X :=
  K.map (Nat.le_refl _) (Nat.le_refl _) fun v w' K hle hle2 => fun p e R s m args below meth c H locs cells slots n0 t0 ls Q C A hn hR hl hQ => by
    refine W.objInit (a := xa G k) C.1 C.2.1 C.2.2.2.1 (C.2.2.2.2.1 _ hq) (C.2.2.2.2.1 _ q26) (C.2.2.2.2.1 _ q27) (g := F0 m pc ls _) rfl (hl.1.trans C.2.2.1.symm) rfl hdg (by omega) (by show 2 * 0 + _ + 12 ≤ _; rw [xv_cats]; omega) ?_
    exact K p e R s m args below meth c H locs cells slots n0 t0 ls Q C A hn hR hl hQ
theorem y_copy {idx k1 k2 n1 n2 : Nat} {sp dp n : Int32} (hdg : decode M.2.1 pc = .ok (.invokestatic idx, 3)) (hq : Cond.methodLink M.1.cls idx arraycopyName ∈ xT0) (hW : (st.map fun v => v.category).sum ≤ 8) (hd : 1 ≤ d) (hk1 : k1 < F.1) (hk2 : k2 < F.1) (hs1 : F.2.2.1 k1 = .inr (0, n1)) (hs2 : F.2.2.1 k2 = .inr (0, n2))
    (K : xC G M d (pc + 3) lv st F (xcopy w k1 k2 sp dp n) cv F' X) : xC G M d pc lv (.int n :: .int dp :: .ref k2 :: .int sp :: .ref k1 :: st) F w cv F' (xchk (decide (¬ sp < 0) && (decide (¬ dp < 0) && (decide (¬ n < 0) && (decide (sp.toNatClampNeg + n.toNatClampNeg ≤ n1) && decide (dp.toNatClampNeg + n.toNatClampNeg ≤ n2))))) X) := by
  refine xC.chk (fun hb => K.map (Nat.le_refl _) (Nat.le_refl _) fun v w' K hle hle2 => fun p e R s m args below meth c H locs cells slots n0 t0 ls Q C A hn hR hl hQ => ?_)
  simp only [Bool.and_eq_true, decide_eq_true_eq] at hb
  obtain ⟨b1, b2, b3, b4, b5⟩ := hb
  have ha : xv G (.ref k1) = .ref (G.2.1 + k1) := congrArg Value.ref (xa_lo (by omega))
  have hb : xv G (.ref k2) = .ref (G.2.1 + k2) := congrArg Value.ref (xa_lo (by omega))
  have hset : (xWs G F w).set k2 (G.2.1 + k2, .inl (G.2.2.2.1 0, n2, .inl (va_cpy (w k1) (w k2) sp.toNatClampNeg dp.toNatClampNeg n.toNatClampNeg))) = xWs G F (xcopy w k1 k2 sp dp n) := by
    refine xWs_set rfl hk2 ?_ (fun a ha => ?_)
    · rw [xcell_int hs2]
      unfold xcopy
      rw [if_pos rfl]
    · unfold xcell xcopy
      simp only [if_neg ha]
  rw [List.map_cons, List.map_cons, List.map_cons, List.map_cons, List.map_cons, ha, hb]
  have hlw : ((st.map (xv G)).map fun v => v.category).sum + (nativeFrameWords "java/lang/System" "arraycopy" 5 + 11) ≤ R.locals := by
    have h40 : nativeFrameWords "java/lang/System" "arraycopy" 5 ≤ 40 := by decide +kernel
    rw [xv_cats]
    omega
  refine x_copyi (D := G.2.2.1) (cl := xCl) C.1 C.2.1 (C.2.2.1.trans hl.1.symm) C.2.2.2.1 (C.2.2.2.2.1 _ hq) (C.2.2.2.2.1 _ q809) (C.2.2.2.2.1 _ q808) (C.2.2.2.2.1 _ q19) C.2.2.2.2.2.2.2.2.1 A.2.1 (xWs_D G F w) A.2.2 k1 k2 0 (by rw [xWs_get hk1, xcell_int hs1]) (by rw [xWs_get hk2, xcell_int hs2]) rfl b1 b2 b3 b4 b5 (by omega) hlw hdg (fun H1 locs1 hz hP hS => ?_)
  rw [hset] at hP
  exact K p e R s m args below meth c H1 locs1 cells slots n0 t0 ls Q C ⟨by rw [hz]; exact A.1, hP, hS⟩ hn hR hl hQ
/-- the script -/
theorem y_slen (hdg : decode M.2.1 pc = .ok (.arraylength, 1)) (K : xC G M d (pc + 1) lv (.int (Int32.ofNat G.2.2.2.2.2.2.2.1) :: st) F w cv F' X) : xC G M d pc lv (.ref 2000000 :: st) F w cv F' X :=
  K.map (Nat.le_refl _) (Nat.le_refl _) fun v w' K hle hle2 => fun p e R s m args below meth c H locs cells slots n0 t0 ls Q C A hn hR hl hQ => by
    obtain ⟨-, -, -, -, -, k6, k7, -⟩ := C.2.2.2.2.2.2.2.2
    refine va_slen (A := xA G) (b := G.2.2.2.2.2.2.1) C.1 C.2.1 k6 (by rw [C.2.2.2.2.2.2.2.1]; omega) (by unfold xA; omega) A.2.2 hdg ?_
    exact K p e R s m args below meth c H locs cells slots n0 t0 ls Q C A hn hR hl hQ
theorem y_sld {i : Int32} (hdg : decode M.2.1 pc = .ok (.iaload, 1)) (K : xC G M d (pc + 1) lv (.int (G.2.2.2.2.2.2.2.2 i.toNatClampNeg) :: st) F w cv F' X) : xC G M d pc lv (.int i :: .ref 2000000 :: st) F w cv F' (xchk (xin i G.2.2.2.2.2.2.2.1) X) := by
  refine xC.chk (fun hin => K.map (Nat.le_refl _) (Nat.le_refl _) fun v w' K hle hle2 => fun p e R s m args below meth c H locs cells slots n0 t0 ls Q C A hn hR hl hQ => ?_)
  obtain ⟨-, -, -, -, -, k6, k7, -⟩ := C.2.2.2.2.2.2.2.2
  refine va_sld (A := xA G) (b := G.2.2.2.2.2.2.1) C.1 C.2.1 k6 (by rw [C.2.2.2.2.2.2.2.1]; omega) (by unfold xA; omega) A.2.2 (xin_spec hin) hdg ?_
  exact K p e R s m args below meth c H locs cells slots n0 t0 ls Q C A hn hR hl hQ
/-- a String constant -/
theorem y_str {idx i : Nat} {tx : String} (hdg : decode M.2.1 pc = .ok (.ldc idx, 2)) (hq : (M.1.cls, idx, tx, i) ∈ xStr) (hi : i < 500000) (K : xC G M d (pc + 2) lv (.ref (1000000 + i) :: st) F w cv F' X) : xC G M d pc lv st F w cv F' X :=
  K.map (Nat.le_refl _) (Nat.le_refl _) fun v w' K hle hle2 => fun p e R s m args below meth c H locs cells slots n0 t0 ls Q C A hn hR hl hQ => by
    obtain ⟨-, -, k3, -⟩ := C.2.2.2.2.2.2.2.2
    refine va_ldcS C.1 C.2.1 C.2.2.2.1 (k3 _ hq) hdg ?_
    have h := K p e R s m args below meth c H locs cells slots n0 t0 ls Q C A hn hR hl hQ
    have ha : xv G (.ref (1000000 + i)) = .ref (G.2.2.2.2.1 i) := by
      show Value.ref (xa G _) = _
      unfold xa
      rw [if_neg (by omega), if_pos (by omega), Nat.add_sub_cancel_left]
    rw [List.map_cons, ha] at h
    exact h
/-- another table of references, or ints, that says the same of the cells that there are -/
theorem xC.swap {F2 : xF} {w2 : xI} (e1 : F2.1 = F.1) (e2 : F2.2.1 = F.2.1) (h : ∀ i, i < F.1 → xcell G F w i = xcell G F2 w2 i) (K : xC G M d pc lv st F2 w2 cv F' X) : xC G M d pc lv st F w cv F' X :=
  K.map (by omega) (by omega) fun v w' K hle hle2 => fun p e R s m args below meth c H locs cells slots n0 t0 ls Q C A hn hR hl hQ =>
    K p e R s m args below meth c H locs cells slots n0 t0 ls Q C ⟨by rw [e1]; exact A.1, by rw [xWs_eq e1 (fun i hi => (h i (by omega)).symm)]; exact A.2.1, A.2.2⟩ (by rw [e1, e2]; exact hn) hR hl hQ
theorem xMet.of {As : List Value} (hp : plainName M.1.cls = true) (hlen : (lg_sl As).length ≤ M.2.2.1) (K : xC G M d 0 (lv_args 0 As) [] F w cv F' X) : xMet G M d As F w cv F' X := by
  intro a w' hX
  obtain ⟨h1, h2, h3⟩ := K a w' hX
  refine ⟨h1, h2, fun h6 => Met.ofW (cc := M.2.1) (maxL := M.2.2.1) (ret := M.2.2.2) hp rfl ?_⟩
  intro p e s m args below meth c s₁ B hml hv
  obtain ⟨rfl, ⟨hz, hP⟩, hKn⟩ := hv
  have hx := B.exec
  have hb := B.bytes
  have hr := B.returns
  have hts : ∀ w ∈ xT0, w.before (As.map (xv G)).toArray s = true := fun w hw => atoms_spec (ws := xws M) B.pre w (List.mem_cons_of_mem _ hw)
  have hown : s.vm.findClass M.1.cls = some m.cls := findClass_of_methodNamed B.named
  have hlocks := B.notSynchronized
  have hname : meth.name = M.1.name := (name_of_methodNamed B.named B.method).1
  have hl := lv_entry (As.map (xv G)) (n := M.2.2.1) (by rw [xlg_len]; exact hlen)
  rw [lg_entry_eq]
  rw [xlv_map] at hl
  refine h3 p e _ s m _ below meth c s.heap [] 0 0 F.1 F.2.1 _ _ ⟨hx, hb, hml, hown, hts, hlocks, fun h => hname.trans h, hz, hKn⟩ ⟨hz, hP, va_S.rf⟩ ⟨rfl, rfl⟩ ⟨Nat.le_refl _, Nat.le_refl _, by show F'.1 ≤ F.1 + (F'.1 - F.1); omega, by show F'.2.1 ≤ F.2.1 + (F'.2.1 - F.2.1); omega, h6⟩ hl ?_
  intro H' locs' cells' slots' pc' ls' A hc hs hret
  have ec : cells' = F'.1 - F.1 := by omega
  have es : slots' = F'.2.1 - F.2.1 := by omega
  subst ec
  subst es
  have post : ∀ (v : Option Value) (t : State), cv a = v → t.heap = H' → xQ G (cv a) F' w' (As.map (xv G)).toArray s (.returned (v.map (xv G))) t := fun v t hv ht => ⟨⟨by rw [hv], by rw [ht]; exact A.1, by rw [ht]; exact A.2.1⟩, A.2.2.F ht⟩
  cases hv : cv a with
  | none =>
    rw [hv] at hret
    exact W.vret hx hb (hr.trans hret.2) (fun t ht _ => by have := post _ t hv ht; rw [hv] at this; exact this) A.2.2.2.2 hret.1
  | some v =>
    rw [hv] at hret
    cases v with
    | int x =>
      obtain ⟨hd, ty, hty, hnar⟩ := hret
      exact W.zret hx hb (hr.trans hty) hnar (fun t ht _ => by have := post _ t hv ht; rw [hv] at this; exact this) A.2.2.2.2 hd
    | long x => exact W.lret hx hb (hr.trans hret.2) (fun t ht _ => by have := post _ t hv ht; rw [hv] at this; exact this) A.2.2.2.2 hret.1
    | ref x =>
      obtain ⟨hd, n, hty⟩ := hret
      exact W.aret hx hb (hr.trans hty) (Or.inl ⟨_, rfl⟩) (Or.inr ⟨_, rfl⟩) (fun t ht _ => by have := post _ t hv ht; rw [hv] at this; exact this) A.2.2.2.2 hd
    | _ => exact absurd hret (by simp [xRet])
end XR5
