section XR2
variable {α : Type} {G : xG} {M : xM} {d pc : Nat} {lv : List (Nat × Value)} {st : List Value} {F : xF} {w : xI} {cv : α → Option Value} {F' : xF} {X : Option (α × xI)}
end XR2
section XP
variable {p : Program} {l : Launch} {e : Env} {R : Room} {s : State} {m : MethodId} {args : Array Value} {below : List Frame} {meth : Method} {c : Code} {H H0 : Heap} {locs : List Loc} {cells slots : Nat} {Q : State → Prop} {cc : ByteArray} {pc : Nat} {ls : Array Slot} {rest : List Value} {D : va_G} {cl : List vw_C} {ws : va_W} {tys : List (ClassId × FieldType)} {A : Nat → Prop} {a : Nat}
/-- putfield, the heap's size told, the field final in its constructor or not final -/
theorem x_put (hexec : p.tables.exec = Jvm.exec) (hb : c.code = cc) {own ref C : String} {T : u_T} {N ci index : Nat} {Ts : List Cond} (hts : ∀ w ∈ Ts, w.before args s = true) (hin : ∀ w ∈ u_ws C T N, w ∈ Ts) (ty0 : Nat → FieldType) (hty : ∀ k, k < N → parseFieldDescriptor (T k).2.2.1 = some (ty0 k)) (hnm : ∀ a, a < N → ∀ b, b < N → a ≠ b → (T a).2.1 ≠ (T b).2.1) (hown : s.vm.findClass own = some m.cls) (hK : va_K D cl tys s) (hP : va_P D cl ws H) (hD : va_D A ws) (hS0 : va_S A H0 H locs) (q0 : Nat) {fs : List Value} (he : ws[q0]? = some (a, .inr (ci, fs))) (hc : cl[ci]? = some (C, T, N)) (k : Nat) (hk : k < N) (hlink : (Cond.fieldLink own index ref (T k).2.1 (T k).2.2.1).before args s = true) (hsame : ∀ x, s.fieldFound? (T k).1 (T k).2.1 (T k).2.2.1 = some x → s.fieldFound? ref (T k).2.1 (T k).2.2.1 = some x) (hfin : (T k).2.2.2 = false ∨ (meth.name = "<init>" ∧ (T k).1 = own)) {ty : FieldType} {v : Value} (hd : parseFieldDescriptor (T k).2.2.1 = some ty) (hn : narrow ty v = v) (hfit : fits ty v = true) (hl : k < fs.length)
    (hdg : decode cc pc = .ok (.putfield index, 3)) (kk : ∀ (H1 : Heap) (locs1 : List Loc), H1.size = H.size → va_P D cl (ws.set q0 (a, .inr (ci, fs.set k v))) H1 → va_D A (ws.set q0 (a, .inr (ci, fs.set k v))) → va_S A H0 H1 locs1 → W p l e R s m args below meth c H1 locs1 cells slots Q (F0 m (pc + 3) ls rest)) : W p l e R s m args below meth c H locs cells slots Q (F0 m pc ls (v :: .ref a :: rest)) := by
  have hap := va_apart (own := own) hts hin ty0 hty hnm hK hc
  obtain ⟨r, h1, cell, q1, q2, q3, q4⟩ := hP q0 _ he
  have hr : r = (C, T, N) := Option.some.inj (h1.symm.trans hc)
  subst hr
  obtain ⟨hS, hfc, kC, hkC, hkind⟩ := hK.1 ci _ hc
  obtain ⟨cf, kf, fi, f, hi, hsl⟩ := hS k hk
  have hlay := hts _ (hin _ (u_in_lay hk))
  have hst := (u_facts hfc hkC (u_lays hts hin hk) hi).1
  have go : ∀ H' : Heap, H'[a]? = some (cell.setSlot (D.2 ci k) v) → H'.size = H.size → (∀ q : Nat, q ≠ a → H'[q]? = H[q]?) → W p l e R s m args below meth c H' (locs ++ [⟨a, D.2 ci k⟩]) cells slots Q (F0 m (pc + 3) ls rest) := fun H' e1 e2 e3 =>
    kk H' _ e2 (hP.set hD he ⟨_, hc, t_OB.to (V := updV (vp_V fs) k v) ⟨_, e1, q2, q3, t_set q4 hap hk v⟩ (fun j _ => vp_updV_set hl v j)⟩ e3) (hD.set he) (hS0.put e2 e3 (hD.2 q0 _ he))
  cases hfn : (T k).2.2.2 with
  | false =>
    unfold u_lay at hlay
    rw [if_neg (by rw [hfn]; decide)] at hlay
    have h6 := u_store hfc hkC hkind hlay hi hd hn hfit
    refine W.putK hexec hb (f := f) ⟨hown, hlink, ⟨_, _, _, hsame _ hi⟩, hst⟩ (by rw [q2]; exact h6) q1 q3 (by rw [hsl]; exact k2_hasslot (q4 k hk)) rfl rfl hdg fun H' e1 e2 e3 => ?_
    rw [hsl] at e1 ⊢
    exact go H' e1 e2 e3
  | true =>
    unfold u_lay at hlay
    rw [if_pos hfn] at hlay
    rcases hfin with h | ⟨hin2, hdecl⟩
    · rw [hfn] at h; cases h
    have hcf : m.cls = cf := by
      obtain ⟨_, _, c', _, _, _, -, -, hf', -, -, -, hown2, -⟩ := Cond.laysFinal_spec hlay
      have e1 : c' = cf := by have := hi.symm.trans hf'; simp at this; exact this.1.symm
      rw [hdecl] at hown2
      rw [← e1]; exact Option.some.inj (hown.symm.trans hown2)
    have h6 := u_fits hfc hkC hkind (Or.inr hlay) hi hd hn hfit
    refine W.putFinK hexec hb hown hlink (hsame _ hi) hst hcf hin2 (by rw [q2]; exact h6) q1 q3 (by rw [hsl]; exact k2_hasslot (q4 k hk)) rfl rfl hdg fun H' e1 e2 e3 => ?_
    rw [hsl] at e1 ⊢
    exact go H' e1 e2 e3
theorem x_iast (hexec : p.tables.exec = Jvm.exec) (hb : c.code = cc) (hK : va_K D cl tys s) (hP : va_P D cl ws H) (hD : va_D A ws) (hS : va_S A H0 H locs) (q0 t0 : Nat) {cA : ClassId} {n : Nat} {f : Nat → Int32} (ha : ws[q0]? = some (a, .inl (cA, n, .inl f))) (ht : tys[t0]? = some (cA, .int)) {i : Int32} {x : Int32} (hin : vp_in i n) (hdg : decode cc pc = .ok (.iastore, 1))
    (kk : ∀ (H1 : Heap) (locs1 : List Loc), H1.size = H.size → va_P D cl (ws.set q0 (a, .inl (cA, n, .inl (upd f i.toNatClampNeg x)))) H1 → va_D A (ws.set q0 (a, .inl (cA, n, .inl (upd f i.toNatClampNeg x)))) → va_S A H0 H1 locs1 → W p l e R s m args below meth c H1 locs1 cells slots Q (F0 m (pc + 1) ls rest)) : W p l e R s m args below meth c H locs cells slots Q (F0 m pc ls (.int x :: .int i :: .ref a :: rest)) := by
  refine W.iast hexec hb (hP q0 _ ha) ((hK.2 t0 _ ht).1 n (fun j => .int (f j))) (fun q => by cases q) (by show ¬ (i < 0 ∨ (arrV _ _ _).slots.size ≤ _); rw [arrV_size]; exact hin) rfl rfl hdg fun H1 e z oq => ?_
  refine kk H1 _ z (hP.set hD ha ?_ oq) (hD.set ha) (hS.put z oq (hD.2 q0 _ ha))
  show H1[a]? = some (vp_cell _ _)
  rw [e]
  rw [vp_cell_i, vp_cell_i, arrV_store]
  congr 2
  funext q
  by_cases hq : q = i.toNatClampNeg
  · subst hq
    simp [updV, upd]
  · simp [updV, upd, hq]
end XP
section XR3
variable {α : Type} {G : xG} {M : xM} {d pc : Nat} {lv : List (Nat × Value)} {st : List Value} {F : xF} {w : xI} {cv : α → Option Value} {F' : xF} {X : Option (α × xI)}
theorem y_putv {idx ci j k : Nat} {fin : Bool} {u : Value} {F2 : xF} {w2 : xI} (hdg : decode M.2.1 pc = .ok (.putfield idx, 3)) (fl : xFld M.1.cls idx ci j fin) (hfin : fin = false ∨ (M.1.name = "<init>" ∧ ∀ C0 T N, xCl[ci]? = some (C0, T, N) → (T j).1 = M.1.cls)) (hk : k < F.1) (hsh : F.2.2.1 k = .inl ci)
    (hn : ∀ a : Value, a = xv G u → narrow (xTy ci j) a = a) (hfit : ∀ a : Value, a = xv G u → fits (xTy ci j) a = true) (e1 : F2.1 = F.1) (e2 : F2.2.1 = F.2.1) (e3 : F2.2.2.1 = F.2.2.1) (ho : ∀ i, i ≠ k → w i = w2 i ∧ F.2.2.2 i = F2.2.2.2 i)
    (hs : ∀ i, i ≠ j → w k i = w2 k i ∧ F.2.2.2 k i = F2.2.2.2 k i) (hv : xval G (xTy ci j) (w2 k j) (F2.2.2.2 k j (w2 k j)) = xv G u)
    (K : xC G M d (pc + 3) lv st F2 w2 cv F' X) : xC G M d pc lv (u :: .ref k :: st) F w cv F' X := by
  refine K.map (by omega) (by omega) fun v w' K hle hle2 => fun p e R s m args below meth c H locs cells slots n0 t0 ls Q C A hn0 hR hl hQ => ?_
  obtain ⟨C0, T, N, ref, h1, h2, h3, h4, h5, h6, h7, h8, h9⟩ := fl
  have ha : xv G (.ref k) = .ref (G.2.1 + k) := congrArg Value.ref (xa_lo (by omega))
  have hset : (xWs G F w).set k (G.2.1 + k, .inr (ci, ((List.range (xN ci)).map (fun j => xval G (xTy ci j) (w k j) (F.2.2.2 k j (w k j)))).set j (xv G u))) = xWs G F2 w2 := by
    refine xWs_set e1.symm hk ?_ (fun i hi => ?_)
    · rw [xcell_obj (ci := ci) (by rw [e3]; exact hsh)]
      rw [xmap_set (xN ci) j _ (fun j => xval G (xTy ci j) (w2 k j) (F2.2.2.2 k j (w2 k j))) (xv G u) hv (fun i hi => by rw [(hs i hi).1, (hs i hi).2])]
    · unfold xcell
      rw [(ho i hi).1, (ho i hi).2, e3]
  have go : ∀ (H1 : Heap) (locs1 : List Loc), va_P G.2.2.1 xCl ((xWs G F w).set k (G.2.1 + k, .inr (ci, ((List.range (xN ci)).map (fun j => xval G (xTy ci j) (w k j) (F.2.2.2 k j (w k j)))).set j (xv G u)))) H1 → H1.size = H.size → va_S (xA G) s.heap H1 locs1 → xAt G F2 w2 H1 s locs1 := by
    intro H1 locs1 hP hz hS
    rw [hset] at hP
    exact ⟨by rw [hz, A.1, e1], hP, hS⟩
  rw [List.map_cons, List.map_cons, ha]
  rcases hfin with hf | ⟨hf1, hf2⟩
  · exact x_put (cl := xCl) (ci := ci) (T := T) (N := N) (C := C0) C.1 C.2.1 C.2.2.2.2.1 h4 (xTy ci) h7 h8 C.2.2.2.1 C.2.2.2.2.2.2.2.2.1 A.2.1 (xWs_D G F w) A.2.2 k (xf_read (j := j) hk hsh) h1 j h3 (C.2.2.2.2.1 _ h5) (fun x hx => by rw [h6] at hx; exact hx) (Or.inl (by rw [h9, hf])) (h7 j h3) (hn _ rfl) (hfit _ rfl) (by rw [List.length_map, List.length_range]; omega) hdg (fun H1 locs1 hz hP _ hS => K p e R s m args below meth c H1 locs1 cells slots n0 t0 ls Q C (go H1 locs1 hP hz hS) (by rw [e1, e2]; exact hn0) hR hl hQ)
  · exact x_put (cl := xCl) (ci := ci) (T := T) (N := N) (C := C0) C.1 C.2.1 C.2.2.2.2.1 h4 (xTy ci) h7 h8 C.2.2.2.1 C.2.2.2.2.2.2.2.2.1 A.2.1 (xWs_D G F w) A.2.2 k (xf_read (j := j) hk hsh) h1 j h3 (C.2.2.2.2.1 _ h5) (fun x hx => by rw [h6] at hx; exact hx) (Or.inr ⟨C.2.2.2.2.2.2.1 hf1, hf2 _ _ _ h1⟩) (h7 j h3) (hn _ rfl) (hfit _ rfl) (by rw [List.length_map, List.length_range]; omega) hdg (fun H1 locs1 hz hP _ hS => K p e R s m args below meth c H1 locs1 cells slots n0 t0 ls Q C (go H1 locs1 hP hz hS) (by rw [e1, e2]; exact hn0) hR hl hQ)
theorem y_puti {idx ci j k : Nat} {x : Int32} (hdg : decode M.2.1 pc = .ok (.putfield idx, 3)) (fl : xFld M.1.cls idx ci j false) (hk : k < F.1) (hsh : F.2.2.1 k = .inl ci) (hty : xTy ci j = .int) (K : xC G M d (pc + 3) lv st F (xup w k j x) cv F' X) : xC G M d pc lv (.int x :: .ref k :: st) F w cv F' X :=
  y_putv hdg fl (Or.inl rfl) hk hsh (fun a ha => by rw [ha, hty]; rfl) (fun a ha => by rw [ha, hty]; rfl) rfl rfl rfl (fun i hi => ⟨(xup_ne w j x hi).symm, rfl⟩) (fun i hi => ⟨by rw [xup_same]; exact (if_neg hi).symm, rfl⟩) (by rw [hty, xup_same]; exact congrArg Value.int (if_pos rfl)) K
/-- a boolean field: what is put is 0 or 1 -/
theorem y_putz {idx ci j k : Nat} {x : Int32} (hdg : decode M.2.1 pc = .ok (.putfield idx, 3)) (fl : xFld M.1.cls idx ci j false) (hk : k < F.1) (hsh : F.2.2.1 k = .inl ci) (hty : xTy ci j = .boolean) (K : xC G M d (pc + 3) lv st F (xup w k j x) cv F' X) : xC G M d pc lv (.int x :: .ref k :: st) F w cv F' (xchk (decide (x = 0 ∨ x = 1)) X) := by
  refine xC.chk (fun hb => ?_)
  have hx : x = 0 ∨ x = 1 := of_decide_eq_true hb
  refine y_putv hdg fl (Or.inl rfl) hk hsh (fun a ha => ?_) (fun a ha => ?_) rfl rfl rfl (fun i hi => ⟨(xup_ne w j x hi).symm, rfl⟩) (fun i hi => ⟨by rw [xup_same]; exact (if_neg hi).symm, rfl⟩) (by rw [hty, xup_same]; exact congrArg Value.int (if_pos rfl)) K
  · rcases hx with h | h <;> rw [ha, hty, h] <;> rfl
  · rcases hx with h | h <;> rw [ha, hty, h] <;> rfl
theorem y_putr {idx ci j k q : Nat} {x : Int32} (hdg : decode M.2.1 pc = .ok (.putfield idx, 3)) (fl : xFld M.1.cls idx ci j false) (hk : k < F.1) (hsh : F.2.2.1 k = .inl ci) (hty : xRef (xTy ci j) = true) (hr : F.2.2.2 k j x = some q) (K : xC G M d (pc + 3) lv st F (xup w k j x) cv F' X) : xC G M d pc lv (.ref q :: .ref k :: st) F w cv F' X := by
  refine y_putv hdg fl (Or.inl rfl) hk hsh (fun a ha => ?_) (fun a ha => ?_) rfl rfl rfl (fun i hi => ⟨(xup_ne w j x hi).symm, rfl⟩) (fun i hi => ⟨by rw [xup_same]; exact (if_neg hi).symm, rfl⟩) ?_ K
  · rw [ha]; revert hty; cases xTy ci j <;> intro h <;> first | rfl | cases h
  · rw [ha]; revert hty; cases xTy ci j <;> intro h <;> first | rfl | cases h
  · have e : xup w k j x k j = x := by rw [xup_same]; exact if_pos rfl
    rw [e, hr]; unfold xval; rw [hty]; rfl
/-- a final field, in the constructor -/
theorem y_putF {idx ci j k q : Nat} (hdg : decode M.2.1 pc = .ok (.putfield idx, 3)) (fl : xFld M.1.cls idx ci j true) (hi : M.1.name = "<init>") (hd : ∀ C0 T N, xCl[ci]? = some (C0, T, N) → (T j).1 = M.1.cls) (hk : k < F.1) (hsh : F.2.2.1 k = .inl ci) (hty : xRef (xTy ci j) = true) (K : xC G M d (pc + 3) lv st (F.1, F.2.1, F.2.2.1, xur F.2.2.2 k j q) w cv F' X) : xC G M d pc lv (.ref q :: .ref k :: st) F w cv F' X := by
  refine y_putv (F2 := (F.1, F.2.1, F.2.2.1, xur F.2.2.2 k j q)) (w2 := w) hdg fl (Or.inr ⟨hi, hd⟩) hk hsh (fun a ha => ?_) (fun a ha => ?_) rfl rfl rfl (fun i hi => ⟨rfl, (if_neg hi).symm⟩) (fun i hi => ⟨rfl, ?_⟩) ?_ K
  · rw [ha]; revert hty; cases xTy ci j <;> intro h <;> first | rfl | cases h
  · rw [ha]; revert hty; cases xTy ci j <;> intro h <;> first | rfl | cases h
  · show _ = xur F.2.2.2 k j q k i
    unfold xur; rw [if_pos rfl]; exact (if_neg hi).symm
  · have e : xur F.2.2.2 k j q k j (w k j) = some q := by unfold xur; rw [if_pos rfl, if_pos rfl]
    show xval G (xTy ci j) (w k j) (xur F.2.2.2 k j q k j (w k j)) = _
    rw [e]; unfold xval; rw [hty]; rfl
theorem y_iald {k n : Nat} {i : Int32} (hdg : decode M.2.1 pc = .ok (.iaload, 1)) (hk : k < F.1) (hsh : F.2.2.1 k = .inr (0, n)) (K : xC G M d (pc + 1) lv (.int (w k i.toNatClampNeg) :: st) F w cv F' X) : xC G M d pc lv (.int i :: .ref k :: st) F w cv F' (xchk (xin i n) X) := by
  refine xC.chk (fun hin => K.map (Nat.le_refl _) (Nat.le_refl _) fun v w' K hle _ => fun p e R s m args below meth c H locs cells slots n0 t0 ls Q C A hn hR hl hQ => ?_)
  have ha : xv G (.ref k) = .ref (G.2.1 + k) := congrArg Value.ref (xa_lo (by omega))
  rw [List.map_cons, List.map_cons, ha]
  exact va_iald (D := G.2.2.1) (cl := xCl) C.1 C.2.1 C.2.2.2.2.2.2.2.2.1 A.2.1 k 0 (by rw [xWs_get hk, xcell_int hsh]) rfl (xin_spec hin) hdg (K p e R s m args below meth c H locs cells slots n0 t0 ls Q C A hn hR hl hQ)
theorem y_iast {k n : Nat} {i x : Int32} (hdg : decode M.2.1 pc = .ok (.iastore, 1)) (hk : k < F.1) (hsh : F.2.2.1 k = .inr (0, n)) (K : xC G M d (pc + 1) lv st F (xup w k i.toNatClampNeg x) cv F' X) : xC G M d pc lv (.int x :: .int i :: .ref k :: st) F w cv F' (xchk (xin i n) X) := by
  refine xC.chk (fun hin => K.map (Nat.le_refl _) (Nat.le_refl _) fun v w' K hle _ => fun p e R s m args below meth c H locs cells slots n0 t0 ls Q C A hn hR hl hQ => ?_)
  have ha : xv G (.ref k) = .ref (G.2.1 + k) := congrArg Value.ref (xa_lo (by omega))
  have hset : (xWs G F w).set k (G.2.1 + k, .inl (G.2.2.2.1 0, n, .inl (upd (w k) i.toNatClampNeg x))) = xWs G F (xup w k i.toNatClampNeg x) := by
    refine xWs_set rfl hk ?_ (fun a ha => ?_)
    · rw [xcell_int hsh, xup_same]
    · unfold xcell
      rw [xup_ne w _ x ha]
  rw [List.map_cons, List.map_cons, List.map_cons, ha]
  refine x_iast (D := G.2.2.1) (cl := xCl) C.1 C.2.1 C.2.2.2.2.2.2.2.2.1 A.2.1 (xWs_D G F w) A.2.2 k 0 (by rw [xWs_get hk, xcell_int hsh]) rfl (xin_spec hin) hdg (fun H1 locs1 hz hP _ hS => ?_)
  rw [hset] at hP
  exact K p e R s m args below meth c H1 locs1 cells slots n0 t0 ls Q C ⟨by rw [hz]; exact A.1, hP, hS⟩ hn hR hl hQ
/-- the same, where the place is within -/
theorem y_iald0 {k n : Nat} {i : Int32} (hdg : decode M.2.1 pc = .ok (.iaload, 1)) (hk : k < F.1) (hsh : F.2.2.1 k = .inr (0, n)) (hin : xin i n = true) (K : xC G M d (pc + 1) lv (.int (w k i.toNatClampNeg) :: st) F w cv F' X) : xC G M d pc lv (.int i :: .ref k :: st) F w cv F' X := by
  have h := y_iald hdg hk hsh K
  rw [hin] at h
  exact h
theorem y_iast0 {k n : Nat} {i x : Int32} (hdg : decode M.2.1 pc = .ok (.iastore, 1)) (hk : k < F.1) (hsh : F.2.2.1 k = .inr (0, n)) (hin : xin i n = true) (K : xC G M d (pc + 1) lv st F (xup w k i.toNatClampNeg x) cv F' X) : xC G M d pc lv (.int x :: .int i :: .ref k :: st) F w cv F' X := by
  have h := y_iast hdg hk hsh K
  rw [hin] at h
  exact h
theorem y_aald {k n t q : Nat} {i : Int32} {C0 : String} (hdg : decode M.2.1 pc = .ok (.aaload, 1)) (hk : k < F.1) (hsh : F.2.2.1 k = .inr (t + 1, n)) (ht : (xTys G)[t + 1]? = some (G.2.2.2.1 (t + 1), .object C0)) (hr : xin i n = true → F.2.2.2 k i.toNatClampNeg (w k i.toNatClampNeg) = some q) (K : xin i n = true → xC G M d (pc + 1) lv (.ref q :: st) F w cv F' X) : xC G M d pc lv (.int i :: .ref k :: st) F w cv F' (xchk (xin i n) X) := by
  refine xC.chk (fun hin => (K hin).map (Nat.le_refl _) (Nat.le_refl _) fun v w' K hle _ => fun p e R s m args below meth c H locs cells slots n0 t0 ls Q C A hn hR hl hQ => ?_)
  have ha : xv G (.ref k) = .ref (G.2.1 + k) := congrArg Value.ref (xa_lo (by omega))
  rw [List.map_cons, List.map_cons, ha]
  refine va_aldq (D := G.2.2.1) (cl := xCl) C.1 C.2.1 C.2.2.2.2.2.2.2.2.1 A.2.1 k (t + 1) (by rw [xWs_get hk, xcell_ref hsh]) ht (xin_spec hin) hdg ?_
  rw [hr hin]
  exact K p e R s m args below meth c H locs cells slots n0 t0 ls Q C A hn hR hl hQ
end XR3
