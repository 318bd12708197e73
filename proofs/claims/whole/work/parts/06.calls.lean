section XN
variable {p : Program} {l : Launch} {e : Env} {R : Room} {s : State} {m : MethodId} {args : Array Value} {below : List Frame} {meth : Method} {c : Code} {H H0 : Heap} {locs : List Loc} {cells slots : Nat} {Q : State → Prop} {cc : ByteArray} {pc : Nat} {ls : Array Slot} {rest : List Value} {D : va_G} {cl : List vw_C} {ws : va_W} {tys : List (ClassId × FieldType)} {A : Nat → Prop} {a : Nat}
/-- new, the address told -/
theorem x_new (hexec : p.tables.exec = Jvm.exec) (hb : c.code = cc) {own C : String} {T : u_T} {N ci index : Nat} {Ts : List Cond} (hts : ∀ w ∈ Ts, w.before args s = true) (hin : ∀ w ∈ u_ws C T N, w ∈ Ts) (ty : Nat → FieldType) (hty : ∀ k, k < N → parseFieldDescriptor (T k).2.2.1 = some (ty k)) (hown : s.vm.findClass own = some m.cls) (hcl : (Cond.classLink own index C).before args s = true) (hinst : (Cond.instantiable C N).before args s = true) (hini : (Cond.initialized C).before args s = true)
    (hK : va_K D cl tys s) (hP : va_P D cl ws H) (hS : va_S A H0 H locs) (hc : cl[ci]? = some (C, T, N)) {fs : List Value} (hfs : ∀ j, j < N → defaultValue (ty j) = vp_V fs j) (hcells : cells + 1 ≤ R.cells) (hslots : slots + N ≤ R.slots) (hdg : decode cc pc = .ok (.new index, 3))
    (kk : ∀ (H1 : Heap), H1.size = H.size + 1 → va_P D cl (ws ++ [(H.size, .inr (ci, fs))]) H1 → va_S A H0 H1 locs →
      W p l e R s m args below meth c H1 locs (cells + 1) (slots + N) Q (F0 m (pc + 3) ls (.ref H.size :: rest))) : W p l e R s m args below meth c H locs cells slots Q (F0 m pc ls rest) := by
  have hKn := hK.1 ci _ hc
  refine W.newcK hexec hb hown hcl hinst hini rfl hdg hcells hslots hKn.2.1 rfl fun H1 kC hkC e1 z1 o1 => ?_
  have hk : ∀ (k : Nat) (x : Nat × va_E), ws[k]? = some x → H1[x.1]? = H[x.1]? := fun k x hx => o1 x.1 ((hP k x hx).lt)
  refine kk H1 z1 ((hP.kept hk).app (fun k x hx => ?_)) ⟨Nat.le_trans hS.1 (by omega), fun x h1 h2 => (o1 x (Nat.lt_of_lt_of_le h1 hS.1)).trans (hS.2.1 x h1 h2), hS.2.2⟩
  have hz : k < 1 := (List.getElem?_eq_some_iff.mp hx).1
  rw [show k = 0 by omega] at hx
  cases hx
  exact ⟨_, hc, (u_born ty hts hin hKn hkC e1 hty).to hfs⟩
theorem x_newa (hexec : p.tables.exec = Jvm.exec) (hb : c.code = cc) (harr : (Cond.arrayClass .int).before args s = true) {t0 : Nat} {cI : ClassId} (hK : va_K D cl tys s) (ht : tys[t0]? = some (cI, .int)) (hP : va_P D cl ws H) (hS : va_S A H0 H locs)
    {n : Int32} {N' : Nat} (hn : ¬ n < 0) (hN : n.toNatClampNeg = N') (hbytes : N' * componentBytes .int ≤ 536870912) (hcells : cells + 1 ≤ R.cells) (hslots : slots + N' ≤ R.slots) (hdg : decode cc pc = .ok (.newarray .int, 2))
    (kk : ∀ (H1 : Heap), H1.size = H.size + 1 → va_P D cl (ws ++ [(H.size, .inl (cI, N', .inl (fun _ => 0)))]) H1 → va_S A H0 H1 locs →
      W p l e R s m args below meth c H1 locs (cells + 1) (slots + N') Q (F0 m (pc + 2) ls (.ref H.size :: rest))) : W p l e R s m args below meth c H locs cells slots Q (F0 m pc ls (.int n :: rest)) := by
  refine va_newaK (atype := .int) hexec hb harr rfl hdg rfl hn hN hbytes hcells hslots rfl fun H1 cA e1 z1 o1 hAr hNm => ?_
  have hk : ∀ (k : Nat) (x : Nat × va_E), ws[k]? = some x → H1[x.1]? = H[x.1]? := fun k x hx => o1 x.1 ((hP k x hx).lt)
  have hc : cA = cI := Option.some.inj (hNm.symm.trans (hK.2 t0 _ ht).2)
  subst hc
  refine kk H1 z1 ((hP.kept hk).app (fun k x hx => ?_)) ⟨Nat.le_trans hS.1 (by omega), fun x h1 h2 => (o1 x (Nat.lt_of_lt_of_le h1 hS.1)).trans (hS.2.1 x h1 h2), hS.2.2⟩
  have hz : k < 1 := (List.getElem?_eq_some_iff.mp hx).1
  rw [show k = 0 by omega] at hx
  cases hx
  exact e1
theorem x_newq (hexec : p.tables.exec = Jvm.exec) (hb : c.code = cc) {own C : String} {index : Nat} (hown : s.vm.findClass own = some m.cls) (hclink : (Cond.classLink own index C).before args s = true) (hover : va_AO C s) {t0 : Nat} {cI : ClassId} (hK : va_K D cl tys s) (ht : tys[t0]? = some (cI, .object C)) (hP : va_P D cl ws H) (hS : va_S A H0 H locs)
    {n : Int32} {N' : Nat} (hn : ¬ n < 0) (hN : n.toNatClampNeg = N') (hbytes : N' * 4 ≤ 536870912) (hcells : cells + 1 ≤ R.cells) (hslots : slots + N' ≤ R.slots) (hdg : decode cc pc = .ok (.anewarray index, 3))
    (kk : ∀ (H1 : Heap), H1.size = H.size + 1 → va_P D cl (ws ++ [(H.size, .inl (cI, N', .inr (.inr (.inr (.inr (fun _ => none))))))]) H1 → va_S A H0 H1 locs →
      W p l e R s m args below meth c H1 locs (cells + 1) (slots + N') Q (F0 m (pc + 3) ls (.ref H.size :: rest))) : W p l e R s m args below meth c H locs cells slots Q (F0 m pc ls (.int n :: rest)) := by
  subst hN
  refine W.anew hexec hb hown hclink (va_AO.use hover) rfl hdg rfl hn hbytes hcells hslots fun cA kA comp f1 f2 f3 f4 => ?_
  obtain ⟨kA', comp', -, -, -, g4⟩ := (hK.2 t0 _ ht).2
  have hcc : cA = cI := by first | exact Option.some.inj (f1.symm.trans g4) | exact Option.some.inj (f2.symm.trans g4) | exact Option.some.inj (f3.symm.trans g4) | exact Option.some.inj (f4.symm.trans g4)
  subst hcc
  generalize hH1 : H.push ({ cls := cA, slots := Array.replicate n.toNatClampNeg .null, vm := .none } : Cell) = H1
  have z1 : H1.size = H.size + 1 := by rw [← hH1, Array.size_push]
  have e1 : H1[H.size]? = some (arrV cA n.toNatClampNeg (fun _ => .null)) := by rw [← hH1, Array.getElem?_push_size, ← arrV_new]
  have o1 : ∀ q, q < H.size → H1[q]? = H[q]? := fun q hq => by rw [← hH1, Array.getElem?_push, if_neg (Nat.ne_of_lt hq)]
  have hk : ∀ (k : Nat) (x : Nat × va_E), ws[k]? = some x → H1[x.1]? = H[x.1]? := fun k x hx => o1 x.1 ((hP k x hx).lt)
  refine kk H1 z1 ((hP.kept hk).app (fun k x hx => ?_)) ⟨Nat.le_trans hS.1 (by omega), fun x h1 h2 => (o1 x (Nat.lt_of_lt_of_le h1 hS.1)).trans (hS.2.1 x h1 h2), hS.2.2⟩
  have hz : k < 1 := (List.getElem?_eq_some_iff.mp hx).1
  rw [show k = 0 by omega] at hx
  cases hx
  exact e1
theorem x_astq (hexec : p.tables.exec = Jvm.exec) (hb : c.code = cc) (hK : va_K D cl tys s) (hP : va_P D cl ws H) (hD : va_D A ws) (hS : va_S A H0 H locs) (q0 t0 qk ci : Nat) {cA : ClassId} {r : vw_C} {n v : Nat} {vs : List Value} {f : Nat → Option Nat} (ha : ws[q0]? = some (a, .inl (cA, n, .inr (.inr (.inr (.inr f)))))) (ht : tys[t0]? = some (cA, .object r.1)) (hv : ws[qk]? = some (v, .inr (ci, vs))) (hc : cl[ci]? = some r) {i : Int32} (hin : vp_in i n) (hdg : decode cc pc = .ok (.aastore, 1))
    (kk : ∀ (H1 : Heap) (locs1 : List Loc), H1.size = H.size → va_P D cl (ws.set q0 (a, .inl (cA, n, .inr (.inr (.inr (.inr (va_up f i.toNatClampNeg (some v)))))))) H1 → va_S A H0 H1 locs1 → W p l e R s m args below meth c H1 locs1 cells slots Q (F0 m (pc + 1) ls rest)) : W p l e R s m args below meth c H locs cells slots Q (F0 m pc ls (.ref v :: .int i :: .ref a :: rest)) := by
  have hlt : i.toNatClampNeg < n := Nat.not_le.mp fun q => hin (Or.inr q)
  have h0 : ¬ i < 0 := fun q => hin (Or.inl q)
  obtain ⟨r', hr', cellV, g1, g2, g3, -⟩ := hP qk _ hv
  have hcls := (hK.1 ci r hc).2
  obtain ⟨kA, comp, k1, k2, k3, -⟩ := (hK.2 t0 _ ht).2
  have hcomp : comp = D.1 ci := Option.some.inj (k3.symm.trans hcls.1)
  subst hcomp
  obtain ⟨kC, hkC, -⟩ := hcls.2
  refine W.aast hexec hb (hP q0 _ ha) (fun q h => by cases h) (fun h => by cases h) k1 k2 rfl hkC ⟨h0, by show _ < (arrV _ _ _).slots.size; rw [arrV_size]; exact hlt⟩ g1 (fun q h => by rw [g3] at h; cases h) (by rw [g2]; exact hkC) (by rw [g2]; exact va_assign hcls) rfl rfl hdg fun H1 e z oq => ?_
  refine kk H1 _ z (hP.set hD ha ?_ oq) (hS.put z oq (hD.2 q0 _ ha))
  show H1[a]? = some (vp_cell _ _)
  rw [e]
  rw [vp_cell_q, vp_cell_q, arrV_store]
  congr 2
  funext q
  by_cases hq : q = i.toNatClampNeg
  · subst hq
    simp [updV, va_up, va_rf]
  · simp [updV, va_up, hq]
theorem x_copyi (hexec : p.tables.exec = Jvm.exec) (hb : c.code = cc) (hml : c.maxLocals = ls.size) {own : String} {index : Nat} (hown : s.vm.findClass own = some m.cls) (hlink : (Cond.methodLink own index arraycopyName).before args s = true) (hnat : (Cond.native arraycopyName).before args s = true) (hstat : (Cond.static arraycopyName).before args s = true) (hini : (Cond.initialized "java/lang/System").before args s = true)
    (hK : va_K D cl tys s) (hP : va_P D cl ws H) (hD : va_D A ws) (hS : va_S A H0 H locs) (q0 q1 t0 : Nat) {a0 : Nat} {c0 : ClassId} {n0 n1 : Nat} {f g : Nat → Int32} (ha0 : ws[q0]? = some (a0, .inl (c0, n0, .inl f))) (ha1 : ws[q1]? = some (a, .inl (c0, n1, .inl g))) (ht0 : tys[t0]? = some (c0, .int))
    {sp dp n : Int32} (h1 : ¬ sp < 0) (h2 : ¬ dp < 0) (h3 : ¬ n < 0) (h4 : sp.toNatClampNeg + n.toNatClampNeg ≤ n0) (h5 : dp.toNatClampNeg + n.toNatClampNeg ≤ n1)
    (hframes : 1 ≤ R.frames) (hlocals : (rest.map fun v => v.category).sum + (nativeFrameWords "java/lang/System" "arraycopy" 5 + 11) ≤ R.locals) (hdg : decode cc pc = .ok (.invokestatic index, 3))
    (kk : ∀ (H1 : Heap) (locs1 : List Loc), H1.size = H.size → va_P D cl (ws.set q1 (a, .inl (c0, n1, .inl (va_cpy f g sp.toNatClampNeg dp.toNatClampNeg n.toNatClampNeg)))) H1 → va_S A H0 H1 locs1 → W p l e R s m args below meth c H1 locs1 cells slots Q (F0 m (pc + 3) ls rest)) : W p l e R s m args below meth c H locs cells slots Q (F0 m pc ls (.int n :: .int dp :: .ref a :: .int sp :: .ref a0 :: rest)) := by
  have nn : ∀ z : Int32, ¬ z < 0 → z.toInt = (z.toNatClampNeg : Int) := by
    intro z hz
    have hz0 : (0 : Int) ≤ z.toInt := by
      have := Int32.not_lt.mp hz
      simpa using Int32.le_iff_toInt_le.mp this
    show z.toInt = ((z.toInt.toNat : Nat) : Int)
    omega
  intro T hT X
  have hc0 : H[a0]? = some (vp_cell c0 (n0, .inl f)) := hP q0 _ ha0
  have hc1 : H[a]? = some (vp_cell c0 (n1, .inl g)) := hP q1 _ ha1
  obtain ⟨-, k0, hk0, cm0, hkk0⟩ := (hK.2 t0 _ ht0).1 n0 (fun j => .int (f j))
  obtain ⟨-, k1, hk1, cm1, hkk1⟩ := (hK.2 t0 _ ht0).1 n1 (fun j => .int (g j))
  obtain ⟨vm', X', step⟩ := X.arraycopy hexec hown hlink hnat hstat hini (src := a0) (dst := a) (cs := vp_cell c0 (n0, .inl f)) (cd := vp_cell c0 (n1, .inl g)) (srcPos := sp) (destPos := dp) (n := n) (by rw [hT]; exact hc0) (by rw [hT]; exact hc1)
    (fun _ h => by cases h) (fun _ h => by cases h) (fun h => by cases h) (fun h => by cases h) hk0 hk1 hkk0 hkk1 (by rfl) h1 h2 h3
    (by rw [nn sp h1, nn n h3]; show ¬ _ > ((arrV c0 n0 (fun j => .int (f j))).slots.size : Int); rw [arrV_size]; omega)
    (by rw [nn dp h2, nn n h3]; show ¬ _ > ((arrV c0 n1 (fun j => .int (g j))).slots.size : Int); rw [arrV_size]; omega)
    (fun vm₁ _ i hi => by
      have e : (vp_cell c0 (n0, .inl f)).slots.getD (sp.toNatClampNeg + i) .null = .int (f (sp.toNatClampNeg + i)) := by
        show (arrV c0 n0 (fun j => .int (f j))).slots.getD _ _ = _
        rw [Array.getD_eq_getD_getElem?, arrV_read _ _ (by omega)]
        rfl
      refine ⟨?_, ?_⟩
      · rw [e]
        rfl
      · rw [e]
        exact trivial)
    (g := F0 m pc ls (.int n :: .int dp :: .ref a :: .int sp :: .ref a0 :: rest)) rfl (by rw [hml]) (rest := rest) rfl (by rw [hb]; exact hdg) hframes (by show 2 * 0 + _ + _ ≤ _; omega)
  have e1 : copied (vp_cell c0 (n0, .inl f)) (vp_cell c0 (n1, .inl g)) sp dp n = vp_cell c0 (n1, .inl (va_cpy f g sp.toNatClampNeg dp.toNatClampNeg n.toNatClampNeg)) := va_copied (fun z => .int z) c0 c0 f g h4
  rw [e1] at X' step
  have hl : a < H.size := (Array.getElem?_eq_some_iff.mp hc1).1
  have hheap : ((T.setVm vm').setCell a (vp_cell c0 (n1, .inl (va_cpy f g sp.toNatClampNeg dp.toNatClampNeg n.toNatClampNeg)))).heap = H.setIfInBounds a (vp_cell c0 (n1, .inl (va_cpy f g sp.toNatClampNeg dp.toNatClampNeg n.toNatClampNeg))) := by rw [← hT]; rfl
  have oq : ∀ q : Nat, q ≠ a → (H.setIfInBounds a (vp_cell c0 (n1, .inl (va_cpy f g sp.toNatClampNeg dp.toNatClampNeg n.toNatClampNeg))))[q]? = H[q]? := fun q hq => by simp [Array.getElem?_setIfInBounds, Ne.symm hq]
  obtain ⟨t, a1, b1⟩ := kk _ _ (by simp) (hP.set hD ha1 (show (H.setIfInBounds a _)[a]? = some _ by simp [Array.getElem?_setIfInBounds, hl]) oq) ⟨by simp; exact hS.1, fun q g1 g2 => by
      rw [oq q (fun e => g2 (by rw [e]; exact hD.2 q1 _ ha1))]
      exact hS.2.1 q g1 g2, fun q hq => by
      rcases List.mem_append.mp hq with h | h
      · exact hS.2.2 q h
      · obtain ⟨z, -, hz⟩ := List.mem_map.mp h
        rw [← hz]
        exact hD.2 q1 _ ha1⟩ _ hheap X'
  exact ⟨t, step t a1, b1⟩
end XN
section XR4
variable {α : Type} {G : xG} {M : xM} {d pc : Nat} {lv : List (Nat × Value)} {st : List Value} {F : xF} {w : xI} {cv : α → Option Value} {F' : xF} {X : Option (α × xI)}
theorem xWs_new {G : xG} {F : xF} {w : xI} {n2 t2 : Nat} {q : Nat × va_E} (hn : n2 = F.1 + 1) (hk : q = (G.2.1 + F.1, xcont G (F.2.2.1 F.1) (fun _ => 0) (F.2.2.2 F.1))) : xWs G F w ++ [q] = xWs G (n2, t2, F.2.2.1, F.2.2.2) (xzero w F.1) := by
  refine xWs_push hn ?_ (fun i hi => ?_)
  · rw [hk]
    unfold xcell xzero
    rw [if_pos rfl]
  · unfold xcell xzero
    rw [if_neg (by omega)]
theorem y_new {idx ci : Nat} {C0 : String} {T : u_T} {N : Nat} (hdg : decode M.2.1 pc = .ok (.new idx, 3)) (hq : Cond.classLink M.1.cls idx C0 ∈ xT0) (hi : Cond.instantiable C0 N ∈ xT0) (hz : Cond.initialized C0 ∈ xT0) (hc : xCl[ci]? = some (C0, T, N)) (hw : ∀ w ∈ u_ws C0 T N, w ∈ xT0) (hN : xN ci = N) (hty : ∀ k, k < N → parseFieldDescriptor (T k).2.2.1 = some (xTy ci k))
    (hsh : F.2.2.1 F.1 = .inl ci) (hr : ∀ j x, F.2.2.2 F.1 j x = none) (hdef : ∀ j, j < N → defaultValue (xTy ci j) = xval G (xTy ci j) 0 none) (K : xC G M d (pc + 3) lv (.ref F.1 :: st) (F.1 + 1, F.2.1 + N, F.2.2.1, F.2.2.2) (xzero w F.1) cv F' X) : xC G M d pc lv st F w cv F' X := by
  refine K.map (Nat.le_succ _) (Nat.le_add_right _ _) fun v w' K hle hle2 => fun p e R s m args below meth c H locs cells slots n0 t0 ls Q C A hn hR hl hQ => ?_
  have hle : F.1 + 1 ≤ F'.1 := hle
  have hle2 : F.2.1 + N ≤ F'.2.1 := hle2
  have ha : xv G (.ref F.1) = .ref H.size := by rw [A.1]; exact congrArg Value.ref (xa_lo (by omega))
  refine x_new (D := G.2.2.1) (cl := xCl) (ci := ci) (fs := (List.range N).map (fun j => xval G (xTy ci j) 0 none)) C.1 C.2.1 C.2.2.2.2.1 hw (xTy ci) hty C.2.2.2.1 (C.2.2.2.2.1 _ hq) (C.2.2.2.2.1 _ hi) (C.2.2.2.2.1 _ hz) C.2.2.2.2.2.2.2.2.1 A.2.1 A.2.2 hc (fun j hj => ?_) (by omega) (by omega) hdg (fun H1 z1 hP hS => ?_)
  · rw [hdef j hj]
    unfold vp_V
    simp [List.getD, List.getElem?_range hj]
  · have e9 := xWs_new (G := G) (F := F) (w := w) (n2 := F.1 + 1) (t2 := F.2.1 + N) (q := (H.size, .inr (ci, (List.range N).map (fun j => xval G (xTy ci j) 0 none)))) rfl (by
      rw [A.1, hsh]
      unfold xcont
      simp only [hr, hN])
    rw [e9] at hP
    have h := K p e R s m args below meth c H1 locs (cells + 1) (slots + N) n0 t0 ls Q C ⟨by rw [z1, A.1]; rfl, hP, hS⟩ ⟨by show n0 + (cells + 1) = F.1 + 1; omega, by show t0 + (slots + N) = F.2.1 + N; omega⟩ hR hl hQ
    rw [List.map_cons, ha] at h
    exact h
theorem y_newa {n : Int32} {N : Nat} (hdg : decode M.2.1 pc = .ok (.newarray .int, 2)) (hq : Cond.arrayClass .int ∈ xT0) (hn9 : ¬ n < 0) (hN : n.toNatClampNeg = N) (hb : N ≤ 100000) (hsh : F.2.2.1 F.1 = .inr (0, N)) (K : xC G M d (pc + 2) lv (.ref F.1 :: st) (F.1 + 1, F.2.1 + N, F.2.2.1, F.2.2.2) (xzero w F.1) cv F' X) : xC G M d pc lv (.int n :: st) F w cv F' X := by
  refine K.map (Nat.le_succ _) (Nat.le_add_right _ _) fun v w' K hle hle2 => fun p e R s m args below meth c H locs cells slots n0 t0 ls Q C A hn hR hl hQ => ?_
  have hle : F.1 + 1 ≤ F'.1 := hle
  have hle2 : F.2.1 + N ≤ F'.2.1 := hle2
  have ha : xv G (.ref F.1) = .ref H.size := by rw [A.1]; exact congrArg Value.ref (xa_lo (by omega))
  refine x_newa (t0 := 0) (cI := G.2.2.2.1 0) (D := G.2.2.1) (cl := xCl) C.1 C.2.1 (C.2.2.2.2.1 _ hq) C.2.2.2.2.2.2.2.2.1 rfl A.2.1 A.2.2 hn9 hN (by show N * 4 ≤ 536870912; omega) (by omega) (by omega) hdg (fun H1 z1 hP hS => ?_)
  have e9 := xWs_new (G := G) (F := F) (w := w) (n2 := F.1 + 1) (t2 := F.2.1 + N) (q := (H.size, .inl (G.2.2.2.1 0, N, .inl (fun _ => 0)))) rfl (by rw [A.1, hsh]; rfl)
  rw [e9] at hP
  have h := K p e R s m args below meth c H1 locs (cells + 1) (slots + N) n0 t0 ls Q C ⟨by rw [z1, A.1]; rfl, hP, hS⟩ ⟨by show n0 + (cells + 1) = F.1 + 1; omega, by show t0 + (slots + N) = F.2.1 + N; omega⟩ hR hl hQ
  rw [List.map_cons, ha] at h
  exact h
theorem y_newq {n : Int32} {N idx t : Nat} {C0 : String} (hdg : decode M.2.1 pc = .ok (.anewarray idx, 3)) (hq : Cond.classLink M.1.cls idx C0 ∈ xT0) (hov : ∀ (G : xG) (s : State), xKn G s → va_AO C0 s) (ht : (xTys G)[t + 1]? = some (G.2.2.2.1 (t + 1), .object C0)) (hn9 : ¬ n < 0) (hN : n.toNatClampNeg = N) (hb : N ≤ 100000) (hsh : F.2.2.1 F.1 = .inr (t + 1, N)) (hr : ∀ j x, F.2.2.2 F.1 j x = none) (K : xC G M d (pc + 3) lv (.ref F.1 :: st) (F.1 + 1, F.2.1 + N, F.2.2.1, F.2.2.2) (xzero w F.1) cv F' X) : xC G M d pc lv (.int n :: st) F w cv F' X := by
  refine K.map (Nat.le_succ _) (Nat.le_add_right _ _) fun v w' K hle hle2 => fun p e R s m args below meth c H locs cells slots n0 t0 ls Q C A hn hR hl hQ => ?_
  have hle : F.1 + 1 ≤ F'.1 := hle
  have hle2 : F.2.1 + N ≤ F'.2.1 := hle2
  have ha : xv G (.ref F.1) = .ref H.size := by rw [A.1]; exact congrArg Value.ref (xa_lo (by omega))
  refine x_newq (t0 := t + 1) (cI := G.2.2.2.1 (t + 1)) (D := G.2.2.1) (cl := xCl) C.1 C.2.1 C.2.2.2.1 (C.2.2.2.2.1 _ hq) (hov G s C.2.2.2.2.2.2.2.2) C.2.2.2.2.2.2.2.2.1 ht A.2.1 A.2.2 hn9 hN (by omega) (by omega) (by omega) hdg (fun H1 z1 hP hS => ?_)
  have e9 := xWs_new (G := G) (F := F) (w := w) (n2 := F.1 + 1) (t2 := F.2.1 + N) (q := (H.size, .inl (G.2.2.2.1 (t + 1), N, .inr (.inr (.inr (.inr (fun _ => none))))))) rfl (by
    rw [A.1, hsh]
    unfold xcont
    simp only [hr]
    rfl)
  rw [e9] at hP
  have h := K p e R s m args below meth c H1 locs (cells + 1) (slots + N) n0 t0 ls Q C ⟨by rw [z1, A.1]; rfl, hP, hS⟩ ⟨by show n0 + (cells + 1) = F.1 + 1; omega, by show t0 + (slots + N) = F.2.1 + N; omega⟩ hR hl hQ
  rw [List.map_cons, ha] at h
  exact h
/-- aastore of an object, in a constructor -/
theorem y_aast {k n t q ci : Nat} {i : Int32} {r : vw_C} (hdg : decode M.2.1 pc = .ok (.aastore, 1)) (hk : k < F.1) (hsh : F.2.2.1 k = .inr (t + 1, n)) (ht : (xTys G)[t + 1]? = some (G.2.2.2.1 (t + 1), .object r.1)) (hq : q < F.1) (hshq : F.2.2.1 q = .inl ci) (hc : xCl[ci]? = some r) (hin : xin i n = true) (K : xC G M d (pc + 1) lv st (F.1, F.2.1, F.2.2.1, xur F.2.2.2 k i.toNatClampNeg q) w cv F' X) : xC G M d pc lv (.ref q :: .int i :: .ref k :: st) F w cv F' X := by
  refine K.map (Nat.le_refl _) (Nat.le_refl _) fun v w' K hle _ => fun p e R s m args below meth c H locs cells slots n0 t0 ls Q C A hn hR hl hQ => ?_
  have hle : F.1 ≤ F'.1 := hle
  have ha : xv G (.ref k) = .ref (G.2.1 + k) := congrArg Value.ref (xa_lo (by omega))
  have hb : xv G (.ref q) = .ref (G.2.1 + q) := congrArg Value.ref (xa_lo (by omega))
  rw [List.map_cons, List.map_cons, List.map_cons, ha, hb]
  refine x_astq (D := G.2.2.1) (cl := xCl) (r := r) C.1 C.2.1 C.2.2.2.2.2.2.2.2.1 A.2.1 (xWs_D G F w) A.2.2 k (t + 1) q ci (by rw [xWs_get hk, xcell_ref hsh]) ht (by rw [xWs_get hq, xcell_obj hshq]) hc (xin_spec hin) hdg (fun H1 locs1 hz hP hS => ?_)
  have hset : (xWs G F w).set k (G.2.1 + k, .inl (G.2.2.2.1 (t + 1), n, .inr (.inr (.inr (.inr (va_up (fun j => (F.2.2.2 k j (w k j)).map (xa G)) i.toNatClampNeg (some (G.2.1 + q)))))))) = xWs G (F.1, F.2.1, F.2.2.1, xur F.2.2.2 k i.toNatClampNeg q) w := by
    refine xWs_set (F' := (F.1, F.2.1, F.2.2.1, xur F.2.2.2 k i.toNatClampNeg q)) rfl hk ?_ (fun b hb => ?_)
    · rw [xcell_ref (F := (F.1, F.2.1, F.2.2.1, xur F.2.2.2 k i.toNatClampNeg q)) (t := t) (n := n) hsh]
      congr 8
      funext j
      unfold va_up xur
      simp only [if_true]
      by_cases hj : j = i.toNatClampNeg
      · rw [if_pos hj, if_pos hj]
        exact congrArg some (xa_lo (G := G) (k := q) (by omega)).symm
      · rw [if_neg hj, if_neg hj]
    · unfold xcell xur
      simp only
      rw [if_neg hb]
  rw [hset] at hP
  exact K p e R s m args below meth c H1 locs1 cells slots n0 t0 ls Q C ⟨by rw [hz]; exact A.1, hP, hS⟩ hn hR hl hQ
def xbind {β γ : Type} (X : Option (β × xI)) (K : β → xI → Option γ) : Option γ := match X with | none => none | some (b, w) => K b w
theorem x_ret {v : Option Value} {F1 : xF} {w1 : xI} {p : Program} {l : Launch} {e : Env} {R : Room} {s : State} {m : MethodId} {args a : Array Value} {below : List Frame} {meth : Method} {c : Code} {H : Heap} {locs : List Loc} {cells slots mc ms n0 : Nat} {ls : Array Slot} {Q : State → Prop} {st0 rest : List Value} (hr : va_Run p l e R s m args below meth c H locs cells slots mc ms (F0 m pc ls st0) rest (xQ G v F1 w1 a) (xA G)) (hz : s.heap.size = G.2.1 + n0) (A : xAt G F w H s locs)
    (kk : ∀ (H1 : Heap) (locs1 : List Loc), xAt G F1 w1 H1 s locs1 → W p l e R s m args below meth c H1 locs1 (cells + mc) (slots + ms) Q (F0 m (pc + 3) ls (v.toList.map (xv G) ++ rest))) : W p l e R s m args below meth c H locs cells slots Q (F0 m pc ls st0) := by
  intro T hT X
  obtain ⟨v', st₀, t, T', L, h0, X', hL, e1, e2, ⟨⟨hv, hE1, hE2⟩, hF1, hF2⟩, stp⟩ := hr T hT X
  have hv : v' = v.map (xv G) := by injection hv
  subst hv
  rw [h0] at hF1 hF2
  have e3 : (v.map (xv G)).toList = v.toList.map (xv G) := by cases v <;> rfl
  obtain ⟨t2, a1, b1⟩ := kk T'.heap (locs ++ L) ⟨by rw [e1]; exact hE1, by rw [e1]; exact hE2, Nat.le_trans A.2.2.1 (by rw [e1]; exact hF1), fun q h1 h2 => by rw [e1, hF2 q (Nat.lt_of_lt_of_le h1 A.2.2.1) h2]; exact A.2.2.2.1 q h1 h2, fun q hq => by
      rcases List.mem_append.mp hq with h | h
      · exact A.2.2.2.2 q h
      · exact hL q h⟩ T' rfl X'
  refine ⟨t2, stp t2 ?_, b1⟩
  rw [e3]
  exact a1
/-- the contract of a callee, as the machine's: words, room, start -/
theorem x_wsr {M2 : xM} {own : String} {idx n : Nat} {R : Room} {s : State} {args : Array Value} {d2 mc ms : Nat} (hts : ∀ w ∈ xT0, w.before args s = true) (hcode : Cond.code M2.1 M2.2.1 M2.2.2.1 M2.2.2.2 ∈ xT0) (hini : Cond.initialized M2.1.cls ∈ xT0) (hl : Cond.methodLink own idx M2.1 ∈ xT0) (hd : M2.1.cls ≠ "java/lang/invoke/MethodHandle" ∧ M2.1.cls ≠ "java/lang/invoke/VarHandle" ∧ (parseMethodDescriptor M2.1.desc).map (fun d => d.parameters.length) = some n) (hm : M2.2.2.1 ≤ 45) (hR : d2 + 1 ≤ R.frames ∧ 64 * (d2 + 1) ≤ R.locals) : CallB R s args own idx M2.1 M2.2.1 M2.2.2.1 M2.2.2.2 (xws M2) (xroom d2 mc ms) mc ms n :=
  callB_of n hts (xws_good hcode) rfl rfl rfl (hts _ hini) (hts _ hl) hd ⟨hR.1, by show 8 + (M2.2.2.1 + 11) + 64 * d2 ≤ R.locals; omega⟩
theorem x_wsrN {M2 : xM} {own : String} {idx n : Nat} {R : Room} {s : State} {args : Array Value} {d2 mc ms : Nat} (hts : ∀ w ∈ xT0, w.before args s = true) (hcode : Cond.code M2.1 M2.2.1 M2.2.2.1 M2.2.2.2 ∈ xT0) (hini : Cond.initialized M2.1.cls ∈ xT0) (hl : va_Nw (.methodLinkNest own idx M2.1 RX10) s) (hd : M2.1.cls ≠ "java/lang/invoke/MethodHandle" ∧ M2.1.cls ≠ "java/lang/invoke/VarHandle" ∧ (parseMethodDescriptor M2.1.desc).map (fun d => d.parameters.length) = some n) (hm : M2.2.2.1 ≤ 45) (hR : d2 + 1 ≤ R.frames ∧ 64 * (d2 + 1) ≤ R.locals) : va_CN R s args own idx M2.1 RX10 M2.2.1 M2.2.2.1 M2.2.2.2 (xws M2) (xroom d2 mc ms) mc ms n :=
  va_cnB n hts (xws_good hcode) rfl rfl rfl hl (hts _ hini) hd ⟨hR.1, by show 8 + (M2.2.2.1 + 11) + 64 * d2 ≤ R.locals; omega⟩
def xMok (M2 : xM) (n : Nat) : Prop := Cond.code M2.1 M2.2.1 M2.2.2.1 M2.2.2.2 ∈ xT0 ∧ Cond.initialized M2.1.cls ∈ xT0 ∧ (M2.1.cls ≠ "java/lang/invoke/MethodHandle" ∧ M2.1.cls ≠ "java/lang/invoke/VarHandle" ∧ (parseMethodDescriptor M2.1.desc).map (fun d => d.parameters.length) = some n) ∧ M2.2.2.1 ≤ 45
/-- how a call is linked: static (0), an instance method (1), a constructor (2) -/
def xLnk (own : String) (idx : Nat) (M2 : xM) (n kind : Nat) : Prop := xMok M2 n ∧ (Cond.methodLink own idx M2.1 ∈ xT0 ∨ (own, idx, M2.1) ∈ xNst) ∧ (match kind with
  | 0 => Cond.static M2.1 ∈ xT0
  | 1 => Cond.instanceMethod M2.1 ∈ xT0 ∧ Cond.selects M2.1.cls M2.1 M2.1 ∈ xT0
  | _ => Cond.instanceMethod M2.1 ∈ xT0 ∧ M2.1.name = "<init>" ∧ M2.2.2.2 = none)
theorem x_call {β : Type} {M2 : xM} {idx n kind d2 : Nat} {As st0 : List Value} {F1 : xF} {cv2 : β → Option Value} {Xc : Option (β × xI)} {K : β → xI → Option (α × xI)} (hL : xLnk M.1.cls idx M2 n kind) (hd : d2 + 1 ≤ d) (hM : xMet G M2 d2 As F w cv2 F1 Xc)
    (hrun : ∀ (b : β) (w1 : xI), F.1 ≤ F1.1 → F1.1 ≤ 1000000 → ∀ (p : Program) (e : Env) (R : Room) (s : State) (m : MethodId) (args : Array Value) (below : List Frame) (meth : Method) (c : Code) (H : Heap) (locs : List Loc) (cells slots n0 : Nat) (ls : Array Slot), xCtx G M p s m args meth c n0 → xAt G F w H s locs → (d ≤ R.frames ∧ 64 * d ≤ R.locals) → ls.size = M.2.2.1 → (cells + (F1.1 - F.1) ≤ R.cells ∧ slots + (F1.2.1 - F.2.1) ≤ R.slots) →
      Met G.1 M2.1 (xws M2) (xroom d2 (F1.1 - F.1) (F1.2.1 - F.2.1)) (va_Pc (As.map (xv G)) (xPre G F w)) (xQ G (cv2 b) F1 w1) (F1.1 - F.1) (F1.2.1 - F.2.1) (xA G) →
      va_Run p G.1 e R s m args below meth c H locs cells slots (F1.1 - F.1) (F1.2.1 - F.2.1) (F0 m pc ls (st0.map (xv G))) (st.map (xv G)) (xQ G (cv2 b) F1 w1 (As.map (xv G)).toArray) (xA G))
    (kk : ∀ (b : β) (w1 : xI), Xc = some (b, w1) → xC G M d (pc + 3) lv ((cv2 b).toList ++ st) F1 w1 cv F' (K b w1)) : xC G M d pc lv st0 F w cv F' (xbind Xc K) := by
  intro a w' hX
  cases hc : Xc with
  | none => rw [hc] at hX; cases hX
  | some q =>
    obtain ⟨b, w1⟩ := q
    rw [hc] at hX
    have hX : K b w1 = some (a, w') := hX
    obtain ⟨h1, h2, h3⟩ := hM b w1 hc
    obtain ⟨g1, g2, g3⟩ := kk b w1 hc a w' hX
    refine ⟨Nat.le_trans h1 g1, Nat.le_trans h2 g2, fun p e R s m args below meth c H locs cells slots n0 t0 ls Q C A hn hR hl hQ => ?_⟩
    have hM2 := h3 (by omega)
    refine x_ret (n0 := n0) (hrun b w1 h1 (by omega) p e R s m args below meth c H locs cells slots n0 ls C A ⟨hR.1, hR.2.1⟩ hl.1 ⟨by omega, by omega⟩ hM2) C.2.2.2.2.2.2.2.1 A (fun H1 locs1 A1 => ?_)
    have h := g3 p e R s m args below meth c H1 locs1 (cells + (F1.1 - F.1)) (slots + (F1.2.1 - F.2.1)) n0 t0 ls Q C A1 ⟨by omega, by omega⟩ hR hl hQ
    rw [List.map_append] at h
    exact h
theorem y_callS {β : Type} {M2 : xM} {idx n d2 : Nat} {As st0 : List Value} {F1 : xF} {cv2 : β → Option Value} {Xc : Option (β × xI)} {K : β → xI → Option (α × xI)} (hdg : decode M.2.1 pc = .ok (.invokestatic idx, 3)) (hL : xLnk M.1.cls idx M2 n 0) (hd : d2 + 1 ≤ d) (hlen : As.length = n) (hst : st0 = As.reverse ++ st) (hW : (st.map fun v => v.category).sum ≤ 8) (hM : xMet G M2 d2 As F w cv2 F1 Xc)
    (kk : ∀ (b : β) (w1 : xI), Xc = some (b, w1) → xC G M d (pc + 3) lv ((cv2 b).toList ++ st) F1 w1 cv F' (K b w1)) : xC G M d pc lv st0 F w cv F' (xbind Xc K) := by
  subst hst
  refine x_call hL hd hM (fun b w1 hF1 hF2 p e R s m args below meth c H locs cells slots n0 ls C A hR hls hcs hM2 => ?_) kk
  have hp : PreS s H (va_Pc (As.map (xv G)) (xPre G F w)) (As.map (xv G)) := ⟨xPre_blind, fun U hU hWm => ⟨rfl, ⟨by rw [hU]; exact A.1, by rw [hU]; exact A.2.1⟩, C.2.2.2.2.2.2.2.2.go C.2.2.2.2.2.2.2.1 A.2.2 hU hWm⟩⟩
  have hrm : 2 * (F0 m pc ls ((As.reverse ++ st).map (xv G))).monitorRoom + ((st.map (xv G)).map fun v => v.category).sum ≤ 8 := lv_room (by rw [xv_cats]; exact hW)
  obtain ⟨⟨o1, o2, o3, o4⟩, o5, o6⟩ := hL
  rcases o5 with o5 | o5
  · exact va_runS ⟨C.1, C.2.1, C.2.2.1, C.2.2.2.1, C.2.2.2.2.1⟩ hM2 ⟨x_wsr C.2.2.2.2.1 o1 o2 o5 o3 o4 ⟨by omega, by omega⟩, C.2.2.2.2.1 _ o6⟩ hp rfl (by rw [List.length_map]; exact hlen) hls (by rw [List.map_append, List.map_reverse]) hrm hdg hcs
  · exact va_runSN ⟨C.1, C.2.1, C.2.2.1, C.2.2.2.1, C.2.2.2.2.1⟩ hM2 ⟨x_wsrN C.2.2.2.2.1 o1 o2 (C.2.2.2.2.2.2.2.2.2.2.2.2.2.2.2.1 _ o5) o3 o4 ⟨by omega, by omega⟩, C.2.2.2.2.1 _ o6, trivial⟩ hp rfl (by rw [List.length_map]; exact hlen) hls (by rw [List.map_append, List.map_reverse]) hrm hdg hcs
theorem y_callV {β : Type} {M2 : xM} {idx n d2 k ci : Nat} {As st0 : List Value} {F1 : xF} {cv2 : β → Option Value} {Xc : Option (β × xI)} {K : β → xI → Option (α × xI)} {T : u_T} {N : Nat} (hdg : decode M.2.1 pc = .ok (.invokevirtual idx, 3)) (hL : xLnk M.1.cls idx M2 n 1) (hd : d2 + 1 ≤ d) (hlen : As.length = n) (hst : st0 = As.reverse ++ .ref k :: st) (hW : (st.map fun v => v.category).sum ≤ 8) (hk : k < F.1) (hsh : F.2.2.1 k = .inl ci) (hc : xCl[ci]? = some (M2.1.cls, T, N)) (hM : xMet G M2 d2 (.ref k :: As) F w cv2 F1 Xc)
    (kk : ∀ (b : β) (w1 : xI), Xc = some (b, w1) → xC G M d (pc + 3) lv ((cv2 b).toList ++ st) F1 w1 cv F' (K b w1)) : xC G M d pc lv st0 F w cv F' (xbind Xc K) := by
  subst hst
  refine x_call hL hd hM (fun b w1 hF1 hF2 p e R s m args below meth c H locs cells slots n0 ls C A hR hls hcs hM2 => ?_) kk
  have ha : xv G (.ref k) = .ref (G.2.1 + k) := congrArg Value.ref (xa_lo (by omega))
  have hp : PreV s H M2.1.cls (G.2.1 + k) (va_Pc ((.ref k :: As).map (xv G)) (xPre G F w)) (As.map (xv G)) := ⟨xPre_blind, va_recv C.2.2.2.2.2.2.2.2.1 A.2.1 hc (xf_read (j := 0) hk hsh), fun U hU hWm => ⟨by rw [List.map_cons, ha], ⟨by rw [hU]; exact A.1, by rw [hU]; exact A.2.1⟩, C.2.2.2.2.2.2.2.2.go C.2.2.2.2.2.2.2.1 A.2.2 hU hWm⟩⟩
  have hrm : 2 * (F0 m pc ls ((As.reverse ++ .ref k :: st).map (xv G))).monitorRoom + ((st.map (xv G)).map fun v => v.category).sum ≤ 8 := lv_room (by rw [xv_cats]; exact hW)
  obtain ⟨⟨o1, o2, o3, o4⟩, o5, o6, o7⟩ := hL
  rw [show ((Value.ref k :: As).map (xv G)).toArray = (Value.ref (G.2.1 + k) :: As.map (xv G)).toArray by rw [List.map_cons, ha]]
  rcases o5 with o5 | o5
  · exact va_runV ⟨C.1, C.2.1, C.2.2.1, C.2.2.2.1, C.2.2.2.2.1⟩ hM2 ⟨x_wsr C.2.2.2.2.1 o1 o2 o5 o3 o4 ⟨by omega, by omega⟩, C.2.2.2.2.1 _ o6, C.2.2.2.2.1 _ o7⟩ hp rfl (by rw [List.length_map]; exact hlen) hls (by rw [List.map_append, List.map_reverse, List.map_cons, ha]) hrm hdg hcs
  · exact va_runVN ⟨C.1, C.2.1, C.2.2.1, C.2.2.2.1, C.2.2.2.2.1⟩ hM2 ⟨x_wsrN C.2.2.2.2.1 o1 o2 (C.2.2.2.2.2.2.2.2.2.2.2.2.2.2.2.1 _ o5) o3 o4 ⟨by omega, by omega⟩, C.2.2.2.2.1 _ o6, C.2.2.2.2.1 _ o7⟩ hp rfl (by rw [List.length_map]; exact hlen) hls (by rw [List.map_append, List.map_reverse, List.map_cons, ha]) hrm hdg hcs
theorem y_callI {β : Type} {M2 : xM} {idx n d2 k : Nat} {As st0 : List Value} {F1 : xF} {cv2 : β → Option Value} {Xc : Option (β × xI)} {K : β → xI → Option (α × xI)} (hdg : decode M.2.1 pc = .ok (.invokespecial idx, 3)) (hL : xLnk M.1.cls idx M2 n 2) (hd : d2 + 1 ≤ d) (hlen : As.length = n) (hst : st0 = As.reverse ++ .ref k :: st) (hW : (st.map fun v => v.category).sum ≤ 8) (hk : k < F.1) (hM : xMet G M2 d2 (.ref k :: As) F w cv2 F1 Xc)
    (kk : ∀ (b : β) (w1 : xI), Xc = some (b, w1) → xC G M d (pc + 3) lv ((cv2 b).toList ++ st) F1 w1 cv F' (K b w1)) : xC G M d pc lv st0 F w cv F' (xbind Xc K) := by
  subst hst
  refine x_call hL hd hM (fun b w1 hF1 hF2 p e R s m args below meth c H locs cells slots n0 ls C A hR hls hcs hM2 => ?_) kk
  have ha : xv G (.ref k) = .ref (G.2.1 + k) := congrArg Value.ref (xa_lo (by omega))
  have hp : PreS s H (va_Pc ((.ref k :: As).map (xv G)) (xPre G F w)) (.ref (G.2.1 + k) :: As.map (xv G)) := ⟨xPre_blind, fun U hU hWm => ⟨by rw [List.map_cons, ha], ⟨by rw [hU]; exact A.1, by rw [hU]; exact A.2.1⟩, C.2.2.2.2.2.2.2.2.go C.2.2.2.2.2.2.2.1 A.2.2 hU hWm⟩⟩
  have hrm : 2 * (F0 m pc ls ((As.reverse ++ .ref k :: st).map (xv G))).monitorRoom + ((st.map (xv G)).map fun v => v.category).sum ≤ 8 := lv_room (by rw [xv_cats]; exact hW)
  obtain ⟨⟨o1, o2, o3, o4⟩, o5, o6, o7, o8⟩ := hL
  rw [show ((Value.ref k :: As).map (xv G)).toArray = (Value.ref (G.2.1 + k) :: As.map (xv G)).toArray by rw [List.map_cons, ha]]
  rcases o5 with o5 | o5
  · exact va_runI ⟨C.1, C.2.1, C.2.2.1, C.2.2.2.1, C.2.2.2.2.1⟩ hM2 ⟨o8 ▸ x_wsr C.2.2.2.2.1 o1 o2 o5 o3 o4 ⟨by omega, by omega⟩, o7, C.2.2.2.2.1 _ o6⟩ hp rfl (by rw [List.length_map]; exact hlen) hls (by rw [List.map_append, List.map_reverse, List.map_cons, ha]) hrm hdg hcs
  · exact va_runIN ⟨C.1, C.2.1, C.2.2.1, C.2.2.2.1, C.2.2.2.2.1⟩ hM2 ⟨o8 ▸ x_wsrN C.2.2.2.2.1 o1 o2 (C.2.2.2.2.2.2.2.2.2.2.2.2.2.2.2.1 _ o5) o3 o4 ⟨by omega, by omega⟩, o7, C.2.2.2.2.1 _ o6⟩ hp rfl (by rw [List.length_map]; exact hlen) hls (by rw [List.map_append, List.map_reverse, List.map_cons, ha]) hrm hdg hcs
end XR4
