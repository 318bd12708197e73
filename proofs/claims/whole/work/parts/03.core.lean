/-! THE JUDGEMENT: a machine of cells numbered from 0 on. xF: how many cells, how many slots, of what kind each is (an object of a class; an array: tag 0 ints, 1 .. references, and its length), which cell a reference field or element names. xI: what int fields and elements hold. -/
abbrev xI : Type := Nat → Nat → Int32
abbrev xF : Type := Nat × Nat × (Nat → Nat ⊕ (Nat × Nat)) × (Nat → Nat → Int32 → Option Nat)
/-- launch, first address, classes, array classes, String constants (their addresses, their bytes'), the script (its address, length, ints) -/
abbrev xG : Type := Launch × Nat × va_G × (Nat → ClassId) × (Nat → Nat) × (Nat → Nat) × Nat × Nat × (Nat → Int32)
abbrev xM : Type := MethodName × ByteArray × Nat × Option FieldType
abbrev xCl : List vw_C := [(RX0, TX0, 5), (RX1, TX1, 10), (RX2, TX2, 8), (RX3, TX3, 4), (RX4, TX4, 8), (RX5, TX5, 4), (RX6, TX6, 3), (RX7, TX7, 4), (RX8, TX8, 15), (RX9, TX9, 3), (RX10, TX10, 12), (RX11, TX11, 61)]
def xTy : Nat → Nat → FieldType := fun ci => match ci with
  | 0 => tyX0 | 1 => tyX1 | 2 => tyX2 | 3 => tyX3 | 4 => tyX4 | 5 => tyX5 | 6 => tyX6 | 7 => tyX7 | 8 => tyX8 | 9 => tyX9 | 10 => tyX10 | _ => tyX11
def xN : Nat → Nat := fun ci => match ci with
  | 0 => 5 | 1 => 10 | 2 => 8 | 3 => 4 | 4 => 8 | 5 => 4 | 6 => 3 | 7 => 4 | 8 => 15 | 9 => 3 | 10 => 12 | _ => 61
def xRef (ty : FieldType) : Bool := match ty with | .object _ => true | .array _ => true | _ => false
/-- the address of a cell (below 1000000), a String constant (1000000 on), the script (2000000) -/
def xa (G : xG) (k : Nat) : Nat := if k < 1000000 then G.2.1 + k else if k < 1500000 then G.2.2.2.2.1 (k - 1000000) else if k < 2000000 then G.2.2.2.2.2.1 (k - 1500000) else if k < 3000000 then G.2.2.2.2.2.2.1 else k - 3000000
def xv (G : xG) : Value → Value := fun v => match v with | .ref k => .ref (xa G k) | v => v
def xval (G : xG) (ty : FieldType) (x : Int32) (q : Option Nat) : Value := match xRef ty with | true => va_rf (q.map (xa G)) | false => .int x
def xcont (G : xG) (s : Nat ⊕ (Nat × Nat)) (w : Nat → Int32) (r : Nat → Int32 → Option Nat) : va_E := match s with
  | .inl ci => .inr (ci, (List.range (xN ci)).map (fun j => xval G (xTy ci j) (w j) (r j (w j))))
  | .inr (0, len) => .inl (G.2.2.2.1 0, len, .inl w)
  | .inr (t + 1, len) => .inl (G.2.2.2.1 (t + 1), len, .inr (.inr (.inr (.inr (fun j => (r j (w j)).map (xa G))))))
def xcell (G : xG) (F : xF) (w : xI) (k : Nat) : Nat × va_E := (G.2.1 + k, xcont G (F.2.2.1 k) (w k) (F.2.2.2 k))
def xWs (G : xG) (F : xF) (w : xI) : va_W := (List.range F.1).map (xcell G F w)
def xA (G : xG) : Nat → Prop := fun q => G.2.1 ≤ q
def xTys (G : xG) : List (ClassId × FieldType) := [(G.2.2.2.1 0, .int), (G.2.2.2.1 1, .object RX7), (G.2.2.2.1 2, .object RX6), (G.2.2.2.1 3, .object RX0)]
def xLen : List Nat := [34, 2, 3, 3, 4, 4, 6, 3, 4, 4, 2, 3, 3]
def xByt : List (List Int32) := [[109, 97, 121, 32, 49, 32, 59, 32, 102, 105, 110, 101, 32, 111, 102, 102, 32, 42, 32, 50, 32, 59, 32, 116, 111, 108, 108, 32, 104, 111, 117, 114, 32, 59], [105, 110], [111, 117, 116], [111, 102, 102], [104, 111, 117, 114], [109, 97, 110, 121], [115, 116, 111, 110, 101, 115], [109, 97, 121], [102, 105, 110, 101], [116, 111, 108, 108], [111, 114], [97, 110, 100], [110, 111, 116]]
/-- own class, pool index, text, which constant -/
def xStr : List (String × Nat × String × Nat) := [("WeighedGate", 80, "may 1 ; fine off * 2 ; toll hour ;", 0), (RX4, 99, "in", 1), (RX4, 105, "out", 2), (RX4, 107, "off", 3), (RX4, 109, "hour", 4), (RX4, 111, "many", 5), (RX4, 113, "stones", 6), (RX4, 115, "may", 7), (RX4, 117, "fine", 8), (RX4, 119, "toll", 9), (RX4, 121, "or", 10), (RX4, 123, "and", 11), (RX4, 125, "not", 12)]
/-- links among nest mates: own class, pool index, the method -/
def xNst : List (String × Nat × MethodName) := [(RX9, 21, yX0_init), (RX10, 31, yX4_init), (RX10, 69, yX2_init), (RX10, 78, yX7_init), (RX10, 79, yX6_init), (RX8, 45, yX10_waited), (RX8, 103, yX10_within), (RX1, 92, yX10_waited), (RX6, 22, yX10_within)]
/-- what stays true of tables, String constants and the script in every state -/
def xKn (G : xG) (U : State) : Prop :=
  va_K G.2.2.1 xCl (xTys G) U ∧ vk_S 13 xLen xByt G.2.2.2.2.1 G.2.2.2.2.2.1 (xA G) U U.heap ∧ (∀ q ∈ xStr, vk_R q.1 q.2.1 q.2.2.1 (G.2.2.2.2.1 q.2.2.2) U) ∧ va_Z "java/lang/String" "COMPACT_STRINGS" "Z" (.int 1) (xA G) U U.heap ∧ va_Zq "jdk/internal/util/Preconditions" "SIOOBE_FORMATTER" "Ljava/util/function/BiFunction;" (xA G) U U.heap ∧
  va_X G.2.2.2.2.2.2.1 G.2.2.2.2.2.2.2.1 G.2.2.2.2.2.2.2.2 U U.heap ∧ G.2.2.2.2.2.2.1 < G.2.1 ∧ (∀ q ∈ xNst, va_Nw (.methodLinkNest q.1 q.2.1 q.2.2 RX10) U) ∧ va_AO RX7 U ∧ va_AO RX6 U ∧ va_AO RX0 U
def xEnd (G : xG) (F : xF) (w : xI) (U : State) : Prop := U.heap.size = G.2.1 + F.1 ∧ va_P G.2.2.1 xCl (xWs G F w) U.heap
def xPre (G : xG) (F : xF) (w : xI) (U : State) : Prop := xEnd G F w U ∧ xKn G U
def xQ (G : xG) (v : Option Value) (F : xF) (w : xI) : Array Value → State → Outcome → State → Prop := fun _ st o t => (o = .returned (v.map (xv G)) ∧ xEnd G F w t) ∧ va_F (xA G) st t
def xws (M : xM) : List Cond := Cond.code M.1 M.2.1 M.2.2.1 M.2.2.2 :: xT0
def xroom (d cells slots : Nat) : Room := { frames := d, cells := cells, slots := slots, locals := 64 * d }
/-- a method's contract: from cells F, ints w, with these arguments, it comes to F', answer and ints as X says, where X is something -/
def xMet {α : Type} (G : xG) (M : xM) (d : Nat) (args : List Value) (F : xF) (w : xI) (cv : α → Option Value) (F' : xF) (X : Option (α × xI)) : Prop :=
  ∀ (a : α) (w' : xI), X = some (a, w') → F.1 ≤ F'.1 ∧ F.2.1 ≤ F'.2.1 ∧ (F'.1 ≤ 1000000 → Met G.1 M.1 (xws M) (xroom d (F'.1 - F.1) (F'.2.1 - F.2.1)) (va_Pc (args.map (xv G)) (xPre G F w)) (xQ G (cv a) F' w') (F'.1 - F.1) (F'.2.1 - F.2.1) (xA G))
/-- what holds of the machine in a frame of M -/
def xCtx (G : xG) (M : xM) (p : Program) (s : State) (m : MethodId) (args : Array Value) (meth : Method) (c : Code) (n0 : Nat) : Prop :=
  p.tables.exec = Jvm.exec ∧ c.code = M.2.1 ∧ c.maxLocals = M.2.2.1 ∧ s.vm.findClass M.1.cls = some m.cls ∧ (∀ w ∈ xT0, w.before args s = true) ∧ meth.locks = false ∧ (M.1.name = "<init>" → meth.name = "<init>") ∧ s.heap.size = G.2.1 + n0 ∧ xKn G s
def xAt (G : xG) (F : xF) (w : xI) (H : Heap) (s : State) (locs : List Loc) : Prop := H.size = G.2.1 + F.1 ∧ va_P G.2.2.1 xCl (xWs G F w) H ∧ va_S (xA G) s.heap H locs
def xRet (M : xM) (pc : Nat) (v : Option Value) : Prop := match v with
  | none => decode M.2.1 pc = .ok (.return_, 1) ∧ M.2.2.2 = none
  | some (.int x) => decode M.2.1 pc = .ok (.ireturn, 1) ∧ ∃ ty, M.2.2.2 = some ty ∧ narrow ty (.int x) = .int x
  | some (.long _) => decode M.2.1 pc = .ok (.lreturn, 1) ∧ M.2.2.2 = some .long
  | some (.ref _) => decode M.2.1 pc = .ok (.areturn, 1) ∧ ∃ n, M.2.2.2 = some (.object n)
  | some _ => False
def xB (G : xG) (M : xM) (d pc : Nat) (lv : List (Nat × Value)) (st : List Value) (F : xF) (w : xI) (v : Option Value) (F' : xF) (w' : xI) : Prop :=
  ∀ (p : Program) (e : Env) (R : Room) (s : State) (m : MethodId) (args : Array Value) (below : List Frame) (meth : Method) (c : Code) (H : Heap) (locs : List Loc) (cells slots n0 t0 : Nat) (ls : Array Slot) (Q : State → Prop),
    xCtx G M p s m args meth c n0 → xAt G F w H s locs → (n0 + cells = F.1 ∧ t0 + slots = F.2.1) → (d ≤ R.frames ∧ 64 * d ≤ R.locals ∧ F'.1 ≤ n0 + R.cells ∧ F'.2.1 ≤ t0 + R.slots ∧ F'.1 ≤ 1000000) →
    lv_has ls M.2.2.1 (lv.map (fun q => (q.1, xv G q.2))) →
    (∀ (H' : Heap) (locs' : List Loc) (cells' slots' pc' : Nat) (ls' : Array Slot), xAt G F' w' H' s locs' → n0 + cells' = F'.1 → t0 + slots' = F'.2.1 → xRet M pc' v → W p G.1 e R s m args below meth c H' locs' cells' slots' Q (F0 m pc' ls' (v.toList.map (xv G)))) →
    W p G.1 e R s m args below meth c H locs cells slots Q (F0 m pc ls (st.map (xv G)))
def xJ (G : xG) (M : xM) (d pc : Nat) (lv : List (Nat × Value)) (st : List Value) (F : xF) (w : xI) (v : Option Value) (F' : xF) (w' : xI) : Prop :=
  F.1 ≤ F'.1 ∧ F.2.1 ≤ F'.2.1 ∧ xB G M d pc lv st F w v F' w'
def xC {α : Type} (G : xG) (M : xM) (d pc : Nat) (lv : List (Nat × Value)) (st : List Value) (F : xF) (w : xI) (cv : α → Option Value) (F' : xF) (X : Option (α × xI)) : Prop :=
  ∀ (a : α) (w' : xI), X = some (a, w') → xJ G M d pc lv st F w (cv a) F' w'
theorem xC.map {α : Type} {G : xG} {M : xM} {d pc pc2 : Nat} {lv lv2 : List (Nat × Value)} {st st2 : List Value} {F F2 : xF} {w w2 : xI} {cv : α → Option Value} {F' : xF} {X : Option (α × xI)} (K : xC G M d pc2 lv2 st2 F2 w2 cv F' X) (h1 : F.1 ≤ F2.1) (h2 : F.2.1 ≤ F2.2.1)
    (h : ∀ v w', xB G M d pc2 lv2 st2 F2 w2 v F' w' → F2.1 ≤ F'.1 → F2.2.1 ≤ F'.2.1 → xB G M d pc lv st F w v F' w') : xC G M d pc lv st F w cv F' X :=
  fun a w' hX => ⟨Nat.le_trans h1 (K a w' hX).1, Nat.le_trans h2 (K a w' hX).2.1, h _ _ (K a w' hX).2.2 (K a w' hX).1 (K a w' hX).2.1⟩
-- ===== facts of worlds =====
theorem xa_lo {G : xG} {k : Nat} (h : k < 1000000) : xa G k = G.2.1 + k := if_pos h
theorem xv_cat (G : xG) (v : Value) : (xv G v).category = v.category := by cases v <;> rfl
theorem xv_cats (G : xG) (st : List Value) : (st.map (xv G)).map (fun v => v.category) = st.map (fun v => v.category) := by
  rw [List.map_map]
  exact List.map_congr_left (fun v _ => xv_cat G v)
theorem xWs_get {G : xG} {F : xF} {w : xI} {k : Nat} (h : k < F.1) : (xWs G F w)[k]? = some (xcell G F w k) := by
  unfold xWs
  rw [List.getElem?_map, List.getElem?_range h]
  rfl
theorem xWs_len (G : xG) (F : xF) (w : xI) : (xWs G F w).length = F.1 := by simp [xWs]
theorem xWs_inv {G : xG} {F : xF} {w : xI} {k : Nat} {q : Nat × va_E} (h : (xWs G F w)[k]? = some q) : k < F.1 ∧ q = xcell G F w k := by
  have hk : k < (xWs G F w).length := (List.getElem?_eq_some_iff.mp h).1
  rw [xWs_len] at hk
  rw [xWs_get hk] at h
  exact ⟨hk, (Option.some.inj h).symm⟩
theorem xWs_D (G : xG) (F : xF) (w : xI) : va_D (xA G) (xWs G F w) := by
  refine ⟨fun i j p q hi hj he => ?_, fun k q hk => ?_⟩
  · obtain ⟨-, rfl⟩ := xWs_inv hi
    obtain ⟨-, rfl⟩ := xWs_inv hj
    have he : G.2.1 + i = G.2.1 + j := he
    omega
  · obtain ⟨-, rfl⟩ := xWs_inv hk
    exact Nat.le_add_right _ _
theorem xWs_set {G : xG} {F F' : xF} {w w' : xI} {k : Nat} {q : Nat × va_E} (hn : F.1 = F'.1) (h1 : k < F.1) (hk : q = xcell G F' w' k) (ho : ∀ i, i ≠ k → xcell G F w i = xcell G F' w' i) : (xWs G F w).set k q = xWs G F' w' := by
  apply List.ext_getElem?
  intro i
  rw [List.getElem?_set]
  by_cases hi : k = i
  · subst hi
    rw [if_pos rfl, xWs_len, if_pos h1, xWs_get (by omega), hk]
  · rw [if_neg hi]
    by_cases hl : i < F.1
    · rw [xWs_get hl, xWs_get (by omega), ho i (fun h => hi h.symm)]
    · rw [List.getElem?_eq_none (by rw [xWs_len]; omega), List.getElem?_eq_none (by rw [xWs_len]; omega)]
theorem xWs_push {G : xG} {F F' : xF} {w w' : xI} {q : Nat × va_E} (hn : F'.1 = F.1 + 1) (hk : q = xcell G F' w' F.1) (ho : ∀ i, i < F.1 → xcell G F w i = xcell G F' w' i) : xWs G F w ++ [q] = xWs G F' w' := by
  apply List.ext_getElem?
  intro i
  rcases Nat.lt_trichotomy i F.1 with h | h | h
  · rw [List.getElem?_append_left (by rw [xWs_len]; exact h), xWs_get h, xWs_get (by omega), ho i h]
  · subst h
    rw [List.getElem?_append_right (by rw [xWs_len]; exact Nat.le_refl _), xWs_len, Nat.sub_self, xWs_get (by omega), hk]
    rfl
  · rw [List.getElem?_eq_none (by rw [List.length_append, xWs_len]; simp; omega), List.getElem?_eq_none (by rw [xWs_len]; omega)]
theorem xWs_eq {G : xG} {F F' : xF} {w w' : xI} (hn : F.1 = F'.1) (ho : ∀ i, i < F.1 → xcell G F w i = xcell G F' w' i) : xWs G F w = xWs G F' w' := by
  apply List.ext_getElem?
  intro i
  by_cases hl : i < F.1
  · rw [xWs_get hl, xWs_get (by omega), ho i hl]
  · rw [List.getElem?_eq_none (by rw [xWs_len]; omega), List.getElem?_eq_none (by rw [xWs_len]; omega)]
theorem xKn.go {G : xG} {s U : State} {H : Heap} {locs : List Loc} {n0 : Nat} (h : xKn G s) (hz : s.heap.size = G.2.1 + n0) (hS : va_S (xA G) s.heap H locs) (hU : U.heap = H) (hW : s.WarmedH U.vm) : xKn G U := by
  subst hU
  obtain ⟨h1, h2, h3, h4, h5, h6, h7, h8, h9, h10, h11⟩ := h
  refine ⟨va_K.moved hW.alike h1, vk_S.moved hW.alike (vk_S.kept h2 hS.2.1), fun q hq => vk_R.warm hW (h3 q hq), va_Z.moved hW.alike (va_Z.kept h4 hS.2.1), va_Zq.moved hW.alike (va_Zq.kept h5 hS.2.1), va_X.moved hW.alike (va_X.kept h6 (hS.2.1 _ (by omega) (by unfold xA; omega))), h7, fun q hq => va_Nw.warmM hW (h8 q hq), va_AO.moved hW.alike h9, va_AO.moved hW.alike h10, va_AO.moved hW.alike h11⟩
theorem xKn.call {G : xG} {U : State} {g : JFrame} {mk : MethodId} {a : Array Value} (h : xKn G U) : xKn G (U.calling g mk a) := by
  obtain ⟨h1, h2, h3, h4, h5, h6, h7, h8, h9, h10, h11⟩ := h
  exact ⟨va_K.moved (u := U) (U := U.calling g mk a) (Vm.Alike.refl U.vm) h1, vk_S.moved (u := U) (U := U.calling g mk a) (Vm.Alike.refl U.vm) h2, fun q hq => vk_R.same (u := U) (U := U.calling g mk a) rfl (h3 q hq), va_Z.moved (u := U) (U := U.calling g mk a) (Vm.Alike.refl U.vm) h4, va_Zq.moved (u := U) (U := U.calling g mk a) (Vm.Alike.refl U.vm) h5, va_X.moved (u := U) (U := U.calling g mk a) (Vm.Alike.refl U.vm) h6, h7, fun q hq => va_Nw.same (u := U) (U := U.calling g mk a) rfl rfl (h8 q hq), va_AO.moved (u := U) (U := U.calling g mk a) (Vm.Alike.refl U.vm) h9, va_AO.moved (u := U) (U := U.calling g mk a) (Vm.Alike.refl U.vm) h10, va_AO.moved (u := U) (U := U.calling g mk a) (Vm.Alike.refl U.vm) h11⟩
theorem xPre_blind {G : xG} {F : xF} {w : xI} {av : List Value} : FrameBlind (va_Pc av (xPre G F w)) := fun a U g mk h => ⟨h.1, ⟨h.2.1.1, h.2.1.2⟩, xKn.call h.2.2⟩
theorem xws_good {M : xM} (h : Cond.code M.1 M.2.1 M.2.2.1 M.2.2.2 ∈ xT0) : GoodIn xT0 (xws M) := fun w hw => xT0_good w ((List.mem_cons.mp hw).elim (fun e => e ▸ h) id)
theorem xlv_map (G : xG) : ∀ (n : Nat) (vs : List Value), lv_args n (vs.map (xv G)) = (lv_args n vs).map (fun q => (q.1, xv G q.2)) := by
  intro n vs
  induction vs generalizing n with
  | nil => rfl
  | cons v l ih =>
    simp only [List.map_cons, lv_args, xv_cat, ih]
theorem xlv_filter (G : xG) (i : Nat) (lv : List (Nat × Value)) (f : Nat → Nat → Bool) : (lv.map (fun q => (q.1, xv G q.2))).filter (fun q => f q.1 q.2.category) = (lv.filter (fun q => f q.1 q.2.category)).map (fun q => (q.1, xv G q.2)) := by
  induction lv with
  | nil => rfl
  | cons q l ih =>
    simp only [List.map_cons, List.filter_cons, xv_cat, ih]
    cases f q.1 q.2.category <;> simp
theorem xlg_len (G : xG) (vs : List Value) : (lg_sl (vs.map (xv G))).length = (lg_sl vs).length := by
  induction vs with
  | nil => rfl
  | cons v l ih =>
    cases v <;> simp_all [lg_sl, xv, Value.category]
/-- an int put into field or element j of cell k -/
def xup (w : xI) (k j : Nat) (x : Int32) : xI := fun a => if a = k then (fun b => if b = j then x else w a b) else w a
def xur (r : Nat → Nat → Int32 → Option Nat) (k j q : Nat) : Nat → Nat → Int32 → Option Nat := fun a => if a = k then (fun b => if b = j then (fun _ => some q) else r a b) else r a
def xzero (w : xI) (k : Nat) : xI := fun a => if a = k then (fun _ => 0) else w a
def xin (i : Int32) (n : Nat) : Bool := decide (0 ≤ i) && decide (i.toNatClampNeg < n)
def xchk {α : Type} (b : Bool) (X : Option α) : Option α := match b with | true => X | false => none
theorem xin_spec {i : Int32} {n : Nat} (h : xin i n = true) : vp_in i n := by
  unfold xin at h
  simp only [Bool.and_eq_true, decide_eq_true_eq] at h
  intro z
  rcases z with z | z
  · exact absurd h.1 (Int32.not_le.mpr z)
  · omega
theorem xup_same (w : xI) (k j : Nat) (x : Int32) : xup w k j x k = upd (w k) j x := by
  unfold xup upd
  rw [if_pos rfl]
theorem xup_ne (w : xI) {a k : Nat} (j : Nat) (x : Int32) (h : a ≠ k) : xup w k j x a = w a := if_neg h
theorem xmap_set {β : Type} (N j : Nat) (g g' : Nat → β) (v : β) (hv : g' j = v) (ho : ∀ i, i ≠ j → g i = g' i) : ((List.range N).map g).set j v = (List.range N).map g' := by
  apply List.ext_getElem?
  intro i
  rw [List.getElem?_set]
  by_cases hi : j = i
  · subst hi
    by_cases hl : j < N
    · rw [if_pos rfl, if_pos (by simpa using hl), List.getElem?_map, List.getElem?_range hl]
      simp [hv]
    · rw [if_pos rfl, if_neg (by simpa using hl), List.getElem?_eq_none (by simp; omega)]
  · rw [if_neg hi]
    by_cases hl : i < N
    · simp [List.getElem?_range hl, ho i (fun h => hi h.symm)]
    · rw [List.getElem?_eq_none (by simp; omega), List.getElem?_eq_none (by simp; omega)]
/-- what a getfield or putfield of pool index idx in class own names: field j of the class ci -/
def xFld (own : String) (idx ci j : Nat) (fin : Bool) : Prop := ∃ (C : String) (T : u_T) (N : Nat) (ref : String), xCl[ci]? = some (C, T, N) ∧ xN ci = N ∧ j < N ∧ (∀ w ∈ u_ws C T N, w ∈ xT0) ∧ Cond.fieldLink own idx ref (T j).2.1 (T j).2.2.1 ∈ xT0 ∧ (T j).1 = ref ∧ (∀ k, k < N → parseFieldDescriptor (T k).2.2.1 = some (xTy ci k)) ∧ (∀ a, a < N → ∀ b, b < N → a ≠ b → (T a).2.1 ≠ (T b).2.1) ∧ (T j).2.2.2 = fin
theorem xcell_obj {G : xG} {F : xF} {w : xI} {k ci : Nat} (h : F.2.2.1 k = .inl ci) : xcell G F w k = (G.2.1 + k, .inr (ci, (List.range (xN ci)).map (fun j => xval G (xTy ci j) (w k j) (F.2.2.2 k j (w k j))))) := by
  unfold xcell
  rw [h]
  rfl
theorem xcell_int {G : xG} {F : xF} {w : xI} {k n : Nat} (h : F.2.2.1 k = .inr (0, n)) : xcell G F w k = (G.2.1 + k, .inl (G.2.2.2.1 0, n, .inl (w k))) := by
  unfold xcell
  rw [h]
  rfl
theorem xcell_ref {G : xG} {F : xF} {w : xI} {k n t : Nat} (h : F.2.2.1 k = .inr (t + 1, n)) : xcell G F w k = (G.2.1 + k, .inl (G.2.2.2.1 (t + 1), n, .inr (.inr (.inr (.inr (fun j => (F.2.2.2 k j (w k j)).map (xa G))))))) := by
  unfold xcell
  rw [h]
  rfl
