/-! THE CLAIM OUT OF ONE WALK OF THE LAW'S BODY. Your part is whole_start (and what it stands on); all else here is the same for every law, but numbers. -/
def R_law : String := "WeighedGateLaw"
def lw_P (b : Addr) (xs : List Int32) (args : Array Value) (s : State) : Prop := args = #[.ref b] ∧ s.IntsAt b xs ∧ xs.length ≤ 3584 ∧ (Jvm.Cond.and given_1 narrow_1).before args s = true
def lw_Q (_ : Array Value) (s : State) (o : Outcome) (t : State) : Prop := o = .returned (some (.int 1)) ∧ Framed s o t [] 600000 7302250
def lw_Z (below : List Frame) (a : Array Value) (s : State) : State → Prop := fun t => ∃ o, t.status = .running ∧ Ended t below o ∧ lw_Q a s o t
/-- the law's own end, with 1 on the stack, nothing written that was there before, its room as the claim has it -/
theorem lw_ret {p : Program} {l : Launch} {e : Env} {s : State} {m : MethodId} {below : List Frame} {meth : Method} {c : Code} {b : Nat} (hx : p.tables.exec = Jvm.exec) (hb : c.code = code) (hr : meth.sig.returnType = ret) (hlocks : meth.locks = false) {pc : Nat} {H : Heap} {ls : Array Slot} (hdg : decode code pc = .ok (.ireturn, 1)) : W p l e room_1 s m #[Value.ref b] below meth c H [] 600000 7302250 (lw_Z below #[Value.ref b] s) (F0 m pc ls [.int 1]) := by
  intro T hT X
  obtain ⟨fs, hret, hrun, hended, hW, hframe⟩ := X.leave (v := some (.int 1)) (hlocks := hlocks) (fun h => by rw [hr] at h; cases h)
  have hmeth' : T.vm.method? m = some meth := X.method'
  refine ⟨T.setFrames fs, ?_, .returned (some (.int 1)), hrun, hended, rfl, ⟨_, rfl⟩, hW, hframe⟩
  jvm_step X.here [X.here.top, hx, hb, hdg, hmeth', hr, ret, narrow_b1]
  (try refine ⟨rfl, ?_⟩); (try refine ⟨rfl, ?_⟩)
  first | (intro acts; rw [hret _ acts rfl rfl rfl]) | rw [hret _ _ rfl rfl rfl]
  exact Steps.refl _
/-- what holds at the law's entry: the machine, the code, the tables' words (any of lw_tbl by 'hts w (by decide +kernel)'), the script of L ints xs at the cell b, what the Statement gives of the start (any of its parts by flat_of_before) -/
def lw_At (p : Program) (s : State) (m : MethodId) (meth : Method) (c : Code) (b L : Nat) (xs : Nat → Int32) : Prop :=
  p.tables.exec = Jvm.exec ∧ c.code = code ∧ meth.sig.returnType = ret ∧ c.maxLocals = 4 ∧ s.vm.findClass R_law = some m.cls ∧ (∀ w ∈ lw_tbl, w.before #[Value.ref b] s = true) ∧ va_X b L xs s s.heap ∧ b < s.heap.size ∧ meth.locks = false ∧ (Jvm.Cond.and given_1 narrow_1).before #[Value.ref b] s = true

def xTm (i : Nat) : Term := .string ((xStr.getD i ("", 0, "", 0)).1) ((xStr.getD i ("", 0, "", 0)).2.1)
set_option maxRecDepth 20000 in
theorem xne_all {args : Array Value} {s : State} (hs : ∀ c ∈ flatC (Jvm.Cond.and given_1 narrow_1), c.before args s = true) : ∀ i j, i < 13 → j < 13 → i ≠ j → (Cond.not (Cond.eq (xTm i) (xTm j))).before args s = true ∨ (Cond.not (Cond.eq (xTm j) (xTm i))).before args s = true := by
  intro i j hi hj hij
  match i, hi with
  | 0, _ =>
    match j, hj with
    | 0, _ => exact absurd rfl hij
    | 1, _ => exact Or.inl (hs _ (List.mem_of_getElem? (i := 89) rfl))
    | 2, _ => exact Or.inl (hs _ (List.mem_of_getElem? (i := 97) rfl))
    | 3, _ => exact Or.inl (hs _ (List.mem_of_getElem? (i := 106) rfl))
    | 4, _ => exact Or.inl (hs _ (List.mem_of_getElem? (i := 117) rfl))
    | 5, _ => exact Or.inl (hs _ (List.mem_of_getElem? (i := 129) rfl))
    | 6, _ => exact Or.inl (hs _ (List.mem_of_getElem? (i := 144) rfl))
    | 7, _ => exact Or.inl (hs _ (List.mem_of_getElem? (i := 157) rfl))
    | 8, _ => exact Or.inl (hs _ (List.mem_of_getElem? (i := 172) rfl))
    | 9, _ => exact Or.inl (hs _ (List.mem_of_getElem? (i := 188) rfl))
    | 10, _ => exact Or.inl (hs _ (List.mem_of_getElem? (i := 203) rfl))
    | 11, _ => exact Or.inl (hs _ (List.mem_of_getElem? (i := 220) rfl))
    | 12, _ => exact Or.inl (hs _ (List.mem_of_getElem? (i := 238) rfl))
    | k + 13, h => omega
  | 1, _ =>
    match j, hj with
    | 0, _ => exact Or.inr (hs _ (List.mem_of_getElem? (i := 89) rfl))
    | 1, _ => exact absurd rfl hij
    | 2, _ => exact Or.inl (hs _ (List.mem_of_getElem? (i := 98) rfl))
    | 3, _ => exact Or.inl (hs _ (List.mem_of_getElem? (i := 107) rfl))
    | 4, _ => exact Or.inl (hs _ (List.mem_of_getElem? (i := 118) rfl))
    | 5, _ => exact Or.inl (hs _ (List.mem_of_getElem? (i := 130) rfl))
    | 6, _ => exact Or.inl (hs _ (List.mem_of_getElem? (i := 145) rfl))
    | 7, _ => exact Or.inl (hs _ (List.mem_of_getElem? (i := 158) rfl))
    | 8, _ => exact Or.inl (hs _ (List.mem_of_getElem? (i := 173) rfl))
    | 9, _ => exact Or.inl (hs _ (List.mem_of_getElem? (i := 189) rfl))
    | 10, _ => exact Or.inl (hs _ (List.mem_of_getElem? (i := 204) rfl))
    | 11, _ => exact Or.inl (hs _ (List.mem_of_getElem? (i := 221) rfl))
    | 12, _ => exact Or.inl (hs _ (List.mem_of_getElem? (i := 239) rfl))
    | k + 13, h => omega
  | 2, _ =>
    match j, hj with
    | 0, _ => exact Or.inr (hs _ (List.mem_of_getElem? (i := 97) rfl))
    | 1, _ => exact Or.inr (hs _ (List.mem_of_getElem? (i := 98) rfl))
    | 2, _ => exact absurd rfl hij
    | 3, _ => exact Or.inl (hs _ (List.mem_of_getElem? (i := 108) rfl))
    | 4, _ => exact Or.inl (hs _ (List.mem_of_getElem? (i := 119) rfl))
    | 5, _ => exact Or.inl (hs _ (List.mem_of_getElem? (i := 131) rfl))
    | 6, _ => exact Or.inl (hs _ (List.mem_of_getElem? (i := 146) rfl))
    | 7, _ => exact Or.inl (hs _ (List.mem_of_getElem? (i := 159) rfl))
    | 8, _ => exact Or.inl (hs _ (List.mem_of_getElem? (i := 174) rfl))
    | 9, _ => exact Or.inl (hs _ (List.mem_of_getElem? (i := 190) rfl))
    | 10, _ => exact Or.inl (hs _ (List.mem_of_getElem? (i := 205) rfl))
    | 11, _ => exact Or.inl (hs _ (List.mem_of_getElem? (i := 222) rfl))
    | 12, _ => exact Or.inl (hs _ (List.mem_of_getElem? (i := 240) rfl))
    | k + 13, h => omega
  | 3, _ =>
    match j, hj with
    | 0, _ => exact Or.inr (hs _ (List.mem_of_getElem? (i := 106) rfl))
    | 1, _ => exact Or.inr (hs _ (List.mem_of_getElem? (i := 107) rfl))
    | 2, _ => exact Or.inr (hs _ (List.mem_of_getElem? (i := 108) rfl))
    | 3, _ => exact absurd rfl hij
    | 4, _ => exact Or.inl (hs _ (List.mem_of_getElem? (i := 120) rfl))
    | 5, _ => exact Or.inl (hs _ (List.mem_of_getElem? (i := 132) rfl))
    | 6, _ => exact Or.inl (hs _ (List.mem_of_getElem? (i := 147) rfl))
    | 7, _ => exact Or.inl (hs _ (List.mem_of_getElem? (i := 160) rfl))
    | 8, _ => exact Or.inl (hs _ (List.mem_of_getElem? (i := 175) rfl))
    | 9, _ => exact Or.inl (hs _ (List.mem_of_getElem? (i := 191) rfl))
    | 10, _ => exact Or.inl (hs _ (List.mem_of_getElem? (i := 206) rfl))
    | 11, _ => exact Or.inl (hs _ (List.mem_of_getElem? (i := 223) rfl))
    | 12, _ => exact Or.inl (hs _ (List.mem_of_getElem? (i := 241) rfl))
    | k + 13, h => omega
  | 4, _ =>
    match j, hj with
    | 0, _ => exact Or.inr (hs _ (List.mem_of_getElem? (i := 117) rfl))
    | 1, _ => exact Or.inr (hs _ (List.mem_of_getElem? (i := 118) rfl))
    | 2, _ => exact Or.inr (hs _ (List.mem_of_getElem? (i := 119) rfl))
    | 3, _ => exact Or.inr (hs _ (List.mem_of_getElem? (i := 120) rfl))
    | 4, _ => exact absurd rfl hij
    | 5, _ => exact Or.inl (hs _ (List.mem_of_getElem? (i := 133) rfl))
    | 6, _ => exact Or.inl (hs _ (List.mem_of_getElem? (i := 148) rfl))
    | 7, _ => exact Or.inl (hs _ (List.mem_of_getElem? (i := 161) rfl))
    | 8, _ => exact Or.inl (hs _ (List.mem_of_getElem? (i := 176) rfl))
    | 9, _ => exact Or.inl (hs _ (List.mem_of_getElem? (i := 192) rfl))
    | 10, _ => exact Or.inl (hs _ (List.mem_of_getElem? (i := 207) rfl))
    | 11, _ => exact Or.inl (hs _ (List.mem_of_getElem? (i := 224) rfl))
    | 12, _ => exact Or.inl (hs _ (List.mem_of_getElem? (i := 242) rfl))
    | k + 13, h => omega
  | 5, _ =>
    match j, hj with
    | 0, _ => exact Or.inr (hs _ (List.mem_of_getElem? (i := 129) rfl))
    | 1, _ => exact Or.inr (hs _ (List.mem_of_getElem? (i := 130) rfl))
    | 2, _ => exact Or.inr (hs _ (List.mem_of_getElem? (i := 131) rfl))
    | 3, _ => exact Or.inr (hs _ (List.mem_of_getElem? (i := 132) rfl))
    | 4, _ => exact Or.inr (hs _ (List.mem_of_getElem? (i := 133) rfl))
    | 5, _ => exact absurd rfl hij
    | 6, _ => exact Or.inl (hs _ (List.mem_of_getElem? (i := 149) rfl))
    | 7, _ => exact Or.inl (hs _ (List.mem_of_getElem? (i := 162) rfl))
    | 8, _ => exact Or.inl (hs _ (List.mem_of_getElem? (i := 177) rfl))
    | 9, _ => exact Or.inl (hs _ (List.mem_of_getElem? (i := 193) rfl))
    | 10, _ => exact Or.inl (hs _ (List.mem_of_getElem? (i := 208) rfl))
    | 11, _ => exact Or.inl (hs _ (List.mem_of_getElem? (i := 225) rfl))
    | 12, _ => exact Or.inl (hs _ (List.mem_of_getElem? (i := 243) rfl))
    | k + 13, h => omega
  | 6, _ =>
    match j, hj with
    | 0, _ => exact Or.inr (hs _ (List.mem_of_getElem? (i := 144) rfl))
    | 1, _ => exact Or.inr (hs _ (List.mem_of_getElem? (i := 145) rfl))
    | 2, _ => exact Or.inr (hs _ (List.mem_of_getElem? (i := 146) rfl))
    | 3, _ => exact Or.inr (hs _ (List.mem_of_getElem? (i := 147) rfl))
    | 4, _ => exact Or.inr (hs _ (List.mem_of_getElem? (i := 148) rfl))
    | 5, _ => exact Or.inr (hs _ (List.mem_of_getElem? (i := 149) rfl))
    | 6, _ => exact absurd rfl hij
    | 7, _ => exact Or.inl (hs _ (List.mem_of_getElem? (i := 163) rfl))
    | 8, _ => exact Or.inl (hs _ (List.mem_of_getElem? (i := 178) rfl))
    | 9, _ => exact Or.inl (hs _ (List.mem_of_getElem? (i := 194) rfl))
    | 10, _ => exact Or.inl (hs _ (List.mem_of_getElem? (i := 209) rfl))
    | 11, _ => exact Or.inl (hs _ (List.mem_of_getElem? (i := 226) rfl))
    | 12, _ => exact Or.inl (hs _ (List.mem_of_getElem? (i := 244) rfl))
    | k + 13, h => omega
  | 7, _ =>
    match j, hj with
    | 0, _ => exact Or.inr (hs _ (List.mem_of_getElem? (i := 157) rfl))
    | 1, _ => exact Or.inr (hs _ (List.mem_of_getElem? (i := 158) rfl))
    | 2, _ => exact Or.inr (hs _ (List.mem_of_getElem? (i := 159) rfl))
    | 3, _ => exact Or.inr (hs _ (List.mem_of_getElem? (i := 160) rfl))
    | 4, _ => exact Or.inr (hs _ (List.mem_of_getElem? (i := 161) rfl))
    | 5, _ => exact Or.inr (hs _ (List.mem_of_getElem? (i := 162) rfl))
    | 6, _ => exact Or.inr (hs _ (List.mem_of_getElem? (i := 163) rfl))
    | 7, _ => exact absurd rfl hij
    | 8, _ => exact Or.inl (hs _ (List.mem_of_getElem? (i := 179) rfl))
    | 9, _ => exact Or.inl (hs _ (List.mem_of_getElem? (i := 195) rfl))
    | 10, _ => exact Or.inl (hs _ (List.mem_of_getElem? (i := 210) rfl))
    | 11, _ => exact Or.inl (hs _ (List.mem_of_getElem? (i := 227) rfl))
    | 12, _ => exact Or.inl (hs _ (List.mem_of_getElem? (i := 245) rfl))
    | k + 13, h => omega
  | 8, _ =>
    match j, hj with
    | 0, _ => exact Or.inr (hs _ (List.mem_of_getElem? (i := 172) rfl))
    | 1, _ => exact Or.inr (hs _ (List.mem_of_getElem? (i := 173) rfl))
    | 2, _ => exact Or.inr (hs _ (List.mem_of_getElem? (i := 174) rfl))
    | 3, _ => exact Or.inr (hs _ (List.mem_of_getElem? (i := 175) rfl))
    | 4, _ => exact Or.inr (hs _ (List.mem_of_getElem? (i := 176) rfl))
    | 5, _ => exact Or.inr (hs _ (List.mem_of_getElem? (i := 177) rfl))
    | 6, _ => exact Or.inr (hs _ (List.mem_of_getElem? (i := 178) rfl))
    | 7, _ => exact Or.inr (hs _ (List.mem_of_getElem? (i := 179) rfl))
    | 8, _ => exact absurd rfl hij
    | 9, _ => exact Or.inl (hs _ (List.mem_of_getElem? (i := 196) rfl))
    | 10, _ => exact Or.inl (hs _ (List.mem_of_getElem? (i := 211) rfl))
    | 11, _ => exact Or.inl (hs _ (List.mem_of_getElem? (i := 228) rfl))
    | 12, _ => exact Or.inl (hs _ (List.mem_of_getElem? (i := 246) rfl))
    | k + 13, h => omega
  | 9, _ =>
    match j, hj with
    | 0, _ => exact Or.inr (hs _ (List.mem_of_getElem? (i := 188) rfl))
    | 1, _ => exact Or.inr (hs _ (List.mem_of_getElem? (i := 189) rfl))
    | 2, _ => exact Or.inr (hs _ (List.mem_of_getElem? (i := 190) rfl))
    | 3, _ => exact Or.inr (hs _ (List.mem_of_getElem? (i := 191) rfl))
    | 4, _ => exact Or.inr (hs _ (List.mem_of_getElem? (i := 192) rfl))
    | 5, _ => exact Or.inr (hs _ (List.mem_of_getElem? (i := 193) rfl))
    | 6, _ => exact Or.inr (hs _ (List.mem_of_getElem? (i := 194) rfl))
    | 7, _ => exact Or.inr (hs _ (List.mem_of_getElem? (i := 195) rfl))
    | 8, _ => exact Or.inr (hs _ (List.mem_of_getElem? (i := 196) rfl))
    | 9, _ => exact absurd rfl hij
    | 10, _ => exact Or.inl (hs _ (List.mem_of_getElem? (i := 212) rfl))
    | 11, _ => exact Or.inl (hs _ (List.mem_of_getElem? (i := 229) rfl))
    | 12, _ => exact Or.inl (hs _ (List.mem_of_getElem? (i := 247) rfl))
    | k + 13, h => omega
  | 10, _ =>
    match j, hj with
    | 0, _ => exact Or.inr (hs _ (List.mem_of_getElem? (i := 203) rfl))
    | 1, _ => exact Or.inr (hs _ (List.mem_of_getElem? (i := 204) rfl))
    | 2, _ => exact Or.inr (hs _ (List.mem_of_getElem? (i := 205) rfl))
    | 3, _ => exact Or.inr (hs _ (List.mem_of_getElem? (i := 206) rfl))
    | 4, _ => exact Or.inr (hs _ (List.mem_of_getElem? (i := 207) rfl))
    | 5, _ => exact Or.inr (hs _ (List.mem_of_getElem? (i := 208) rfl))
    | 6, _ => exact Or.inr (hs _ (List.mem_of_getElem? (i := 209) rfl))
    | 7, _ => exact Or.inr (hs _ (List.mem_of_getElem? (i := 210) rfl))
    | 8, _ => exact Or.inr (hs _ (List.mem_of_getElem? (i := 211) rfl))
    | 9, _ => exact Or.inr (hs _ (List.mem_of_getElem? (i := 212) rfl))
    | 10, _ => exact absurd rfl hij
    | 11, _ => exact Or.inl (hs _ (List.mem_of_getElem? (i := 230) rfl))
    | 12, _ => exact Or.inl (hs _ (List.mem_of_getElem? (i := 248) rfl))
    | k + 13, h => omega
  | 11, _ =>
    match j, hj with
    | 0, _ => exact Or.inr (hs _ (List.mem_of_getElem? (i := 220) rfl))
    | 1, _ => exact Or.inr (hs _ (List.mem_of_getElem? (i := 221) rfl))
    | 2, _ => exact Or.inr (hs _ (List.mem_of_getElem? (i := 222) rfl))
    | 3, _ => exact Or.inr (hs _ (List.mem_of_getElem? (i := 223) rfl))
    | 4, _ => exact Or.inr (hs _ (List.mem_of_getElem? (i := 224) rfl))
    | 5, _ => exact Or.inr (hs _ (List.mem_of_getElem? (i := 225) rfl))
    | 6, _ => exact Or.inr (hs _ (List.mem_of_getElem? (i := 226) rfl))
    | 7, _ => exact Or.inr (hs _ (List.mem_of_getElem? (i := 227) rfl))
    | 8, _ => exact Or.inr (hs _ (List.mem_of_getElem? (i := 228) rfl))
    | 9, _ => exact Or.inr (hs _ (List.mem_of_getElem? (i := 229) rfl))
    | 10, _ => exact Or.inr (hs _ (List.mem_of_getElem? (i := 230) rfl))
    | 11, _ => exact absurd rfl hij
    | 12, _ => exact Or.inl (hs _ (List.mem_of_getElem? (i := 249) rfl))
    | k + 13, h => omega
  | 12, _ =>
    match j, hj with
    | 0, _ => exact Or.inr (hs _ (List.mem_of_getElem? (i := 238) rfl))
    | 1, _ => exact Or.inr (hs _ (List.mem_of_getElem? (i := 239) rfl))
    | 2, _ => exact Or.inr (hs _ (List.mem_of_getElem? (i := 240) rfl))
    | 3, _ => exact Or.inr (hs _ (List.mem_of_getElem? (i := 241) rfl))
    | 4, _ => exact Or.inr (hs _ (List.mem_of_getElem? (i := 242) rfl))
    | 5, _ => exact Or.inr (hs _ (List.mem_of_getElem? (i := 243) rfl))
    | 6, _ => exact Or.inr (hs _ (List.mem_of_getElem? (i := 244) rfl))
    | 7, _ => exact Or.inr (hs _ (List.mem_of_getElem? (i := 245) rfl))
    | 8, _ => exact Or.inr (hs _ (List.mem_of_getElem? (i := 246) rfl))
    | 9, _ => exact Or.inr (hs _ (List.mem_of_getElem? (i := 247) rfl))
    | 10, _ => exact Or.inr (hs _ (List.mem_of_getElem? (i := 248) rfl))
    | 11, _ => exact Or.inr (hs _ (List.mem_of_getElem? (i := 249) rfl))
    | 12, _ => exact absurd rfl hij
    | k + 13, h => omega
  | k + 13, h => omega
theorem xT_mem {w : Cond} (i : Nat) (h : tables_1[i]? = some w) : w ∈ tables_1 := List.mem_of_getElem? h
/-- what the Statement gives of the launch: the tables, the String constants, the script -/
theorem lw_kn {p : Program} {s : State} {m : MethodId} {meth : Method} {c : Code} (l : Launch) {b L : Nat} {xs : Nat → Int32} (C0 : lw_At p s m meth c b L xs) : ∃ (D : va_G) (cA : Nat → ClassId) (adK adV : Nat → Nat), xKn (l, s.heap.size, D, cA, adK, adV, b, L, xs) s := by
  obtain ⟨hx, hb, hr, hml, hown, hts, hX, hbl, hlocks, hgv⟩ := C0
  have hg : ∀ w ∈ xT0, w.before #[Value.ref b] s = true := fun w hw => hts w (List.mem_filter.mp hw).1
  have hs := flat_of_before _ hgv
  obtain ⟨c0, i0, hK0⟩ := u_known (C := RX0) (T := TX0) (N := 5) (n := 5) hg inX0 (hg _ q74)
  obtain ⟨c1, i1, hK1⟩ := u_known (C := RX1) (T := TX1) (N := 10) (n := 10) hg inX1 (hg _ q240)
  obtain ⟨c2, i2, hK2⟩ := u_known (C := RX2) (T := TX2) (N := 8) (n := 8) hg inX2 (hg _ q287)
  obtain ⟨c3, i3, hK3⟩ := u_known (C := RX3) (T := TX3) (N := 4) (n := 4) hg inX3 (hg _ q220)
  obtain ⟨c4, i4, hK4⟩ := u_known (C := RX4) (T := TX4) (N := 8) (n := 8) hg inX4 (hg _ q126)
  obtain ⟨c5, i5, hK5⟩ := u_known (C := RX5) (T := TX5) (N := 4) (n := 4) hg inX5 (hg _ q29)
  obtain ⟨c6, i6, hK6⟩ := u_known (C := RX6) (T := TX6) (N := 3) (n := 3) hg inX6 (hg _ q339)
  obtain ⟨c7, i7, hK7⟩ := u_known (C := RX7) (T := TX7) (N := 4) (n := 4) hg inX7 (hg _ q319)
  obtain ⟨c8, i8, hK8⟩ := u_known (C := RX8) (T := TX8) (N := 15) (n := 15) hg inX8 (hg _ q158)
  obtain ⟨c9, i9, hK9⟩ := u_known (C := RX9) (T := TX9) (N := 3) (n := 3) hg inX9 (hg _ q67)
  obtain ⟨c10, i10, hK10⟩ := u_known (C := RX10) (T := TX10) (N := 12) (n := 12) hg inX10 (hg _ q21)
  obtain ⟨c11, i11, hK11⟩ := u_known (C := RX11) (T := TX11) (N := 61) (n := 61) hg inX11 (hg _ q975)
  obtain ⟨dC, dI, hKc⟩ : ∃ (dC : Nat → ClassId) (dI : Nat → Nat → Nat), ∀ (k : Nat) (q : vw_C), xCl[k]? = some q → u_Kn s q.1 q.2.1 q.2.2 (dC k) (dI k) := by
    refine ⟨fun k => match k with | 0 => c0 | 1 => c1 | 2 => c2 | 3 => c3 | 4 => c4 | 5 => c5 | 6 => c6 | 7 => c7 | 8 => c8 | 9 => c9 | 10 => c10 | _ => c11, fun k => match k with | 0 => i0 | 1 => i1 | 2 => i2 | 3 => i3 | 4 => i4 | 5 => i5 | 6 => i6 | 7 => i7 | 8 => i8 | 9 => i9 | 10 => i10 | _ => i11, ?_⟩
    intro k q hq
    match k, hq with
    | 0, hq => cases hq; exact hK0
    | 1, hq => cases hq; exact hK1
    | 2, hq => cases hq; exact hK2
    | 3, hq => cases hq; exact hK3
    | 4, hq => cases hq; exact hK4
    | 5, hq => cases hq; exact hK5
    | 6, hq => cases hq; exact hK6
    | 7, hq => cases hq; exact hK7
    | 8, hq => cases hq; exact hK8
    | 9, hq => cases hq; exact hK9
    | 10, hq => cases hq; exact hK10
    | 11, hq => cases hq; exact hK11
    | k + 12, hq => simp [xCl] at hq
  obtain ⟨cI, kI, compI, a1, a2, a3⟩ := Cond.arrayClass_spec (hg _ q65)
  obtain ⟨compO1, cO1, kO1, b11, -, b12, b13, b14⟩ := Cond.arrayOver_spec (hts _ (List.mem_append_right _ (xT_mem 124 rfl)))
  obtain ⟨compO2, cO2, kO2, b21, -, b22, b23, b24⟩ := Cond.arrayOver_spec (hts _ (List.mem_append_right _ (xT_mem 285 rfl)))
  obtain ⟨compO3, cO3, kO3, b31, -, b32, b33, b34⟩ := Cond.arrayOver_spec (hts _ (List.mem_append_right _ (xT_mem 73 rfl)))
  have hA : ∀ a : Nat, a < s.heap.size → ¬ (fun q : Nat => s.heap.size ≤ q) a := fun a h => Nat.not_le.mpr h
  obtain ⟨adK, adV, hStr, hEv⟩ := vk_Sof (args := #[Value.ref b]) (s := s) (N := 13) (tm := xTm) (len := xLen) (byt := xByt) (A := fun q : Nat => s.heap.size ≤ q) (by decide +kernel)
    (fun i hi => hs _ ((show ∀ i, i < 13 → Cond.exactly (xTm i) "java/lang/String" ∈ flatC (Jvm.Cond.and given_1 narrow_1) by decide +kernel) i hi))
    (fun i hi => hs _ ((show ∀ i, i < 13 → Cond.eq (.field (xTm i) "java/lang/String" "coder" "B") (.int 0) ∈ flatC (Jvm.Cond.and given_1 narrow_1) by decide +kernel) i hi))
    (fun i hi => hs _ ((show ∀ i, i < 13 → Cond.arrayOf (.field (xTm i) "java/lang/String" "value" "[B") .byte ∈ flatC (Jvm.Cond.and given_1 narrow_1) by decide +kernel) i hi))
    (fun i hi => hs _ ((show ∀ i, i < 13 → Cond.eq (.length (.field (xTm i) "java/lang/String" "value" "[B")) (.int (Int32.ofNat (xLen.getD i 0))) ∈ flatC (Jvm.Cond.and given_1 narrow_1) by decide +kernel) i hi))
    (fun i hi j hj => hs _ ((show ∀ i, i < 13 → ∀ j, j < xLen.getD i 0 → Cond.eq (.elem (.field (xTm i) "java/lang/String" "value" "[B") (.int (Int32.ofNat j))) (.int ((xByt.getD i []).getD j 0)) ∈ flatC (Jvm.Cond.and given_1 narrow_1) by decide +kernel) i hi j hj))
    (fun i j hi hj hij => xne_all hs i j hi hj hij) hA
  refine ⟨(dC, dI), fun k => match k with | 0 => cI | 1 => cO1 | 2 => cO2 | _ => cO3, adK, adV, ⟨hKc, ?_⟩, hStr, ?_, ?_, ?_, hX, hbl, ?_, ?_, ?_, ?_⟩
  · intro k q hq
    match k, hq with
    | 0, hq => cases hq; exact ⟨fun n z => ⟨fun k h => (by cases h), kI, a2, compI, a3⟩, a1⟩
    | 1, hq => cases hq; exact ⟨fun n z => ⟨fun k h => (by cases h), kO1, b12, compO1, b13⟩, kO1, compO1, b12, b13, b11, b14⟩
    | 2, hq => cases hq; exact ⟨fun n z => ⟨fun k h => (by cases h), kO2, b22, compO2, b23⟩, kO2, compO2, b22, b23, b21, b24⟩
    | 3, hq => cases hq; exact ⟨fun n z => ⟨fun k h => (by cases h), kO3, b32, compO3, b33⟩, kO3, compO3, b32, b33, b31, b34⟩
    | k + 4, hq => simp [xTys] at hq
  · intro q hq
    have hex : ∃ i, i < 13 ∧ q = xStr.getD i ("", 0, "", 0) ∧ q.2.2.2 = i := (show ∀ q ∈ xStr, ∃ i, i < 13 ∧ q = xStr.getD i ("", 0, "", 0) ∧ q.2.2.2 = i by decide +kernel) q hq
    obtain ⟨i, hi, h1, h2⟩ := hex
    have h3 : (Cond.stringRef q.1 q.2.1 q.2.2.1) ∈ tables_1 := (show ∀ q ∈ xStr, (Cond.stringRef q.1 q.2.1 q.2.2.1) ∈ tables_1 by decide +kernel) q hq
    have h4 := hEv i hi
    unfold xTm at h4
    rw [← h1, ← h2] at h4
    exact vk_R.of (hts _ (List.mem_append_right _ h3)) h4
  · exact va_Zof (hts _ (List.mem_append_right _ (xT_mem 369 rfl))) (hg _ q13) (va_eqt (hs _ (by decide +kernel))) hA
  · exact va_Zqof (hts _ (List.mem_append_right _ (xT_mem 385 rfl))) (hg _ q15) (hs _ (by decide +kernel)) hA
  · intro q hq
    have h3 : (Cond.methodLinkNest q.1 q.2.1 q.2.2 RX10) ∈ tables_1 := (show ∀ q ∈ xNst, (Cond.methodLinkNest q.1 q.2.1 q.2.2 RX10) ∈ tables_1 by decide +kernel) q hq
    exact va_Nw.of rfl (hts _ (List.mem_append_right _ h3))
  · exact va_AO.of (hts _ (List.mem_append_right _ (xT_mem 124 rfl)))
  · exact va_AO.of (hts _ (List.mem_append_right _ (xT_mem 285 rfl)))
  · exact va_AO.of (hts _ (List.mem_append_right _ (xT_mem 73 rfl)))
set_option maxHeartbeats 4000000 in
set_option maxRecDepth 100000 in
theorem whole_start {p : Program} {e : Env} {s : State} {m : MethodId} {below : List Frame} {meth : Method} {c : Code} (l : Launch) (hflags : l.flags = flags0) {b L : Nat} {xs : Nat → Int32} (hL : L ≤ 3584) (C0 : lw_At p s m meth c b L xs) : W p l e room_1 s m #[Value.ref b] below meth c s.heap [] 0 0 (lw_Z below #[Value.ref b] s) (entryFrame m ([Value.ref b] : List Value).toArray 4) := by
  obtain ⟨hx, hb, hr, hml, hown, hts, hX, hbl, hlocks, hgv⟩ := id C0
  obtain ⟨D, cA, adK, adV, hKn⟩ := lw_kn l C0
  obtain ⟨w9, hw9⟩ := law_math L xs hL
  obtain ⟨-, -, h3⟩ := p_law (G := (l, s.heap.size, D, cA, adK, adV, b, L, xs)) 1 w9 hw9
  have hl := lv_entry ([.ref b]) (n := 4) (Nat.le_of_ble_eq_true rfl)
  rw [lg_entry_eq]
  generalize (lg_sl ([.ref b]) ++ List.replicate (4 - (lg_sl ([.ref b])).length) Slot.unset).toArray = ls at hl ⊢
  have hl : lv_has ls 4 [(0, .ref b)] := hl
  have hP : va_P D xCl (xWs (l, s.heap.size, D, cA, adK, adV, b, L, xs) (0, 0, xSH, xr_0) (fun _ _ => 0)) s.heap := fun k q h => by simp [xWs] at h
  refine h3 p e room_1 s m _ below meth c s.heap [] 0 0 0 0 ls _ ⟨hx, hb, hml, hown, fun w hw => hts w (List.mem_filter.mp hw).1, hlocks, fun h => absurd h (by decide), rfl, hKn⟩ ⟨rfl, hP, va_S.rf⟩ ⟨rfl, rfl⟩ ⟨by decide, by decide, by decide, by decide, by decide⟩ hl ?_
  intro H' locs' cells' slots' pc' ls' A hc hz hret
  obtain ⟨hd, -⟩ := hret
  refine va_forget (fun q hq => A.2.2.2.2 q hq) ?_
  have hc : 0 + cells' = 102 := hc
  have hz : 0 + slots' = 7041 := hz
  refine W.widen (k := 600000) (n := 7302250) (by omega) (by omega) ?_
  exact lw_ret hx hb hr hlocks hd
-- ===== YOUR PART ENDS =====
set_option maxHeartbeats 4000000 in
theorem lw_walk (l : Launch) (hflags : l.flags = flags0) (b : Addr) (xs : List Int32) : MetFree l x (headSpec (Jvm.Cond.code x code maxLocals ret :: tables_1) room_1) (lw_P b xs) (fun _ _ _ _ _ => True) lw_Q := by
  refine MetFree.of_bodyS (code := code) (maxLocals := maxLocals) (ret := ret) (by decide) ?_ ?_
  · intro args s m h hn
    obtain ⟨meth, c, h1, h2, h3, h4, h5, h6, -, -⟩ := Cond.code_spec hn (atoms_spec (ws := Jvm.Cond.code x code maxLocals ret :: tables_1) h _ List.mem_cons_self)
    exact ⟨meth, c, h1, h2, h3, h4, h5, h6⟩
  · intro p e s m args below meth c s₁ B hml0 hP _
    obtain ⟨rfl, hx, hbd, hgv⟩ := hP
    obtain ⟨scr, harrAt, hlist, hof, hsmall⟩ := hx
    obtain ⟨hcb, hkn, -, -⟩ := State.arrayAt?_spec harrAt
    have hown : s.vm.findClass R_law = some m.cls := findClass_of_methodNamed B.named
    have hts0 : ∀ c ∈ (Jvm.Cond.code x code maxLocals ret :: tables_1), c.before #[Value.ref b] s = true := atoms_spec (ws := Jvm.Cond.code x code maxLocals ret :: tables_1) B.pre
    have hts : ∀ w ∈ lw_tbl, w.before #[Value.ref b] s = true := k2_hts_sels lw_privs (fun w hw => hts0 w (List.mem_cons_of_mem _ hw)) lw_privs_ok
    have hml : c.maxLocals = 4 := B.maxLocals_eq (hts0 _ List.mem_cons_self)
    have X₀ : Stand p l e room_1 s m #[Value.ref b] below meth c s₁ [] 0 0 := Stand.of_body B
    have hh0 : s₁.heap = s.heap := by rw [B.state]; rfl
    have hsz : scr.slots.size = xs.length := by rw [← Array.length_toList, hlist, List.length_map]
    have hval : ∀ j : Nat, j < xs.length → scr.slots[j]? = some (.int (xs.getD j 0)) := fun j hj => by
      rw [← Array.getElem?_toList, hlist]
      simp [hj]
    have hbl : b < s.heap.size := (Array.getElem?_eq_some_iff.mp hcb).1
    have hX : va_X b xs.length (fun j => xs.getD j 0) s s.heap := ⟨scr, hcb, hof, hkn, hsz, hval⟩
    have K : W p l e room_1 s m #[Value.ref b] below meth c s₁.heap [] 0 0 (lw_Z below #[Value.ref b] s) (entryFrame m ([Value.ref b] : List Value).toArray 4) := by
      rw [hh0]
      exact whole_start l hflags hbd ⟨B.exec, B.bytes, B.returns, hml, hown, hts, hX, hbl, B.notSynchronized, hgv⟩
    obtain ⟨t, a1, o, b1, b2, b3⟩ := K s₁ rfl X₀
    exact ⟨t, o, a1, b1, b2, b3⟩
theorem lw_pre_spec {args : Array Value} {s : State} (h : (Jvm.Cond.and given_1 narrow_1).before args s = true) (hr : rest_1_c.before args s = true) : ∃ (b : Addr) (xs : List Int32), lw_P b xs args s := by
  have hs := flat_of_before _ h
  have hq := flat_of_before _ hr
  have hc : (Cond.count 1).before args s = true := hs _ (by decide +kernel)
  have harr : (Cond.arrayOf (.arg 0) .int).before args s = true := hs _ (by decide +kernel)
  have hle : (Cond.le (.length (.arg 0)) (.int 3584)).before args s = true := hs _ (by decide +kernel)
  have hlen : (Cond.isInt (.length (.arg 0))).before args s = true := hq _ (by decide +kernel)
  have hall : (Cond.all (.arg 0) (.isInt (.elem (.arg 0) (.index 0)))).before args s = true := hq _ (by decide +kernel)
  obtain ⟨b, xs, hb, hx⟩ := State.ints_of_pre rfl harr hlen hall
  have hsm : xs.length < 2 ^ 31 := hx.choose_spec.2.2.2
  have hev : (Term.length (.arg 0)).eval args s none [] s = some (.int xs.length.toInt32) := hx.length_eval hb
  have hv := Cond.le_ints hev (show (Term.int 3584).eval args s none [] s = some (.int 3584) from rfl)
  have hd : xs.length.toInt32 ≤ 3584 := by
    simpa [Cond.before, Cond.holds, hv] using hle
  have hN : xs.length ≤ 3584 := (Int32.ofNat_le_ofNat hsm (by decide)).mp (show Int32.ofNat xs.length ≤ Int32.ofNat 3584 from hd)
  exact ⟨b, xs, Cond.one_arg hc (show args[0]? = some (.ref b) from hb), hx, hN, h⟩
theorem lw_comes (l : Launch) (hflags : l.flags = flags0) : Comes l x (Jvm.Cond.code x code maxLocals ret :: tables_1) room_1 (fun tb e args s => Calls_1 tb e args s ∧ rest_1 tb e args s ∧ Pre_1 tb e args s)
    (fun _ _ args s o t => lw_Q args s o t) := by
  intro p e ha hc hk s m args below hf hfit hheap happ hpre
  obtain ⟨b, xs, hP⟩ := lw_pre_spec hpre.2.2 hpre.2.1
  obtain ⟨k, o, h1, h2, h3, hQ⟩ := lw_walk l hflags b xs p e ha hc hk s m args below hf ((Spec.applies_iff_loose hf).mp happ).1 hP trivial
  exact ⟨k, o, h1, h2, h3, hQ⟩
theorem lw_frame {s t : State} {o : Outcome} {args : Array Value} (h : Framed s o t [] 600000 7302250) :
    Framed s o t (fieldLocs frame_1_writes args s ++ arrayLocs frame_1_arrays args s ++ staticLocs frame_1_statics s) 600000 7302250 := h
theorem lw_limb (L : Cond) (hL : ∀ (args : Array Value) (s t : State), L.after args s (.returned (some (.int 1))) t = true) :
    ArmFor flags0 classFile x code maxLocals ret World_1 tables_1 room_1 Calls_1 rest_1 Pre_1
      (fun tb e a s o t => postC L tb e a s o t ∧ Framed s o t (fieldLocs frame_1_writes a s ++ arrayLocs frame_1_arrays a s ++ staticLocs frame_1_statics s) 600000 7302250) := by
  intro l hflags _ _ p e ha hc hk s m args below hf hfit hheap happ hpre
  obtain ⟨k, o, h1, h2, h3, rfl, hF⟩ := lw_comes l hflags p e ha hc hk s m args below hf hfit hheap happ hpre
  exact ⟨k, _, h1, h2, h3, hL args s _, lw_frame hF⟩
theorem i_vc : Claimed_1_1 ∧ Claimed_1_2 := ⟨lw_limb limb_1_1 (fun args s t => by simp [limb_1_1, Cond.after, Cond.holds, Cond.value]), lw_limb limb_1_2 (fun args s t => Cond.after_iff.mpr (by
  first | (rw [show limb_1_2 = Cond.eq .result (.int 1) from rfl, Cond.eq_ints (x := 1) (y := 1) rfl rfl]; simp; done) | (simp [limb_1_2, Cond.value, Term.eval]; done)))⟩

