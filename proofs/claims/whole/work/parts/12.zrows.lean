/-! where the cells of both objects lie: of what kind each is, which cell a reference names -/
def xSHl : List (Nat ⊕ (Nat × Nat)) := [.inl 10, .inl 5, .inr (0, 3), .inr (0, 5), .inr (0, 1000), .inl 9, .inr (3, 10), .inr (0, 10), .inl 0, .inl 0, .inl 0, .inl 0, .inl 0, .inl 0, .inl 0, .inl 0, .inl 0, .inl 0, .inr (1, 6), .inl 4, .inr (0, 160), .inl 8, .inr (0, 10), .inr (0, 10), .inr (0, 6), .inl 3, .inr (0, 100), .inr (0, 10), .inl 1, .inr (0, 10), .inr (0, 10), .inr (0, 10), .inr (2, 4), .inl 2, .inr (0, 3), .inr (0, 5), .inr (0, 10), .inr (0, 10), .inr (0, 6), .inl 7, .inr (0, 160), .inr (0, 3), .inr (0, 160), .inl 7, .inr (0, 160), .inr (0, 3), .inr (0, 160), .inl 7, .inr (0, 160), .inr (0, 3), .inr (0, 160), .inl 7, .inr (0, 160), .inr (0, 3), .inr (0, 160), .inl 7, .inr (0, 160), .inr (0, 3), .inr (0, 160), .inl 7, .inr (0, 160), .inr (0, 3), .inr (0, 160), .inl 6, .inr (0, 40), .inl 6, .inr (0, 40), .inl 6, .inr (0, 40), .inl 6, .inr (0, 40), .inl 11, .inr (0, 3), .inr (0, 5), .inr (0, 10), .inr (0, 10), .inr (0, 10), .inr (0, 10), .inr (0, 10), .inr (0, 10), .inr (0, 160), .inr (0, 1200), .inr (0, 24), .inr (0, 3), .inr (0, 5), .inr (0, 10), .inr (0, 10), .inr (0, 4), .inr (0, 4), .inr (0, 160), .inr (0, 34), .inr (0, 96), .inr (0, 200), .inr (0, 200), .inr (0, 6), .inr (0, 1000), .inr (0, 100), .inr (0, 10), .inr (0, 10), .inr (0, 10), .inr (0, 10), .inr (0, 10)]
def xSH (k : Nat) : Nat ⊕ (Nat × Nat) := xSHl.getD k (.inl 0)
def xR0l : List (List (Option Nat)) := [[some 1, some 5, some 18, none, none, some 19, some 21, some 25, some 28, some 32, some 33, some 38], [some 2, some 3, none, some 4], [], [], [], [some 6, some 7], [some 8, some 9, some 10, some 11, some 12, some 13, some 14, some 15, some 16, some 17], [], [], [], [], [], [], [], [], [], [], [], [some 39, some 43, some 47, some 51, some 55, some 59], [some 20], [], [some 1, some 5, some 22, some 23, some 24], [], [], [], [some 21, some 5, some 26, some 27], [], [], [some 21, some 5, some 29, some 30, some 31], [], [], [], [some 63, some 65, some 67, some 69], [none, none, some 34, some 35, none, some 36, some 37], [], [], [], [], [], [some 40, some 41, some 42], [], [], [], [some 44, some 45, some 46], [], [], [], [some 48, some 49, some 50], [], [], [], [some 52, some 53, some 54], [], [], [], [some 56, some 57, some 58], [], [], [], [some 60, some 61, some 62], [], [], [], [none, none, some 64], [], [none, none, some 66], [], [none, none, some 68], [], [none, none, some 70], [], [some 72, none, some 73, none, some 74, some 75, some 76, some 77, some 78, some 79, some 80, none, some 81, some 82, none, none, none, none, none, none, some 83, some 84, some 85, some 86, some 87, some 88, some 89, some 90, none, none, none, none, some 91, some 92, none, none, none, some 93, some 94, some 95, none, none, none, none, none, none, some 96, some 97, some 98, none, none, none, none, some 99, some 100, none, none, none, none, none, some 101], [], [], [], [], [], [], [], [], [], [], [], [], [], [], [], [], [], [], [], [], [], [], [], [], [], [], [], [], [], []]
/-- Reader.into names the text whose number it holds -/
def xR0 (k j : Nat) (x : Int32) : Option Nat := if k = 19 ∧ j = 7 then (if x = 0 then none else some x.toNatClampNeg) else (xR0l.getD k []).getD j none
abbrev xFin (n t : Nat) : xF := (n, t, xSH, xR0)
theorem xlt {k m n : Nat} (h : Nat.ble (k + 1) m = true) (hn : m ≤ n) : k < n := Nat.lt_of_lt_of_le (Nat.le_of_ble_eq_true h) hn
def okC (o : Nat) : Prop := ∃ i, i < 10 ∧ o = 8 + i
def okT (o : Nat) : Prop := ∃ i, i < 6 ∧ o = 39 + 4 * i
def okS (o : Nat) : Prop := ∃ i, i < 4 ∧ o = 63 + 2 * i
def okA (o N : Nat) : Prop := o < 71 ∧ xSH o = .inr (0, N)
theorem okA_c {o N : Nat} (h : o < 71) (hs : xSH o = .inr (0, N)) : okA o N := ⟨h, hs⟩
theorem okA_k {o N n : Nat} (h : okA o N) (hn : 71 ≤ n) : o < n := Nat.lt_of_lt_of_le h.1 hn
theorem okA_s {o N : Nat} (h : okA o N) : xSH o = .inr (0, N) := h.2
theorem okC_k {o n : Nat} (h : okC o) (hn : 71 ≤ n) : o < n := by obtain ⟨i, hi, rfl⟩ := h; omega
theorem okC_s {o : Nat} (h : okC o) : xSH o = .inl 0 := by
  obtain ⟨i, hi, rfl⟩ := h
  match i, hi with
  | 0, _ => rfl | 1, _ => rfl | 2, _ => rfl | 3, _ => rfl | 4, _ => rfl | 5, _ => rfl | 6, _ => rfl | 7, _ => rfl | 8, _ => rfl | 9, _ => rfl
  | k + 10, h => omega
theorem okT_k {o n : Nat} (h : okT o) (hn : 71 ≤ n) : o < n := by obtain ⟨i, hi, rfl⟩ := h; omega
theorem okT_s {o : Nat} (h : okT o) : xSH (o) = .inl 7 := by
  obtain ⟨i, hi, rfl⟩ := h
  match i, hi with
  | 0, _ => rfl | 1, _ => rfl | 2, _ => rfl | 3, _ => rfl | 4, _ => rfl | 5, _ => rfl
  | k + 6, h => omega
theorem okT_k1 {o n : Nat} (h : okT o) (hn : 71 ≤ n) : o + 1 < n := by obtain ⟨i, hi, rfl⟩ := h; omega
theorem okT_s1 {o : Nat} (h : okT o) : xSH (o + 1) = .inr (0, 160) := by
  obtain ⟨i, hi, rfl⟩ := h
  match i, hi with
  | 0, _ => rfl | 1, _ => rfl | 2, _ => rfl | 3, _ => rfl | 4, _ => rfl | 5, _ => rfl
  | k + 6, h => omega
theorem okT_k2 {o n : Nat} (h : okT o) (hn : 71 ≤ n) : o + 2 < n := by obtain ⟨i, hi, rfl⟩ := h; omega
theorem okT_s2 {o : Nat} (h : okT o) : xSH (o + 2) = .inr (0, 3) := by
  obtain ⟨i, hi, rfl⟩ := h
  match i, hi with
  | 0, _ => rfl | 1, _ => rfl | 2, _ => rfl | 3, _ => rfl | 4, _ => rfl | 5, _ => rfl
  | k + 6, h => omega
theorem okT_k3 {o n : Nat} (h : okT o) (hn : 71 ≤ n) : o + 3 < n := by obtain ⟨i, hi, rfl⟩ := h; omega
theorem okT_s3 {o : Nat} (h : okT o) : xSH (o + 3) = .inr (0, 160) := by
  obtain ⟨i, hi, rfl⟩ := h
  match i, hi with
  | 0, _ => rfl | 1, _ => rfl | 2, _ => rfl | 3, _ => rfl | 4, _ => rfl | 5, _ => rfl
  | k + 6, h => omega
theorem okT_r1 {o : Nat} (h : okT o) (x : Int32) : xR0 o 0 x = some (o + 1) := by
  obtain ⟨i, hi, rfl⟩ := h
  match i, hi with
  | 0, _ => rfl | 1, _ => rfl | 2, _ => rfl | 3, _ => rfl | 4, _ => rfl | 5, _ => rfl
  | k + 6, h => omega
theorem okT_r2 {o : Nat} (h : okT o) (x : Int32) : xR0 o 1 x = some (o + 2) := by
  obtain ⟨i, hi, rfl⟩ := h
  match i, hi with
  | 0, _ => rfl | 1, _ => rfl | 2, _ => rfl | 3, _ => rfl | 4, _ => rfl | 5, _ => rfl
  | k + 6, h => omega
theorem okT_r3 {o : Nat} (h : okT o) (x : Int32) : xR0 o 2 x = some (o + 3) := by
  obtain ⟨i, hi, rfl⟩ := h
  match i, hi with
  | 0, _ => rfl | 1, _ => rfl | 2, _ => rfl | 3, _ => rfl | 4, _ => rfl | 5, _ => rfl
  | k + 6, h => omega
theorem okS_k {o n : Nat} (h : okS o) (hn : 71 ≤ n) : o < n := by obtain ⟨i, hi, rfl⟩ := h; omega
theorem okS_s {o : Nat} (h : okS o) : xSH (o) = .inl 6 := by
  obtain ⟨i, hi, rfl⟩ := h
  match i, hi with
  | 0, _ => rfl | 1, _ => rfl | 2, _ => rfl | 3, _ => rfl
  | k + 4, h => omega
theorem okS_k1 {o n : Nat} (h : okS o) (hn : 71 ≤ n) : o + 1 < n := by obtain ⟨i, hi, rfl⟩ := h; omega
theorem okS_s1 {o : Nat} (h : okS o) : xSH (o + 1) = .inr (0, 40) := by
  obtain ⟨i, hi, rfl⟩ := h
  match i, hi with
  | 0, _ => rfl | 1, _ => rfl | 2, _ => rfl | 3, _ => rfl
  | k + 4, h => omega
theorem okS_r1 {o : Nat} (h : okS o) (x : Int32) : xR0 o 2 x = some (o + 1) := by
  obtain ⟨i, hi, rfl⟩ := h
  match i, hi with
  | 0, _ => rfl | 1, _ => rfl | 2, _ => rfl | 3, _ => rfl
  | k + 4, h => omega
/-- Reader.into holds one of the six texts -/
def isTx (x : Int32) : Bool := decide (x = 39 ∨ x = 43 ∨ x = 47 ∨ x = 51 ∨ x = 55 ∨ x = 59)
theorem isTx_ok {x : Int32} (h : isTx x = true) : okT x.toNatClampNeg := by
  rcases of_decide_eq_true h with h | h | h | h | h | h
  · exact ⟨0, by decide, by rw [h]; rfl⟩
  · exact ⟨1, by decide, by rw [h]; rfl⟩
  · exact ⟨2, by decide, by rw [h]; rfl⟩
  · exact ⟨3, by decide, by rw [h]; rfl⟩
  · exact ⟨4, by decide, by rw [h]; rfl⟩
  · exact ⟨5, by decide, by rw [h]; rfl⟩
theorem isTx_r {x : Int32} (h : isTx x = true) : xR0 19 7 x = some x.toNatClampNeg := by
  unfold xR0
  rw [if_pos ⟨rfl, rfl⟩]
  rcases of_decide_eq_true h with h | h | h | h | h | h <;> rw [h] <;> rfl
theorem okT_into {o : Nat} (h : okT o) : xR0 19 7 (Int32.ofNat o) = some o := by
  obtain ⟨i, hi, rfl⟩ := h
  match i, hi with
  | 0, _ => rfl | 1, _ => rfl | 2, _ => rfl | 3, _ => rfl | 4, _ => rfl | 5, _ => rfl
  | k + 6, h => omega
def isTxN (o : Nat) : Bool := decide (o = 39 ∨ o = 43 ∨ o = 47 ∨ o = 51 ∨ o = 55 ∨ o = 59)
theorem isTxN_ok {o : Nat} (h : isTxN o = true) : okT o := by
  rcases of_decide_eq_true h with h | h | h | h | h | h
  · exact ⟨0, by decide, by rw [h]⟩
  · exact ⟨1, by decide, by rw [h]⟩
  · exact ⟨2, by decide, by rw [h]⟩
  · exact ⟨3, by decide, by rw [h]⟩
  · exact ⟨4, by decide, by rw [h]⟩
  · exact ⟨5, by decide, by rw [h]⟩
theorem xin_lt {i : Int32} {n : Nat} (h : xin i n = true) : i.toNatClampNeg < n := by
  unfold xin at h
  simp only [Bool.and_eq_true, decide_eq_true_eq] at h
  exact h.2
theorem okC_of {i : Int32} (h : xin i 10 = true) : okC (8 + i.toNatClampNeg) := ⟨_, xin_lt h, rfl⟩
theorem okT_of {i : Int32} (h : xin i 6 = true) : okT (39 + 4 * i.toNatClampNeg) := ⟨_, xin_lt h, rfl⟩
theorem okS_of {i : Int32} (h : xin i 4 = true) : okS (63 + 2 * i.toNatClampNeg) := ⟨_, xin_lt h, rfl⟩
theorem okC_q {i x : Int32} (h : xin i 10 = true) : xR0 6 i.toNatClampNeg x = some (8 + i.toNatClampNeg) := by
  have h := xin_lt h
  generalize i.toNatClampNeg = k at h
  match k, h with
  | 0, _ => rfl | 1, _ => rfl | 2, _ => rfl | 3, _ => rfl | 4, _ => rfl | 5, _ => rfl | 6, _ => rfl | 7, _ => rfl | 8, _ => rfl | 9, _ => rfl
  | k + 10, h => omega
theorem okT_q {i x : Int32} (h : xin i 6 = true) : xR0 18 i.toNatClampNeg x = some (39 + 4 * i.toNatClampNeg) := by
  have h := xin_lt h
  generalize i.toNatClampNeg = k at h
  match k, h with
  | 0, _ => rfl | 1, _ => rfl | 2, _ => rfl | 3, _ => rfl | 4, _ => rfl | 5, _ => rfl
  | k + 6, h => omega
theorem okS_q {i x : Int32} (h : xin i 4 = true) : xR0 32 i.toNatClampNeg x = some (63 + 2 * i.toNatClampNeg) := by
  have h := xin_lt h
  generalize i.toNatClampNeg = k at h
  match k, h with
  | 0, _ => rfl | 1, _ => rfl | 2, _ => rfl | 3, _ => rfl
  | k + 4, h => omega
def xlet {β γ : Type} (v : β) (k : β → γ) : γ := k v
section XZ
variable {α : Type} {G : xG} {M : xM} {d pc : Nat} {lv : List (Nat × Value)} {st : List Value} {F : xF} {w : xI} {cv : α → Option Value} {F' : xF} {X : Option (α × xI)}
theorem y_let {v : Int32} {k : Int32 → Option (α × xI)} (K : ∀ x : Int32, xC G M d pc lv (.int x :: st) F w cv F' (k x)) : xC G M d pc lv (.int v :: st) F w cv F' (xlet v k) := K v
theorem y_letL {v : Int64} {k : Int64 → Option (α × xI)} (K : ∀ x : Int64, xC G M d pc lv (.long x :: st) F w cv F' (k x)) : xC G M d pc lv (.long v :: st) F w cv F' (xlet v k) := K v
theorem y_letg {β : Type} {v : β} {k : β → Option (α × xI)} (K : ∀ x : β, x = v → xC G M d pc lv st F w cv F' (k x)) : xC G M d pc lv st F w cv F' (xlet v k) := K v rfl
theorem y_loc {lv' : List (Nat × Value)} (h : lv = lv') (K : xC G M d pc lv' st F w cv F' X) : xC G M d pc lv st F w cv F' X := h ▸ K
theorem z_geti {idx ci j k : Nat} {fin : Bool} {v : Int32} (hdg : decode M.2.1 pc = .ok (.getfield idx, 3)) (fl : xFld M.1.cls idx ci j fin) (hk : k < F.1) (hsh : F.2.2.1 k = .inl ci) (hty : xRef (xTy ci j) = false) (hv : w k j = v) (K : xC G M d (pc + 3) lv (.int v :: st) F w cv F' X) : xC G M d pc lv (.ref k :: st) F w cv F' X :=
  y_geti hdg fl hk hsh hty (hv ▸ K)
theorem z_iald {k n : Nat} {i v : Int32} (hdg : decode M.2.1 pc = .ok (.iaload, 1)) (hk : k < F.1) (hsh : F.2.2.1 k = .inr (0, n)) (hv : w k i.toNatClampNeg = v) (K : xC G M d (pc + 1) lv (.int v :: st) F w cv F' X) : xC G M d pc lv (.int i :: .ref k :: st) F w cv F' (xchk (xin i n) X) :=
  y_iald hdg hk hsh (hv ▸ K)
theorem z_iald0 {k n j : Nat} {i v : Int32} (hdg : decode M.2.1 pc = .ok (.iaload, 1)) (hk : k < F.1) (hsh : F.2.2.1 k = .inr (0, n)) (hin : xin i n = true) (hj : i.toNatClampNeg = j) (hv : w k j = v) (K : xC G M d (pc + 1) lv (.int v :: st) F w cv F' X) : xC G M d pc lv (.int i :: .ref k :: st) F w cv F' X := by
  subst hj
  exact y_iald0 hdg hk hsh hin (hv ▸ K)
theorem z_iast0 {k n j : Nat} {i x : Int32} (hdg : decode M.2.1 pc = .ok (.iastore, 1)) (hk : k < F.1) (hsh : F.2.2.1 k = .inr (0, n)) (hin : xin i n = true) (hj : i.toNatClampNeg = j) (K : xC G M d (pc + 1) lv st F (xup w k j x) cv F' X) : xC G M d pc lv (.int x :: .int i :: .ref k :: st) F w cv F' X := by
  subst hj
  exact y_iast0 hdg hk hsh hin K
theorem y_putz0 {idx ci j k : Nat} {x : Int32} (hdg : decode M.2.1 pc = .ok (.putfield idx, 3)) (fl : xFld M.1.cls idx ci j false) (hk : k < F.1) (hsh : F.2.2.1 k = .inl ci) (hty : xTy ci j = .boolean) (hx : x = 0 ∨ x = 1) (K : xC G M d (pc + 3) lv st F (xup w k j x) cv F' X) : xC G M d pc lv (.int x :: .ref k :: st) F w cv F' X := by
  have h := y_putz (x := x) hdg fl hk hsh hty K
  rw [decide_eq_true hx] at h
  exact h
theorem z_iinc {i j : Nat} {n : Int} {x v : Int32} {k : Int32 → Option (α × xI)} (hdg : decode M.2.1 pc = .ok (.iinc i n, 3)) (hn9 : i < M.2.2.1) (hj : lv[j]? = some (i, .int x)) (hc : Int32.ofInt n = v) (K : ∀ y : Int32, xC G M d (pc + 3) ((i, Value.int y) :: lv.filter (fun q => !(q.1 == i) && !(q.1 + 1 == i && q.2.category == 2))) st F w cv F' (k y)) : xC G M d pc lv st F w cv F' (xlet (x + v) k) :=
  y_iinc (v := x + v) hdg hn9 hj (by rw [hc]) rfl (K (x + v))
theorem y_lookup1 {dflt : Int} {ps : Array (Int × Int)} {len tgt : Nat} {off : Int} {x : Int32} (hdg : decode M.2.1 pc = .ok (.lookupswitch dflt ps, len)) (hp : (ps.toList.zip (ps.toList.drop 1)).all (fun (a, next) => a.1 < next.1) = true) (ho : Op.lookupswitch.offset ps.toList dflt x.toInt = off) (ht : (pc : Int) + off = (tgt : Int)) (K : xC G M d tgt lv st F w cv F' X) : xC G M d pc lv (.int x :: st) F w cv F' X := y_lookup hdg hp ho ht K
theorem y_aaldC {n t : Nat} {i : Int32} {k : Nat → Option (α × xI)} (hdg : decode M.2.1 pc = .ok (.aaload, 1)) (hn : 71 ≤ n) (K : ∀ o : Nat, okC o → xC G M d (pc + 1) lv (.ref o :: st) (xFin n t) w cv F' (k o)) : xC G M d pc lv (.int i :: .ref 6 :: st) (xFin n t) w cv F' (xchk (xin i 10) (xlet (8 + i.toNatClampNeg) k)) :=
  y_aald (t := 2) (n := 10) (q := 8 + i.toNatClampNeg) hdg (xlt rfl hn) rfl rfl (fun h => okC_q (x := w 6 i.toNatClampNeg) h) (fun h => K _ (okC_of h))
theorem y_aaldT {n t : Nat} {i : Int32} {k : Nat → Option (α × xI)} (hdg : decode M.2.1 pc = .ok (.aaload, 1)) (hn : 71 ≤ n) (K : ∀ o : Nat, okT o → xC G M d (pc + 1) lv (.ref o :: st) (xFin n t) w cv F' (k o)) : xC G M d pc lv (.int i :: .ref 18 :: st) (xFin n t) w cv F' (xchk (xin i 6) (xlet (39 + 4 * i.toNatClampNeg) k)) :=
  y_aald (t := 0) (n := 6) (q := 39 + 4 * i.toNatClampNeg) hdg (xlt rfl hn) rfl rfl (fun h => okT_q (x := w 18 i.toNatClampNeg) h) (fun h => K _ (okT_of h))
theorem y_aaldS {n t : Nat} {i : Int32} {k : Nat → Option (α × xI)} (hdg : decode M.2.1 pc = .ok (.aaload, 1)) (hn : 71 ≤ n) (K : ∀ o : Nat, okS o → xC G M d (pc + 1) lv (.ref o :: st) (xFin n t) w cv F' (k o)) : xC G M d pc lv (.int i :: .ref 32 :: st) (xFin n t) w cv F' (xchk (xin i 4) (xlet (63 + 2 * i.toNatClampNeg) k)) :=
  y_aald (t := 1) (n := 4) (q := 63 + 2 * i.toNatClampNeg) hdg (xlt rfl hn) rfl rfl (fun h => okS_q (x := w 32 i.toNatClampNeg) h) (fun h => K _ (okS_of h))
theorem y_getinto {n t idx : Nat} {v : Int32} {k : Nat → Option (α × xI)} (hdg : decode M.2.1 pc = .ok (.getfield idx, 3)) (fl : xFld M.1.cls idx 4 7 false) (hn : 71 ≤ n) (hv : w 19 7 = v) (K : ∀ o : Nat, okT o → xC G M d (pc + 3) lv (.ref o :: st) (xFin n t) w cv F' (k o)) : xC G M d pc lv (.ref 19 :: st) (xFin n t) w cv F' (xchk (isTx v) (xlet v.toNatClampNeg k)) := by
  subst hv
  exact xC.chk (fun h => y_getr (q := (w 19 7).toNatClampNeg) hdg fl (xlt rfl hn) rfl rfl (isTx_r h) (K _ (isTx_ok h)))
end XZ
theorem inX0 : ∀ w ∈ u_ws RX0 TX0 5, w ∈ xT0 := by
  have h : u_ws RX0 TX0 5 = [(Jvm.Cond.lays "WeighedGate$Cart" "WeighedGate$Cart" "inward" "I"), (Jvm.Cond.lays "WeighedGate$Cart" "WeighedGate$Cart" "kind" "I"), (Jvm.Cond.lays "WeighedGate$Cart" "WeighedGate$Cart" "weight" "I"), (Jvm.Cond.lays "WeighedGate$Cart" "WeighedGate$Cart" "value" "I"), (Jvm.Cond.lays "WeighedGate$Cart" "WeighedGate$Cart" "more" "I")] := by rfl
  rw [h]
  exact (List.forall_mem_cons.mpr ⟨q90, (List.forall_mem_cons.mpr ⟨q92, (List.forall_mem_cons.mpr ⟨q94, (List.forall_mem_cons.mpr ⟨q96, (List.forall_mem_cons.mpr ⟨q98, (fun _ h => absurd h List.not_mem_nil)⟩)⟩)⟩)⟩)⟩)
theorem inX1 : ∀ w ∈ u_ws RX1 TX1 10, w ∈ xT0 := by
  have h : u_ws RX1 TX1 10 = [(Jvm.Cond.laysFinal "WeighedGate$Day" "WeighedGate$Day" "weighing" "LWeighedGate$Weighing;"), (Jvm.Cond.laysFinal "WeighedGate$Day" "WeighedGate$Day" "yard" "LWeighedGate$Yard;"), (Jvm.Cond.laysFinal "WeighedGate$Day" "WeighedGate$Day" "comes" "[I"), (Jvm.Cond.laysFinal "WeighedGate$Day" "WeighedGate$Day" "rowHours" "[I"), (Jvm.Cond.laysFinal "WeighedGate$Day" "WeighedGate$Day" "rowSets" "[I"), (Jvm.Cond.lays "WeighedGate$Day" "WeighedGate$Day" "rows" "I"), (Jvm.Cond.lays "WeighedGate$Day" "WeighedGate$Day" "earned" "I"), (Jvm.Cond.lays "WeighedGate$Day" "WeighedGate$Day" "through" "I"), (Jvm.Cond.lays "WeighedGate$Day" "WeighedGate$Day" "moreIn" "I"), (Jvm.Cond.lays "WeighedGate$Day" "WeighedGate$Day" "longestWaited" "I")] := by rfl
  rw [h]
  exact (List.forall_mem_cons.mpr ⟨q263, (List.forall_mem_cons.mpr ⟨q265, (List.forall_mem_cons.mpr ⟨q267, (List.forall_mem_cons.mpr ⟨q269, (List.forall_mem_cons.mpr ⟨q271, (List.forall_mem_cons.mpr ⟨q273, (List.forall_mem_cons.mpr ⟨q275, (List.forall_mem_cons.mpr ⟨q277, (List.forall_mem_cons.mpr ⟨q279, (List.forall_mem_cons.mpr ⟨q281, (fun _ h => absurd h List.not_mem_nil)⟩)⟩)⟩)⟩)⟩)⟩)⟩)⟩)⟩)⟩)
theorem inX2 : ∀ w ∈ u_ws RX2 TX2 8, w ∈ xT0 := by
  have h : u_ws RX2 TX2 8 = [(Jvm.Cond.lays "WeighedGate$Image" "WeighedGate$Image" "isKept" "Z"), (Jvm.Cond.lays "WeighedGate$Image" "WeighedGate$Image" "lawNumber" "I"), (Jvm.Cond.laysFinal "WeighedGate$Image" "WeighedGate$Image" "settings" "[I"), (Jvm.Cond.laysFinal "WeighedGate$Image" "WeighedGate$Image" "stones" "[I"), (Jvm.Cond.lays "WeighedGate$Image" "WeighedGate$Image" "stoneCount" "I"), (Jvm.Cond.laysFinal "WeighedGate$Image" "WeighedGate$Image" "comes" "[I"), (Jvm.Cond.laysFinal "WeighedGate$Image" "WeighedGate$Image" "inward" "[I"), (Jvm.Cond.lays "WeighedGate$Image" "WeighedGate$Image" "cartCount" "I")] := by rfl
  rw [h]
  exact (List.forall_mem_cons.mpr ⟨q302, (List.forall_mem_cons.mpr ⟨q304, (List.forall_mem_cons.mpr ⟨q306, (List.forall_mem_cons.mpr ⟨q308, (List.forall_mem_cons.mpr ⟨q310, (List.forall_mem_cons.mpr ⟨q312, (List.forall_mem_cons.mpr ⟨q314, (List.forall_mem_cons.mpr ⟨q316, (fun _ h => absurd h List.not_mem_nil)⟩)⟩)⟩)⟩)⟩)⟩)⟩)⟩)
theorem inX3 : ∀ w ∈ u_ws RX3 TX3 4, w ∈ xT0 := by
  have h : u_ws RX3 TX3 4 = [(Jvm.Cond.laysFinal "WeighedGate$Pairs" "WeighedGate$Pairs" "weighing" "LWeighedGate$Weighing;"), (Jvm.Cond.laysFinal "WeighedGate$Pairs" "WeighedGate$Pairs" "yard" "LWeighedGate$Yard;"), (Jvm.Cond.laysFinal "WeighedGate$Pairs" "WeighedGate$Pairs" "pays" "[I"), (Jvm.Cond.laysFinal "WeighedGate$Pairs" "WeighedGate$Pairs" "others" "[I")] := by rfl
  rw [h]
  exact (List.forall_mem_cons.mpr ⟨q230, (List.forall_mem_cons.mpr ⟨q232, (List.forall_mem_cons.mpr ⟨q234, (List.forall_mem_cons.mpr ⟨q236, (fun _ h => absurd h List.not_mem_nil)⟩)⟩)⟩)⟩)
theorem inX4 : ∀ w ∈ u_ws RX4 TX4 8, w ∈ xT0 := by
  have h : u_ws RX4 TX4 8 = [(Jvm.Cond.laysFinal "WeighedGate$Reader" "WeighedGate$Reader" "tape" "[I"), (Jvm.Cond.lays "WeighedGate$Reader" "WeighedGate$Reader" "size" "I"), (Jvm.Cond.lays "WeighedGate$Reader" "WeighedGate$Reader" "next" "I"), (Jvm.Cond.lays "WeighedGate$Reader" "WeighedGate$Reader" "place" "I"), (Jvm.Cond.lays "WeighedGate$Reader" "WeighedGate$Reader" "token" "I"), (Jvm.Cond.lays "WeighedGate$Reader" "WeighedGate$Reader" "open" "I"), (Jvm.Cond.lays "WeighedGate$Reader" "WeighedGate$Reader" "fault" "I"), (Jvm.Cond.lays "WeighedGate$Reader" "WeighedGate$Reader" "into" "LWeighedGate$Text;")] := by rfl
  rw [h]
  exact (List.forall_mem_cons.mpr ⟨q140, (List.forall_mem_cons.mpr ⟨q142, (List.forall_mem_cons.mpr ⟨q144, (List.forall_mem_cons.mpr ⟨q146, (List.forall_mem_cons.mpr ⟨q148, (List.forall_mem_cons.mpr ⟨q150, (List.forall_mem_cons.mpr ⟨q152, (List.forall_mem_cons.mpr ⟨q154, (fun _ h => absurd h List.not_mem_nil)⟩)⟩)⟩)⟩)⟩)⟩)⟩)⟩)
theorem inX5 : ∀ w ∈ u_ws RX5 TX5 4, w ∈ xT0 := by
  have h : u_ws RX5 TX5 4 = [(Jvm.Cond.laysFinal "WeighedGate$Scale" "WeighedGate$Scale" "settings" "[I"), (Jvm.Cond.laysFinal "WeighedGate$Scale" "WeighedGate$Scale" "stones" "[I"), (Jvm.Cond.lays "WeighedGate$Scale" "WeighedGate$Scale" "stoneCount" "I"), (Jvm.Cond.laysFinal "WeighedGate$Scale" "WeighedGate$Scale" "fewest" "[I")] := by rfl
  rw [h]
  exact (List.forall_mem_cons.mpr ⟨q56, (List.forall_mem_cons.mpr ⟨q58, (List.forall_mem_cons.mpr ⟨q60, (List.forall_mem_cons.mpr ⟨q62, (fun _ h => absurd h List.not_mem_nil)⟩)⟩)⟩)⟩)
theorem inX6 : ∀ w ∈ u_ws RX6 TX6 3, w ∈ xT0 := by
  have h : u_ws RX6 TX6 3 = [(Jvm.Cond.lays "WeighedGate$Sheet" "WeighedGate$Sheet" "sort" "I"), (Jvm.Cond.lays "WeighedGate$Sheet" "WeighedGate$Sheet" "size" "I"), (Jvm.Cond.laysFinal "WeighedGate$Sheet" "WeighedGate$Sheet" "cells" "[I")] := by rfl
  rw [h]
  exact (List.forall_mem_cons.mpr ⟨q352, (List.forall_mem_cons.mpr ⟨q354, (List.forall_mem_cons.mpr ⟨q356, (fun _ h => absurd h List.not_mem_nil)⟩)⟩)⟩)
theorem inX7 : ∀ w ∈ u_ws RX7 TX7 4, w ∈ xT0 := by
  have h : u_ws RX7 TX7 4 = [(Jvm.Cond.laysFinal "WeighedGate$Text" "WeighedGate$Text" "code" "[I"), (Jvm.Cond.laysFinal "WeighedGate$Text" "WeighedGate$Text" "ends" "[I"), (Jvm.Cond.laysFinal "WeighedGate$Text" "WeighedGate$Text" "stack" "[I"), (Jvm.Cond.lays "WeighedGate$Text" "WeighedGate$Text" "size" "I")] := by rfl
  rw [h]
  exact (List.forall_mem_cons.mpr ⟨q330, (List.forall_mem_cons.mpr ⟨q332, (List.forall_mem_cons.mpr ⟨q334, (List.forall_mem_cons.mpr ⟨q336, (fun _ h => absurd h List.not_mem_nil)⟩)⟩)⟩)⟩)
theorem inX8 : ∀ w ∈ u_ws RX8 TX8 15, w ∈ xT0 := by
  have h : u_ws RX8 TX8 15 = [(Jvm.Cond.laysFinal "WeighedGate$Weighing" "WeighedGate$Weighing" "beam" "LWeighedGate$Scale;"), (Jvm.Cond.laysFinal "WeighedGate$Weighing" "WeighedGate$Weighing" "yard" "LWeighedGate$Yard;"), (Jvm.Cond.laysFinal "WeighedGate$Weighing" "WeighedGate$Weighing" "weights" "[I"), (Jvm.Cond.laysFinal "WeighedGate$Weighing" "WeighedGate$Weighing" "worths" "[I"), (Jvm.Cond.laysFinal "WeighedGate$Weighing" "WeighedGate$Weighing" "names" "[I"), (Jvm.Cond.lays "WeighedGate$Weighing" "WeighedGate$Weighing" "come" "I"), (Jvm.Cond.lays "WeighedGate$Weighing" "WeighedGate$Weighing" "inward" "I"), (Jvm.Cond.lays "WeighedGate$Weighing" "WeighedGate$Weighing" "set" "I"), (Jvm.Cond.lays "WeighedGate$Weighing" "WeighedGate$Weighing" "worth" "I"), (Jvm.Cond.lays "WeighedGate$Weighing" "WeighedGate$Weighing" "in" "I"), (Jvm.Cond.lays "WeighedGate$Weighing" "WeighedGate$Weighing" "out" "I"), (Jvm.Cond.lays "WeighedGate$Weighing" "WeighedGate$Weighing" "off" "I"), (Jvm.Cond.lays "WeighedGate$Weighing" "WeighedGate$Weighing" "stones" "I"), (Jvm.Cond.lays "WeighedGate$Weighing" "WeighedGate$Weighing" "bestSet" "I"), (Jvm.Cond.lays "WeighedGate$Weighing" "WeighedGate$Weighing" "bestBrings" "I")] := by rfl
  rw [h]
  exact (List.forall_mem_cons.mpr ⟨q188, (List.forall_mem_cons.mpr ⟨q190, (List.forall_mem_cons.mpr ⟨q192, (List.forall_mem_cons.mpr ⟨q194, (List.forall_mem_cons.mpr ⟨q196, (List.forall_mem_cons.mpr ⟨q198, (List.forall_mem_cons.mpr ⟨q200, (List.forall_mem_cons.mpr ⟨q202, (List.forall_mem_cons.mpr ⟨q204, (List.forall_mem_cons.mpr ⟨q206, (List.forall_mem_cons.mpr ⟨q208, (List.forall_mem_cons.mpr ⟨q210, (List.forall_mem_cons.mpr ⟨q212, (List.forall_mem_cons.mpr ⟨q214, (List.forall_mem_cons.mpr ⟨q216, (fun _ h => absurd h List.not_mem_nil)⟩)⟩)⟩)⟩)⟩)⟩)⟩)⟩)⟩)⟩)⟩)⟩)⟩)⟩)⟩)
theorem inX9 : ∀ w ∈ u_ws RX9 TX9 3, w ∈ xT0 := by
  have h : u_ws RX9 TX9 3 = [(Jvm.Cond.laysFinal "WeighedGate$Yard" "WeighedGate$Yard" "carts" "[LWeighedGate$Cart;"), (Jvm.Cond.laysFinal "WeighedGate$Yard" "WeighedGate$Yard" "comes" "[I"), (Jvm.Cond.lays "WeighedGate$Yard" "WeighedGate$Yard" "size" "I")] := by rfl
  rw [h]
  exact (List.forall_mem_cons.mpr ⟨q116, (List.forall_mem_cons.mpr ⟨q118, (List.forall_mem_cons.mpr ⟨q120, (fun _ h => absurd h List.not_mem_nil)⟩)⟩)⟩)
theorem inX10 : ∀ w ∈ u_ws RX10 TX10 12, w ∈ xT0 := by
  have h : u_ws RX10 TX10 12 = [(Jvm.Cond.laysFinal "WeighedGate" "WeighedGate" "beam" "LWeighedGate$Scale;"), (Jvm.Cond.laysFinal "WeighedGate" "WeighedGate" "yard" "LWeighedGate$Yard;"), (Jvm.Cond.laysFinal "WeighedGate" "WeighedGate" "texts" "[LWeighedGate$Text;"), (Jvm.Cond.lays "WeighedGate" "WeighedGate" "textCount" "I"), (Jvm.Cond.lays "WeighedGate" "WeighedGate" "lawNumber" "I"), (Jvm.Cond.laysFinal "WeighedGate" "WeighedGate" "reader" "LWeighedGate$Reader;"), (Jvm.Cond.laysFinal "WeighedGate" "WeighedGate" "weighing" "LWeighedGate$Weighing;"), (Jvm.Cond.laysFinal "WeighedGate" "WeighedGate" "pairing" "LWeighedGate$Pairs;"), (Jvm.Cond.laysFinal "WeighedGate" "WeighedGate" "day" "LWeighedGate$Day;"), (Jvm.Cond.laysFinal "WeighedGate" "WeighedGate" "sheets" "[LWeighedGate$Sheet;"), (Jvm.Cond.laysFinal "WeighedGate" "WeighedGate" "kept" "LWeighedGate$Image;"), (Jvm.Cond.laysFinal "WeighedGate" "WeighedGate" "asked" "[I")] := by rfl
  rw [h]
  exact (List.forall_mem_cons.mpr ⟨q505, (List.forall_mem_cons.mpr ⟨q507, (List.forall_mem_cons.mpr ⟨q509, (List.forall_mem_cons.mpr ⟨q511, (List.forall_mem_cons.mpr ⟨q513, (List.forall_mem_cons.mpr ⟨q515, (List.forall_mem_cons.mpr ⟨q517, (List.forall_mem_cons.mpr ⟨q519, (List.forall_mem_cons.mpr ⟨q521, (List.forall_mem_cons.mpr ⟨q523, (List.forall_mem_cons.mpr ⟨q525, (List.forall_mem_cons.mpr ⟨q527, (fun _ h => absurd h List.not_mem_nil)⟩)⟩)⟩)⟩)⟩)⟩)⟩)⟩)⟩)⟩)⟩)⟩)
theorem inX11 : ∀ w ∈ u_ws RX11 TX11 61, w ∈ xT0 := by
  have h : u_ws RX11 TX11 61 = [(Jvm.Cond.laysFinal "WeighedGateModel" "WeighedGateModel" "scaleOf" "[I"), (Jvm.Cond.lays "WeighedGateModel" "WeighedGateModel" "stones" "I"), (Jvm.Cond.laysFinal "WeighedGateModel" "WeighedGateModel" "stoneOf" "[I"), (Jvm.Cond.lays "WeighedGateModel" "WeighedGateModel" "carts" "I"), (Jvm.Cond.laysFinal "WeighedGateModel" "WeighedGateModel" "inward" "[I"), (Jvm.Cond.laysFinal "WeighedGateModel" "WeighedGateModel" "kind" "[I"), (Jvm.Cond.laysFinal "WeighedGateModel" "WeighedGateModel" "weightOf" "[I"), (Jvm.Cond.laysFinal "WeighedGateModel" "WeighedGateModel" "valueOf" "[I"), (Jvm.Cond.laysFinal "WeighedGateModel" "WeighedGateModel" "moreOf" "[I"), (Jvm.Cond.laysFinal "WeighedGateModel" "WeighedGateModel" "comesAt" "[I"), (Jvm.Cond.laysFinal "WeighedGateModel" "WeighedGateModel" "tape" "[I"), (Jvm.Cond.lays "WeighedGateModel" "WeighedGateModel" "taped" "I"), (Jvm.Cond.laysFinal "WeighedGateModel" "WeighedGateModel" "codes" "[I"), (Jvm.Cond.laysFinal "WeighedGateModel" "WeighedGateModel" "starts" "[I"), (Jvm.Cond.lays "WeighedGateModel" "WeighedGateModel" "texts" "I"), (Jvm.Cond.lays "WeighedGateModel" "WeighedGateModel" "rule" "I"), (Jvm.Cond.lays "WeighedGateModel" "WeighedGateModel" "hasImage" "Z"), (Jvm.Cond.lays "WeighedGateModel" "WeighedGateModel" "imageStones" "I"), (Jvm.Cond.lays "WeighedGateModel" "WeighedGateModel" "imageCarts" "I"), (Jvm.Cond.lays "WeighedGateModel" "WeighedGateModel" "imageRule" "I"), (Jvm.Cond.laysFinal "WeighedGateModel" "WeighedGateModel" "imageScale" "[I"), (Jvm.Cond.laysFinal "WeighedGateModel" "WeighedGateModel" "imageStone" "[I"), (Jvm.Cond.laysFinal "WeighedGateModel" "WeighedGateModel" "imageComes" "[I"), (Jvm.Cond.laysFinal "WeighedGateModel" "WeighedGateModel" "imageInward" "[I"), (Jvm.Cond.laysFinal "WeighedGateModel" "WeighedGateModel" "sheetSort" "[I"), (Jvm.Cond.laysFinal "WeighedGateModel" "WeighedGateModel" "sheetSize" "[I"), (Jvm.Cond.laysFinal "WeighedGateModel" "WeighedGateModel" "cells" "[I"), (Jvm.Cond.laysFinal "WeighedGateModel" "WeighedGateModel" "law" "[I"), (Jvm.Cond.lays "WeighedGateModel" "WeighedGateModel" "at" "I"), (Jvm.Cond.lays "WeighedGateModel" "WeighedGateModel" "begun" "I"), (Jvm.Cond.lays "WeighedGateModel" "WeighedGateModel" "token" "I"), (Jvm.Cond.lays "WeighedGateModel" "WeighedGateModel" "value" "I"), (Jvm.Cond.laysFinal "WeighedGateModel" "WeighedGateModel" "words" "[I"), (Jvm.Cond.laysFinal "WeighedGateModel" "WeighedGateModel" "held" "[I"), (Jvm.Cond.lays "WeighedGateModel" "WeighedGateModel" "heldMany" "I"), (Jvm.Cond.lays "WeighedGateModel" "WeighedGateModel" "opens" "I"), (Jvm.Cond.lays "WeighedGateModel" "WeighedGateModel" "out" "I"), (Jvm.Cond.laysFinal "WeighedGateModel" "WeighedGateModel" "stack" "[I"), (Jvm.Cond.laysFinal "WeighedGateModel" "WeighedGateModel" "named" "[I"), (Jvm.Cond.laysFinal "WeighedGateModel" "WeighedGateModel" "made" "[I"), (Jvm.Cond.lays "WeighedGateModel" "WeighedGateModel" "panIn" "I"), (Jvm.Cond.lays "WeighedGateModel" "WeighedGateModel" "panOut" "I"), (Jvm.Cond.lays "WeighedGateModel" "WeighedGateModel" "off" "I"), (Jvm.Cond.lays "WeighedGateModel" "WeighedGateModel" "used" "I"), (Jvm.Cond.lays "WeighedGateModel" "WeighedGateModel" "mayBe" "Z"), (Jvm.Cond.lays "WeighedGateModel" "WeighedGateModel" "brings" "I"), (Jvm.Cond.laysFinal "WeighedGateModel" "WeighedGateModel" "bringing" "[I"), (Jvm.Cond.laysFinal "WeighedGateModel" "WeighedGateModel" "partner" "[I"), (Jvm.Cond.laysFinal "WeighedGateModel" "WeighedGateModel" "bestPartner" "[I"), (Jvm.Cond.lays "WeighedGateModel" "WeighedGateModel" "mostPairs" "I"), (Jvm.Cond.lays "WeighedGateModel" "WeighedGateModel" "mostBrings" "I"), (Jvm.Cond.lays "WeighedGateModel" "WeighedGateModel" "bestSet" "I"), (Jvm.Cond.lays "WeighedGateModel" "WeighedGateModel" "bestBrings" "I"), (Jvm.Cond.laysFinal "WeighedGateModel" "WeighedGateModel" "goesAt" "[I"), (Jvm.Cond.laysFinal "WeighedGateModel" "WeighedGateModel" "setAt" "[I"), (Jvm.Cond.lays "WeighedGateModel" "WeighedGateModel" "through" "I"), (Jvm.Cond.lays "WeighedGateModel" "WeighedGateModel" "earned" "I"), (Jvm.Cond.lays "WeighedGateModel" "WeighedGateModel" "moreIn" "I"), (Jvm.Cond.lays "WeighedGateModel" "WeighedGateModel" "skipped" "I"), (Jvm.Cond.lays "WeighedGateModel" "WeighedGateModel" "absent" "I"), (Jvm.Cond.laysFinal "WeighedGateModel" "WeighedGateModel" "keptComes" "[I")] := by rfl
  rw [h]
  exact (List.forall_mem_cons.mpr ⟨q1088, (List.forall_mem_cons.mpr ⟨q1090, (List.forall_mem_cons.mpr ⟨q1092, (List.forall_mem_cons.mpr ⟨q1094, (List.forall_mem_cons.mpr ⟨q1096, (List.forall_mem_cons.mpr ⟨q1098, (List.forall_mem_cons.mpr ⟨q1100, (List.forall_mem_cons.mpr ⟨q1102, (List.forall_mem_cons.mpr ⟨q1104, (List.forall_mem_cons.mpr ⟨q1106, (List.forall_mem_cons.mpr ⟨q1108, (List.forall_mem_cons.mpr ⟨q1110, (List.forall_mem_cons.mpr ⟨q1112, (List.forall_mem_cons.mpr ⟨q1114, (List.forall_mem_cons.mpr ⟨q1116, (List.forall_mem_cons.mpr ⟨q1118, (List.forall_mem_cons.mpr ⟨q1120, (List.forall_mem_cons.mpr ⟨q1122, (List.forall_mem_cons.mpr ⟨q1124, (List.forall_mem_cons.mpr ⟨q1126, (List.forall_mem_cons.mpr ⟨q1128, (List.forall_mem_cons.mpr ⟨q1130, (List.forall_mem_cons.mpr ⟨q1132, (List.forall_mem_cons.mpr ⟨q1134, (List.forall_mem_cons.mpr ⟨q1136, (List.forall_mem_cons.mpr ⟨q1138, (List.forall_mem_cons.mpr ⟨q1140, (List.forall_mem_cons.mpr ⟨q1142, (List.forall_mem_cons.mpr ⟨q1144, (List.forall_mem_cons.mpr ⟨q1146, (List.forall_mem_cons.mpr ⟨q1148, (List.forall_mem_cons.mpr ⟨q1150, (List.forall_mem_cons.mpr ⟨q1152, (List.forall_mem_cons.mpr ⟨q1154, (List.forall_mem_cons.mpr ⟨q1156, (List.forall_mem_cons.mpr ⟨q1158, (List.forall_mem_cons.mpr ⟨q1160, (List.forall_mem_cons.mpr ⟨q1162, (List.forall_mem_cons.mpr ⟨q1164, (List.forall_mem_cons.mpr ⟨q1166, (List.forall_mem_cons.mpr ⟨q1168, (List.forall_mem_cons.mpr ⟨q1170, (List.forall_mem_cons.mpr ⟨q1172, (List.forall_mem_cons.mpr ⟨q1174, (List.forall_mem_cons.mpr ⟨q1176, (List.forall_mem_cons.mpr ⟨q1178, (List.forall_mem_cons.mpr ⟨q1180, (List.forall_mem_cons.mpr ⟨q1182, (List.forall_mem_cons.mpr ⟨q1184, (List.forall_mem_cons.mpr ⟨q1186, (List.forall_mem_cons.mpr ⟨q1188, (List.forall_mem_cons.mpr ⟨q1190, (List.forall_mem_cons.mpr ⟨q1192, (List.forall_mem_cons.mpr ⟨q1194, (List.forall_mem_cons.mpr ⟨q1196, (List.forall_mem_cons.mpr ⟨q1198, (List.forall_mem_cons.mpr ⟨q1200, (List.forall_mem_cons.mpr ⟨q1202, (List.forall_mem_cons.mpr ⟨q1204, (List.forall_mem_cons.mpr ⟨q1206, (List.forall_mem_cons.mpr ⟨q1208, (fun _ h => absurd h List.not_mem_nil)⟩)⟩)⟩)⟩)⟩)⟩)⟩)⟩)⟩)⟩)⟩)⟩)⟩)⟩)⟩)⟩)⟩)⟩)⟩)⟩)⟩)⟩)⟩)⟩)⟩)⟩)⟩)⟩)⟩)⟩)⟩)⟩)⟩)⟩)⟩)⟩)⟩)⟩)⟩)⟩)⟩)⟩)⟩)⟩)⟩)⟩)⟩)⟩)⟩)⟩)⟩)⟩)⟩)⟩)⟩)⟩)⟩)⟩)⟩)⟩)⟩)
