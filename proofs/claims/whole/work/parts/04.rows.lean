section XR
variable {α : Type} {G : xG} {M : xM} {d pc : Nat} {lv : List (Nat × Value)} {st : List Value} {F : xF} {w : xI} {cv : α → Option Value} {F' : xF} {X : Option (α × xI)}
theorem y_iconst {n : Int} {v : Int32} (hdg : decode M.2.1 pc = .ok (.iconst n, 1)) (hv : Int32.ofInt n = v) (K : xC G M d (pc + 1) lv (.int v :: st) F w cv F' X) : xC G M d pc lv (st) F w cv F' X :=
  K.map (Nat.le_refl _) (Nat.le_refl _) fun v w' K _ _ => fun p e R s m args below meth c H locs cells slots n0 t0 ls Q C A hn hR hl hQ => lv_iconst C.1 C.2.1 hdg hv (K p e R s m args below meth c H locs cells slots n0 t0 ls Q C A hn hR hl hQ)
theorem y_bipush {n : Int} {v : Int32} (hdg : decode M.2.1 pc = .ok (.bipush n, 2)) (hv : (Int8.ofInt n).toInt32 = v) (K : xC G M d (pc + 2) lv (.int v :: st) F w cv F' X) : xC G M d pc lv (st) F w cv F' X :=
  K.map (Nat.le_refl _) (Nat.le_refl _) fun v w' K _ _ => fun p e R s m args below meth c H locs cells slots n0 t0 ls Q C A hn hR hl hQ => lv_bipush C.1 C.2.1 hdg hv (K p e R s m args below meth c H locs cells slots n0 t0 ls Q C A hn hR hl hQ)
theorem y_sipush {n : Int} {v : Int32} (hdg : decode M.2.1 pc = .ok (.sipush n, 3)) (hv : (Int16.ofInt n).toInt32 = v) (K : xC G M d (pc + 3) lv (.int v :: st) F w cv F' X) : xC G M d pc lv (st) F w cv F' X :=
  K.map (Nat.le_refl _) (Nat.le_refl _) fun v w' K _ _ => fun p e R s m args below meth c H locs cells slots n0 t0 ls Q C A hn hR hl hQ => lv_sipush C.1 C.2.1 hdg hv (K p e R s m args below meth c H locs cells slots n0 t0 ls Q C A hn hR hl hQ)
theorem y_lconst {n : Fin 2} {v : Int64} (hdg : decode M.2.1 pc = .ok (.lconst n, 1)) (hv : Int64.ofNat (n : Nat) = v) (K : xC G M d (pc + 1) lv (.long v :: st) F w cv F' X) : xC G M d pc lv (st) F w cv F' X :=
  K.map (Nat.le_refl _) (Nat.le_refl _) fun v w' K _ _ => fun p e R s m args below meth c H locs cells slots n0 t0 ls Q C A hn hR hl hQ => lv_lconst C.1 C.2.1 hdg hv (K p e R s m args below meth c H locs cells slots n0 t0 ls Q C A hn hR hl hQ)
theorem y_ldc {idx : Nat} {v : Int32} (hdg : decode M.2.1 pc = .ok (.ldc idx, 2)) (hq : Cond.constant M.1.cls idx v ∈ xT0) (K : xC G M d (pc + 2) lv (.int v :: st) F w cv F' X) : xC G M d pc lv st F w cv F' X :=
  K.map (Nat.le_refl _) (Nat.le_refl _) fun v w' K _ _ => fun p e R s m args below meth c H locs cells slots n0 t0 ls Q C A hn hR hl hQ => lv_ldc C.1 C.2.1 C.2.2.2.1 (C.2.2.2.2.1 _ hq) hdg (K p e R s m args below meth c H locs cells slots n0 t0 ls Q C A hn hR hl hQ)
theorem y_ldcw {idx : Nat} {v : Int32} (hdg : decode M.2.1 pc = .ok (.ldc_w idx, 3)) (hq : Cond.constant M.1.cls idx v ∈ xT0) (K : xC G M d (pc + 3) lv (.int v :: st) F w cv F' X) : xC G M d pc lv st F w cv F' X :=
  K.map (Nat.le_refl _) (Nat.le_refl _) fun v w' K _ _ => fun p e R s m args below meth c H locs cells slots n0 t0 ls Q C A hn hR hl hQ => lv_ldcw C.1 C.2.1 C.2.2.2.1 (C.2.2.2.2.1 _ hq) hdg (K p e R s m args below meth c H locs cells slots n0 t0 ls Q C A hn hR hl hQ)
theorem y_ldc2 {idx : Nat} {v : Int64} (hdg : decode M.2.1 pc = .ok (.ldc2_w idx, 3)) (hq : Cond.constantLong M.1.cls idx v ∈ xT0) (K : xC G M d (pc + 3) lv (.long v :: st) F w cv F' X) : xC G M d pc lv st F w cv F' X :=
  K.map (Nat.le_refl _) (Nat.le_refl _) fun v w' K _ _ => fun p e R s m args below meth c H locs cells slots n0 t0 ls Q C A hn hR hl hQ => lv_ldc2 C.1 C.2.1 C.2.2.2.1 (C.2.2.2.2.1 _ hq) hdg (K p e R s m args below meth c H locs cells slots n0 t0 ls Q C A hn hR hl hQ)
theorem y_iload_n {k : Fin 4} {i : Nat} {x : Int32} (hdg : decode M.2.1 pc = .ok (.iload_n k, 1)) (hi : (k : Nat) = i) (j : Nat) (hj : lv[j]? = some (i, .int x)) (K : xC G M d (pc + 1) lv (.int x :: st) F w cv F' X) : xC G M d pc lv st F w cv F' X :=
  K.map (Nat.le_refl _) (Nat.le_refl _) fun v w' K _ _ => fun p e R s m args below meth c H locs cells slots n0 t0 ls Q C A hn hR hl hQ => lv_iload_n C.1 C.2.1 hdg hi (lv_at hl j (by rw [List.getElem?_map, hj]; rfl)) (K p e R s m args below meth c H locs cells slots n0 t0 ls Q C A hn hR hl hQ)
theorem y_iload {i : Nat} {x : Int32} (hdg : decode M.2.1 pc = .ok (.iload i, 2))  (j : Nat) (hj : lv[j]? = some (i, .int x)) (K : xC G M d (pc + 2) lv (.int x :: st) F w cv F' X) : xC G M d pc lv st F w cv F' X :=
  K.map (Nat.le_refl _) (Nat.le_refl _) fun v w' K _ _ => fun p e R s m args below meth c H locs cells slots n0 t0 ls Q C A hn hR hl hQ => lv_iload C.1 C.2.1 hdg  (lv_at hl j (by rw [List.getElem?_map, hj]; rfl)) (K p e R s m args below meth c H locs cells slots n0 t0 ls Q C A hn hR hl hQ)
theorem y_lload_n {k : Fin 4} {i : Nat} {x : Int64} (hdg : decode M.2.1 pc = .ok (.lload_n k, 1)) (hi : (k : Nat) = i) (j : Nat) (hj : lv[j]? = some (i, .long x)) (K : xC G M d (pc + 1) lv (.long x :: st) F w cv F' X) : xC G M d pc lv st F w cv F' X :=
  K.map (Nat.le_refl _) (Nat.le_refl _) fun v w' K _ _ => fun p e R s m args below meth c H locs cells slots n0 t0 ls Q C A hn hR hl hQ => lv_lload_n C.1 C.2.1 hdg hi (lv_at hl j (by rw [List.getElem?_map, hj]; rfl)) (K p e R s m args below meth c H locs cells slots n0 t0 ls Q C A hn hR hl hQ)
theorem y_lload {i : Nat} {x : Int64} (hdg : decode M.2.1 pc = .ok (.lload i, 2))  (j : Nat) (hj : lv[j]? = some (i, .long x)) (K : xC G M d (pc + 2) lv (.long x :: st) F w cv F' X) : xC G M d pc lv st F w cv F' X :=
  K.map (Nat.le_refl _) (Nat.le_refl _) fun v w' K _ _ => fun p e R s m args below meth c H locs cells slots n0 t0 ls Q C A hn hR hl hQ => lv_lload C.1 C.2.1 hdg  (lv_at hl j (by rw [List.getElem?_map, hj]; rfl)) (K p e R s m args below meth c H locs cells slots n0 t0 ls Q C A hn hR hl hQ)
theorem y_aload_n {k : Fin 4} {i : Nat} {x : Nat} (hdg : decode M.2.1 pc = .ok (.aload_n k, 1)) (hi : (k : Nat) = i) (j : Nat) (hj : lv[j]? = some (i, .ref x)) (K : xC G M d (pc + 1) lv (.ref x :: st) F w cv F' X) : xC G M d pc lv st F w cv F' X :=
  K.map (Nat.le_refl _) (Nat.le_refl _) fun v w' K _ _ => fun p e R s m args below meth c H locs cells slots n0 t0 ls Q C A hn hR hl hQ => lv_aload_n C.1 C.2.1 hdg hi (lv_at hl j (by rw [List.getElem?_map, hj]; rfl)) (K p e R s m args below meth c H locs cells slots n0 t0 ls Q C A hn hR hl hQ)
theorem y_aload {i : Nat} {x : Nat} (hdg : decode M.2.1 pc = .ok (.aload i, 2))  (j : Nat) (hj : lv[j]? = some (i, .ref x)) (K : xC G M d (pc + 2) lv (.ref x :: st) F w cv F' X) : xC G M d pc lv st F w cv F' X :=
  K.map (Nat.le_refl _) (Nat.le_refl _) fun v w' K _ _ => fun p e R s m args below meth c H locs cells slots n0 t0 ls Q C A hn hR hl hQ => lv_aload C.1 C.2.1 hdg  (lv_at hl j (by rw [List.getElem?_map, hj]; rfl)) (K p e R s m args below meth c H locs cells slots n0 t0 ls Q C A hn hR hl hQ)
theorem y_istore_n {k : Fin 4} {i : Nat} {x : Int32} {lv' : List (Nat × Value)} (hdg : decode M.2.1 pc = .ok (.istore_n k, 1)) (hi : (k : Nat) = i) (hn9 : i < M.2.2.1) (hf : (i, Value.int x) :: lv.filter (fun q => !(q.1 == i) && !(q.1 + 1 == i && q.2.category == 2)) = lv') (K : xC G M d (pc + 1) lv' st F w cv F' X) : xC G M d pc lv (.int x :: st) F w cv F' X :=
  K.map (Nat.le_refl _) (Nat.le_refl _) fun v w' K _ _ => fun p e R s m args below meth c H locs cells slots n0 t0 ls Q C A hn hR hl hQ => lv_istore_n (lv' := lv'.map (fun q => (q.1, xv G q.2))) C.1 C.2.1 hdg hi hl hn9 (by rw [← hf, xlv_filter G i lv (fun a b => !(a == i) && !(a + 1 == i && b == 2))]; rfl) (fun ls hl => K p e R s m args below meth c H locs cells slots n0 t0 ls Q C A hn hR hl hQ)
theorem y_istore {i : Nat} {x : Int32} {lv' : List (Nat × Value)} (hdg : decode M.2.1 pc = .ok (.istore i, 2))  (hn9 : i < M.2.2.1) (hf : (i, Value.int x) :: lv.filter (fun q => !(q.1 == i) && !(q.1 + 1 == i && q.2.category == 2)) = lv') (K : xC G M d (pc + 2) lv' st F w cv F' X) : xC G M d pc lv (.int x :: st) F w cv F' X :=
  K.map (Nat.le_refl _) (Nat.le_refl _) fun v w' K _ _ => fun p e R s m args below meth c H locs cells slots n0 t0 ls Q C A hn hR hl hQ => lv_istore (lv' := lv'.map (fun q => (q.1, xv G q.2))) C.1 C.2.1 hdg  hl hn9 (by rw [← hf, xlv_filter G i lv (fun a b => !(a == i) && !(a + 1 == i && b == 2))]; rfl) (fun ls hl => K p e R s m args below meth c H locs cells slots n0 t0 ls Q C A hn hR hl hQ)
theorem y_lstore_n {k : Fin 4} {i : Nat} {x : Int64} {lv' : List (Nat × Value)} (hdg : decode M.2.1 pc = .ok (.lstore_n k, 1)) (hi : (k : Nat) = i) (hn9 : i + 1 < M.2.2.1) (hf : (i, Value.long x) :: lv.filter (fun q => !(q.1 == i) && (!(q.1 == i + 1) && !(q.1 + 1 == i && q.2.category == 2))) = lv') (K : xC G M d (pc + 1) lv' st F w cv F' X) : xC G M d pc lv (.long x :: st) F w cv F' X :=
  K.map (Nat.le_refl _) (Nat.le_refl _) fun v w' K _ _ => fun p e R s m args below meth c H locs cells slots n0 t0 ls Q C A hn hR hl hQ => lv_lstore_n (lv' := lv'.map (fun q => (q.1, xv G q.2))) C.1 C.2.1 hdg hi hl hn9 (by rw [← hf, xlv_filter G i lv (fun a b => !(a == i) && (!(a == i + 1) && !(a + 1 == i && b == 2)))]; rfl) (fun ls hl => K p e R s m args below meth c H locs cells slots n0 t0 ls Q C A hn hR hl hQ)
theorem y_lstore {i : Nat} {x : Int64} {lv' : List (Nat × Value)} (hdg : decode M.2.1 pc = .ok (.lstore i, 2))  (hn9 : i + 1 < M.2.2.1) (hf : (i, Value.long x) :: lv.filter (fun q => !(q.1 == i) && (!(q.1 == i + 1) && !(q.1 + 1 == i && q.2.category == 2))) = lv') (K : xC G M d (pc + 2) lv' st F w cv F' X) : xC G M d pc lv (.long x :: st) F w cv F' X :=
  K.map (Nat.le_refl _) (Nat.le_refl _) fun v w' K _ _ => fun p e R s m args below meth c H locs cells slots n0 t0 ls Q C A hn hR hl hQ => lv_lstore (lv' := lv'.map (fun q => (q.1, xv G q.2))) C.1 C.2.1 hdg  hl hn9 (by rw [← hf, xlv_filter G i lv (fun a b => !(a == i) && (!(a == i + 1) && !(a + 1 == i && b == 2)))]; rfl) (fun ls hl => K p e R s m args below meth c H locs cells slots n0 t0 ls Q C A hn hR hl hQ)
theorem y_astore_n {k : Fin 4} {i : Nat} {x : Nat} {lv' : List (Nat × Value)} (hdg : decode M.2.1 pc = .ok (.astore_n k, 1)) (hi : (k : Nat) = i) (hn9 : i < M.2.2.1) (hf : (i, Value.ref x) :: lv.filter (fun q => !(q.1 == i) && !(q.1 + 1 == i && q.2.category == 2)) = lv') (K : xC G M d (pc + 1) lv' st F w cv F' X) : xC G M d pc lv (.ref x :: st) F w cv F' X :=
  K.map (Nat.le_refl _) (Nat.le_refl _) fun v w' K _ _ => fun p e R s m args below meth c H locs cells slots n0 t0 ls Q C A hn hR hl hQ => lv_astore_n (lv' := lv'.map (fun q => (q.1, xv G q.2))) C.1 C.2.1 hdg hi hl hn9 (by rw [← hf, xlv_filter G i lv (fun a b => !(a == i) && !(a + 1 == i && b == 2))]; rfl) (fun ls hl => K p e R s m args below meth c H locs cells slots n0 t0 ls Q C A hn hR hl hQ)
theorem y_astore {i : Nat} {x : Nat} {lv' : List (Nat × Value)} (hdg : decode M.2.1 pc = .ok (.astore i, 2))  (hn9 : i < M.2.2.1) (hf : (i, Value.ref x) :: lv.filter (fun q => !(q.1 == i) && !(q.1 + 1 == i && q.2.category == 2)) = lv') (K : xC G M d (pc + 2) lv' st F w cv F' X) : xC G M d pc lv (.ref x :: st) F w cv F' X :=
  K.map (Nat.le_refl _) (Nat.le_refl _) fun v w' K _ _ => fun p e R s m args below meth c H locs cells slots n0 t0 ls Q C A hn hR hl hQ => lv_astore (lv' := lv'.map (fun q => (q.1, xv G q.2))) C.1 C.2.1 hdg  hl hn9 (by rw [← hf, xlv_filter G i lv (fun a b => !(a == i) && !(a + 1 == i && b == 2))]; rfl) (fun ls hl => K p e R s m args below meth c H locs cells slots n0 t0 ls Q C A hn hR hl hQ)
theorem y_iinc {i j : Nat} {n : Int} {x v : Int32} {lv' : List (Nat × Value)} (hdg : decode M.2.1 pc = .ok (.iinc i n, 3)) (hn9 : i < M.2.2.1) (hj : lv[j]? = some (i, .int x)) (hv : x + Int32.ofInt n = v) (hf : (i, Value.int v) :: lv.filter (fun q => !(q.1 == i) && !(q.1 + 1 == i && q.2.category == 2)) = lv') (K : xC G M d (pc + 3) lv' st F w cv F' X) : xC G M d pc lv st F w cv F' X :=
  K.map (Nat.le_refl _) (Nat.le_refl _) fun v w' K _ _ => fun p e R s m args below meth c H locs cells slots n0 t0 ls Q C A hn hR hl hQ => lv_iinc (k := j) (lv' := lv'.map (fun q => (q.1, xv G q.2))) C.1 C.2.1 hdg hl (by rw [List.getElem?_map, hj]; rfl) hv hn9 (by rw [← hf, xlv_filter G i lv (fun a b => !(a == i) && !(a + 1 == i && b == 2))]; rfl) (fun ls hl => K p e R s m args below meth c H locs cells slots n0 t0 ls Q C A hn hR hl hQ)
theorem y_iadd {x y : Int32} (hdg : decode M.2.1 pc = .ok (.iadd, 1))  (K : xC G M d (pc + 1) lv (.int (x + y) :: st) F w cv F' X) : xC G M d pc lv (.int y :: .int x :: st) F w cv F' X :=
  K.map (Nat.le_refl _) (Nat.le_refl _) fun v w' K _ _ => fun p e R s m args below meth c H locs cells slots n0 t0 ls Q C A hn hR hl hQ => lv_iadd C.1 C.2.1 hdg  (K p e R s m args below meth c H locs cells slots n0 t0 ls Q C A hn hR hl hQ)
theorem y_isub {x y : Int32} (hdg : decode M.2.1 pc = .ok (.isub, 1))  (K : xC G M d (pc + 1) lv (.int (x - y) :: st) F w cv F' X) : xC G M d pc lv (.int y :: .int x :: st) F w cv F' X :=
  K.map (Nat.le_refl _) (Nat.le_refl _) fun v w' K _ _ => fun p e R s m args below meth c H locs cells slots n0 t0 ls Q C A hn hR hl hQ => lv_isub C.1 C.2.1 hdg  (K p e R s m args below meth c H locs cells slots n0 t0 ls Q C A hn hR hl hQ)
theorem y_imul {x y : Int32} (hdg : decode M.2.1 pc = .ok (.imul, 1))  (K : xC G M d (pc + 1) lv (.int (x * y) :: st) F w cv F' X) : xC G M d pc lv (.int y :: .int x :: st) F w cv F' X :=
  K.map (Nat.le_refl _) (Nat.le_refl _) fun v w' K _ _ => fun p e R s m args below meth c H locs cells slots n0 t0 ls Q C A hn hR hl hQ => lv_imul C.1 C.2.1 hdg  (K p e R s m args below meth c H locs cells slots n0 t0 ls Q C A hn hR hl hQ)
theorem y_iand {x y : Int32} (hdg : decode M.2.1 pc = .ok (.iand, 1))  (K : xC G M d (pc + 1) lv (.int (x &&& y) :: st) F w cv F' X) : xC G M d pc lv (.int y :: .int x :: st) F w cv F' X :=
  K.map (Nat.le_refl _) (Nat.le_refl _) fun v w' K _ _ => fun p e R s m args below meth c H locs cells slots n0 t0 ls Q C A hn hR hl hQ => lv_iand C.1 C.2.1 hdg  (K p e R s m args below meth c H locs cells slots n0 t0 ls Q C A hn hR hl hQ)
theorem y_ior {x y : Int32} (hdg : decode M.2.1 pc = .ok (.ior, 1))  (K : xC G M d (pc + 1) lv (.int (x ||| y) :: st) F w cv F' X) : xC G M d pc lv (.int y :: .int x :: st) F w cv F' X :=
  K.map (Nat.le_refl _) (Nat.le_refl _) fun v w' K _ _ => fun p e R s m args below meth c H locs cells slots n0 t0 ls Q C A hn hR hl hQ => lv_ior C.1 C.2.1 hdg  (K p e R s m args below meth c H locs cells slots n0 t0 ls Q C A hn hR hl hQ)
theorem y_ixor {x y : Int32} (hdg : decode M.2.1 pc = .ok (.ixor, 1))  (K : xC G M d (pc + 1) lv (.int (x ^^^ y) :: st) F w cv F' X) : xC G M d pc lv (.int y :: .int x :: st) F w cv F' X :=
  K.map (Nat.le_refl _) (Nat.le_refl _) fun v w' K _ _ => fun p e R s m args below meth c H locs cells slots n0 t0 ls Q C A hn hR hl hQ => lv_ixor C.1 C.2.1 hdg  (K p e R s m args below meth c H locs cells slots n0 t0 ls Q C A hn hR hl hQ)
theorem y_ladd {x y : Int64} (hdg : decode M.2.1 pc = .ok (.ladd, 1))  (K : xC G M d (pc + 1) lv (.long (x + y) :: st) F w cv F' X) : xC G M d pc lv (.long y :: .long x :: st) F w cv F' X :=
  K.map (Nat.le_refl _) (Nat.le_refl _) fun v w' K _ _ => fun p e R s m args below meth c H locs cells slots n0 t0 ls Q C A hn hR hl hQ => lv_ladd C.1 C.2.1 hdg  (K p e R s m args below meth c H locs cells slots n0 t0 ls Q C A hn hR hl hQ)
theorem y_lmul {x y : Int64} (hdg : decode M.2.1 pc = .ok (.lmul, 1))  (K : xC G M d (pc + 1) lv (.long (x * y) :: st) F w cv F' X) : xC G M d pc lv (.long y :: .long x :: st) F w cv F' X :=
  K.map (Nat.le_refl _) (Nat.le_refl _) fun v w' K _ _ => fun p e R s m args below meth c H locs cells slots n0 t0 ls Q C A hn hR hl hQ => lv_lmul C.1 C.2.1 hdg  (K p e R s m args below meth c H locs cells slots n0 t0 ls Q C A hn hR hl hQ)
theorem y_ineg {x : Int32} (hdg : decode M.2.1 pc = .ok (.ineg, 1))  (K : xC G M d (pc + 1) lv (.int (-x) :: st) F w cv F' X) : xC G M d pc lv (.int x :: st) F w cv F' X :=
  K.map (Nat.le_refl _) (Nat.le_refl _) fun v w' K _ _ => fun p e R s m args below meth c H locs cells slots n0 t0 ls Q C A hn hR hl hQ => lv_ineg C.1 C.2.1 hdg  (K p e R s m args below meth c H locs cells slots n0 t0 ls Q C A hn hR hl hQ)
theorem y_ishl {x y : Int32} (hdg : decode M.2.1 pc = .ok (.ishl, 1))  (K : xC G M d (pc + 1) lv (.int (x <<< (y &&& 31)) :: st) F w cv F' X) : xC G M d pc lv (.int y :: .int x :: st) F w cv F' X :=
  K.map (Nat.le_refl _) (Nat.le_refl _) fun v w' K _ _ => fun p e R s m args below meth c H locs cells slots n0 t0 ls Q C A hn hR hl hQ => lv_ishl C.1 C.2.1 hdg  (K p e R s m args below meth c H locs cells slots n0 t0 ls Q C A hn hR hl hQ)
theorem y_ishr {x y : Int32} (hdg : decode M.2.1 pc = .ok (.ishr, 1))  (K : xC G M d (pc + 1) lv (.int (x >>> (y &&& 31)) :: st) F w cv F' X) : xC G M d pc lv (.int y :: .int x :: st) F w cv F' X :=
  K.map (Nat.le_refl _) (Nat.le_refl _) fun v w' K _ _ => fun p e R s m args below meth c H locs cells slots n0 t0 ls Q C A hn hR hl hQ => lv_ishr C.1 C.2.1 hdg  (K p e R s m args below meth c H locs cells slots n0 t0 ls Q C A hn hR hl hQ)
theorem y_iushr {x y v : Int32} (hdg : decode M.2.1 pc = .ok (.iushr, 1)) (hv : (x.toUInt32 >>> (y.toUInt32 &&& Int32.toUInt32 31)).toInt32 = v) (K : xC G M d (pc + 1) lv (.int v :: st) F w cv F' X) : xC G M d pc lv (.int y :: .int x :: st) F w cv F' X :=
  K.map (Nat.le_refl _) (Nat.le_refl _) fun v w' K _ _ => fun p e R s m args below meth c H locs cells slots n0 t0 ls Q C A hn hR hl hQ => lv_iushr C.1 C.2.1 hdg hv (K p e R s m args below meth c H locs cells slots n0 t0 ls Q C A hn hR hl hQ)
theorem y_idiv {x y : Int32} (hdg : decode M.2.1 pc = .ok (.idiv, 1)) (hne : ¬ y = 0) (K : xC G M d (pc + 1) lv (.int (x / y) :: st) F w cv F' X) : xC G M d pc lv (.int y :: .int x :: st) F w cv F' X :=
  K.map (Nat.le_refl _) (Nat.le_refl _) fun v w' K _ _ => fun p e R s m args below meth c H locs cells slots n0 t0 ls Q C A hn hR hl hQ => lv_idiv C.1 C.2.1 hdg hne (K p e R s m args below meth c H locs cells slots n0 t0 ls Q C A hn hR hl hQ)
theorem y_irem {x y : Int32} (hdg : decode M.2.1 pc = .ok (.irem, 1)) (hne : ¬ y = 0) (K : xC G M d (pc + 1) lv (.int (x - x / y * y) :: st) F w cv F' X) : xC G M d pc lv (.int y :: .int x :: st) F w cv F' X :=
  K.map (Nat.le_refl _) (Nat.le_refl _) fun v w' K _ _ => fun p e R s m args below meth c H locs cells slots n0 t0 ls Q C A hn hR hl hQ => lv_irem C.1 C.2.1 hdg hne (K p e R s m args below meth c H locs cells slots n0 t0 ls Q C A hn hR hl hQ)
theorem y_ldiv {x y : Int64} (hdg : decode M.2.1 pc = .ok (.ldiv, 1)) (hne : ¬ y = 0) (K : xC G M d (pc + 1) lv (.long (x / y) :: st) F w cv F' X) : xC G M d pc lv (.long y :: .long x :: st) F w cv F' X :=
  K.map (Nat.le_refl _) (Nat.le_refl _) fun v w' K _ _ => fun p e R s m args below meth c H locs cells slots n0 t0 ls Q C A hn hR hl hQ => lv_ldiv C.1 C.2.1 hdg hne (K p e R s m args below meth c H locs cells slots n0 t0 ls Q C A hn hR hl hQ)
theorem y_lrem {x y : Int64} (hdg : decode M.2.1 pc = .ok (.lrem, 1)) (hne : ¬ y = 0) (K : xC G M d (pc + 1) lv (.long (x - x / y * y) :: st) F w cv F' X) : xC G M d pc lv (.long y :: .long x :: st) F w cv F' X :=
  K.map (Nat.le_refl _) (Nat.le_refl _) fun v w' K _ _ => fun p e R s m args below meth c H locs cells slots n0 t0 ls Q C A hn hR hl hQ => lv_lrem C.1 C.2.1 hdg hne (K p e R s m args below meth c H locs cells slots n0 t0 ls Q C A hn hR hl hQ)
theorem y_i2l {x : Int32} (hdg : decode M.2.1 pc = .ok (.i2l, 1))  (K : xC G M d (pc + 1) lv (.long x.toInt64 :: st) F w cv F' X) : xC G M d pc lv (.int x :: st) F w cv F' X :=
  K.map (Nat.le_refl _) (Nat.le_refl _) fun v w' K _ _ => fun p e R s m args below meth c H locs cells slots n0 t0 ls Q C A hn hR hl hQ => lv_i2l C.1 C.2.1 hdg rfl (K p e R s m args below meth c H locs cells slots n0 t0 ls Q C A hn hR hl hQ)
theorem y_l2i {x : Int64} (hdg : decode M.2.1 pc = .ok (.l2i, 1))  (K : xC G M d (pc + 1) lv (.int x.toInt32 :: st) F w cv F' X) : xC G M d pc lv (.long x :: st) F w cv F' X :=
  K.map (Nat.le_refl _) (Nat.le_refl _) fun v w' K _ _ => fun p e R s m args below meth c H locs cells slots n0 t0 ls Q C A hn hR hl hQ => lv_l2i C.1 C.2.1 hdg rfl (K p e R s m args below meth c H locs cells slots n0 t0 ls Q C A hn hR hl hQ)
theorem y_i2b {x : Int32} (hdg : decode M.2.1 pc = .ok (.i2b, 1))  (K : xC G M d (pc + 1) lv (.int x.toInt8.toInt32 :: st) F w cv F' X) : xC G M d pc lv (.int x :: st) F w cv F' X :=
  K.map (Nat.le_refl _) (Nat.le_refl _) fun v w' K _ _ => fun p e R s m args below meth c H locs cells slots n0 t0 ls Q C A hn hR hl hQ => lv_i2b C.1 C.2.1 hdg rfl (K p e R s m args below meth c H locs cells slots n0 t0 ls Q C A hn hR hl hQ)
theorem y_i2s {x : Int32} (hdg : decode M.2.1 pc = .ok (.i2s, 1))  (K : xC G M d (pc + 1) lv (.int x.toInt16.toInt32 :: st) F w cv F' X) : xC G M d pc lv (.int x :: st) F w cv F' X :=
  K.map (Nat.le_refl _) (Nat.le_refl _) fun v w' K _ _ => fun p e R s m args below meth c H locs cells slots n0 t0 ls Q C A hn hR hl hQ => lv_i2s C.1 C.2.1 hdg rfl (K p e R s m args below meth c H locs cells slots n0 t0 ls Q C A hn hR hl hQ)
theorem y_lcmp {x y : Int64} (hdg : decode M.2.1 pc = .ok (.lcmp, 1))  (K : xC G M d (pc + 1) lv (.int (lg_cmp x y) :: st) F w cv F' X) : xC G M d pc lv (.long y :: .long x :: st) F w cv F' X :=
  K.map (Nat.le_refl _) (Nat.le_refl _) fun v w' K _ _ => fun p e R s m args below meth c H locs cells slots n0 t0 ls Q C A hn hR hl hQ => W.lcmp C.1 C.2.1 hdg  (K p e R s m args below meth c H locs cells slots n0 t0 ls Q C A hn hR hl hQ)
theorem y_dup {va : Value} (hdg : decode M.2.1 pc = .ok (.dup, 1)) (hva : va.category = 1) (K : xC G M d (pc + 1) lv (va :: va :: st) F w cv F' X) : xC G M d pc lv (va :: st) F w cv F' X :=
  K.map (Nat.le_refl _) (Nat.le_refl _) fun v w' K _ _ => fun p e R s m args below meth c H locs cells slots n0 t0 ls Q C A hn hR hl hQ => lv_dup C.1 C.2.1 hdg ((xv_cat G va).trans hva) (K p e R s m args below meth c H locs cells slots n0 t0 ls Q C A hn hR hl hQ)
theorem y_pop {va : Value} (hdg : decode M.2.1 pc = .ok (.pop, 1)) (hva : va.category = 1) (K : xC G M d (pc + 1) lv (st) F w cv F' X) : xC G M d pc lv (va :: st) F w cv F' X :=
  K.map (Nat.le_refl _) (Nat.le_refl _) fun v w' K _ _ => fun p e R s m args below meth c H locs cells slots n0 t0 ls Q C A hn hR hl hQ => lv_pop C.1 C.2.1 hdg ((xv_cat G va).trans hva) (K p e R s m args below meth c H locs cells slots n0 t0 ls Q C A hn hR hl hQ)
theorem y_dup2 {va vb : Value} (hdg : decode M.2.1 pc = .ok (.dup2, 1)) (hva : va.category = 1) (hvb : vb.category = 1) (K : xC G M d (pc + 1) lv (va :: vb :: va :: vb :: st) F w cv F' X) : xC G M d pc lv (va :: vb :: st) F w cv F' X :=
  K.map (Nat.le_refl _) (Nat.le_refl _) fun v w' K _ _ => fun p e R s m args below meth c H locs cells slots n0 t0 ls Q C A hn hR hl hQ => lv_dup2_11 C.1 C.2.1 hdg ((xv_cat G va).trans hva) ((xv_cat G vb).trans hvb) (K p e R s m args below meth c H locs cells slots n0 t0 ls Q C A hn hR hl hQ)
theorem y_if_eq {x : Int32} {off : Int} {tgt : Nat} {X1 X2 : Option (α × xI)} (hdg : decode M.2.1 pc = .ok (.ifCond .eq off, 3)) (ht : (pc : Int) + off = (tgt : Int)) (K1 : xC G M d tgt lv st F w cv F' X1) (K2 : xC G M d (pc + 3) lv st F w cv F' X2) : xC G M d pc lv (.int x :: st) F w cv F' (if x = 0 then X1 else X2) := by
  intro a w' hX
  by_cases h : x = 0
  · rw [if_pos h] at hX
    obtain ⟨h1, h2, K⟩ := K1 a w' hX
    exact ⟨h1, h2, fun p e R s m args below meth c H locs cells slots n0 t0 ls Q C A hn hR hl hQ => lv_if_eq C.1 C.2.1 hdg ht (fun _ => K p e R s m args below meth c H locs cells slots n0 t0 ls Q C A hn hR hl hQ) (fun z => absurd h z)⟩
  · rw [if_neg h] at hX
    obtain ⟨h1, h2, K⟩ := K2 a w' hX
    exact ⟨h1, h2, fun p e R s m args below meth c H locs cells slots n0 t0 ls Q C A hn hR hl hQ => lv_if_eq C.1 C.2.1 hdg ht (fun z => absurd z h) (fun _ => K p e R s m args below meth c H locs cells slots n0 t0 ls Q C A hn hR hl hQ)⟩
theorem y_icmp_eq {x y : Int32} {off : Int} {tgt : Nat} {X1 X2 : Option (α × xI)} (hdg : decode M.2.1 pc = .ok (.if_icmp .eq off, 3)) (ht : (pc : Int) + off = (tgt : Int)) (K1 : xC G M d tgt lv st F w cv F' X1) (K2 : xC G M d (pc + 3) lv st F w cv F' X2) : xC G M d pc lv (.int y :: .int x :: st) F w cv F' (if x = y then X1 else X2) := by
  intro a w' hX
  by_cases h : x = y
  · rw [if_pos h] at hX
    obtain ⟨h1, h2, K⟩ := K1 a w' hX
    exact ⟨h1, h2, fun p e R s m args below meth c H locs cells slots n0 t0 ls Q C A hn hR hl hQ => lv_icmp_eq C.1 C.2.1 hdg ht (fun _ => K p e R s m args below meth c H locs cells slots n0 t0 ls Q C A hn hR hl hQ) (fun z => absurd h z)⟩
  · rw [if_neg h] at hX
    obtain ⟨h1, h2, K⟩ := K2 a w' hX
    exact ⟨h1, h2, fun p e R s m args below meth c H locs cells slots n0 t0 ls Q C A hn hR hl hQ => lv_icmp_eq C.1 C.2.1 hdg ht (fun z => absurd z h) (fun _ => K p e R s m args below meth c H locs cells slots n0 t0 ls Q C A hn hR hl hQ)⟩
theorem y_if_lt {x : Int32} {off : Int} {tgt : Nat} {X1 X2 : Option (α × xI)} (hdg : decode M.2.1 pc = .ok (.ifCond .lt off, 3)) (ht : (pc : Int) + off = (tgt : Int)) (K1 : xC G M d tgt lv st F w cv F' X1) (K2 : xC G M d (pc + 3) lv st F w cv F' X2) : xC G M d pc lv (.int x :: st) F w cv F' (if x < 0 then X1 else X2) := by
  intro a w' hX
  by_cases h : x < 0
  · rw [if_pos h] at hX
    obtain ⟨h1, h2, K⟩ := K1 a w' hX
    exact ⟨h1, h2, fun p e R s m args below meth c H locs cells slots n0 t0 ls Q C A hn hR hl hQ => lv_if_lt C.1 C.2.1 hdg ht (fun _ => K p e R s m args below meth c H locs cells slots n0 t0 ls Q C A hn hR hl hQ) (fun z => absurd h z)⟩
  · rw [if_neg h] at hX
    obtain ⟨h1, h2, K⟩ := K2 a w' hX
    exact ⟨h1, h2, fun p e R s m args below meth c H locs cells slots n0 t0 ls Q C A hn hR hl hQ => lv_if_lt C.1 C.2.1 hdg ht (fun z => absurd z h) (fun _ => K p e R s m args below meth c H locs cells slots n0 t0 ls Q C A hn hR hl hQ)⟩
theorem y_icmp_lt {x y : Int32} {off : Int} {tgt : Nat} {X1 X2 : Option (α × xI)} (hdg : decode M.2.1 pc = .ok (.if_icmp .lt off, 3)) (ht : (pc : Int) + off = (tgt : Int)) (K1 : xC G M d tgt lv st F w cv F' X1) (K2 : xC G M d (pc + 3) lv st F w cv F' X2) : xC G M d pc lv (.int y :: .int x :: st) F w cv F' (if x < y then X1 else X2) := by
  intro a w' hX
  by_cases h : x < y
  · rw [if_pos h] at hX
    obtain ⟨h1, h2, K⟩ := K1 a w' hX
    exact ⟨h1, h2, fun p e R s m args below meth c H locs cells slots n0 t0 ls Q C A hn hR hl hQ => lv_icmp_lt C.1 C.2.1 hdg ht (fun _ => K p e R s m args below meth c H locs cells slots n0 t0 ls Q C A hn hR hl hQ) (fun z => absurd h z)⟩
  · rw [if_neg h] at hX
    obtain ⟨h1, h2, K⟩ := K2 a w' hX
    exact ⟨h1, h2, fun p e R s m args below meth c H locs cells slots n0 t0 ls Q C A hn hR hl hQ => lv_icmp_lt C.1 C.2.1 hdg ht (fun z => absurd z h) (fun _ => K p e R s m args below meth c H locs cells slots n0 t0 ls Q C A hn hR hl hQ)⟩
theorem y_if_le {x : Int32} {off : Int} {tgt : Nat} {X1 X2 : Option (α × xI)} (hdg : decode M.2.1 pc = .ok (.ifCond .le off, 3)) (ht : (pc : Int) + off = (tgt : Int)) (K1 : xC G M d tgt lv st F w cv F' X1) (K2 : xC G M d (pc + 3) lv st F w cv F' X2) : xC G M d pc lv (.int x :: st) F w cv F' (if x ≤ 0 then X1 else X2) := by
  intro a w' hX
  by_cases h : x ≤ 0
  · rw [if_pos h] at hX
    obtain ⟨h1, h2, K⟩ := K1 a w' hX
    exact ⟨h1, h2, fun p e R s m args below meth c H locs cells slots n0 t0 ls Q C A hn hR hl hQ => lv_if_le C.1 C.2.1 hdg ht (fun _ => K p e R s m args below meth c H locs cells slots n0 t0 ls Q C A hn hR hl hQ) (fun z => absurd h z)⟩
  · rw [if_neg h] at hX
    obtain ⟨h1, h2, K⟩ := K2 a w' hX
    exact ⟨h1, h2, fun p e R s m args below meth c H locs cells slots n0 t0 ls Q C A hn hR hl hQ => lv_if_le C.1 C.2.1 hdg ht (fun z => absurd z h) (fun _ => K p e R s m args below meth c H locs cells slots n0 t0 ls Q C A hn hR hl hQ)⟩
theorem y_icmp_le {x y : Int32} {off : Int} {tgt : Nat} {X1 X2 : Option (α × xI)} (hdg : decode M.2.1 pc = .ok (.if_icmp .le off, 3)) (ht : (pc : Int) + off = (tgt : Int)) (K1 : xC G M d tgt lv st F w cv F' X1) (K2 : xC G M d (pc + 3) lv st F w cv F' X2) : xC G M d pc lv (.int y :: .int x :: st) F w cv F' (if x ≤ y then X1 else X2) := by
  intro a w' hX
  by_cases h : x ≤ y
  · rw [if_pos h] at hX
    obtain ⟨h1, h2, K⟩ := K1 a w' hX
    exact ⟨h1, h2, fun p e R s m args below meth c H locs cells slots n0 t0 ls Q C A hn hR hl hQ => lv_icmp_le C.1 C.2.1 hdg ht (fun _ => K p e R s m args below meth c H locs cells slots n0 t0 ls Q C A hn hR hl hQ) (fun z => absurd h z)⟩
  · rw [if_neg h] at hX
    obtain ⟨h1, h2, K⟩ := K2 a w' hX
    exact ⟨h1, h2, fun p e R s m args below meth c H locs cells slots n0 t0 ls Q C A hn hR hl hQ => lv_icmp_le C.1 C.2.1 hdg ht (fun z => absurd z h) (fun _ => K p e R s m args below meth c H locs cells slots n0 t0 ls Q C A hn hR hl hQ)⟩
theorem y_if_ne {x : Int32} {off : Int} {tgt : Nat} {X1 X2 : Option (α × xI)} (hdg : decode M.2.1 pc = .ok (.ifCond .ne off, 3)) (ht : (pc : Int) + off = (tgt : Int)) (K1 : xC G M d tgt lv st F w cv F' X1) (K2 : xC G M d (pc + 3) lv st F w cv F' X2) : xC G M d pc lv (.int x :: st) F w cv F' (if x = 0 then X2 else X1) := by
  intro a w' hX
  by_cases h : x = 0
  · rw [if_pos h] at hX
    obtain ⟨h1, h2, K⟩ := K2 a w' hX
    exact ⟨h1, h2, fun p e R s m args below meth c H locs cells slots n0 t0 ls Q C A hn hR hl hQ => lv_if_ne C.1 C.2.1 hdg ht (fun z => absurd h z) (fun _ => K p e R s m args below meth c H locs cells slots n0 t0 ls Q C A hn hR hl hQ)⟩
  · rw [if_neg h] at hX
    obtain ⟨h1, h2, K⟩ := K1 a w' hX
    exact ⟨h1, h2, fun p e R s m args below meth c H locs cells slots n0 t0 ls Q C A hn hR hl hQ => lv_if_ne C.1 C.2.1 hdg ht (fun _ => K p e R s m args below meth c H locs cells slots n0 t0 ls Q C A hn hR hl hQ) (fun z => absurd z h)⟩
theorem y_icmp_ne {x y : Int32} {off : Int} {tgt : Nat} {X1 X2 : Option (α × xI)} (hdg : decode M.2.1 pc = .ok (.if_icmp .ne off, 3)) (ht : (pc : Int) + off = (tgt : Int)) (K1 : xC G M d tgt lv st F w cv F' X1) (K2 : xC G M d (pc + 3) lv st F w cv F' X2) : xC G M d pc lv (.int y :: .int x :: st) F w cv F' (if x = y then X2 else X1) := by
  intro a w' hX
  by_cases h : x = y
  · rw [if_pos h] at hX
    obtain ⟨h1, h2, K⟩ := K2 a w' hX
    exact ⟨h1, h2, fun p e R s m args below meth c H locs cells slots n0 t0 ls Q C A hn hR hl hQ => lv_icmp_ne C.1 C.2.1 hdg ht (fun z => absurd h z) (fun _ => K p e R s m args below meth c H locs cells slots n0 t0 ls Q C A hn hR hl hQ)⟩
  · rw [if_neg h] at hX
    obtain ⟨h1, h2, K⟩ := K1 a w' hX
    exact ⟨h1, h2, fun p e R s m args below meth c H locs cells slots n0 t0 ls Q C A hn hR hl hQ => lv_icmp_ne C.1 C.2.1 hdg ht (fun _ => K p e R s m args below meth c H locs cells slots n0 t0 ls Q C A hn hR hl hQ) (fun z => absurd z h)⟩
theorem y_if_ge {x : Int32} {off : Int} {tgt : Nat} {X1 X2 : Option (α × xI)} (hdg : decode M.2.1 pc = .ok (.ifCond .ge off, 3)) (ht : (pc : Int) + off = (tgt : Int)) (K1 : xC G M d tgt lv st F w cv F' X1) (K2 : xC G M d (pc + 3) lv st F w cv F' X2) : xC G M d pc lv (.int x :: st) F w cv F' (if 0 ≤ x then X1 else X2) := by
  intro a w' hX
  by_cases h : 0 ≤ x
  · rw [if_pos h] at hX
    obtain ⟨h1, h2, K⟩ := K1 a w' hX
    exact ⟨h1, h2, fun p e R s m args below meth c H locs cells slots n0 t0 ls Q C A hn hR hl hQ => lv_if_ge C.1 C.2.1 hdg ht (fun _ => K p e R s m args below meth c H locs cells slots n0 t0 ls Q C A hn hR hl hQ) (fun z => absurd h z)⟩
  · rw [if_neg h] at hX
    obtain ⟨h1, h2, K⟩ := K2 a w' hX
    exact ⟨h1, h2, fun p e R s m args below meth c H locs cells slots n0 t0 ls Q C A hn hR hl hQ => lv_if_ge C.1 C.2.1 hdg ht (fun z => absurd z h) (fun _ => K p e R s m args below meth c H locs cells slots n0 t0 ls Q C A hn hR hl hQ)⟩
theorem y_icmp_ge {x y : Int32} {off : Int} {tgt : Nat} {X1 X2 : Option (α × xI)} (hdg : decode M.2.1 pc = .ok (.if_icmp .ge off, 3)) (ht : (pc : Int) + off = (tgt : Int)) (K1 : xC G M d tgt lv st F w cv F' X1) (K2 : xC G M d (pc + 3) lv st F w cv F' X2) : xC G M d pc lv (.int y :: .int x :: st) F w cv F' (if y ≤ x then X1 else X2) := by
  intro a w' hX
  by_cases h : y ≤ x
  · rw [if_pos h] at hX
    obtain ⟨h1, h2, K⟩ := K1 a w' hX
    exact ⟨h1, h2, fun p e R s m args below meth c H locs cells slots n0 t0 ls Q C A hn hR hl hQ => lv_icmp_ge C.1 C.2.1 hdg ht (fun _ => K p e R s m args below meth c H locs cells slots n0 t0 ls Q C A hn hR hl hQ) (fun z => absurd h z)⟩
  · rw [if_neg h] at hX
    obtain ⟨h1, h2, K⟩ := K2 a w' hX
    exact ⟨h1, h2, fun p e R s m args below meth c H locs cells slots n0 t0 ls Q C A hn hR hl hQ => lv_icmp_ge C.1 C.2.1 hdg ht (fun z => absurd z h) (fun _ => K p e R s m args below meth c H locs cells slots n0 t0 ls Q C A hn hR hl hQ)⟩
theorem y_if_gt {x : Int32} {off : Int} {tgt : Nat} {X1 X2 : Option (α × xI)} (hdg : decode M.2.1 pc = .ok (.ifCond .gt off, 3)) (ht : (pc : Int) + off = (tgt : Int)) (K1 : xC G M d tgt lv st F w cv F' X1) (K2 : xC G M d (pc + 3) lv st F w cv F' X2) : xC G M d pc lv (.int x :: st) F w cv F' (if 0 < x then X1 else X2) := by
  intro a w' hX
  by_cases h : 0 < x
  · rw [if_pos h] at hX
    obtain ⟨h1, h2, K⟩ := K1 a w' hX
    exact ⟨h1, h2, fun p e R s m args below meth c H locs cells slots n0 t0 ls Q C A hn hR hl hQ => lv_if_gt C.1 C.2.1 hdg ht (fun _ => K p e R s m args below meth c H locs cells slots n0 t0 ls Q C A hn hR hl hQ) (fun z => absurd h z)⟩
  · rw [if_neg h] at hX
    obtain ⟨h1, h2, K⟩ := K2 a w' hX
    exact ⟨h1, h2, fun p e R s m args below meth c H locs cells slots n0 t0 ls Q C A hn hR hl hQ => lv_if_gt C.1 C.2.1 hdg ht (fun z => absurd z h) (fun _ => K p e R s m args below meth c H locs cells slots n0 t0 ls Q C A hn hR hl hQ)⟩
theorem y_icmp_gt {x y : Int32} {off : Int} {tgt : Nat} {X1 X2 : Option (α × xI)} (hdg : decode M.2.1 pc = .ok (.if_icmp .gt off, 3)) (ht : (pc : Int) + off = (tgt : Int)) (K1 : xC G M d tgt lv st F w cv F' X1) (K2 : xC G M d (pc + 3) lv st F w cv F' X2) : xC G M d pc lv (.int y :: .int x :: st) F w cv F' (if y < x then X1 else X2) := by
  intro a w' hX
  by_cases h : y < x
  · rw [if_pos h] at hX
    obtain ⟨h1, h2, K⟩ := K1 a w' hX
    exact ⟨h1, h2, fun p e R s m args below meth c H locs cells slots n0 t0 ls Q C A hn hR hl hQ => lv_icmp_gt C.1 C.2.1 hdg ht (fun _ => K p e R s m args below meth c H locs cells slots n0 t0 ls Q C A hn hR hl hQ) (fun z => absurd h z)⟩
  · rw [if_neg h] at hX
    obtain ⟨h1, h2, K⟩ := K2 a w' hX
    exact ⟨h1, h2, fun p e R s m args below meth c H locs cells slots n0 t0 ls Q C A hn hR hl hQ => lv_icmp_gt C.1 C.2.1 hdg ht (fun z => absurd z h) (fun _ => K p e R s m args below meth c H locs cells slots n0 t0 ls Q C A hn hR hl hQ)⟩
theorem y_goto {off : Int} {tgt : Nat} (hdg : decode M.2.1 pc = .ok (.goto off, 3)) (ht : (pc : Int) + off = (tgt : Int)) (K : xC G M d tgt lv st F w cv F' X) : xC G M d pc lv st F w cv F' X :=
  K.map (Nat.le_refl _) (Nat.le_refl _) fun v w' K _ _ => fun p e R s m args below meth c H locs cells slots n0 t0 ls Q C A hn hR hl hQ => lv_goto C.1 C.2.1 hdg ht (K p e R s m args below meth c H locs cells slots n0 t0 ls Q C A hn hR hl hQ)
theorem xC.ite {c : Prop} {hd : Decidable c} {X1 X2 : Option (α × xI)} (K1 : c → xC G M d pc lv st F w cv F' X1) (K2 : ¬ c → xC G M d pc lv st F w cv F' X2) : xC G M d pc lv st F w cv F' (@ite _ c hd X1 X2) := by
  intro a w' hX
  by_cases h : c
  · rw [if_pos h] at hX; exact K1 h a w' hX
  · rw [if_neg h] at hX; exact K2 h a w' hX
theorem xC.chk {b : Bool} (K : b = true → xC G M d pc lv st F w cv F' X) : xC G M d pc lv st F w cv F' (xchk b X) := by
  intro a w' hX
  cases b with
  | true => exact K rfl a w' hX
  | false => cases hX
theorem xC.none : xC G M d pc lv st F w cv F' none := fun a w' hX => by cases hX
theorem y_table {dflt lo hi : Int} {offs : Array Int} {len tgt : Nat} {off : Int} {x v : Int32} (hdg : decode M.2.1 pc = .ok (.tableswitch dflt lo hi offs, len)) (hx : x = v) (h1 : ¬ v.toInt < lo) (h2 : ¬ hi < v.toInt) (ho : offs[(v.toInt - lo).toNat]? = some off) (ht : (pc : Int) + off = (tgt : Int)) (K : xC G M d tgt lv st F w cv F' X) : xC G M d pc lv (.int x :: st) F w cv F' X :=
  K.map (Nat.le_refl _) (Nat.le_refl _) fun v w' K _ _ => fun p e R s m args below meth c H locs cells slots n0 t0 ls Q C A hn hR hl hQ => hx ▸ lv_tableIn C.1 C.2.1 hdg h1 h2 ho ht (K p e R s m args below meth c H locs cells slots n0 t0 ls Q C A hn hR hl hQ)
theorem y_tableD {dflt lo hi : Int} {offs : Array Int} {len tgt : Nat} {x : Int32} (hdg : decode M.2.1 pc = .ok (.tableswitch dflt lo hi offs, len)) (h : x.toInt < lo ∨ hi < x.toInt) (ht : (pc : Int) + dflt = (tgt : Int)) (K : xC G M d tgt lv st F w cv F' X) : xC G M d pc lv (.int x :: st) F w cv F' X :=
  K.map (Nat.le_refl _) (Nat.le_refl _) fun v w' K _ _ => fun p e R s m args below meth c H locs cells slots n0 t0 ls Q C A hn hR hl hQ => lv_tableOut C.1 C.2.1 hdg h ht (K p e R s m args below meth c H locs cells slots n0 t0 ls Q C A hn hR hl hQ)
theorem y_lookup {dflt : Int} {ps : Array (Int × Int)} {len tgt : Nat} {off : Int} {x : Int32} (hdg : decode M.2.1 pc = .ok (.lookupswitch dflt ps, len)) (hp : (ps.toList.zip (ps.toList.drop 1)).all (fun (a, next) => a.1 < next.1) = true) (ho : Op.lookupswitch.offset ps.toList dflt x.toInt = off) (ht : (pc : Int) + off = (tgt : Int)) (K : xC G M d tgt lv st F w cv F' X) : xC G M d pc lv (.int x :: st) F w cv F' X :=
  K.map (Nat.le_refl _) (Nat.le_refl _) fun v w' K _ _ => fun p e R s m args below meth c H locs cells slots n0 t0 ls Q C A hn hR hl hQ => lv_lookup C.1 C.2.1 hdg hp ho ht (K p e R s m args below meth c H locs cells slots n0 t0 ls Q C A hn hR hl hQ)
theorem y_ireturn {x : Int32} {a0 : α} (hdg : decode M.2.1 pc = .ok (.ireturn, 1)) {ty : FieldType} (hr : M.2.2.2 = some ty) (hn9 : narrow ty (.int x) = .int x) (hc : cv a0 = some (.int x)) : xC G M d pc lv [.int x] F w cv F (some (a0, w)) := by
  intro a w' hX
  cases hX
  refine ⟨Nat.le_refl _, Nat.le_refl _, fun p e R s m args below meth c H locs cells slots n0 t0 ls Q C A hn hR hl hQ => ?_⟩
  rw [hc] at hQ
  exact hQ H locs cells slots pc ls A hn.1 hn.2 ⟨hdg, ty, hr, hn9⟩
theorem y_lreturn {x : Int64} {a0 : α} (hdg : decode M.2.1 pc = .ok (.lreturn, 1)) (hr : M.2.2.2 = some .long) (hc : cv a0 = some (.long x)) : xC G M d pc lv [.long x] F w cv F (some (a0, w)) := by
  intro a w' hX
  cases hX
  refine ⟨Nat.le_refl _, Nat.le_refl _, fun p e R s m args below meth c H locs cells slots n0 t0 ls Q C A hn hR hl hQ => ?_⟩
  rw [hc] at hQ
  exact hQ H locs cells slots pc ls A hn.1 hn.2 ⟨hdg, hr⟩
theorem y_areturn {x : Nat} {a0 : α} (hdg : decode M.2.1 pc = .ok (.areturn, 1)) {n : String} (hr : M.2.2.2 = some (.object n)) (hc : cv a0 = some (.ref x)) : xC G M d pc lv [.ref x] F w cv F (some (a0, w)) := by
  intro a w' hX
  cases hX
  refine ⟨Nat.le_refl _, Nat.le_refl _, fun p e R s m args below meth c H locs cells slots n0 t0 ls Q C A hn hR hl hQ => ?_⟩
  rw [hc] at hQ
  exact hQ H locs cells slots pc ls A hn.1 hn.2 ⟨hdg, n, hr⟩
theorem y_zreturn {x : Int32} {a0 : α} (hdg : decode M.2.1 pc = .ok (.ireturn, 1)) (hr : M.2.2.2 = some .boolean) (hc : cv a0 = some (.int x)) : xC G M d pc lv [.int x] F w cv F (xchk (decide (x = 0 ∨ x = 1)) (some (a0, w))) :=
  xC.chk (fun hb => y_ireturn hdg hr (by rcases of_decide_eq_true hb with h | h <;> rw [h] <;> rfl) hc)
theorem y_return {a0 : α} (hdg : decode M.2.1 pc = .ok (.return_, 1)) (hr : M.2.2.2 = none) (hc : cv a0 = none) : xC G M d pc lv [] F w cv F (some (a0, w)) := by
  intro a w' hX
  cases hX
  refine ⟨Nat.le_refl _, Nat.le_refl _, fun p e R s m args below meth c H locs cells slots n0 t0 ls Q C A hn hR hl hQ => ?_⟩
  rw [hc] at hQ
  exact hQ H locs cells slots pc ls A hn.1 hn.2 ⟨hdg, hr⟩
theorem y_sub (lv' : List (Nat × Value)) (ks : List Nat) (hk : lv_pick lv ks = lv') (K : xC G M d pc lv' st F w cv F' X) : xC G M d pc lv st F w cv F' X :=
  K.map (Nat.le_refl _) (Nat.le_refl _) fun v w' K _ _ => fun p e R s m args below meth c H locs cells slots n0 t0 ls Q C A hn hR hl hQ => K p e R s m args below meth c H locs cells slots n0 t0 ls Q C A hn hR (lv_sub hl ks (by rw [← hk]; unfold lv_pick; rw [List.map_filterMap]; exact congrArg (fun f => List.filterMap f ks) (funext fun k => List.getElem?_map))) hQ
theorem xf_read {ci j : Nat} {k : Nat} (hk : k < F.1) (hsh : F.2.2.1 k = .inl ci) : (xWs G F w)[k]? = some (G.2.1 + k, .inr (ci, (List.range (xN ci)).map (fun j => xval G (xTy ci j) (w k j) (F.2.2.2 k j (w k j))))) := by rw [xWs_get hk, xcell_obj hsh]
theorem y_getv {idx ci j k : Nat} {fin : Bool} {u : Value} (hdg : decode M.2.1 pc = .ok (.getfield idx, 3)) (fl : xFld M.1.cls idx ci j fin) (hk : k < F.1) (hsh : F.2.2.1 k = .inl ci) (hu : xval G (xTy ci j) (w k j) (F.2.2.2 k j (w k j)) = xv G u) (K : xC G M d (pc + 3) lv (u :: st) F w cv F' X) : xC G M d pc lv (.ref k :: st) F w cv F' X := by
  refine K.map (Nat.le_refl _) (Nat.le_refl _) fun v w' K hle _ => fun p e R s m args below meth c H locs cells slots n0 t0 ls Q C A hn hR hl hQ => ?_
  obtain ⟨C0, T, N, ref, h1, h2, h3, h4, h5, h6, h7, h8, h9⟩ := fl
  have ha : xv G (.ref k) = .ref (G.2.1 + k) := congrArg Value.ref (xa_lo (by omega))
  rw [List.map_cons, ha]
  exact va_get (cl := xCl) (ci := ci) (T := T) (N := N) (C := C0) C.1 C.2.1 C.2.2.2.2.1 h4 C.2.2.2.1 C.2.2.2.2.2.2.2.2.1 A.2.1 k (xf_read (j := j) hk hsh) h1 j h3 (C.2.2.2.2.1 _ h5) (fun x hx => by rw [h6] at hx; exact hx) (v := xv G u) (by rw [List.getElem?_map, List.getElem?_range (by omega)]; exact congrArg some hu) hdg (K p e R s m args below meth c H locs cells slots n0 t0 ls Q C A hn hR hl hQ)
theorem y_geti {idx ci j k : Nat} {fin : Bool} (hdg : decode M.2.1 pc = .ok (.getfield idx, 3)) (fl : xFld M.1.cls idx ci j fin) (hk : k < F.1) (hsh : F.2.2.1 k = .inl ci) (hty : xRef (xTy ci j) = false) (K : xC G M d (pc + 3) lv (.int (w k j) :: st) F w cv F' X) : xC G M d pc lv (.ref k :: st) F w cv F' X :=
  y_getv hdg fl hk hsh (by unfold xval; rw [hty]; rfl) K
theorem y_getr {idx ci j k q : Nat} {fin : Bool} (hdg : decode M.2.1 pc = .ok (.getfield idx, 3)) (fl : xFld M.1.cls idx ci j fin) (hk : k < F.1) (hsh : F.2.2.1 k = .inl ci) (hty : xRef (xTy ci j) = true) (hr : F.2.2.2 k j (w k j) = some q) (K : xC G M d (pc + 3) lv (.ref q :: st) F w cv F' X) : xC G M d pc lv (.ref k :: st) F w cv F' X :=
  y_getv hdg fl hk hsh (by unfold xval; rw [hty, hr]; rfl) K
end XR
