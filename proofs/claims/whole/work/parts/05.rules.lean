section RULES2
variable {l : Launch} {G : Gt} {M : Mt} {α : Type} {rv : α → Option Value} {pc q : Nat} {L L' : List (Nat × Value)} {st : List Value} {σ : Sg} {E E1 E2 : Option (α × Sg)}
theorem Aw.iconst {n : Int} {v : Int32} (hv : Int32.ofInt n = v) (hq : pc + 1 = q) (d : decode M.2.1 pc = .ok (.iconst n, 1)) (k : Aw l G M rv q L (.int v :: st) σ E) : Aw l G M rv pc L (st) σ E := by
  subst hq; exact fun a σ' hE p e s m args below meth c X ls H locs hl hP hS => lv_iconst X.1 X.2.1 d hv (k a σ' hE p e s m args below meth c X ls H locs hl hP hS)
theorem Aw.bipush {n : Int} {v : Int32} (hv : (Int8.ofInt n).toInt32 = v) (hq : pc + 2 = q) (d : decode M.2.1 pc = .ok (.bipush n, 2)) (k : Aw l G M rv q L (.int v :: st) σ E) : Aw l G M rv pc L (st) σ E := by
  subst hq; exact fun a σ' hE p e s m args below meth c X ls H locs hl hP hS => lv_bipush X.1 X.2.1 d hv (k a σ' hE p e s m args below meth c X ls H locs hl hP hS)
theorem Aw.sipush {n : Int} {v : Int32} (hv : (Int16.ofInt n).toInt32 = v) (hq : pc + 3 = q) (d : decode M.2.1 pc = .ok (.sipush n, 3)) (k : Aw l G M rv q L (.int v :: st) σ E) : Aw l G M rv pc L (st) σ E := by
  subst hq; exact fun a σ' hE p e s m args below meth c X ls H locs hl hP hS => lv_sipush X.1 X.2.1 d hv (k a σ' hE p e s m args below meth c X ls H locs hl hP hS)
theorem Aw.ldc {i : Nat} {v : Int32} (hw : Cond.constant M.1 i v ∈ gtb) (hq : pc + 2 = q) (d : decode M.2.1 pc = .ok (.ldc i, 2)) (k : Aw l G M rv q L (.int v :: st) σ E) : Aw l G M rv pc L (st) σ E := by
  subst hq; exact fun a σ' hE p e s m args below meth c X ls H locs hl hP hS => lv_ldc X.1 X.2.1 X.2.2.2.2.1 (X.2.2.2.2.2.1 _ hw) d (k a σ' hE p e s m args below meth c X ls H locs hl hP hS)
theorem Aw.ldcw {i : Nat} {v : Int32} (hw : Cond.constant M.1 i v ∈ gtb) (hq : pc + 3 = q) (d : decode M.2.1 pc = .ok (.ldc_w i, 3)) (k : Aw l G M rv q L (.int v :: st) σ E) : Aw l G M rv pc L (st) σ E := by
  subst hq; exact fun a σ' hE p e s m args below meth c X ls H locs hl hP hS => lv_ldcw X.1 X.2.1 X.2.2.2.2.1 (X.2.2.2.2.2.1 _ hw) d (k a σ' hE p e s m args below meth c X ls H locs hl hP hS)
theorem Aw.ldc2 {i : Nat} {v : Int64} (hw : Cond.constantLong M.1 i v ∈ gtb) (hq : pc + 3 = q) (d : decode M.2.1 pc = .ok (.ldc2_w i, 3)) (k : Aw l G M rv q L (.long v :: st) σ E) : Aw l G M rv pc L (st) σ E := by
  subst hq; exact fun a σ' hE p e s m args below meth c X ls H locs hl hP hS => lv_ldc2 X.1 X.2.1 X.2.2.2.2.1 (X.2.2.2.2.2.1 _ hw) d (k a σ' hE p e s m args below meth c X ls H locs hl hP hS)
theorem Aw.iload_n {i : Fin 4} {x : Int32} (j : Nat) (hj : L[j]? = some (i.val, .int x)) (hq : pc + 1 = q) (d : decode M.2.1 pc = .ok (.iload_n i, 1)) (k : Aw l G M rv q L (.int x :: st) σ E) : Aw l G M rv pc L (st) σ E := by
  subst hq; exact fun a σ' hE p e s m args below meth c X ls H locs hl hP hS => lv_iload_n X.1 X.2.1 d rfl (lv_at hl j hj) (k a σ' hE p e s m args below meth c X ls H locs hl hP hS)
theorem Aw.iload {i : Nat} {x : Int32} (j : Nat) (hj : L[j]? = some (i, .int x)) (hq : pc + 2 = q) (d : decode M.2.1 pc = .ok (.iload i, 2)) (k : Aw l G M rv q L (.int x :: st) σ E) : Aw l G M rv pc L (st) σ E := by
  subst hq; exact fun a σ' hE p e s m args below meth c X ls H locs hl hP hS => lv_iload X.1 X.2.1 d (lv_at hl j hj) (k a σ' hE p e s m args below meth c X ls H locs hl hP hS)
theorem Aw.istore_n {i : Fin 4} {x : Int32} (hn : i.val < M.2.2.1) (hl' : (i.val, Value.int x) :: L.filter (fun q => !(q.1 == i.val) && !(q.1 + 1 == i.val && q.2.category == 2)) = L') (hq : pc + 1 = q) (d : decode M.2.1 pc = .ok (.istore_n i, 1)) (k : Aw l G M rv q L' (st) σ E) : Aw l G M rv pc L (.int x :: st) σ E := by
  subst hq; exact fun a σ' hE p e s m args below meth c X ls H locs hl hP hS => lv_istore_n X.1 X.2.1 d rfl hl hn hl' (fun ls hl => k a σ' hE p e s m args below meth c X ls H locs hl hP hS)
theorem Aw.istore {i : Nat} {x : Int32} (hn : i < M.2.2.1) (hl' : (i, Value.int x) :: L.filter (fun q => !(q.1 == i) && !(q.1 + 1 == i && q.2.category == 2)) = L') (hq : pc + 2 = q) (d : decode M.2.1 pc = .ok (.istore i, 2)) (k : Aw l G M rv q L' (st) σ E) : Aw l G M rv pc L (.int x :: st) σ E := by
  subst hq; exact fun a σ' hE p e s m args below meth c X ls H locs hl hP hS => lv_istore X.1 X.2.1 d hl hn hl' (fun ls hl => k a σ' hE p e s m args below meth c X ls H locs hl hP hS)
theorem Aw.lload_n {i : Fin 4} {x : Int64} (j : Nat) (hj : L[j]? = some (i.val, .long x)) (hq : pc + 1 = q) (d : decode M.2.1 pc = .ok (.lload_n i, 1)) (k : Aw l G M rv q L (.long x :: st) σ E) : Aw l G M rv pc L (st) σ E := by
  subst hq; exact fun a σ' hE p e s m args below meth c X ls H locs hl hP hS => lv_lload_n X.1 X.2.1 d rfl (lv_at hl j hj) (k a σ' hE p e s m args below meth c X ls H locs hl hP hS)
theorem Aw.lload {i : Nat} {x : Int64} (j : Nat) (hj : L[j]? = some (i, .long x)) (hq : pc + 2 = q) (d : decode M.2.1 pc = .ok (.lload i, 2)) (k : Aw l G M rv q L (.long x :: st) σ E) : Aw l G M rv pc L (st) σ E := by
  subst hq; exact fun a σ' hE p e s m args below meth c X ls H locs hl hP hS => lv_lload X.1 X.2.1 d (lv_at hl j hj) (k a σ' hE p e s m args below meth c X ls H locs hl hP hS)
theorem Aw.lstore_n {i : Fin 4} {x : Int64} (hn : i.val + 1 < M.2.2.1) (hl' : (i.val, Value.long x) :: L.filter (fun q => !(q.1 == i.val) && (!(q.1 == i.val + 1) && !(q.1 + 1 == i.val && q.2.category == 2))) = L') (hq : pc + 1 = q) (d : decode M.2.1 pc = .ok (.lstore_n i, 1)) (k : Aw l G M rv q L' (st) σ E) : Aw l G M rv pc L (.long x :: st) σ E := by
  subst hq; exact fun a σ' hE p e s m args below meth c X ls H locs hl hP hS => lv_lstore_n X.1 X.2.1 d rfl hl hn hl' (fun ls hl => k a σ' hE p e s m args below meth c X ls H locs hl hP hS)
theorem Aw.lstore {i : Nat} {x : Int64} (hn : i + 1 < M.2.2.1) (hl' : (i, Value.long x) :: L.filter (fun q => !(q.1 == i) && (!(q.1 == i + 1) && !(q.1 + 1 == i && q.2.category == 2))) = L') (hq : pc + 2 = q) (d : decode M.2.1 pc = .ok (.lstore i, 2)) (k : Aw l G M rv q L' (st) σ E) : Aw l G M rv pc L (.long x :: st) σ E := by
  subst hq; exact fun a σ' hE p e s m args below meth c X ls H locs hl hP hS => lv_lstore X.1 X.2.1 d hl hn hl' (fun ls hl => k a σ' hE p e s m args below meth c X ls H locs hl hP hS)
theorem Aw.aload_n {i : Fin 4} {x : Nat} (j : Nat) (hj : L[j]? = some (i.val, .ref x)) (hq : pc + 1 = q) (d : decode M.2.1 pc = .ok (.aload_n i, 1)) (k : Aw l G M rv q L (.ref x :: st) σ E) : Aw l G M rv pc L (st) σ E := by
  subst hq; exact fun a σ' hE p e s m args below meth c X ls H locs hl hP hS => lv_aload_n X.1 X.2.1 d rfl (lv_at hl j hj) (k a σ' hE p e s m args below meth c X ls H locs hl hP hS)
theorem Aw.aload {i : Nat} {x : Nat} (j : Nat) (hj : L[j]? = some (i, .ref x)) (hq : pc + 2 = q) (d : decode M.2.1 pc = .ok (.aload i, 2)) (k : Aw l G M rv q L (.ref x :: st) σ E) : Aw l G M rv pc L (st) σ E := by
  subst hq; exact fun a σ' hE p e s m args below meth c X ls H locs hl hP hS => lv_aload X.1 X.2.1 d (lv_at hl j hj) (k a σ' hE p e s m args below meth c X ls H locs hl hP hS)
theorem Aw.astore_n {i : Fin 4} {x : Nat} (hn : i.val < M.2.2.1) (hl' : (i.val, Value.ref x) :: L.filter (fun q => !(q.1 == i.val) && !(q.1 + 1 == i.val && q.2.category == 2)) = L') (hq : pc + 1 = q) (d : decode M.2.1 pc = .ok (.astore_n i, 1)) (k : Aw l G M rv q L' (st) σ E) : Aw l G M rv pc L (.ref x :: st) σ E := by
  subst hq; exact fun a σ' hE p e s m args below meth c X ls H locs hl hP hS => lv_astore_n X.1 X.2.1 d rfl hl hn hl' (fun ls hl => k a σ' hE p e s m args below meth c X ls H locs hl hP hS)
theorem Aw.astore {i : Nat} {x : Nat} (hn : i < M.2.2.1) (hl' : (i, Value.ref x) :: L.filter (fun q => !(q.1 == i) && !(q.1 + 1 == i && q.2.category == 2)) = L') (hq : pc + 2 = q) (d : decode M.2.1 pc = .ok (.astore i, 2)) (k : Aw l G M rv q L' (st) σ E) : Aw l G M rv pc L (.ref x :: st) σ E := by
  subst hq; exact fun a σ' hE p e s m args below meth c X ls H locs hl hP hS => lv_astore X.1 X.2.1 d hl hn hl' (fun ls hl => k a σ' hE p e s m args below meth c X ls H locs hl hP hS)
theorem Aw.iinc {i : Nat} {n : Int} {x v : Int32} (j : Nat) (hj : L[j]? = some (i, .int x)) (hv : x + Int32.ofInt n = v) (hn : i < M.2.2.1) (hl' : (i, Value.int v) :: L.filter (fun q => !(q.1 == i) && !(q.1 + 1 == i && q.2.category == 2)) = L') (hq : pc + 3 = q) (d : decode M.2.1 pc = .ok (.iinc i n, 3)) (k : Aw l G M rv q L' (st) σ E) : Aw l G M rv pc L (st) σ E := by
  subst hq; exact fun a σ' hE p e s m args below meth c X ls H locs hl hP hS => lv_iinc X.1 X.2.1 d hl hj hv hn hl' (fun ls hl => k a σ' hE p e s m args below meth c X ls H locs hl hP hS)
theorem Aw.iadd {x y : Int32} (hq : pc + 1 = q) (d : decode M.2.1 pc = .ok (.iadd, 1)) (k : Aw l G M rv q L (.int (x + y) :: st) σ E) : Aw l G M rv pc L (.int y :: .int x :: st) σ E := by
  subst hq; exact fun a σ' hE p e s m args below meth c X ls H locs hl hP hS => lv_iadd X.1 X.2.1 d (k a σ' hE p e s m args below meth c X ls H locs hl hP hS)
theorem Aw.isub {x y : Int32} (hq : pc + 1 = q) (d : decode M.2.1 pc = .ok (.isub, 1)) (k : Aw l G M rv q L (.int (x - y) :: st) σ E) : Aw l G M rv pc L (.int y :: .int x :: st) σ E := by
  subst hq; exact fun a σ' hE p e s m args below meth c X ls H locs hl hP hS => lv_isub X.1 X.2.1 d (k a σ' hE p e s m args below meth c X ls H locs hl hP hS)
theorem Aw.imul {x y : Int32} (hq : pc + 1 = q) (d : decode M.2.1 pc = .ok (.imul, 1)) (k : Aw l G M rv q L (.int (x * y) :: st) σ E) : Aw l G M rv pc L (.int y :: .int x :: st) σ E := by
  subst hq; exact fun a σ' hE p e s m args below meth c X ls H locs hl hP hS => lv_imul X.1 X.2.1 d (k a σ' hE p e s m args below meth c X ls H locs hl hP hS)
theorem Aw.iand {x y : Int32} (hq : pc + 1 = q) (d : decode M.2.1 pc = .ok (.iand, 1)) (k : Aw l G M rv q L (.int (x &&& y) :: st) σ E) : Aw l G M rv pc L (.int y :: .int x :: st) σ E := by
  subst hq; exact fun a σ' hE p e s m args below meth c X ls H locs hl hP hS => lv_iand X.1 X.2.1 d (k a σ' hE p e s m args below meth c X ls H locs hl hP hS)
theorem Aw.ior {x y : Int32} (hq : pc + 1 = q) (d : decode M.2.1 pc = .ok (.ior, 1)) (k : Aw l G M rv q L (.int (x ||| y) :: st) σ E) : Aw l G M rv pc L (.int y :: .int x :: st) σ E := by
  subst hq; exact fun a σ' hE p e s m args below meth c X ls H locs hl hP hS => lv_ior X.1 X.2.1 d (k a σ' hE p e s m args below meth c X ls H locs hl hP hS)
theorem Aw.ixor {x y : Int32} (hq : pc + 1 = q) (d : decode M.2.1 pc = .ok (.ixor, 1)) (k : Aw l G M rv q L (.int (x ^^^ y) :: st) σ E) : Aw l G M rv pc L (.int y :: .int x :: st) σ E := by
  subst hq; exact fun a σ' hE p e s m args below meth c X ls H locs hl hP hS => lv_ixor X.1 X.2.1 d (k a σ' hE p e s m args below meth c X ls H locs hl hP hS)
theorem Aw.ishl {x y : Int32} (hq : pc + 1 = q) (d : decode M.2.1 pc = .ok (.ishl, 1)) (k : Aw l G M rv q L (.int (x <<< (y &&& 31)) :: st) σ E) : Aw l G M rv pc L (.int y :: .int x :: st) σ E := by
  subst hq; exact fun a σ' hE p e s m args below meth c X ls H locs hl hP hS => lv_ishl X.1 X.2.1 d (k a σ' hE p e s m args below meth c X ls H locs hl hP hS)
theorem Aw.ishr {x y : Int32} (hq : pc + 1 = q) (d : decode M.2.1 pc = .ok (.ishr, 1)) (k : Aw l G M rv q L (.int (x >>> (y &&& 31)) :: st) σ E) : Aw l G M rv pc L (.int y :: .int x :: st) σ E := by
  subst hq; exact fun a σ' hE p e s m args below meth c X ls H locs hl hP hS => lv_ishr X.1 X.2.1 d (k a σ' hE p e s m args below meth c X ls H locs hl hP hS)
theorem Aw.iushr {x y : Int32} (hq : pc + 1 = q) (d : decode M.2.1 pc = .ok (.iushr, 1)) (k : Aw l G M rv q L (.int ((x.toUInt32 >>> (y.toUInt32 &&& Int32.toUInt32 31)).toInt32) :: st) σ E) : Aw l G M rv pc L (.int y :: .int x :: st) σ E := by
  subst hq; exact fun a σ' hE p e s m args below meth c X ls H locs hl hP hS => lv_iushr X.1 X.2.1 d rfl (k a σ' hE p e s m args below meth c X ls H locs hl hP hS)
theorem Aw.idiv {x y : Int32} (hne : ¬ y = 0) (hq : pc + 1 = q) (d : decode M.2.1 pc = .ok (.idiv, 1)) (k : Aw l G M rv q L (.int (x / y) :: st) σ E) : Aw l G M rv pc L (.int y :: .int x :: st) σ E := by
  subst hq; exact fun a σ' hE p e s m args below meth c X ls H locs hl hP hS => lv_idiv X.1 X.2.1 d hne (k a σ' hE p e s m args below meth c X ls H locs hl hP hS)
theorem Aw.irem {x y : Int32} (hne : ¬ y = 0) (hq : pc + 1 = q) (d : decode M.2.1 pc = .ok (.irem, 1)) (k : Aw l G M rv q L (.int (x - x / y * y) :: st) σ E) : Aw l G M rv pc L (.int y :: .int x :: st) σ E := by
  subst hq; exact fun a σ' hE p e s m args below meth c X ls H locs hl hP hS => lv_irem X.1 X.2.1 d hne (k a σ' hE p e s m args below meth c X ls H locs hl hP hS)
theorem Aw.ladd {x y : Int64} (hq : pc + 1 = q) (d : decode M.2.1 pc = .ok (.ladd, 1)) (k : Aw l G M rv q L (.long (x + y) :: st) σ E) : Aw l G M rv pc L (.long y :: .long x :: st) σ E := by
  subst hq; exact fun a σ' hE p e s m args below meth c X ls H locs hl hP hS => lv_ladd X.1 X.2.1 d (k a σ' hE p e s m args below meth c X ls H locs hl hP hS)
theorem Aw.lmul {x y : Int64} (hq : pc + 1 = q) (d : decode M.2.1 pc = .ok (.lmul, 1)) (k : Aw l G M rv q L (.long (x * y) :: st) σ E) : Aw l G M rv pc L (.long y :: .long x :: st) σ E := by
  subst hq; exact fun a σ' hE p e s m args below meth c X ls H locs hl hP hS => lv_lmul X.1 X.2.1 d (k a σ' hE p e s m args below meth c X ls H locs hl hP hS)
theorem Aw.i2l {x : Int32} (hq : pc + 1 = q) (d : decode M.2.1 pc = .ok (.i2l, 1)) (k : Aw l G M rv q L (.long x.toInt64 :: st) σ E) : Aw l G M rv pc L (.int x :: st) σ E := by
  subst hq; exact fun a σ' hE p e s m args below meth c X ls H locs hl hP hS => lv_i2l X.1 X.2.1 d rfl (k a σ' hE p e s m args below meth c X ls H locs hl hP hS)
theorem Aw.dupi {x : Int32} (hq : pc + 1 = q) (d : decode M.2.1 pc = .ok (.dup, 1)) (k : Aw l G M rv q L (.int x :: .int x :: st) σ E) : Aw l G M rv pc L (.int x :: st) σ E := by
  subst hq; exact fun a σ' hE p e s m args below meth c X ls H locs hl hP hS => lv_dup X.1 X.2.1 d rfl (k a σ' hE p e s m args below meth c X ls H locs hl hP hS)
theorem Aw.dupr {x : Nat} (hq : pc + 1 = q) (d : decode M.2.1 pc = .ok (.dup, 1)) (k : Aw l G M rv q L (.ref x :: .ref x :: st) σ E) : Aw l G M rv pc L (.ref x :: st) σ E := by
  subst hq; exact fun a σ' hE p e s m args below meth c X ls H locs hl hP hS => lv_dup X.1 X.2.1 d rfl (k a σ' hE p e s m args below meth c X ls H locs hl hP hS)
theorem Aw.dup2 {x : Int32} {y : Nat} (hq : pc + 1 = q) (d : decode M.2.1 pc = .ok (.dup2, 1)) (k : Aw l G M rv q L (.int x :: .ref y :: .int x :: .ref y :: st) σ E) : Aw l G M rv pc L (.int x :: .ref y :: st) σ E := by
  subst hq; exact fun a σ' hE p e s m args below meth c X ls H locs hl hP hS => lv_dup2_11 X.1 X.2.1 d rfl rfl (k a σ' hE p e s m args below meth c X ls H locs hl hP hS)
theorem Aw.pop {x : Int32} (hq : pc + 1 = q) (d : decode M.2.1 pc = .ok (.pop, 1)) (k : Aw l G M rv q L (st) σ E) : Aw l G M rv pc L (.int x :: st) σ E := by
  subst hq; exact fun a σ' hE p e s m args below meth c X ls H locs hl hP hS => lv_pop X.1 X.2.1 d rfl (k a σ' hE p e s m args below meth c X ls H locs hl hP hS)
theorem Aw.goto {off : Int} (hq : (pc : Int) + off = (q : Int)) (d : decode M.2.1 pc = .ok (.goto off, 3)) (k : Aw l G M rv q L st σ E) : Aw l G M rv pc L st σ E :=
  fun a σ' hE p e s m args below meth c X ls H locs hl hP hS => lv_goto X.1 X.2.1 d hq (k a σ' hE p e s m args below meth c X ls H locs hl hP hS)
theorem Aw.if_eq {x : Int32} {off : Int} {t : Nat} (hq : pc + 3 = q) (ht : (pc : Int) + off = (t : Int)) (d : decode M.2.1 pc = .ok (.ifCond .eq off, 3)) (kt : x = 0 → Aw l G M rv t L st σ E1) (kf : ¬ (x = 0) → Aw l G M rv q L st σ E2) : Aw l G M rv pc L (.int x :: st) σ (if x = 0 then E1 else E2) := by
  subst hq; refine fun a σ' hE p e s m args below meth c X ls H locs hl hP hS => lv_if_eq X.1 X.2.1 d ht (fun hc => kt hc a σ' ?_ p e s m args below meth c X ls H locs hl hP hS) (fun hc => kf hc a σ' ?_ p e s m args below meth c X ls H locs hl hP hS)
  · rw [if_pos hc] at hE; exact hE
  · rw [if_neg hc] at hE; exact hE
theorem Aw.icmp_eq {x y : Int32} {off : Int} {t : Nat} (hq : pc + 3 = q) (ht : (pc : Int) + off = (t : Int)) (d : decode M.2.1 pc = .ok (.if_icmp .eq off, 3)) (kt : x = y → Aw l G M rv t L st σ E1) (kf : ¬ (x = y) → Aw l G M rv q L st σ E2) : Aw l G M rv pc L (.int y :: .int x :: st) σ (if x = y then E1 else E2) := by
  subst hq; refine fun a σ' hE p e s m args below meth c X ls H locs hl hP hS => lv_icmp_eq X.1 X.2.1 d ht (fun hc => kt hc a σ' ?_ p e s m args below meth c X ls H locs hl hP hS) (fun hc => kf hc a σ' ?_ p e s m args below meth c X ls H locs hl hP hS)
  · rw [if_pos hc] at hE; exact hE
  · rw [if_neg hc] at hE; exact hE
theorem Aw.if_lt {x : Int32} {off : Int} {t : Nat} (hq : pc + 3 = q) (ht : (pc : Int) + off = (t : Int)) (d : decode M.2.1 pc = .ok (.ifCond .lt off, 3)) (kt : x < 0 → Aw l G M rv t L st σ E1) (kf : ¬ (x < 0) → Aw l G M rv q L st σ E2) : Aw l G M rv pc L (.int x :: st) σ (if x < 0 then E1 else E2) := by
  subst hq; refine fun a σ' hE p e s m args below meth c X ls H locs hl hP hS => lv_if_lt X.1 X.2.1 d ht (fun hc => kt hc a σ' ?_ p e s m args below meth c X ls H locs hl hP hS) (fun hc => kf hc a σ' ?_ p e s m args below meth c X ls H locs hl hP hS)
  · rw [if_pos hc] at hE; exact hE
  · rw [if_neg hc] at hE; exact hE
theorem Aw.icmp_lt {x y : Int32} {off : Int} {t : Nat} (hq : pc + 3 = q) (ht : (pc : Int) + off = (t : Int)) (d : decode M.2.1 pc = .ok (.if_icmp .lt off, 3)) (kt : x < y → Aw l G M rv t L st σ E1) (kf : ¬ (x < y) → Aw l G M rv q L st σ E2) : Aw l G M rv pc L (.int y :: .int x :: st) σ (if x < y then E1 else E2) := by
  subst hq; refine fun a σ' hE p e s m args below meth c X ls H locs hl hP hS => lv_icmp_lt X.1 X.2.1 d ht (fun hc => kt hc a σ' ?_ p e s m args below meth c X ls H locs hl hP hS) (fun hc => kf hc a σ' ?_ p e s m args below meth c X ls H locs hl hP hS)
  · rw [if_pos hc] at hE; exact hE
  · rw [if_neg hc] at hE; exact hE
theorem Aw.if_ge {x : Int32} {off : Int} {t : Nat} (hq : pc + 3 = q) (ht : (pc : Int) + off = (t : Int)) (d : decode M.2.1 pc = .ok (.ifCond .ge off, 3)) (kt : 0 ≤ x → Aw l G M rv t L st σ E1) (kf : ¬ (0 ≤ x) → Aw l G M rv q L st σ E2) : Aw l G M rv pc L (.int x :: st) σ (if 0 ≤ x then E1 else E2) := by
  subst hq; refine fun a σ' hE p e s m args below meth c X ls H locs hl hP hS => lv_if_ge X.1 X.2.1 d ht (fun hc => kt hc a σ' ?_ p e s m args below meth c X ls H locs hl hP hS) (fun hc => kf hc a σ' ?_ p e s m args below meth c X ls H locs hl hP hS)
  · rw [if_pos hc] at hE; exact hE
  · rw [if_neg hc] at hE; exact hE
theorem Aw.icmp_ge {x y : Int32} {off : Int} {t : Nat} (hq : pc + 3 = q) (ht : (pc : Int) + off = (t : Int)) (d : decode M.2.1 pc = .ok (.if_icmp .ge off, 3)) (kt : y ≤ x → Aw l G M rv t L st σ E1) (kf : ¬ (y ≤ x) → Aw l G M rv q L st σ E2) : Aw l G M rv pc L (.int y :: .int x :: st) σ (if y ≤ x then E1 else E2) := by
  subst hq; refine fun a σ' hE p e s m args below meth c X ls H locs hl hP hS => lv_icmp_ge X.1 X.2.1 d ht (fun hc => kt hc a σ' ?_ p e s m args below meth c X ls H locs hl hP hS) (fun hc => kf hc a σ' ?_ p e s m args below meth c X ls H locs hl hP hS)
  · rw [if_pos hc] at hE; exact hE
  · rw [if_neg hc] at hE; exact hE
theorem Aw.if_gt {x : Int32} {off : Int} {t : Nat} (hq : pc + 3 = q) (ht : (pc : Int) + off = (t : Int)) (d : decode M.2.1 pc = .ok (.ifCond .gt off, 3)) (kt : 0 < x → Aw l G M rv t L st σ E1) (kf : ¬ (0 < x) → Aw l G M rv q L st σ E2) : Aw l G M rv pc L (.int x :: st) σ (if 0 < x then E1 else E2) := by
  subst hq; refine fun a σ' hE p e s m args below meth c X ls H locs hl hP hS => lv_if_gt X.1 X.2.1 d ht (fun hc => kt hc a σ' ?_ p e s m args below meth c X ls H locs hl hP hS) (fun hc => kf hc a σ' ?_ p e s m args below meth c X ls H locs hl hP hS)
  · rw [if_pos hc] at hE; exact hE
  · rw [if_neg hc] at hE; exact hE
theorem Aw.icmp_gt {x y : Int32} {off : Int} {t : Nat} (hq : pc + 3 = q) (ht : (pc : Int) + off = (t : Int)) (d : decode M.2.1 pc = .ok (.if_icmp .gt off, 3)) (kt : y < x → Aw l G M rv t L st σ E1) (kf : ¬ (y < x) → Aw l G M rv q L st σ E2) : Aw l G M rv pc L (.int y :: .int x :: st) σ (if y < x then E1 else E2) := by
  subst hq; refine fun a σ' hE p e s m args below meth c X ls H locs hl hP hS => lv_icmp_gt X.1 X.2.1 d ht (fun hc => kt hc a σ' ?_ p e s m args below meth c X ls H locs hl hP hS) (fun hc => kf hc a σ' ?_ p e s m args below meth c X ls H locs hl hP hS)
  · rw [if_pos hc] at hE; exact hE
  · rw [if_neg hc] at hE; exact hE
theorem Aw.if_le {x : Int32} {off : Int} {t : Nat} (hq : pc + 3 = q) (ht : (pc : Int) + off = (t : Int)) (d : decode M.2.1 pc = .ok (.ifCond .le off, 3)) (kt : x ≤ 0 → Aw l G M rv t L st σ E1) (kf : ¬ (x ≤ 0) → Aw l G M rv q L st σ E2) : Aw l G M rv pc L (.int x :: st) σ (if x ≤ 0 then E1 else E2) := by
  subst hq; refine fun a σ' hE p e s m args below meth c X ls H locs hl hP hS => lv_if_le X.1 X.2.1 d ht (fun hc => kt hc a σ' ?_ p e s m args below meth c X ls H locs hl hP hS) (fun hc => kf hc a σ' ?_ p e s m args below meth c X ls H locs hl hP hS)
  · rw [if_pos hc] at hE; exact hE
  · rw [if_neg hc] at hE; exact hE
theorem Aw.icmp_le {x y : Int32} {off : Int} {t : Nat} (hq : pc + 3 = q) (ht : (pc : Int) + off = (t : Int)) (d : decode M.2.1 pc = .ok (.if_icmp .le off, 3)) (kt : x ≤ y → Aw l G M rv t L st σ E1) (kf : ¬ (x ≤ y) → Aw l G M rv q L st σ E2) : Aw l G M rv pc L (.int y :: .int x :: st) σ (if x ≤ y then E1 else E2) := by
  subst hq; refine fun a σ' hE p e s m args below meth c X ls H locs hl hP hS => lv_icmp_le X.1 X.2.1 d ht (fun hc => kt hc a σ' ?_ p e s m args below meth c X ls H locs hl hP hS) (fun hc => kf hc a σ' ?_ p e s m args below meth c X ls H locs hl hP hS)
  · rw [if_pos hc] at hE; exact hE
  · rw [if_neg hc] at hE; exact hE
theorem Aw.if_ne {x : Int32} {off : Int} {t : Nat} (hq : pc + 3 = q) (ht : (pc : Int) + off = (t : Int)) (d : decode M.2.1 pc = .ok (.ifCond .ne off, 3)) (kf : x = 0 → Aw l G M rv q L st σ E1) (kt : ¬ (x = 0) → Aw l G M rv t L st σ E2) : Aw l G M rv pc L (.int x :: st) σ (if x = 0 then E1 else E2) := by
  subst hq; refine fun a σ' hE p e s m args below meth c X ls H locs hl hP hS => lv_if_ne X.1 X.2.1 d ht (fun hc => kt hc a σ' ?_ p e s m args below meth c X ls H locs hl hP hS) (fun hc => kf hc a σ' ?_ p e s m args below meth c X ls H locs hl hP hS)
  · rw [if_neg hc] at hE; exact hE
  · rw [if_pos hc] at hE; exact hE
theorem Aw.icmp_ne {x y : Int32} {off : Int} {t : Nat} (hq : pc + 3 = q) (ht : (pc : Int) + off = (t : Int)) (d : decode M.2.1 pc = .ok (.if_icmp .ne off, 3)) (kf : x = y → Aw l G M rv q L st σ E1) (kt : ¬ (x = y) → Aw l G M rv t L st σ E2) : Aw l G M rv pc L (.int y :: .int x :: st) σ (if x = y then E1 else E2) := by
  subst hq; refine fun a σ' hE p e s m args below meth c X ls H locs hl hP hS => lv_icmp_ne X.1 X.2.1 d ht (fun hc => kt hc a σ' ?_ p e s m args below meth c X ls H locs hl hP hS) (fun hc => kf hc a σ' ?_ p e s m args below meth c X ls H locs hl hP hS)
  · rw [if_neg hc] at hE; exact hE
  · rw [if_pos hc] at hE; exact hE
theorem Aw.tsIn {x : Int32} {dflt lo hi off : Int} {offs : Array Int} {len t : Nat} (d : decode M.2.1 pc = .ok (.tableswitch dflt lo hi offs, len)) (v : Int32) (hx : x = v) (h1 : ¬ v.toInt < lo) (h2 : ¬ hi < v.toInt) (ho : offs[(v.toInt - lo).toNat]? = some off) (ht : (pc : Int) + off = (t : Int)) (k : Aw l G M rv t L st σ E) : Aw l G M rv pc L (.int x :: st) σ E := by
  subst hx; exact fun a σ' hE p e s m args below meth c X ls H locs hl hP hS => lv_tableIn X.1 X.2.1 d h1 h2 ho ht (k a σ' hE p e s m args below meth c X ls H locs hl hP hS)
theorem Aw.tsOut {x : Int32} {dflt lo hi : Int} {offs : Array Int} {len t : Nat} (d : decode M.2.1 pc = .ok (.tableswitch dflt lo hi offs, len)) (h : x.toInt < lo ∨ hi < x.toInt) (ht : (pc : Int) + dflt = (t : Int)) (k : Aw l G M rv t L st σ E) : Aw l G M rv pc L (.int x :: st) σ E :=
  fun a σ' hE p e s m args below meth c X ls H locs hl hP hS => lv_tableOut X.1 X.2.1 d h ht (k a σ' hE p e s m args below meth c X ls H locs hl hP hS)
theorem Aw.lsw {x : Int32} {dflt off : Int} {ps : Array (Int × Int)} {len t : Nat} (d : decode M.2.1 pc = .ok (.lookupswitch dflt ps, len)) (hp : (ps.toList.zip (ps.toList.drop 1)).all (fun (a, next) => a.1 < next.1) = true) (ho : Op.lookupswitch.offset ps.toList dflt x.toInt = off) (ht : (pc : Int) + off = (t : Int)) (k : Aw l G M rv t L st σ E) : Aw l G M rv pc L (.int x :: st) σ E :=
  fun a σ' hE p e s m args below meth c X ls H locs hl hP hS => lv_lookup X.1 X.2.1 d hp ho ht (k a σ' hE p e s m args below meth c X ls H locs hl hP hS)
end RULES2
/-- a field's link: the class ci's slot j by own's pool number i -/
def FL (own : String) (i ci j : Nat) : Prop := ∃ r : vw_C, cls[ci]? = some r ∧ j < r.2.2 ∧ (r.2.1 j).1 = r.1 ∧ Cond.fieldLink own i r.1 (r.2.1 j).2.1 (r.2.1 j).2.2.1 ∈ gtb ∧ ∀ w ∈ u_ws r.1 r.2.1 r.2.2, w ∈ gtb
/-- a field that may be written: not final, of a type -/
def FP (ci j : Nat) (ty : FieldType) : Prop := ∃ (r : vw_C) (t : Nat → FieldType), cls[ci]? = some r ∧ (r.2.1 j).2.2.2 = false ∧ parseFieldDescriptor (r.2.1 j).2.2.1 = some ty ∧ (∀ k, k < r.2.2 → parseFieldDescriptor (r.2.1 k).2.2.1 = some (t k)) ∧ ∀ a, a < r.2.2 → ∀ b, b < r.2.2 → a ≠ b → (r.2.1 a).2.1 ≠ (r.2.1 b).2.1
def lnc (ci : Nat) : Nat := match ci with | 0 => 3 | 1 => 3 | 2 => 15 | 3 => 9 | 4 => 8 | 5 => 5 | _ => 14
theorem ln_obj {k ci : Nat} (h : kd k = ci) (hc : ci ≤ 6) : ln k = lnc ci := by
  have hk : k < 307 := kd_lt (by omega)
  subst h
  have : ∀ k, k < 307 → kd k ≤ 6 → ln k = lnc (kd k) := by decide +kernel
  exact this k hk hc
theorem lnc_cls {ci : Nat} {r : vw_C} (h : cls[ci]? = some r) (hc : ci ≤ 6) : r.2.2 = lnc ci := by
  match ci, h with
  | 0, h => cases h; rfl
  | 1, h => cases h; rfl
  | 2, h => cases h; rfl
  | 3, h => cases h; rfl
  | 4, h => cases h; rfl
  | 5, h => cases h; rfl
  | 6, h => cases h; rfl
/-- in a row's bounds -/
def inb (i : Int32) (n : Nat) : Bool := decide (0 ≤ i.toInt ∧ i.toInt < (n : Int))
abbrev ix (i : Int32) : Nat := i.toNatClampNeg
section RULES3
variable {l : Launch} {G : Gt} {M : Mt} {α : Type} {rv : α → Option Value} {pc q : Nat} {L L' : List (Nat × Value)} {st : List Value} {σ : Sg} {E E1 E2 : Option (α × Sg)}
theorem Aw.getI {i ci j k0 : Nat} (f : FL M.1 i ci j) (hc : ci ≤ 6) (hi : irf ci j = false) (hk : kd k0 = ci) (hq : pc + 3 = q) (d : decode M.2.1 pc = .ok (.getfield i, 3)) (k : Aw l G M rv q L (.int (σ k0 j) :: st) σ E) : Aw l G M rv pc L (.ref (Gb G + k0) :: st) σ E := by
  subst hq
  obtain ⟨r, f1, f2, f3, f4, f5⟩ := f
  refine fun a σ' hE p e s m args below meth c X ls H locs hl hP hS =>  ?_
  have hat := wsO_at G σ (k := k0) (kd_lt (by omega))
  rw [ce_obj G σ hk hc] at hat
  exact va_get (D := Gd G) (C := r.1) (T := r.2.1) (N := r.2.2) X.1 X.2.1 X.2.2.2.2.2.1 f5 X.2.2.2.2.1 X.2.2.2.2.2.2.2.1 hP k0 hat f1 j f2 (X.2.2.2.2.2.1 _ f4) (fun x hx => by rw [f3] at hx; exact hx) (by rw [List.getElem?_map, List.getElem?_range (by rw [ln_obj hk hc, ← lnc_cls f1 hc]; exact f2)]; show some (ceF G σ k0 j) = _; rw [ceF, hk, hi, if_neg (by decide)]) d (k a σ' hE p e s m args below meth c X ls H locs hl hP hS)
theorem Aw.getR {i ci j k0 : Nat} (f : FL M.1 i ci j) (hc : ci ≤ 6) (hi : irf ci j = true) (hk : kd k0 = ci) (hq : pc + 3 = q) (d : decode M.2.1 pc = .ok (.getfield i, 3)) (k : Aw l G M rv q L (.ref (Gb G + rf k0 j) :: st) σ E) : Aw l G M rv pc L (.ref (Gb G + k0) :: st) σ E := by
  subst hq
  obtain ⟨r, f1, f2, f3, f4, f5⟩ := f
  refine fun a σ' hE p e s m args below meth c X ls H locs hl hP hS =>  ?_
  have hat := wsO_at G σ (k := k0) (kd_lt (by omega))
  rw [ce_obj G σ hk hc] at hat
  exact va_get (D := Gd G) (C := r.1) (T := r.2.1) (N := r.2.2) X.1 X.2.1 X.2.2.2.2.2.1 f5 X.2.2.2.2.1 X.2.2.2.2.2.2.2.1 hP k0 hat f1 j f2 (X.2.2.2.2.2.1 _ f4) (fun x hx => by rw [f3] at hx; exact hx) (by rw [List.getElem?_map, List.getElem?_range (by rw [ln_obj hk hc, ← lnc_cls f1 hc]; exact f2)]; show some (ceF G σ k0 j) = _; rw [ceF, hk, hi, if_pos rfl]) d (k a σ' hE p e s m args below meth c X ls H locs hl hP hS)
theorem Aw.putI {i ci j k0 : Nat} {ty : FieldType} {v : Int32} (f : FL M.1 i ci j) (g : FP ci j ty) (hn : narrow ty (.int v) = .int v) (hft : fits ty (.int v) = true) (hc : ci ≤ 6) (hi : irf ci j = false) (hk : kd k0 = ci) (hq : pc + 3 = q) (d : decode M.2.1 pc = .ok (.putfield i, 3)) (k : Aw l G M rv q L st (up σ k0 j v) E) : Aw l G M rv pc L (.int v :: .ref (Gb G + k0) :: st) σ E := by
  subst hq
  obtain ⟨r, f1, f2, f3, f4, f5⟩ := f
  obtain ⟨r', t, g1, g2, g3, g4, g5⟩ := g
  cases f1.symm.trans g1
  refine fun a σ' hE p e s m args below meth c X ls H locs hl hP hS =>  ?_
  have hlt : k0 < 307 := kd_lt (by omega)
  have hat := wsO_at G σ hlt
  rw [ce_obj G σ hk hc] at hat
  refine va_put (D := Gd G) (C := r.1) (T := r.2.1) (N := r.2.2) X.1 X.2.1 X.2.2.2.2.2.1 f5 t g4 g5 X.2.2.2.2.1 X.2.2.2.2.2.2.2.1 hP (wsO_D G σ) hS k0 hat f1 j f2 (X.2.2.2.2.2.1 _ f4) (fun x hx => by rw [f3] at hx; exact hx) g2 g3 hn hft (by rw [List.length_map, List.length_range, ln_obj hk hc, ← lnc_cls f1 hc]; exact f2) d (fun H locs hP hD hS => ?_)
  rw [wsO_set G σ (up σ k0 j v) hlt (by rw [ce_obj G _ hk hc, ceF_set G σ v (by rw [hk]; exact hi)]) (fun j' hj => up_o σ k0 j v hj)] at hP
  exact (k a σ' hE p e s m args below meth c X ls H locs hl hP hS)
theorem inb_in {i : Int32} {n : Nat} (h : inb i n) : vp_in i n := vp_in_iff.mpr (of_decide_eq_true h)
theorem inb_of {i : Int32} {n : Nat} (h : vp_in i n) : inb i n := decide_eq_true (vp_in_iff.mp h)
theorem Aw.iald {k0 n : Nat} {i : Int32} (hk : kd k0 = 7) (hn : ln k0 = n) (hq : pc + 1 = q) (d : decode M.2.1 pc = .ok (.iaload, 1)) (k : inb i n → Aw l G M rv q L (.int (σ k0 (ix i)) :: st) σ E) : Aw l G M rv pc L (.int i :: .ref (Gb G + k0) :: st) σ (if inb i n then E else none) := by
  subst hq; subst hn
  refine Aw.gd (fun hb => ?_)
  have k := k hb
  refine fun a σ' hE p e s m args below meth c X ls H locs hl hP hS =>  ?_
  have hat := wsO_at G σ (k := k0) (kd_lt (by omega))
  rw [ce_int G σ hk] at hat
  exact va_iald (D := Gd G) X.1 X.2.1 X.2.2.2.2.2.2.2.1 hP k0 0 hat rfl (inb_in hb) d (k a σ' hE p e s m args below meth c X ls H locs hl hP hS)
theorem Aw.iast {k0 n : Nat} {i x : Int32} (hk : kd k0 = 7) (hn : ln k0 = n) (hq : pc + 1 = q) (d : decode M.2.1 pc = .ok (.iastore, 1)) (k : inb i n → Aw l G M rv q L st (up σ k0 (ix i) x) E) : Aw l G M rv pc L (.int x :: .int i :: .ref (Gb G + k0) :: st) σ (if inb i n then E else none) := by
  subst hq; subst hn
  refine Aw.gd (fun hb => ?_)
  have k := k hb
  refine fun a σ' hE p e s m args below meth c X ls H locs hl hP hS =>  ?_
  have hlt : k0 < 307 := kd_lt (by omega)
  have hat := wsO_at G σ hlt
  rw [ce_int G σ hk] at hat
  refine va_iast (D := Gd G) X.1 X.2.1 X.2.2.2.2.2.2.2.1 hP (wsO_D G σ) hS k0 0 hat rfl (inb_in hb) d (fun H locs hP hD hS => ?_)
  rw [wsO_set G σ (up σ k0 (ix i) x) hlt (by rw [ce_int G _ hk, up_s]) (fun j' hj => up_o σ k0 (ix i) x hj)] at hP
  exact (k a σ' hE p e s m args below meth c X ls H locs hl hP hS)
theorem Aw.aald {k0 n t : Nat} {i : Int32} (hk : kd k0 = t) (ht : 8 ≤ t ∧ t ≤ 10) (hn : ln k0 = n) (hq : pc + 1 = q) (d : decode M.2.1 pc = .ok (.aaload, 1)) (k : inb i n → Aw l G M rv q L (.ref (Gb G + rf k0 (ix i)) :: st) σ E) : Aw l G M rv pc L (.int i :: .ref (Gb G + k0) :: st) σ (if inb i n then E else none) := by
  subst hq; subst hn
  refine Aw.gd (fun hb => ?_)
  have k := k hb
  refine fun a σ' hE p e s m args below meth c X ls H locs hl hP hS =>  ?_
  have hlt : k0 < 307 := kd_lt (by omega)
  have hat := wsO_at G σ hlt
  rw [ce_ref G σ hk ht.1] at hat
  have hin := inb_in hb
  have hlt2 : i.toNatClampNeg < ln k0 := Nat.not_le.mp fun q => hin (Or.inr q)
  obtain ⟨t0, ty, h1, h2⟩ : ∃ (t0 : Nat) (ty : FieldType), (tys G)[t0]? = some (G.2.2.2.2 t, ty) ∧ ty.isReference = true := by
    rcases (show t = 8 ∨ t = 9 ∨ t = 10 by omega) with rfl | rfl | rfl
    · exact ⟨1, _, rfl, rfl⟩
    · exact ⟨2, _, rfl, rfl⟩
    · exact ⟨3, _, rfl, rfl⟩
  exact W.aald (v := .ref (Gb G + rf k0 i.toNatClampNeg)) (ty := ty) X.1 X.2.1 (hP k0 _ hat) ((X.2.2.2.2.2.2.2.1.2 t0 _ h1).1 _ (fun j => va_rf (some (Gb G + rf k0 j)))) h2 (fun q => by cases q) (by show ¬ (i < 0 ∨ (arrV _ _ _).slots.size ≤ _); rw [arrV_size]; exact hin) (by show (arrV _ _ _).slots[_]? = _; rw [arrV_read _ _ hlt2]; rfl) rfl rfl d (k a σ' hE p e s m args below meth c X ls H locs hl hP hS)
theorem Aw.alen {k0 : Nat} (hk : kd k0 = 7) (hq : pc + 1 = q) (d : decode M.2.1 pc = .ok (.arraylength, 1)) (k : Aw l G M rv q L (.int (nI (ln k0)) :: st) σ E) : Aw l G M rv pc L (.ref (Gb G + k0) :: st) σ E := by
  subst hq
  refine fun a σ' hE p e s m args below meth c X ls H locs hl hP hS =>  ?_
  have hat := wsO_at G σ (k := k0) (kd_lt (by omega))
  rw [ce_int G σ hk] at hat
  exact va_alen (D := Gd G) X.1 X.2.1 X.2.2.2.2.2.2.2.1 hP k0 0 hat (ty := .int) rfl rfl d (k a σ' hE p e s m args below meth c X ls H locs hl hP hS)
end RULES3
