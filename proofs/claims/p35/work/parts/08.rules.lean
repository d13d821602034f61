/-! a rule an instruction, over Xg -/
section XR
variable {l : Launch} {M : MTy} {A : State → Nat → Prop} {Z : List Frame → Array Value → State → State → Prop} {E : Array Value → State → Prop} {G : Gx} {cells slots : Nat} {mem : Mem} {pc : Nat} {lv lv' : Lv} {st : List Value}
theorem x_iconst {n : Int} {v : Int32} (hdg : decode M.2.1 pc = .ok (.iconst n, 1)) (hv : Int32.ofInt n = v) (kk : Xg l M A Z E G cells slots mem (pc + 1) lv (.int v :: st)) : Xg l M A Z E G cells slots mem pc lv st := by
  intro p e s m args below meth c H locs ls C hP hD hS hL
  exact lv_iconst C.1 C.2.1 hdg hv (kk p e s m args below meth c H locs _ C hP hD hS hL)
theorem x_bipush {n : Int} {v : Int32} (hdg : decode M.2.1 pc = .ok (.bipush n, 2)) (hv : (Int8.ofInt n).toInt32 = v) (kk : Xg l M A Z E G cells slots mem (pc + 2) lv (.int v :: st)) : Xg l M A Z E G cells slots mem pc lv st := by
  intro p e s m args below meth c H locs ls C hP hD hS hL
  exact lv_bipush C.1 C.2.1 hdg hv (kk p e s m args below meth c H locs _ C hP hD hS hL)
theorem x_sipush {n : Int} {v : Int32} (hdg : decode M.2.1 pc = .ok (.sipush n, 3)) (hv : (Int16.ofInt n).toInt32 = v) (kk : Xg l M A Z E G cells slots mem (pc + 3) lv (.int v :: st)) : Xg l M A Z E G cells slots mem pc lv st := by
  intro p e s m args below meth c H locs ls C hP hD hS hL
  exact lv_sipush C.1 C.2.1 hdg hv (kk p e s m args below meth c H locs _ C hP hD hS hL)
theorem x_lconst {n : Fin 2} {v : Int64} (hdg : decode M.2.1 pc = .ok (.lconst n, 1)) (hv : Int64.ofNat (n : Nat) = v) (kk : Xg l M A Z E G cells slots mem (pc + 1) lv (.long v :: st)) : Xg l M A Z E G cells slots mem pc lv st := by
  intro p e s m args below meth c H locs ls C hP hD hS hL
  exact lv_lconst C.1 C.2.1 hdg hv (kk p e s m args below meth c H locs _ C hP hD hS hL)
theorem x_ldc {index : Nat} {v : Int32} (hdg : decode M.2.1 pc = .ok (.ldc index, 2)) (hw : Cond.constant M.1.cls index v ∈ TB) (kk : Xg l M A Z E G cells slots mem (pc + 2) lv (.int v :: st)) : Xg l M A Z E G cells slots mem pc lv st := by
  intro p e s m args below meth c H locs ls C hP hD hS hL
  exact lv_ldc C.1 C.2.1 C.2.2.2.1 (C.2.2.2.2.1 _ hw) hdg (kk p e s m args below meth c H locs _ C hP hD hS hL)
theorem x_ldc2 {index : Nat} {v : Int64} (hdg : decode M.2.1 pc = .ok (.ldc2_w index, 3)) (hw : Cond.constantLong M.1.cls index v ∈ TB) (kk : Xg l M A Z E G cells slots mem (pc + 3) lv (.long v :: st)) : Xg l M A Z E G cells slots mem pc lv st := by
  intro p e s m args below meth c H locs ls C hP hD hS hL
  exact lv_ldc2 C.1 C.2.1 C.2.2.2.1 (C.2.2.2.2.1 _ hw) hdg (kk p e s m args below meth c H locs _ C hP hD hS hL)
theorem x_iload_n {k : Fin 4} {i : Nat} {x : Int32} (hdg : decode M.2.1 pc = .ok (.iload_n k, 1)) (q : Nat) (hl : lv[q]? = some (i, .int x)) (hi : (k : Nat) = i) (kk : Xg l M A Z E G cells slots mem (pc + 1) lv (.int x :: st)) : Xg l M A Z E G cells slots mem pc lv st := by
  intro p e s m args below meth c H locs ls C hP hD hS hL
  exact lv_iload_n C.1 C.2.1 hdg hi (lv_at hL q hl) (kk p e s m args below meth c H locs _ C hP hD hS hL)
theorem x_iload {i : Nat} {x : Int32} (hdg : decode M.2.1 pc = .ok (.iload i, 2)) (q : Nat) (hl : lv[q]? = some (i, .int x)) (kk : Xg l M A Z E G cells slots mem (pc + 2) lv (.int x :: st)) : Xg l M A Z E G cells slots mem pc lv st := by
  intro p e s m args below meth c H locs ls C hP hD hS hL
  exact lv_iload C.1 C.2.1 hdg (lv_at hL q hl) (kk p e s m args below meth c H locs _ C hP hD hS hL)
theorem x_lload_n {k : Fin 4} {i : Nat} {x : Int64} (hdg : decode M.2.1 pc = .ok (.lload_n k, 1)) (q : Nat) (hl : lv[q]? = some (i, .long x)) (hi : (k : Nat) = i) (kk : Xg l M A Z E G cells slots mem (pc + 1) lv (.long x :: st)) : Xg l M A Z E G cells slots mem pc lv st := by
  intro p e s m args below meth c H locs ls C hP hD hS hL
  exact lv_lload_n C.1 C.2.1 hdg hi (lv_at hL q hl) (kk p e s m args below meth c H locs _ C hP hD hS hL)
theorem x_lload {i : Nat} {x : Int64} (hdg : decode M.2.1 pc = .ok (.lload i, 2)) (q : Nat) (hl : lv[q]? = some (i, .long x)) (kk : Xg l M A Z E G cells slots mem (pc + 2) lv (.long x :: st)) : Xg l M A Z E G cells slots mem pc lv st := by
  intro p e s m args below meth c H locs ls C hP hD hS hL
  exact lv_lload C.1 C.2.1 hdg (lv_at hL q hl) (kk p e s m args below meth c H locs _ C hP hD hS hL)
theorem x_aload_n {k : Fin 4} {i : Nat} {x : Nat} (hdg : decode M.2.1 pc = .ok (.aload_n k, 1)) (q : Nat) (hl : lv[q]? = some (i, .ref x)) (hi : (k : Nat) = i) (kk : Xg l M A Z E G cells slots mem (pc + 1) lv (.ref x :: st)) : Xg l M A Z E G cells slots mem pc lv st := by
  intro p e s m args below meth c H locs ls C hP hD hS hL
  exact lv_aload_n C.1 C.2.1 hdg hi (lv_at hL q hl) (kk p e s m args below meth c H locs _ C hP hD hS hL)
theorem x_aload {i : Nat} {x : Nat} (hdg : decode M.2.1 pc = .ok (.aload i, 2)) (q : Nat) (hl : lv[q]? = some (i, .ref x)) (kk : Xg l M A Z E G cells slots mem (pc + 2) lv (.ref x :: st)) : Xg l M A Z E G cells slots mem pc lv st := by
  intro p e s m args below meth c H locs ls C hP hD hS hL
  exact lv_aload C.1 C.2.1 hdg (lv_at hL q hl) (kk p e s m args below meth c H locs _ C hP hD hS hL)
theorem x_istore_n {k : Fin 4} {i : Nat} {x : Int32} (hdg : decode M.2.1 pc = .ok (.istore_n k, 1)) (hi : (k : Nat) = i) (hn : i < M.2.2.1) (hl : (i, Value.int x) :: lv.filter (fun q => !(q.1 == i) && !(q.1 + 1 == i && q.2.category == 2)) = lv') (kk : Xg l M A Z E G cells slots mem (pc + 1) lv' st) : Xg l M A Z E G cells slots mem pc lv (.int x :: st) := by
  intro p e s m args below meth c H locs ls C hP hD hS hL
  exact lv_istore_n C.1 C.2.1 hdg hi hL hn hl (fun ls hL => kk p e s m args below meth c H locs _ C hP hD hS hL)
theorem x_istore {i : Nat} {x : Int32} (hdg : decode M.2.1 pc = .ok (.istore i, 2)) (hn : i < M.2.2.1) (hl : (i, Value.int x) :: lv.filter (fun q => !(q.1 == i) && !(q.1 + 1 == i && q.2.category == 2)) = lv') (kk : Xg l M A Z E G cells slots mem (pc + 2) lv' st) : Xg l M A Z E G cells slots mem pc lv (.int x :: st) := by
  intro p e s m args below meth c H locs ls C hP hD hS hL
  exact lv_istore C.1 C.2.1 hdg hL hn hl (fun ls hL => kk p e s m args below meth c H locs _ C hP hD hS hL)
theorem x_lstore_n {k : Fin 4} {i : Nat} {x : Int64} (hdg : decode M.2.1 pc = .ok (.lstore_n k, 1)) (hi : (k : Nat) = i) (hn : i + 1 < M.2.2.1) (hl : (i, Value.long x) :: lv.filter (fun q => !(q.1 == i) && (!(q.1 == i + 1) && !(q.1 + 1 == i && q.2.category == 2))) = lv') (kk : Xg l M A Z E G cells slots mem (pc + 1) lv' st) : Xg l M A Z E G cells slots mem pc lv (.long x :: st) := by
  intro p e s m args below meth c H locs ls C hP hD hS hL
  exact lv_lstore_n C.1 C.2.1 hdg hi hL hn hl (fun ls hL => kk p e s m args below meth c H locs _ C hP hD hS hL)
theorem x_lstore {i : Nat} {x : Int64} (hdg : decode M.2.1 pc = .ok (.lstore i, 2)) (hn : i + 1 < M.2.2.1) (hl : (i, Value.long x) :: lv.filter (fun q => !(q.1 == i) && (!(q.1 == i + 1) && !(q.1 + 1 == i && q.2.category == 2))) = lv') (kk : Xg l M A Z E G cells slots mem (pc + 2) lv' st) : Xg l M A Z E G cells slots mem pc lv (.long x :: st) := by
  intro p e s m args below meth c H locs ls C hP hD hS hL
  exact lv_lstore C.1 C.2.1 hdg hL hn hl (fun ls hL => kk p e s m args below meth c H locs _ C hP hD hS hL)
theorem x_astore_n {k : Fin 4} {i : Nat} {x : Nat} (hdg : decode M.2.1 pc = .ok (.astore_n k, 1)) (hi : (k : Nat) = i) (hn : i < M.2.2.1) (hl : (i, Value.ref x) :: lv.filter (fun q => !(q.1 == i) && !(q.1 + 1 == i && q.2.category == 2)) = lv') (kk : Xg l M A Z E G cells slots mem (pc + 1) lv' st) : Xg l M A Z E G cells slots mem pc lv (.ref x :: st) := by
  intro p e s m args below meth c H locs ls C hP hD hS hL
  exact lv_astore_n C.1 C.2.1 hdg hi hL hn hl (fun ls hL => kk p e s m args below meth c H locs _ C hP hD hS hL)
theorem x_astore {i : Nat} {x : Nat} (hdg : decode M.2.1 pc = .ok (.astore i, 2)) (hn : i < M.2.2.1) (hl : (i, Value.ref x) :: lv.filter (fun q => !(q.1 == i) && !(q.1 + 1 == i && q.2.category == 2)) = lv') (kk : Xg l M A Z E G cells slots mem (pc + 2) lv' st) : Xg l M A Z E G cells slots mem pc lv (.ref x :: st) := by
  intro p e s m args below meth c H locs ls C hP hD hS hL
  exact lv_astore C.1 C.2.1 hdg hL hn hl (fun ls hL => kk p e s m args below meth c H locs _ C hP hD hS hL)
theorem x_iinc {i k : Nat} {n : Int} {x v : Int32} (hdg : decode M.2.1 pc = .ok (.iinc i n, 3)) (hk : lv[k]? = some (i, .int x)) (hv : x + Int32.ofInt n = v) (hn : i < M.2.2.1) (hl : (i, Value.int v) :: lv.filter (fun q => !(q.1 == i) && !(q.1 + 1 == i && q.2.category == 2)) = lv') (kk : Xg l M A Z E G cells slots mem (pc + 3) lv' st) : Xg l M A Z E G cells slots mem pc lv st := by
  intro p e s m args below meth c H locs ls C hP hD hS hL
  exact lv_iinc C.1 C.2.1 hdg hL hk hv hn hl (fun ls hL => kk p e s m args below meth c H locs _ C hP hD hS hL)
theorem x_iadd {x y : Int32} (hdg : decode M.2.1 pc = .ok (.iadd, 1)) (kk : Xg l M A Z E G cells slots mem (pc + 1) lv (.int (x + y) :: st)) : Xg l M A Z E G cells slots mem pc lv (.int y :: .int x :: st) := by
  intro p e s m args below meth c H locs ls C hP hD hS hL
  exact lv_iadd C.1 C.2.1 hdg (kk p e s m args below meth c H locs _ C hP hD hS hL)
theorem x_isub {x y : Int32} (hdg : decode M.2.1 pc = .ok (.isub, 1)) (kk : Xg l M A Z E G cells slots mem (pc + 1) lv (.int (x - y) :: st)) : Xg l M A Z E G cells slots mem pc lv (.int y :: .int x :: st) := by
  intro p e s m args below meth c H locs ls C hP hD hS hL
  exact lv_isub C.1 C.2.1 hdg (kk p e s m args below meth c H locs _ C hP hD hS hL)
theorem x_imul {x y : Int32} (hdg : decode M.2.1 pc = .ok (.imul, 1)) (kk : Xg l M A Z E G cells slots mem (pc + 1) lv (.int (x * y) :: st)) : Xg l M A Z E G cells slots mem pc lv (.int y :: .int x :: st) := by
  intro p e s m args below meth c H locs ls C hP hD hS hL
  exact lv_imul C.1 C.2.1 hdg (kk p e s m args below meth c H locs _ C hP hD hS hL)
theorem x_iand {x y : Int32} (hdg : decode M.2.1 pc = .ok (.iand, 1)) (kk : Xg l M A Z E G cells slots mem (pc + 1) lv (.int (x &&& y) :: st)) : Xg l M A Z E G cells slots mem pc lv (.int y :: .int x :: st) := by
  intro p e s m args below meth c H locs ls C hP hD hS hL
  exact lv_iand C.1 C.2.1 hdg (kk p e s m args below meth c H locs _ C hP hD hS hL)
theorem x_idiv {x y : Int32} (hdg : decode M.2.1 pc = .ok (.idiv, 1)) (hne : ¬ y = 0) (kk : Xg l M A Z E G cells slots mem (pc + 1) lv (.int (x / y) :: st)) : Xg l M A Z E G cells slots mem pc lv (.int y :: .int x :: st) := by
  intro p e s m args below meth c H locs ls C hP hD hS hL
  exact lv_idiv C.1 C.2.1 hdg hne (kk p e s m args below meth c H locs _ C hP hD hS hL)
theorem x_irem {x y : Int32} (hdg : decode M.2.1 pc = .ok (.irem, 1)) (hne : ¬ y = 0) (kk : Xg l M A Z E G cells slots mem (pc + 1) lv (.int (x - x / y * y) :: st)) : Xg l M A Z E G cells slots mem pc lv (.int y :: .int x :: st) := by
  intro p e s m args below meth c H locs ls C hP hD hS hL
  exact lv_irem C.1 C.2.1 hdg hne (kk p e s m args below meth c H locs _ C hP hD hS hL)
theorem x_ladd {x y : Int64} (hdg : decode M.2.1 pc = .ok (.ladd, 1)) (kk : Xg l M A Z E G cells slots mem (pc + 1) lv (.long (x + y) :: st)) : Xg l M A Z E G cells slots mem pc lv (.long y :: .long x :: st) := by
  intro p e s m args below meth c H locs ls C hP hD hS hL
  exact lv_ladd C.1 C.2.1 hdg (kk p e s m args below meth c H locs _ C hP hD hS hL)
theorem x_lsub {x y : Int64} (hdg : decode M.2.1 pc = .ok (.lsub, 1)) (kk : Xg l M A Z E G cells slots mem (pc + 1) lv (.long (x - y) :: st)) : Xg l M A Z E G cells slots mem pc lv (.long y :: .long x :: st) := by
  intro p e s m args below meth c H locs ls C hP hD hS hL
  exact lv_lsub C.1 C.2.1 hdg (kk p e s m args below meth c H locs _ C hP hD hS hL)
theorem x_lmul {x y : Int64} (hdg : decode M.2.1 pc = .ok (.lmul, 1)) (kk : Xg l M A Z E G cells slots mem (pc + 1) lv (.long (x * y) :: st)) : Xg l M A Z E G cells slots mem pc lv (.long y :: .long x :: st) := by
  intro p e s m args below meth c H locs ls C hP hD hS hL
  exact lv_lmul C.1 C.2.1 hdg (kk p e s m args below meth c H locs _ C hP hD hS hL)
theorem x_land {x y : Int64} (hdg : decode M.2.1 pc = .ok (.land, 1)) (kk : Xg l M A Z E G cells slots mem (pc + 1) lv (.long (x &&& y) :: st)) : Xg l M A Z E G cells slots mem pc lv (.long y :: .long x :: st) := by
  intro p e s m args below meth c H locs ls C hP hD hS hL
  exact lv_land C.1 C.2.1 hdg (kk p e s m args below meth c H locs _ C hP hD hS hL)
theorem x_lor {x y : Int64} (hdg : decode M.2.1 pc = .ok (.lor, 1)) (kk : Xg l M A Z E G cells slots mem (pc + 1) lv (.long (x ||| y) :: st)) : Xg l M A Z E G cells slots mem pc lv (.long y :: .long x :: st) := by
  intro p e s m args below meth c H locs ls C hP hD hS hL
  exact lv_lor C.1 C.2.1 hdg (kk p e s m args below meth c H locs _ C hP hD hS hL)
theorem x_ldiv {x y : Int64} (hdg : decode M.2.1 pc = .ok (.ldiv, 1)) (hne : ¬ y = 0) (kk : Xg l M A Z E G cells slots mem (pc + 1) lv (.long (x / y) :: st)) : Xg l M A Z E G cells slots mem pc lv (.long y :: .long x :: st) := by
  intro p e s m args below meth c H locs ls C hP hD hS hL
  exact lv_ldiv C.1 C.2.1 hdg hne (kk p e s m args below meth c H locs _ C hP hD hS hL)
theorem x_lrem {x y : Int64} (hdg : decode M.2.1 pc = .ok (.lrem, 1)) (hne : ¬ y = 0) (kk : Xg l M A Z E G cells slots mem (pc + 1) lv (.long (x - x / y * y) :: st)) : Xg l M A Z E G cells slots mem pc lv (.long y :: .long x :: st) := by
  intro p e s m args below meth c H locs ls C hP hD hS hL
  exact lv_lrem C.1 C.2.1 hdg hne (kk p e s m args below meth c H locs _ C hP hD hS hL)
theorem x_lushr {x : Int64} {y : Int32} (hdg : decode M.2.1 pc = .ok (.lushr, 1)) (kk : Xg l M A Z E G cells slots mem (pc + 1) lv (.long ((x.toUInt64 >>> (y.toInt64.toUInt64 &&& Int64.toUInt64 63)).toInt64) :: st)) : Xg l M A Z E G cells slots mem pc lv (.int y :: .long x :: st) := by
  intro p e s m args below meth c H locs ls C hP hD hS hL
  exact lv_lushr C.1 C.2.1 hdg rfl (kk p e s m args below meth c H locs _ C hP hD hS hL)
theorem x_lshl {x : Int64} {y : Int32} (hdg : decode M.2.1 pc = .ok (.lshl, 1)) (kk : Xg l M A Z E G cells slots mem (pc + 1) lv (.long (x <<< (y.toInt64 &&& 63)) :: st)) : Xg l M A Z E G cells slots mem pc lv (.int y :: .long x :: st) := by
  intro p e s m args below meth c H locs ls C hP hD hS hL
  exact lv_lshl C.1 C.2.1 hdg rfl (kk p e s m args below meth c H locs _ C hP hD hS hL)
theorem x_i2l {x : Int32} (hdg : decode M.2.1 pc = .ok (.i2l, 1)) (kk : Xg l M A Z E G cells slots mem (pc + 1) lv (.long x.toInt64 :: st)) : Xg l M A Z E G cells slots mem pc lv (.int x :: st) := by
  intro p e s m args below meth c H locs ls C hP hD hS hL
  exact lv_i2l C.1 C.2.1 hdg rfl (kk p e s m args below meth c H locs _ C hP hD hS hL)
theorem x_l2i {x : Int64} (hdg : decode M.2.1 pc = .ok (.l2i, 1)) (kk : Xg l M A Z E G cells slots mem (pc + 1) lv (.int x.toInt32 :: st)) : Xg l M A Z E G cells slots mem pc lv (.long x :: st) := by
  intro p e s m args below meth c H locs ls C hP hD hS hL
  exact lv_l2i C.1 C.2.1 hdg rfl (kk p e s m args below meth c H locs _ C hP hD hS hL)
theorem x_lcmp {x y : Int64} (hdg : decode M.2.1 pc = .ok (.lcmp, 1)) (kk : Xg l M A Z E G cells slots mem (pc + 1) lv (.int (lg_cmp x y) :: st)) : Xg l M A Z E G cells slots mem pc lv (.long y :: .long x :: st) := by
  intro p e s m args below meth c H locs ls C hP hD hS hL
  exact W.lcmp C.1 C.2.1 hdg (kk p e s m args below meth c H locs _ C hP hD hS hL)
theorem x_dup {v : Value} (hdg : decode M.2.1 pc = .ok (.dup, 1)) (hv : v.category = 1) (kk : Xg l M A Z E G cells slots mem (pc + 1) lv (v :: v :: st)) : Xg l M A Z E G cells slots mem pc lv (v :: st) := by
  intro p e s m args below meth c H locs ls C hP hD hS hL
  exact lv_dup C.1 C.2.1 hdg hv (kk p e s m args below meth c H locs _ C hP hD hS hL)
theorem x_goto {off : Int} {tgt : Nat} (hdg : decode M.2.1 pc = .ok (.goto off, 3)) (ht : (pc : Int) + off = (tgt : Int)) (kk : Xg l M A Z E G cells slots mem tgt lv st) : Xg l M A Z E G cells slots mem pc lv st := by
  intro p e s m args below meth c H locs ls C hP hD hS hL
  exact lv_goto C.1 C.2.1 hdg ht (kk p e s m args below meth c H locs _ C hP hD hS hL)
theorem x_if_eq {x : Int32} {off : Int} {tgt : Nat} (hdg : decode M.2.1 pc = .ok (.ifCond .eq off, 3)) (ht : (pc : Int) + off = (tgt : Int)) (kt : x = 0 → Xg l M A Z E G cells slots mem tgt lv st) (kf : ¬ x = 0 → Xg l M A Z E G cells slots mem (pc + 3) lv st) : Xg l M A Z E G cells slots mem pc lv (.int x :: st) := by
  intro p e s m args below meth c H locs ls C hP hD hS hL
  exact lv_if_eq C.1 C.2.1 hdg ht (fun h => kt h p e s m args below meth c H locs _ C hP hD hS hL) (fun h => kf h p e s m args below meth c H locs _ C hP hD hS hL)
theorem x_icmp_eq {x y : Int32} {off : Int} {tgt : Nat} (hdg : decode M.2.1 pc = .ok (.if_icmp .eq off, 3)) (ht : (pc : Int) + off = (tgt : Int)) (kt : x = y → Xg l M A Z E G cells slots mem tgt lv st) (kf : ¬ x = y → Xg l M A Z E G cells slots mem (pc + 3) lv st) : Xg l M A Z E G cells slots mem pc lv (.int y :: .int x :: st) := by
  intro p e s m args below meth c H locs ls C hP hD hS hL
  exact lv_icmp_eq C.1 C.2.1 hdg ht (fun h => kt h p e s m args below meth c H locs _ C hP hD hS hL) (fun h => kf h p e s m args below meth c H locs _ C hP hD hS hL)
theorem x_if_ne {x : Int32} {off : Int} {tgt : Nat} (hdg : decode M.2.1 pc = .ok (.ifCond .ne off, 3)) (ht : (pc : Int) + off = (tgt : Int)) (kt : ¬ x = 0 → Xg l M A Z E G cells slots mem tgt lv st) (kf : x = 0 → Xg l M A Z E G cells slots mem (pc + 3) lv st) : Xg l M A Z E G cells slots mem pc lv (.int x :: st) := by
  intro p e s m args below meth c H locs ls C hP hD hS hL
  exact lv_if_ne C.1 C.2.1 hdg ht (fun h => kt h p e s m args below meth c H locs _ C hP hD hS hL) (fun h => kf h p e s m args below meth c H locs _ C hP hD hS hL)
theorem x_icmp_ne {x y : Int32} {off : Int} {tgt : Nat} (hdg : decode M.2.1 pc = .ok (.if_icmp .ne off, 3)) (ht : (pc : Int) + off = (tgt : Int)) (kt : ¬ x = y → Xg l M A Z E G cells slots mem tgt lv st) (kf : x = y → Xg l M A Z E G cells slots mem (pc + 3) lv st) : Xg l M A Z E G cells slots mem pc lv (.int y :: .int x :: st) := by
  intro p e s m args below meth c H locs ls C hP hD hS hL
  exact lv_icmp_ne C.1 C.2.1 hdg ht (fun h => kt h p e s m args below meth c H locs _ C hP hD hS hL) (fun h => kf h p e s m args below meth c H locs _ C hP hD hS hL)
theorem x_if_lt {x : Int32} {off : Int} {tgt : Nat} (hdg : decode M.2.1 pc = .ok (.ifCond .lt off, 3)) (ht : (pc : Int) + off = (tgt : Int)) (kt : x < 0 → Xg l M A Z E G cells slots mem tgt lv st) (kf : ¬ x < 0 → Xg l M A Z E G cells slots mem (pc + 3) lv st) : Xg l M A Z E G cells slots mem pc lv (.int x :: st) := by
  intro p e s m args below meth c H locs ls C hP hD hS hL
  exact lv_if_lt C.1 C.2.1 hdg ht (fun h => kt h p e s m args below meth c H locs _ C hP hD hS hL) (fun h => kf h p e s m args below meth c H locs _ C hP hD hS hL)
theorem x_icmp_lt {x y : Int32} {off : Int} {tgt : Nat} (hdg : decode M.2.1 pc = .ok (.if_icmp .lt off, 3)) (ht : (pc : Int) + off = (tgt : Int)) (kt : x < y → Xg l M A Z E G cells slots mem tgt lv st) (kf : ¬ x < y → Xg l M A Z E G cells slots mem (pc + 3) lv st) : Xg l M A Z E G cells slots mem pc lv (.int y :: .int x :: st) := by
  intro p e s m args below meth c H locs ls C hP hD hS hL
  exact lv_icmp_lt C.1 C.2.1 hdg ht (fun h => kt h p e s m args below meth c H locs _ C hP hD hS hL) (fun h => kf h p e s m args below meth c H locs _ C hP hD hS hL)
theorem x_if_ge {x : Int32} {off : Int} {tgt : Nat} (hdg : decode M.2.1 pc = .ok (.ifCond .ge off, 3)) (ht : (pc : Int) + off = (tgt : Int)) (kt : 0 ≤ x → Xg l M A Z E G cells slots mem tgt lv st) (kf : ¬ 0 ≤ x → Xg l M A Z E G cells slots mem (pc + 3) lv st) : Xg l M A Z E G cells slots mem pc lv (.int x :: st) := by
  intro p e s m args below meth c H locs ls C hP hD hS hL
  exact lv_if_ge C.1 C.2.1 hdg ht (fun h => kt h p e s m args below meth c H locs _ C hP hD hS hL) (fun h => kf h p e s m args below meth c H locs _ C hP hD hS hL)
theorem x_icmp_ge {x y : Int32} {off : Int} {tgt : Nat} (hdg : decode M.2.1 pc = .ok (.if_icmp .ge off, 3)) (ht : (pc : Int) + off = (tgt : Int)) (kt : y ≤ x → Xg l M A Z E G cells slots mem tgt lv st) (kf : ¬ y ≤ x → Xg l M A Z E G cells slots mem (pc + 3) lv st) : Xg l M A Z E G cells slots mem pc lv (.int y :: .int x :: st) := by
  intro p e s m args below meth c H locs ls C hP hD hS hL
  exact lv_icmp_ge C.1 C.2.1 hdg ht (fun h => kt h p e s m args below meth c H locs _ C hP hD hS hL) (fun h => kf h p e s m args below meth c H locs _ C hP hD hS hL)
theorem x_if_gt {x : Int32} {off : Int} {tgt : Nat} (hdg : decode M.2.1 pc = .ok (.ifCond .gt off, 3)) (ht : (pc : Int) + off = (tgt : Int)) (kt : 0 < x → Xg l M A Z E G cells slots mem tgt lv st) (kf : ¬ 0 < x → Xg l M A Z E G cells slots mem (pc + 3) lv st) : Xg l M A Z E G cells slots mem pc lv (.int x :: st) := by
  intro p e s m args below meth c H locs ls C hP hD hS hL
  exact lv_if_gt C.1 C.2.1 hdg ht (fun h => kt h p e s m args below meth c H locs _ C hP hD hS hL) (fun h => kf h p e s m args below meth c H locs _ C hP hD hS hL)
theorem x_icmp_gt {x y : Int32} {off : Int} {tgt : Nat} (hdg : decode M.2.1 pc = .ok (.if_icmp .gt off, 3)) (ht : (pc : Int) + off = (tgt : Int)) (kt : y < x → Xg l M A Z E G cells slots mem tgt lv st) (kf : ¬ y < x → Xg l M A Z E G cells slots mem (pc + 3) lv st) : Xg l M A Z E G cells slots mem pc lv (.int y :: .int x :: st) := by
  intro p e s m args below meth c H locs ls C hP hD hS hL
  exact lv_icmp_gt C.1 C.2.1 hdg ht (fun h => kt h p e s m args below meth c H locs _ C hP hD hS hL) (fun h => kf h p e s m args below meth c H locs _ C hP hD hS hL)
theorem x_if_le {x : Int32} {off : Int} {tgt : Nat} (hdg : decode M.2.1 pc = .ok (.ifCond .le off, 3)) (ht : (pc : Int) + off = (tgt : Int)) (kt : x ≤ 0 → Xg l M A Z E G cells slots mem tgt lv st) (kf : ¬ x ≤ 0 → Xg l M A Z E G cells slots mem (pc + 3) lv st) : Xg l M A Z E G cells slots mem pc lv (.int x :: st) := by
  intro p e s m args below meth c H locs ls C hP hD hS hL
  exact lv_if_le C.1 C.2.1 hdg ht (fun h => kt h p e s m args below meth c H locs _ C hP hD hS hL) (fun h => kf h p e s m args below meth c H locs _ C hP hD hS hL)
theorem x_icmp_le {x y : Int32} {off : Int} {tgt : Nat} (hdg : decode M.2.1 pc = .ok (.if_icmp .le off, 3)) (ht : (pc : Int) + off = (tgt : Int)) (kt : x ≤ y → Xg l M A Z E G cells slots mem tgt lv st) (kf : ¬ x ≤ y → Xg l M A Z E G cells slots mem (pc + 3) lv st) : Xg l M A Z E G cells slots mem pc lv (.int y :: .int x :: st) := by
  intro p e s m args below meth c H locs ls C hP hD hS hL
  exact lv_icmp_le C.1 C.2.1 hdg ht (fun h => kt h p e s m args below meth c H locs _ C hP hD hS hL) (fun h => kf h p e s m args below meth c H locs _ C hP hD hS hL)
theorem x_tableIn {dflt lo hi : Int} {offs : Array Int} {len : Nat} {x : Int32} {off : Int} {tgt : Nat} (hdg : decode M.2.1 pc = .ok (.tableswitch dflt lo hi offs, len)) (h1 : ¬ x.toInt < lo) (h2 : ¬ hi < x.toInt) (ho : offs[(x.toInt - lo).toNat]? = some off) (ht : (pc : Int) + off = (tgt : Int)) (kk : Xg l M A Z E G cells slots mem tgt lv st) : Xg l M A Z E G cells slots mem pc lv (.int x :: st) := by
  intro p e s m args below meth c H locs ls C hP hD hS hL
  exact lv_tableIn C.1 C.2.1 hdg h1 h2 ho ht (kk p e s m args below meth c H locs _ C hP hD hS hL)
theorem x_tableOut {dflt lo hi : Int} {offs : Array Int} {len : Nat} {x : Int32} {tgt : Nat} (hdg : decode M.2.1 pc = .ok (.tableswitch dflt lo hi offs, len)) (h : x.toInt < lo ∨ hi < x.toInt) (ht : (pc : Int) + dflt = (tgt : Int)) (kk : Xg l M A Z E G cells slots mem tgt lv st) : Xg l M A Z E G cells slots mem pc lv (.int x :: st) := by
  intro p e s m args below meth c H locs ls C hP hD hS hL
  exact lv_tableOut C.1 C.2.1 hdg h ht (kk p e s m args below meth c H locs _ C hP hD hS hL)
/-- fewer locals, in another order, by their places -/
theorem x_sub (ks : List Nat) (hl : lv_pick lv ks = lv') (kk : Xg l M A Z E G cells slots mem pc lv' st) : Xg l M A Z E G cells slots mem pc lv st := by
  intro p e s m args below meth c H locs ls C hP hD hS hL
  exact kk p e s m args below meth c H locs _ C hP hD hS (lv_sub hL ks hl)
/-- the same frame, written otherwise -/
theorem x_eq {pc2 : Nat} {st2 : List Value} (h : pc = pc2) (h2 : lv = lv') (h3 : st = st2) (kk : Xg l M A Z E G cells slots mem pc2 lv' st2) : Xg l M A Z E G cells slots mem pc lv st := by
  subst h; subst h2; subst h3; exact kk
theorem x_mem {mem2 : Mem} (h : mem = mem2) (kk : Xg l M A Z E G cells slots mem2 pc lv st) : Xg l M A Z E G cells slots mem pc lv st := by
  subst h; exact kk
theorem x_get {index ci N : Nat} {C0 ref : String} {T : u_T} (j k : Nat) {fs : List Value} {v : Value} (hdg : decode M.2.1 pc = .ok (.getfield index, 3)) (hj : j < gK G) (hc : cellR G j (mem j) = .inr (ci, fs)) (hcl : vwCl[ci]? = some (C0, T, N)) (hin : ∀ w ∈ u_ws C0 T N, w ∈ TB) (hk : k < N) (hw : Cond.fieldLink M.1.cls index ref (T k).2.1 (T k).2.2.1 ∈ TB) (hsame : (T k).1 = ref) (hv : fs[k]? = some v) (kk : Xg l M A Z E G cells slots mem (pc + 3) lv (v :: st)) : Xg l M A Z E G cells slots mem pc lv (.ref (gA G j) :: st) := by
  intro p e s m args below meth c H locs ls C hP hD hS hL
  exact va_get C.1 C.2.1 C.2.2.2.2.1 hin C.2.2.2.1 C.2.2.2.2.2.2.2.2.1.1 hP j (by rw [wd_at hj, ← hc]) hcl k hk (C.2.2.2.2.1 _ hw) (fun x h => by rw [hsame] at h; exact h) hv hdg (kk p e s m args below meth c H locs _ C hP hD hS hL)
/-- an int field is written -/
theorem x_put {index ci N : Nat} {C0 ref : String} {T : u_T} (j k : Nat) {fs : (Nat → Int32) → List Value} {v : Int32} (hdg : decode M.2.1 pc = .ok (.putfield index, 3)) (hj : j < gK G) (hc : ∀ r, cellR G j r = .inr (ci, fs r)) (hcl : vwCl[ci]? = some (C0, T, N)) (hin : ∀ w ∈ u_ws C0 T N, w ∈ TB) (ty0 : Nat → FieldType) (hty : ∀ k, k < N → parseFieldDescriptor (T k).2.2.1 = some (ty0 k)) (hnm : ∀ a, a < N → ∀ b, b < N → a ≠ b → (T a).2.1 ≠ (T b).2.1) (hk : k < N) (hw : Cond.fieldLink M.1.cls index ref (T k).2.1 (T k).2.2.1 ∈ TB) (hsame : (T k).1 = ref) (hfin : (T k).2.2.2 = false) (hd : parseFieldDescriptor (T k).2.2.1 = some .int) (hl : ∀ r, k < (fs r).length) (hset : ∀ (r : Nat → Int32) (v : Int32), (fs r).set k (.int v) = fs (upd r k v)) (kk : Xg l M A Z E G cells slots (wr mem j k v) (pc + 3) lv st) : Xg l M A Z E G cells slots mem pc lv (.int v :: .ref (gA G j) :: st) := by
  intro p e s m args below meth c H locs ls C hP hD hS hL
  have hset' : (wd (gK G) (gA G) (cellOf G mem)).set j (gA G j, .inr (ci, (fs (mem j)).set k (.int v))) = wd (gK G) (gA G) (cellOf G (wr mem j k v)) :=
    wd_set hj (by show cellR G j (wr mem j k v j) = _; rw [hc, hset]; simp [wr, wrA]) (fun i hi => by show cellR G i (wr mem j k v i) = _; simp [wr, wrA, hi])
  exact va_put C.1 C.2.1 C.2.2.2.2.1 hin ty0 hty hnm C.2.2.2.1 C.2.2.2.2.2.2.2.2.1.1 hP hD hS j (by rw [wd_at hj]; exact congrArg (fun z => some (gA G j, z)) (hc _)) hcl k hk (C.2.2.2.2.1 _ hw) (fun x h => by rw [hsame] at h; exact h) hfin hd rfl rfl (hl _) hdg (fun H1 locs1 hP1 hD1 hS1 => kk p e s m args below meth c H1 locs1 _ C (by rw [← hset']; exact hP1) (by rw [← hset']; exact hD1) hS1 hL)
theorem x_iald {n : Nat} {i : Int32} (j : Nat) (hdg : decode M.2.1 pc = .ok (.iaload, 1)) (hj : j < gK G) (hc : cellR G j (mem j) = rI (gC G) n (mem j)) (hin : vp_in i n) (kk : Xg l M A Z E G cells slots mem (pc + 1) lv (.int (mem j i.toNatClampNeg) :: st)) : Xg l M A Z E G cells slots mem pc lv (.int i :: .ref (gA G j) :: st) := by
  intro p e s m args below meth c H locs ls C hP hD hS hL
  exact va_iald C.1 C.2.1 C.2.2.2.2.2.2.2.2.1.1 hP j 0 (cA := (gC G).1) (n := n) (f := mem j) (by rw [wd_at hj]; exact congrArg (fun z => some (gA G j, z)) hc) rfl hin hdg (kk p e s m args below meth c H locs _ C hP hD hS hL)
theorem x_zald {n : Nat} {i : Int32} (j : Nat) (hdg : decode M.2.1 pc = .ok (.baload, 1)) (hj : j < gK G) (hc : cellR G j (mem j) = rZ (gC G) n (mem j)) (hin : vp_in i n) (kk : Xg l M A Z E G cells slots mem (pc + 1) lv (.int (mem j i.toNatClampNeg) :: st)) : Xg l M A Z E G cells slots mem pc lv (.int i :: .ref (gA G j) :: st) := by
  intro p e s m args below meth c H locs ls C hP hD hS hL
  exact va_zald C.1 C.2.1 C.2.2.2.2.2.2.2.2.1.1 hP j 1 (cA := (gC G).2.1) (n := n) (f := mem j) (by rw [wd_at hj]; exact congrArg (fun z => some (gA G j, z)) hc) rfl hin hdg (kk p e s m args below meth c H locs _ C hP hD hS hL)
theorem x_iast {n : Nat} {i v : Int32} (j : Nat) (hdg : decode M.2.1 pc = .ok (.iastore, 1)) (hj : j < gK G) (hc : ∀ r, cellR G j r = rI (gC G) n r) (hin : vp_in i n) (kk : Xg l M A Z E G cells slots (wr mem j i.toNatClampNeg v) (pc + 1) lv st) : Xg l M A Z E G cells slots mem pc lv (.int v :: .int i :: .ref (gA G j) :: st) := by
  intro p e s m args below meth c H locs ls C hP hD hS hL
  have hset' : (wd (gK G) (gA G) (cellOf G mem)).set j (gA G j, .inl ((gC G).1, n, .inl (upd (mem j) i.toNatClampNeg v))) = wd (gK G) (gA G) (cellOf G (wr mem j i.toNatClampNeg v)) :=
    wd_set hj (by show cellR G j (wr mem j _ v j) = _; rw [hc]; simp [wr, wrA, rI]) (fun q hq => by show cellR G q (wr mem j _ v q) = _; simp [wr, wrA, hq])
  exact va_iast C.1 C.2.1 C.2.2.2.2.2.2.2.2.1.1 hP hD hS j 0 (cA := (gC G).1) (n := n) (f := mem j) (by rw [wd_at hj]; exact congrArg (fun z => some (gA G j, z)) (hc _)) rfl hin hdg (fun H1 locs1 hP1 hD1 hS1 => kk p e s m args below meth c H1 locs1 _ C (by rw [← hset']; exact hP1) (by rw [← hset']; exact hD1) hS1 hL)
theorem x_zast {n : Nat} {i v : Int32} (j : Nat) (hdg : decode M.2.1 pc = .ok (.bastore, 1)) (hj : j < gK G) (hc : ∀ r, cellR G j r = rZ (gC G) n r) (hin : vp_in i n) (hv : v = 0 ∨ v = 1) (kk : Xg l M A Z E G cells slots (wr mem j i.toNatClampNeg v) (pc + 1) lv st) : Xg l M A Z E G cells slots mem pc lv (.int v :: .int i :: .ref (gA G j) :: st) := by
  intro p e s m args below meth c H locs ls C hP hD hS hL
  have hn : vp_nar .boolean v = v := by rcases hv with rfl | rfl <;> rfl
  have hset' : (wd (gK G) (gA G) (cellOf G mem)).set j (gA G j, .inl ((gC G).2.1, n, .inl (upd (mem j) i.toNatClampNeg v))) = wd (gK G) (gA G) (cellOf G (wr mem j i.toNatClampNeg v)) :=
    wd_set hj (by show cellR G j (wr mem j _ v j) = _; rw [hc]; simp [wr, wrA, rZ]) (fun q hq => by show cellR G q (wr mem j _ v q) = _; simp [wr, wrA, hq])
  exact va_zast C.1 C.2.1 C.2.2.2.2.2.2.2.2.1.1 hP hD hS j 1 (cA := (gC G).2.1) (n := n) (f := mem j) (by rw [wd_at hj]; exact congrArg (fun z => some (gA G j, z)) (hc _)) rfl hin hdg (fun H1 locs1 hP1 hD1 hS1 => kk p e s m args below meth c H1 locs1 _ C (by rw [← hset', ← hn]; exact hP1) (by rw [← hset', ← hn]; exact hD1) hS1 hL)
theorem x_aaldR {n : Nat} {i : Int32} {f : Nat → Option Nat} {v : Nat} (j : Nat) (hdg : decode M.2.1 pc = .ok (.aaload, 1)) (hj : j < gK G) (hc : cellR G j (mem j) = rR (gC G) n f) (hin : vp_in i n) (hv : f i.toNatClampNeg = some v) (kk : Xg l M A Z E G cells slots mem (pc + 1) lv (.ref v :: st)) : Xg l M A Z E G cells slots mem pc lv (.int i :: .ref (gA G j) :: st) := by
  intro p e s m args below meth c H locs ls C hP hD hS hL
  have hlt : i.toNatClampNeg < n := Nat.not_le.mp fun q => hin (Or.inr q)
  have hcell := hP j _ (wd_at hj)
  rw [show cellOf G mem j = rR (gC G) n f from hc] at hcell
  refine W.aald (v := .ref v) (ty := .array .int) C.1 C.2.1 hcell ((C.2.2.2.2.2.2.2.2.1.1.2 3 _ rfl).1 n (fun j => va_rf (f j))) rfl (fun q => by cases q) (by show ¬ (i < 0 ∨ (arrV _ _ _).slots.size ≤ _); rw [arrV_size]; exact hin) (by show (arrV _ _ _).slots[_]? = _; rw [arrV_read _ _ hlt, hv]; rfl) rfl rfl hdg (kk p e s m args below meth c H locs _ C hP hD hS hL)
theorem x_aaldF {n : Nat} {i : Int32} {f : Nat → Option Nat} {v : Nat} (j : Nat) (hdg : decode M.2.1 pc = .ok (.aaload, 1)) (hj : j < gK G) (hc : cellR G j (mem j) = rF (gC G) n f) (hin : vp_in i n) (hv : f i.toNatClampNeg = some v) (kk : Xg l M A Z E G cells slots mem (pc + 1) lv (.ref v :: st)) : Xg l M A Z E G cells slots mem pc lv (.int i :: .ref (gA G j) :: st) := by
  intro p e s m args below meth c H locs ls C hP hD hS hL
  have hlt : i.toNatClampNeg < n := Nat.not_le.mp fun q => hin (Or.inr q)
  have hcell := hP j _ (wd_at hj)
  rw [show cellOf G mem j = rF (gC G) n f from hc] at hcell
  refine W.aald (v := .ref v) (ty := .object RX1) C.1 C.2.1 hcell ((C.2.2.2.2.2.2.2.2.1.1.2 2 _ rfl).1 n (fun j => va_rf (f j))) rfl (fun q => by cases q) (by show ¬ (i < 0 ∨ (arrV _ _ _).slots.size ≤ _); rw [arrV_size]; exact hin) (by show (arrV _ _ _).slots[_]? = _; rw [arrV_read _ _ hlt, hv]; rfl) rfl rfl hdg (kk p e s m args below meth c H locs _ C hP hD hS hL)
theorem x_alen {n : Nat} {v : Int32} (j : Nat) (hdg : decode M.2.1 pc = .ok (.arraylength, 1)) (hj : j < gK G) (hc : cellR G j (mem j) = rI (gC G) n (mem j)) (hv : Int32.ofNat n = v) (kk : Xg l M A Z E G cells slots mem (pc + 1) lv (.int v :: st)) : Xg l M A Z E G cells slots mem pc lv (.ref (gA G j) :: st) := by
  intro p e s m args below meth c H locs ls C hP hD hS hL
  exact va_alen C.1 C.2.1 C.2.2.2.2.2.2.2.2.1.1 hP j 0 (cA := (gC G).1) (x := (n, .inl (mem j))) (by rw [wd_at hj]; exact congrArg (fun z => some (gA G j, z)) hc) rfl hv hdg (kk p e s m args below meth c H locs _ C hP hD hS hL)
theorem x_mmax {index : Nat} {x y : Int32} (hdg : decode M.2.1 pc = .ok (.invokestatic index, 3)) (hw : Cond.methodLink M.1.cls index Lib.Math.max.name ∈ TB) (h2 : Cond.static Lib.Math.max.name ∈ TB) (h3 : Cond.initialized "java/lang/Math" ∈ TB) (h4 : Cond.code Lib.Math.max.name Lib.Math.max.code 2 (some .int) ∈ TB) (hR : 1 ≤ M.2.2.2.2.frames ∧ (st.map fun v => v.category).sum + 13 ≤ M.2.2.2.2.locals ∧ cells ≤ M.2.2.2.2.cells ∧ slots ≤ M.2.2.2.2.slots) (kk : Xg l M A Z E G cells slots mem (pc + 3) lv (.int (if x < y then y else x) :: st)) : Xg l M A Z E G cells slots mem pc lv (.int y :: .int x :: st) := by
  intro p e s m args below meth c H locs ls C hP hD hS hL
  exact va_mmax C.1 C.2.1 (C.2.2.1.trans hL.1.symm) C.2.2.2.1 (C.2.2.2.2.1 _ hw) (C.2.2.2.2.1 _ h2) (C.2.2.2.2.1 _ h3) (C.2.2.2.2.1 _ h4) hR.1 hR.2.1 hR.2.2.1 hR.2.2.2 hdg (kk p e s m args below meth c H locs _ C hP hD hS hL)
theorem x_mmin {index : Nat} {x y : Int32} (hdg : decode M.2.1 pc = .ok (.invokestatic index, 3)) (hw : Cond.methodLink M.1.cls index Lib.Math.min.name ∈ TB) (h2 : Cond.static Lib.Math.min.name ∈ TB) (h3 : Cond.initialized "java/lang/Math" ∈ TB) (h4 : Cond.code Lib.Math.min.name Lib.Math.min.code 2 (some .int) ∈ TB) (hR : 1 ≤ M.2.2.2.2.frames ∧ (st.map fun v => v.category).sum + 13 ≤ M.2.2.2.2.locals ∧ cells ≤ M.2.2.2.2.cells ∧ slots ≤ M.2.2.2.2.slots) (kk : Xg l M A Z E G cells slots mem (pc + 3) lv (.int (if y < x then y else x) :: st)) : Xg l M A Z E G cells slots mem pc lv (.int y :: .int x :: st) := by
  intro p e s m args below meth c H locs ls C hP hD hS hL
  exact va_mmin C.1 C.2.1 (C.2.2.1.trans hL.1.symm) C.2.2.2.1 (C.2.2.2.2.1 _ hw) (C.2.2.2.2.1 _ h2) (C.2.2.2.2.1 _ h3) (C.2.2.2.2.1 _ h4) hR.1 hR.2.1 hR.2.2.1 hR.2.2.2 hdg (kk p e s m args below meth c H locs _ C hP hD hS hL)
theorem x_copy {index : Nat} {n0 n1 : Nat} {sp dp n : Int32} (j0 j1 : Nat) (hdg : decode M.2.1 pc = .ok (.invokestatic index, 3)) (hw : Cond.methodLink M.1.cls index arraycopyName ∈ TB) (h2 : Cond.native arraycopyName ∈ TB) (h3 : Cond.static arraycopyName ∈ TB) (h4 : Cond.initialized "java/lang/System" ∈ TB) (hj0 : j0 < gK G) (hj1 : j1 < gK G) (hc0 : cellR G j0 (mem j0) = rI (gC G) n0 (mem j0)) (hc1 : ∀ r, cellR G j1 r = rI (gC G) n1 r) (hb : ¬ sp < 0 ∧ ¬ dp < 0 ∧ ¬ n < 0 ∧ sp.toNatClampNeg + n.toNatClampNeg ≤ n0 ∧ dp.toNatClampNeg + n.toNatClampNeg ≤ n1) (hR : 1 ≤ M.2.2.2.2.frames ∧ (st.map fun v => v.category).sum + (nativeFrameWords "java/lang/System" "arraycopy" 5 + 11) ≤ M.2.2.2.2.locals) (kk : Xg l M A Z E G cells slots (wrA mem j1 (va_cpy (mem j0) (mem j1) sp.toNatClampNeg dp.toNatClampNeg n.toNatClampNeg)) (pc + 3) lv st) : Xg l M A Z E G cells slots mem pc lv (.int n :: .int dp :: .ref (gA G j1) :: .int sp :: .ref (gA G j0) :: st) := by
  intro p e s m args below meth c H locs ls C hP hD hS hL
  have hset' : (wd (gK G) (gA G) (cellOf G mem)).set j1 (gA G j1, .inl ((gC G).1, n1, .inl (va_cpy (mem j0) (mem j1) sp.toNatClampNeg dp.toNatClampNeg n.toNatClampNeg))) = wd (gK G) (gA G) (cellOf G (wrA mem j1 (va_cpy (mem j0) (mem j1) sp.toNatClampNeg dp.toNatClampNeg n.toNatClampNeg))) :=
    wd_set hj1 (by show cellR G j1 (wrA mem j1 _ j1) = _; rw [hc1]; simp [wrA, rI]) (fun q hq => by show cellR G q (wrA mem j1 _ q) = _; simp [wrA, hq])
  exact va_copyi C.1 C.2.1 (C.2.2.1.trans hL.1.symm) C.2.2.2.1 (C.2.2.2.2.1 _ hw) (C.2.2.2.2.1 _ h2) (C.2.2.2.2.1 _ h3) (C.2.2.2.2.1 _ h4) C.2.2.2.2.2.2.2.2.1.1 hP hD hS j0 j1 0 0 (c0 := (gC G).1) (c1 := (gC G).1) (n0 := n0) (n1 := n1) (f := mem j0) (g := mem j1) (ty := .int) (by rw [wd_at hj0]; exact congrArg (fun z => some (gA G j0, z)) hc0) (by rw [wd_at hj1]; exact congrArg (fun z => some (gA G j1, z)) (hc1 _)) rfl rfl rfl hb.1 hb.2.1 hb.2.2.1 hb.2.2.2.1 hb.2.2.2.2 (fun i _ => rfl) hR.1 hR.2 hdg (fun H1 locs1 hP1 hD1 hS1 => kk p e s m args below meth c H1 locs1 _ C (by rw [← hset']; exact hP1) (by rw [← hset']; exact hD1) hS1 hL)
end XR
