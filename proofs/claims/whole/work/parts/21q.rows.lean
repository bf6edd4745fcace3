def kV (cs : Nat × Nat) (p : Program) (l : Launch) (e : Env) (R : Room) (s : State) (m : MethodId) (args : Array Value) (below : List Frame) (meth : Method) (c : Code) (Q : State → Prop) (nL : Nat) (t : TY) (pu : Bool) (pc : Nat) (lv : List (Nat × Value)) (st : List Value) (G : GS) : Prop :=
  ∀ (H : Heap) (locs : List Loc) (ls : Array Slot), lv_has ls nL lv → kZ t pu s G H locs → W p l e R s m args below meth c H locs cs.1 cs.2 Q (F0 m pc ls st)
section KV
variable {p : Program} {l : Launch} {e : Env} {R : Room} {s : State} {m : MethodId} {args : Array Value} {below : List Frame} {meth : Method} {c : Code} {Q : State → Prop}
variable {cc : ByteArray} {nL : Nat} {own : String} {t : TY} {pu : Bool} {G : GS} {pc : Nat} {lv lv' : List (Nat × Value)} {rest : List Value} {cs : Nat × Nat}
theorem kV.sub (ks : List Nat) (h : lv_pick lv ks = lv') (k : kV cs p l e R s m args below meth c Q nL t pu pc lv' rest G) : kV cs p l e R s m args below meth c Q nL t pu pc lv rest G := fun H locs ls hl hz => k H locs ls (lv_sub hl ks h) hz
theorem kV.st {st st' : List Value} (h : st = st') (k : kV cs p l e R s m args below meth c Q nL t pu pc lv st' G) : kV cs p l e R s m args below meth c Q nL t pu pc lv st G := h ▸ k
theorem kV.g {G' : GS} (h : G = G') (k : kV cs p l e R s m args below meth c Q nL t pu pc lv rest G') : kV cs p l e R s m args below meth c Q nL t pu pc lv rest G := h ▸ k
theorem qw_iconst {n : Int} {v : Int32} (X : kX p s m args meth c cc nL own t) (hd : decode cc pc = .ok (.iconst n, 1)) (hv : Int32.ofInt n = v) (k : kV cs p l e R s m args below meth c Q nL t pu (pc + 1) lv (.int v :: rest) G) : kV cs p l e R s m args below meth c Q nL t pu pc lv (rest) G := fun H locs ls hl hz => lv_iconst X.1 X.2.1  hd hv (k H locs ls hl hz)
theorem qw_bipush {n : Int} {v : Int32} (X : kX p s m args meth c cc nL own t) (hd : decode cc pc = .ok (.bipush n, 2)) (hv : (Int8.ofInt n).toInt32 = v) (k : kV cs p l e R s m args below meth c Q nL t pu (pc + 2) lv (.int v :: rest) G) : kV cs p l e R s m args below meth c Q nL t pu pc lv (rest) G := fun H locs ls hl hz => lv_bipush X.1 X.2.1  hd hv (k H locs ls hl hz)
theorem qw_sipush {n : Int} {v : Int32} (X : kX p s m args meth c cc nL own t) (hd : decode cc pc = .ok (.sipush n, 3)) (hv : (Int16.ofInt n).toInt32 = v) (k : kV cs p l e R s m args below meth c Q nL t pu (pc + 3) lv (.int v :: rest) G) : kV cs p l e R s m args below meth c Q nL t pu pc lv (rest) G := fun H locs ls hl hz => lv_sipush X.1 X.2.1  hd hv (k H locs ls hl hz)
theorem qw_lconst {n : Fin 2} {v : Int64} (X : kX p s m args meth c cc nL own t) (hd : decode cc pc = .ok (.lconst n, 1)) (hv : Int64.ofNat (n : Nat) = v) (k : kV cs p l e R s m args below meth c Q nL t pu (pc + 1) lv (.long v :: rest) G) : kV cs p l e R s m args below meth c Q nL t pu pc lv (rest) G := fun H locs ls hl hz => lv_lconst X.1 X.2.1  hd hv (k H locs ls hl hz)
theorem qw_ldc {idx : Nat} {v : Int32} (X : kX p s m args meth c cc nL own t) (hd : decode cc pc = .ok (.ldc idx, 2)) (hw : Cond.constant own idx v ∈ GW) (k : kV cs p l e R s m args below meth c Q nL t pu (pc + 2) lv (.int v :: rest) G) : kV cs p l e R s m args below meth c Q nL t pu pc lv rest G := fun H locs ls hl hz => lv_ldc X.1 X.2.1 X.o (X.w hw) hd (k H locs ls hl hz)
theorem qw_ldcw {idx : Nat} {v : Int32} (X : kX p s m args meth c cc nL own t) (hd : decode cc pc = .ok (.ldc_w idx, 3)) (hw : Cond.constant own idx v ∈ GW) (k : kV cs p l e R s m args below meth c Q nL t pu (pc + 3) lv (.int v :: rest) G) : kV cs p l e R s m args below meth c Q nL t pu pc lv rest G := fun H locs ls hl hz => lv_ldcw X.1 X.2.1 X.o (X.w hw) hd (k H locs ls hl hz)
theorem qw_ldc2 {idx : Nat} {v : Int64} (X : kX p s m args meth c cc nL own t) (hd : decode cc pc = .ok (.ldc2_w idx, 3)) (hw : Cond.constantLong own idx v ∈ GW) (k : kV cs p l e R s m args below meth c Q nL t pu (pc + 3) lv (.long v :: rest) G) : kV cs p l e R s m args below meth c Q nL t pu pc lv rest G := fun H locs ls hl hz => lv_ldc2 X.1 X.2.1 X.o (X.w hw) hd (k H locs ls hl hz)
theorem qw_null  (X : kX p s m args meth c cc nL own t) (hd : decode cc pc = .ok (.aconst_null, 1))  (k : kV cs p l e R s m args below meth c Q nL t pu (pc + 1) lv (va_rf none :: rest) G) : kV cs p l e R s m args below meth c Q nL t pu pc lv (rest) G := fun H locs ls hl hz => lv_null X.1 X.2.1  hd  (k H locs ls hl hz)
theorem qw_iload_n {k : Fin 4} {i : Nat} {x : Int32} (X : kX p s m args meth c cc nL own t) (hd : decode cc pc = .ok (.iload_n k, 1)) (hi : (k : Nat) = i) (q : Nat) (hq : lv[q]? = some (i, .int x)) (k : kV cs p l e R s m args below meth c Q nL t pu (pc + 1) lv (.int x :: rest) G) : kV cs p l e R s m args below meth c Q nL t pu pc lv rest G := fun H locs ls hl hz => lv_iload_n X.1 X.2.1 hd hi (lv_at hl q hq) (k H locs ls hl hz)
theorem qw_iload {i : Nat} {x : Int32} (X : kX p s m args meth c cc nL own t) (hd : decode cc pc = .ok (.iload i, 2)) (q : Nat) (hq : lv[q]? = some (i, .int x)) (k : kV cs p l e R s m args below meth c Q nL t pu (pc + 2) lv (.int x :: rest) G) : kV cs p l e R s m args below meth c Q nL t pu pc lv rest G := fun H locs ls hl hz => lv_iload X.1 X.2.1 hd (lv_at hl q hq) (k H locs ls hl hz)
theorem qw_lload_n {k : Fin 4} {i : Nat} {x : Int64} (X : kX p s m args meth c cc nL own t) (hd : decode cc pc = .ok (.lload_n k, 1)) (hi : (k : Nat) = i) (q : Nat) (hq : lv[q]? = some (i, .long x)) (k : kV cs p l e R s m args below meth c Q nL t pu (pc + 1) lv (.long x :: rest) G) : kV cs p l e R s m args below meth c Q nL t pu pc lv rest G := fun H locs ls hl hz => lv_lload_n X.1 X.2.1 hd hi (lv_at hl q hq) (k H locs ls hl hz)
theorem qw_lload {i : Nat} {x : Int64} (X : kX p s m args meth c cc nL own t) (hd : decode cc pc = .ok (.lload i, 2)) (q : Nat) (hq : lv[q]? = some (i, .long x)) (k : kV cs p l e R s m args below meth c Q nL t pu (pc + 2) lv (.long x :: rest) G) : kV cs p l e R s m args below meth c Q nL t pu pc lv rest G := fun H locs ls hl hz => lv_lload X.1 X.2.1 hd (lv_at hl q hq) (k H locs ls hl hz)
theorem qw_aload_n {k : Fin 4} {i : Nat} {r : Option Nat} (X : kX p s m args meth c cc nL own t) (hd : decode cc pc = .ok (.aload_n k, 1)) (hi : (k : Nat) = i) (q : Nat) (hq : lv[q]? = some (i, va_rf r)) (k : kV cs p l e R s m args below meth c Q nL t pu (pc + 1) lv (va_rf r :: rest) G) : kV cs p l e R s m args below meth c Q nL t pu pc lv rest G := fun H locs ls hl hz => by
  cases r with
  | none => exact lv_aload_nN X.1 X.2.1 hd hi (lv_at hl q hq) (k H locs ls hl hz)
  | some a => exact lv_aload_n X.1 X.2.1 hd hi (lv_at hl q hq) (k H locs ls hl hz)
theorem qw_aload {i : Nat} {r : Option Nat} (X : kX p s m args meth c cc nL own t) (hd : decode cc pc = .ok (.aload i, 2)) (q : Nat) (hq : lv[q]? = some (i, va_rf r)) (k : kV cs p l e R s m args below meth c Q nL t pu (pc + 2) lv (va_rf r :: rest) G) : kV cs p l e R s m args below meth c Q nL t pu pc lv rest G := fun H locs ls hl hz => by
  cases r with
  | none => exact lv_aloadN X.1 X.2.1 hd (lv_at hl q hq) (k H locs ls hl hz)
  | some a => exact lv_aload X.1 X.2.1 hd (lv_at hl q hq) (k H locs ls hl hz)
theorem qw_istore_n {k : Fin 4} {i : Nat} {x : Int32} (X : kX p s m args meth c cc nL own t) (hd : decode cc pc = .ok (.istore_n k, 1)) (hi : (k : Nat) = i) (hn : i < nL) (hl' : (i, Value.int x) :: lv.filter (fun q => !(q.1 == i) && !(q.1 + 1 == i && q.2.category == 2)) = lv') (k : kV cs p l e R s m args below meth c Q nL t pu (pc + 1) lv' rest G) : kV cs p l e R s m args below meth c Q nL t pu pc lv (.int x :: rest) G := fun H locs ls hl hz => lv_istore_n X.1 X.2.1 hd hi hl hn hl' (fun ls' h' => k H locs ls' h' hz)
theorem qw_istore {i : Nat} {x : Int32} (X : kX p s m args meth c cc nL own t) (hd : decode cc pc = .ok (.istore i, 2)) (hn : i < nL) (hl' : (i, Value.int x) :: lv.filter (fun q => !(q.1 == i) && !(q.1 + 1 == i && q.2.category == 2)) = lv') (k : kV cs p l e R s m args below meth c Q nL t pu (pc + 2) lv' rest G) : kV cs p l e R s m args below meth c Q nL t pu pc lv (.int x :: rest) G := fun H locs ls hl hz => lv_istore X.1 X.2.1 hd hl hn hl' (fun ls' h' => k H locs ls' h' hz)
theorem qw_lstore_n {k : Fin 4} {i : Nat} {x : Int64} (X : kX p s m args meth c cc nL own t) (hd : decode cc pc = .ok (.lstore_n k, 1)) (hi : (k : Nat) = i) (hn : i + 1 < nL) (hl' : (i, Value.long x) :: lv.filter (fun q => !(q.1 == i) && (!(q.1 == i + 1) && !(q.1 + 1 == i && q.2.category == 2))) = lv') (k : kV cs p l e R s m args below meth c Q nL t pu (pc + 1) lv' rest G) : kV cs p l e R s m args below meth c Q nL t pu pc lv (.long x :: rest) G := fun H locs ls hl hz => lv_lstore_n X.1 X.2.1 hd hi hl hn hl' (fun ls' h' => k H locs ls' h' hz)
theorem qw_lstore {i : Nat} {x : Int64} (X : kX p s m args meth c cc nL own t) (hd : decode cc pc = .ok (.lstore i, 2)) (hn : i + 1 < nL) (hl' : (i, Value.long x) :: lv.filter (fun q => !(q.1 == i) && (!(q.1 == i + 1) && !(q.1 + 1 == i && q.2.category == 2))) = lv') (k : kV cs p l e R s m args below meth c Q nL t pu (pc + 2) lv' rest G) : kV cs p l e R s m args below meth c Q nL t pu pc lv (.long x :: rest) G := fun H locs ls hl hz => lv_lstore X.1 X.2.1 hd hl hn hl' (fun ls' h' => k H locs ls' h' hz)
theorem qw_astore_n {k : Fin 4} {i : Nat} {r : Option Nat} (X : kX p s m args meth c cc nL own t) (hd : decode cc pc = .ok (.astore_n k, 1)) (hi : (k : Nat) = i) (hn : i < nL) (hl' : (i, va_rf r) :: lv.filter (fun q => !(q.1 == i) && !(q.1 + 1 == i && q.2.category == 2)) = lv') (k : kV cs p l e R s m args below meth c Q nL t pu (pc + 1) lv' rest G) : kV cs p l e R s m args below meth c Q nL t pu pc lv (va_rf r :: rest) G := fun H locs ls hl hz => by
  cases r with
  | none => exact lv_astore_nN X.1 X.2.1 hd hi hl hn hl' (fun ls' h' => k H locs ls' h' hz)
  | some a => exact lv_astore_n X.1 X.2.1 hd hi hl hn hl' (fun ls' h' => k H locs ls' h' hz)
theorem qw_astore {i : Nat} {r : Option Nat} (X : kX p s m args meth c cc nL own t) (hd : decode cc pc = .ok (.astore i, 2)) (hn : i < nL) (hl' : (i, va_rf r) :: lv.filter (fun q => !(q.1 == i) && !(q.1 + 1 == i && q.2.category == 2)) = lv') (k : kV cs p l e R s m args below meth c Q nL t pu (pc + 2) lv' rest G) : kV cs p l e R s m args below meth c Q nL t pu pc lv (va_rf r :: rest) G := fun H locs ls hl hz => by
  cases r with
  | none => exact lv_astoreN X.1 X.2.1 hd hl hn hl' (fun ls' h' => k H locs ls' h' hz)
  | some a => exact lv_astore X.1 X.2.1 hd hl hn hl' (fun ls' h' => k H locs ls' h' hz)
theorem qw_iinc {i : Nat} {n : Int} {x v : Int32} (X : kX p s m args meth c cc nL own t) (hd : decode cc pc = .ok (.iinc i n, 3)) (q : Nat) (hq : lv[q]? = some (i, .int x)) (hv : x + Int32.ofInt n = v) (hn : i < nL) (hl' : (i, Value.int v) :: lv.filter (fun q => !(q.1 == i) && !(q.1 + 1 == i && q.2.category == 2)) = lv') (k : kV cs p l e R s m args below meth c Q nL t pu (pc + 3) lv' rest G) : kV cs p l e R s m args below meth c Q nL t pu pc lv rest G := fun H locs ls hl hz => lv_iinc X.1 X.2.1 hd hl hq hv hn hl' (fun ls' h' => k H locs ls' h' hz)
theorem qw_iadd {x y : Int32} (X : kX p s m args meth c cc nL own t) (hd : decode cc pc = .ok (.iadd, 1))  (k : kV cs p l e R s m args below meth c Q nL t pu (pc + 1) lv (.int (x + y) :: rest) G) : kV cs p l e R s m args below meth c Q nL t pu pc lv (.int y :: .int x :: rest) G := fun H locs ls hl hz => lv_iadd X.1 X.2.1  hd  (k H locs ls hl hz)
theorem qw_isub {x y : Int32} (X : kX p s m args meth c cc nL own t) (hd : decode cc pc = .ok (.isub, 1))  (k : kV cs p l e R s m args below meth c Q nL t pu (pc + 1) lv (.int (x - y) :: rest) G) : kV cs p l e R s m args below meth c Q nL t pu pc lv (.int y :: .int x :: rest) G := fun H locs ls hl hz => lv_isub X.1 X.2.1  hd  (k H locs ls hl hz)
theorem qw_imul {x y : Int32} (X : kX p s m args meth c cc nL own t) (hd : decode cc pc = .ok (.imul, 1))  (k : kV cs p l e R s m args below meth c Q nL t pu (pc + 1) lv (.int (x * y) :: rest) G) : kV cs p l e R s m args below meth c Q nL t pu pc lv (.int y :: .int x :: rest) G := fun H locs ls hl hz => lv_imul X.1 X.2.1  hd  (k H locs ls hl hz)
theorem qw_iand {x y : Int32} (X : kX p s m args meth c cc nL own t) (hd : decode cc pc = .ok (.iand, 1))  (k : kV cs p l e R s m args below meth c Q nL t pu (pc + 1) lv (.int (x &&& y) :: rest) G) : kV cs p l e R s m args below meth c Q nL t pu pc lv (.int y :: .int x :: rest) G := fun H locs ls hl hz => lv_iand X.1 X.2.1  hd  (k H locs ls hl hz)
theorem qw_ior {x y : Int32} (X : kX p s m args meth c cc nL own t) (hd : decode cc pc = .ok (.ior, 1))  (k : kV cs p l e R s m args below meth c Q nL t pu (pc + 1) lv (.int (x ||| y) :: rest) G) : kV cs p l e R s m args below meth c Q nL t pu pc lv (.int y :: .int x :: rest) G := fun H locs ls hl hz => lv_ior X.1 X.2.1  hd  (k H locs ls hl hz)
theorem qw_ixor {x y : Int32} (X : kX p s m args meth c cc nL own t) (hd : decode cc pc = .ok (.ixor, 1))  (k : kV cs p l e R s m args below meth c Q nL t pu (pc + 1) lv (.int (x ^^^ y) :: rest) G) : kV cs p l e R s m args below meth c Q nL t pu pc lv (.int y :: .int x :: rest) G := fun H locs ls hl hz => lv_ixor X.1 X.2.1  hd  (k H locs ls hl hz)
theorem qw_idiv {x y : Int32} (X : kX p s m args meth c cc nL own t) (hd : decode cc pc = .ok (.idiv, 1)) (hne : ¬ y = 0) (k : kV cs p l e R s m args below meth c Q nL t pu (pc + 1) lv (.int (x / y) :: rest) G) : kV cs p l e R s m args below meth c Q nL t pu pc lv (.int y :: .int x :: rest) G := fun H locs ls hl hz => lv_idiv X.1 X.2.1  hd hne (k H locs ls hl hz)
theorem qw_irem {x y : Int32} (X : kX p s m args meth c cc nL own t) (hd : decode cc pc = .ok (.irem, 1)) (hne : ¬ y = 0) (k : kV cs p l e R s m args below meth c Q nL t pu (pc + 1) lv (.int (x - x / y * y) :: rest) G) : kV cs p l e R s m args below meth c Q nL t pu pc lv (.int y :: .int x :: rest) G := fun H locs ls hl hz => lv_irem X.1 X.2.1  hd hne (k H locs ls hl hz)
theorem qw_ladd {x y : Int64} (X : kX p s m args meth c cc nL own t) (hd : decode cc pc = .ok (.ladd, 1))  (k : kV cs p l e R s m args below meth c Q nL t pu (pc + 1) lv (.long (x + y) :: rest) G) : kV cs p l e R s m args below meth c Q nL t pu pc lv (.long y :: .long x :: rest) G := fun H locs ls hl hz => lv_ladd X.1 X.2.1  hd  (k H locs ls hl hz)
theorem qw_lsub {x y : Int64} (X : kX p s m args meth c cc nL own t) (hd : decode cc pc = .ok (.lsub, 1))  (k : kV cs p l e R s m args below meth c Q nL t pu (pc + 1) lv (.long (x - y) :: rest) G) : kV cs p l e R s m args below meth c Q nL t pu pc lv (.long y :: .long x :: rest) G := fun H locs ls hl hz => lv_lsub X.1 X.2.1  hd  (k H locs ls hl hz)
theorem qw_lmul {x y : Int64} (X : kX p s m args meth c cc nL own t) (hd : decode cc pc = .ok (.lmul, 1))  (k : kV cs p l e R s m args below meth c Q nL t pu (pc + 1) lv (.long (x * y) :: rest) G) : kV cs p l e R s m args below meth c Q nL t pu pc lv (.long y :: .long x :: rest) G := fun H locs ls hl hz => lv_lmul X.1 X.2.1  hd  (k H locs ls hl hz)
theorem qw_land {x y : Int64} (X : kX p s m args meth c cc nL own t) (hd : decode cc pc = .ok (.land, 1))  (k : kV cs p l e R s m args below meth c Q nL t pu (pc + 1) lv (.long (x &&& y) :: rest) G) : kV cs p l e R s m args below meth c Q nL t pu pc lv (.long y :: .long x :: rest) G := fun H locs ls hl hz => lv_land X.1 X.2.1  hd  (k H locs ls hl hz)
theorem qw_lor {x y : Int64} (X : kX p s m args meth c cc nL own t) (hd : decode cc pc = .ok (.lor, 1))  (k : kV cs p l e R s m args below meth c Q nL t pu (pc + 1) lv (.long (x ||| y) :: rest) G) : kV cs p l e R s m args below meth c Q nL t pu pc lv (.long y :: .long x :: rest) G := fun H locs ls hl hz => lv_lor X.1 X.2.1  hd  (k H locs ls hl hz)
theorem qw_lxor {x y : Int64} (X : kX p s m args meth c cc nL own t) (hd : decode cc pc = .ok (.lxor, 1))  (k : kV cs p l e R s m args below meth c Q nL t pu (pc + 1) lv (.long (x ^^^ y) :: rest) G) : kV cs p l e R s m args below meth c Q nL t pu pc lv (.long y :: .long x :: rest) G := fun H locs ls hl hz => lv_lxor X.1 X.2.1  hd  (k H locs ls hl hz)
theorem qw_ldiv {x y : Int64} (X : kX p s m args meth c cc nL own t) (hd : decode cc pc = .ok (.ldiv, 1)) (hne : ¬ y = 0) (k : kV cs p l e R s m args below meth c Q nL t pu (pc + 1) lv (.long (x / y) :: rest) G) : kV cs p l e R s m args below meth c Q nL t pu pc lv (.long y :: .long x :: rest) G := fun H locs ls hl hz => lv_ldiv X.1 X.2.1  hd hne (k H locs ls hl hz)
theorem qw_lrem {x y : Int64} (X : kX p s m args meth c cc nL own t) (hd : decode cc pc = .ok (.lrem, 1)) (hne : ¬ y = 0) (k : kV cs p l e R s m args below meth c Q nL t pu (pc + 1) lv (.long (x - x / y * y) :: rest) G) : kV cs p l e R s m args below meth c Q nL t pu pc lv (.long y :: .long x :: rest) G := fun H locs ls hl hz => lv_lrem X.1 X.2.1  hd hne (k H locs ls hl hz)
theorem qw_ishl {x y : Int32} (X : kX p s m args meth c cc nL own t) (hd : decode cc pc = .ok (.ishl, 1))  (k : kV cs p l e R s m args below meth c Q nL t pu (pc + 1) lv (.int (x <<< (y &&& 31)) :: rest) G) : kV cs p l e R s m args below meth c Q nL t pu pc lv (.int y :: .int x :: rest) G := fun H locs ls hl hz => lv_ishl X.1 X.2.1  hd  (k H locs ls hl hz)
theorem qw_ishr {x y : Int32} (X : kX p s m args meth c cc nL own t) (hd : decode cc pc = .ok (.ishr, 1))  (k : kV cs p l e R s m args below meth c Q nL t pu (pc + 1) lv (.int (x >>> (y &&& 31)) :: rest) G) : kV cs p l e R s m args below meth c Q nL t pu pc lv (.int y :: .int x :: rest) G := fun H locs ls hl hz => lv_ishr X.1 X.2.1  hd  (k H locs ls hl hz)
theorem qw_iushr {x y : Int32} (X : kX p s m args meth c cc nL own t) (hd : decode cc pc = .ok (.iushr, 1))  (k : kV cs p l e R s m args below meth c Q nL t pu (pc + 1) lv (.int ((x.toUInt32 >>> (y.toUInt32 &&& Int32.toUInt32 31)).toInt32) :: rest) G) : kV cs p l e R s m args below meth c Q nL t pu pc lv (.int y :: .int x :: rest) G := fun H locs ls hl hz => lv_iushr X.1 X.2.1  hd rfl (k H locs ls hl hz)
theorem qw_lshl {x : Int64} {y : Int32} (X : kX p s m args meth c cc nL own t) (hd : decode cc pc = .ok (.lshl, 1))  (k : kV cs p l e R s m args below meth c Q nL t pu (pc + 1) lv (.long (x <<< (y.toInt64 &&& 63)) :: rest) G) : kV cs p l e R s m args below meth c Q nL t pu pc lv (.int y :: .long x :: rest) G := fun H locs ls hl hz => lv_lshl X.1 X.2.1  hd rfl (k H locs ls hl hz)
theorem qw_lshr {x : Int64} {y : Int32} (X : kX p s m args meth c cc nL own t) (hd : decode cc pc = .ok (.lshr, 1))  (k : kV cs p l e R s m args below meth c Q nL t pu (pc + 1) lv (.long (x >>> (y.toInt64 &&& 63)) :: rest) G) : kV cs p l e R s m args below meth c Q nL t pu pc lv (.int y :: .long x :: rest) G := fun H locs ls hl hz => lv_lshr X.1 X.2.1  hd rfl (k H locs ls hl hz)
theorem qw_lushr {x : Int64} {y : Int32} (X : kX p s m args meth c cc nL own t) (hd : decode cc pc = .ok (.lushr, 1))  (k : kV cs p l e R s m args below meth c Q nL t pu (pc + 1) lv (.long ((x.toUInt64 >>> (y.toInt64.toUInt64 &&& Int64.toUInt64 63)).toInt64) :: rest) G) : kV cs p l e R s m args below meth c Q nL t pu pc lv (.int y :: .long x :: rest) G := fun H locs ls hl hz => lv_lushr X.1 X.2.1  hd rfl (k H locs ls hl hz)
theorem qw_i2l {x : Int32} (X : kX p s m args meth c cc nL own t) (hd : decode cc pc = .ok (.i2l, 1))  (k : kV cs p l e R s m args below meth c Q nL t pu (pc + 1) lv (.long x.toInt64 :: rest) G) : kV cs p l e R s m args below meth c Q nL t pu pc lv (.int x :: rest) G := fun H locs ls hl hz => lv_i2l X.1 X.2.1  hd rfl (k H locs ls hl hz)
theorem qw_l2i {x : Int64} (X : kX p s m args meth c cc nL own t) (hd : decode cc pc = .ok (.l2i, 1))  (k : kV cs p l e R s m args below meth c Q nL t pu (pc + 1) lv (.int x.toInt32 :: rest) G) : kV cs p l e R s m args below meth c Q nL t pu pc lv (.long x :: rest) G := fun H locs ls hl hz => lv_l2i X.1 X.2.1  hd rfl (k H locs ls hl hz)
theorem qw_i2b {x : Int32} (X : kX p s m args meth c cc nL own t) (hd : decode cc pc = .ok (.i2b, 1))  (k : kV cs p l e R s m args below meth c Q nL t pu (pc + 1) lv (.int x.toInt8.toInt32 :: rest) G) : kV cs p l e R s m args below meth c Q nL t pu pc lv (.int x :: rest) G := fun H locs ls hl hz => lv_i2b X.1 X.2.1  hd rfl (k H locs ls hl hz)
theorem qw_dup {v : Value} (X : kX p s m args meth c cc nL own t) (hd : decode cc pc = .ok (.dup, 1)) (hv : v.category = 1) (k : kV cs p l e R s m args below meth c Q nL t pu (pc + 1) lv (v :: v :: rest) G) : kV cs p l e R s m args below meth c Q nL t pu pc lv (v :: rest) G := fun H locs ls hl hz => lv_dup X.1 X.2.1  hd hv (k H locs ls hl hz)
theorem qw_pop {v : Value} (X : kX p s m args meth c cc nL own t) (hd : decode cc pc = .ok (.pop, 1)) (hv : v.category = 1) (k : kV cs p l e R s m args below meth c Q nL t pu (pc + 1) lv (rest) G) : kV cs p l e R s m args below meth c Q nL t pu pc lv (v :: rest) G := fun H locs ls hl hz => lv_pop X.1 X.2.1  hd hv (k H locs ls hl hz)
theorem qw_dup2 {v u : Value} (X : kX p s m args meth c cc nL own t) (hd : decode cc pc = .ok (.dup2, 1)) (hv : v.category = 1) (hu : u.category = 1) (k : kV cs p l e R s m args below meth c Q nL t pu (pc + 1) lv (v :: u :: v :: u :: rest) G) : kV cs p l e R s m args below meth c Q nL t pu pc lv (v :: u :: rest) G := fun H locs ls hl hz => lv_dup2_11 X.1 X.2.1  hd hv hu (k H locs ls hl hz)
theorem qw_if_eq {x : Int32} {off : Int} {tgt : Nat} (X : kX p s m args meth c cc nL own t) (hd : decode cc pc = .ok (.ifCond .eq off, 3)) (ht : (pc : Int) + off = (tgt : Int)) (kt : x = 0 → kV cs p l e R s m args below meth c Q nL t pu tgt lv rest G) (kf : ¬ x = 0 → kV cs p l e R s m args below meth c Q nL t pu (pc + 3) lv rest G) : kV cs p l e R s m args below meth c Q nL t pu pc lv (.int x :: rest) G := fun H locs ls hl hz => lv_if_eq X.1 X.2.1 hd ht (fun h => kt h H locs ls hl hz) (fun h => kf h H locs ls hl hz)
theorem qw_if_ne {x : Int32} {off : Int} {tgt : Nat} (X : kX p s m args meth c cc nL own t) (hd : decode cc pc = .ok (.ifCond .ne off, 3)) (ht : (pc : Int) + off = (tgt : Int)) (kt : ¬ x = 0 → kV cs p l e R s m args below meth c Q nL t pu tgt lv rest G) (kf : x = 0 → kV cs p l e R s m args below meth c Q nL t pu (pc + 3) lv rest G) : kV cs p l e R s m args below meth c Q nL t pu pc lv (.int x :: rest) G := fun H locs ls hl hz => lv_if_ne X.1 X.2.1 hd ht (fun h => kt h H locs ls hl hz) (fun h => kf h H locs ls hl hz)
theorem qw_if_lt {x : Int32} {off : Int} {tgt : Nat} (X : kX p s m args meth c cc nL own t) (hd : decode cc pc = .ok (.ifCond .lt off, 3)) (ht : (pc : Int) + off = (tgt : Int)) (kt : x < 0 → kV cs p l e R s m args below meth c Q nL t pu tgt lv rest G) (kf : ¬ x < 0 → kV cs p l e R s m args below meth c Q nL t pu (pc + 3) lv rest G) : kV cs p l e R s m args below meth c Q nL t pu pc lv (.int x :: rest) G := fun H locs ls hl hz => lv_if_lt X.1 X.2.1 hd ht (fun h => kt h H locs ls hl hz) (fun h => kf h H locs ls hl hz)
theorem qw_if_ge {x : Int32} {off : Int} {tgt : Nat} (X : kX p s m args meth c cc nL own t) (hd : decode cc pc = .ok (.ifCond .ge off, 3)) (ht : (pc : Int) + off = (tgt : Int)) (kt : 0 ≤ x → kV cs p l e R s m args below meth c Q nL t pu tgt lv rest G) (kf : ¬ 0 ≤ x → kV cs p l e R s m args below meth c Q nL t pu (pc + 3) lv rest G) : kV cs p l e R s m args below meth c Q nL t pu pc lv (.int x :: rest) G := fun H locs ls hl hz => lv_if_ge X.1 X.2.1 hd ht (fun h => kt h H locs ls hl hz) (fun h => kf h H locs ls hl hz)
theorem qw_if_gt {x : Int32} {off : Int} {tgt : Nat} (X : kX p s m args meth c cc nL own t) (hd : decode cc pc = .ok (.ifCond .gt off, 3)) (ht : (pc : Int) + off = (tgt : Int)) (kt : 0 < x → kV cs p l e R s m args below meth c Q nL t pu tgt lv rest G) (kf : ¬ 0 < x → kV cs p l e R s m args below meth c Q nL t pu (pc + 3) lv rest G) : kV cs p l e R s m args below meth c Q nL t pu pc lv (.int x :: rest) G := fun H locs ls hl hz => lv_if_gt X.1 X.2.1 hd ht (fun h => kt h H locs ls hl hz) (fun h => kf h H locs ls hl hz)
theorem qw_if_le {x : Int32} {off : Int} {tgt : Nat} (X : kX p s m args meth c cc nL own t) (hd : decode cc pc = .ok (.ifCond .le off, 3)) (ht : (pc : Int) + off = (tgt : Int)) (kt : x ≤ 0 → kV cs p l e R s m args below meth c Q nL t pu tgt lv rest G) (kf : ¬ x ≤ 0 → kV cs p l e R s m args below meth c Q nL t pu (pc + 3) lv rest G) : kV cs p l e R s m args below meth c Q nL t pu pc lv (.int x :: rest) G := fun H locs ls hl hz => lv_if_le X.1 X.2.1 hd ht (fun h => kt h H locs ls hl hz) (fun h => kf h H locs ls hl hz)
theorem qw_icmp_eq {x y : Int32} {off : Int} {tgt : Nat} (X : kX p s m args meth c cc nL own t) (hd : decode cc pc = .ok (.if_icmp .eq off, 3)) (ht : (pc : Int) + off = (tgt : Int)) (kt : x = y → kV cs p l e R s m args below meth c Q nL t pu tgt lv rest G) (kf : ¬ x = y → kV cs p l e R s m args below meth c Q nL t pu (pc + 3) lv rest G) : kV cs p l e R s m args below meth c Q nL t pu pc lv (.int y :: .int x :: rest) G := fun H locs ls hl hz => lv_icmp_eq X.1 X.2.1 hd ht (fun h => kt h H locs ls hl hz) (fun h => kf h H locs ls hl hz)
theorem qw_icmp_ne {x y : Int32} {off : Int} {tgt : Nat} (X : kX p s m args meth c cc nL own t) (hd : decode cc pc = .ok (.if_icmp .ne off, 3)) (ht : (pc : Int) + off = (tgt : Int)) (kt : ¬ x = y → kV cs p l e R s m args below meth c Q nL t pu tgt lv rest G) (kf : x = y → kV cs p l e R s m args below meth c Q nL t pu (pc + 3) lv rest G) : kV cs p l e R s m args below meth c Q nL t pu pc lv (.int y :: .int x :: rest) G := fun H locs ls hl hz => lv_icmp_ne X.1 X.2.1 hd ht (fun h => kt h H locs ls hl hz) (fun h => kf h H locs ls hl hz)
theorem qw_icmp_lt {x y : Int32} {off : Int} {tgt : Nat} (X : kX p s m args meth c cc nL own t) (hd : decode cc pc = .ok (.if_icmp .lt off, 3)) (ht : (pc : Int) + off = (tgt : Int)) (kt : x < y → kV cs p l e R s m args below meth c Q nL t pu tgt lv rest G) (kf : ¬ x < y → kV cs p l e R s m args below meth c Q nL t pu (pc + 3) lv rest G) : kV cs p l e R s m args below meth c Q nL t pu pc lv (.int y :: .int x :: rest) G := fun H locs ls hl hz => lv_icmp_lt X.1 X.2.1 hd ht (fun h => kt h H locs ls hl hz) (fun h => kf h H locs ls hl hz)
theorem qw_icmp_ge {x y : Int32} {off : Int} {tgt : Nat} (X : kX p s m args meth c cc nL own t) (hd : decode cc pc = .ok (.if_icmp .ge off, 3)) (ht : (pc : Int) + off = (tgt : Int)) (kt : y ≤ x → kV cs p l e R s m args below meth c Q nL t pu tgt lv rest G) (kf : ¬ y ≤ x → kV cs p l e R s m args below meth c Q nL t pu (pc + 3) lv rest G) : kV cs p l e R s m args below meth c Q nL t pu pc lv (.int y :: .int x :: rest) G := fun H locs ls hl hz => lv_icmp_ge X.1 X.2.1 hd ht (fun h => kt h H locs ls hl hz) (fun h => kf h H locs ls hl hz)
theorem qw_icmp_gt {x y : Int32} {off : Int} {tgt : Nat} (X : kX p s m args meth c cc nL own t) (hd : decode cc pc = .ok (.if_icmp .gt off, 3)) (ht : (pc : Int) + off = (tgt : Int)) (kt : y < x → kV cs p l e R s m args below meth c Q nL t pu tgt lv rest G) (kf : ¬ y < x → kV cs p l e R s m args below meth c Q nL t pu (pc + 3) lv rest G) : kV cs p l e R s m args below meth c Q nL t pu pc lv (.int y :: .int x :: rest) G := fun H locs ls hl hz => lv_icmp_gt X.1 X.2.1 hd ht (fun h => kt h H locs ls hl hz) (fun h => kf h H locs ls hl hz)
theorem qw_icmp_le {x y : Int32} {off : Int} {tgt : Nat} (X : kX p s m args meth c cc nL own t) (hd : decode cc pc = .ok (.if_icmp .le off, 3)) (ht : (pc : Int) + off = (tgt : Int)) (kt : x ≤ y → kV cs p l e R s m args below meth c Q nL t pu tgt lv rest G) (kf : ¬ x ≤ y → kV cs p l e R s m args below meth c Q nL t pu (pc + 3) lv rest G) : kV cs p l e R s m args below meth c Q nL t pu pc lv (.int y :: .int x :: rest) G := fun H locs ls hl hz => lv_icmp_le X.1 X.2.1 hd ht (fun h => kt h H locs ls hl hz) (fun h => kf h H locs ls hl hz)
theorem qw_lcmp_eq {x y : Int64} {off : Int} {tgt : Nat} (X : kX p s m args meth c cc nL own t) (hd : decode cc pc = .ok (.lcmp, 1)) (hd2 : decode cc (pc + 1) = .ok (.ifCond .eq off, 3)) (ht : ((pc + 1 : Nat) : Int) + off = (tgt : Int)) (kt : x = y → kV cs p l e R s m args below meth c Q nL t pu tgt lv rest G) (kf : ¬ x = y → kV cs p l e R s m args below meth c Q nL t pu (pc + 1 + 3) lv rest G) : kV cs p l e R s m args below meth c Q nL t pu pc lv (.long y :: .long x :: rest) G := fun H locs ls hl hz => W.lcmp X.1 X.2.1 hd (lv_if_eq X.1 X.2.1 hd2 ht (fun h => kt ((lg_cmp_eq x y).mp h) H locs ls hl hz) (fun h => kf (fun q => h ((lg_cmp_eq x y).mpr q)) H locs ls hl hz))
theorem qw_lcmp_ne {x y : Int64} {off : Int} {tgt : Nat} (X : kX p s m args meth c cc nL own t) (hd : decode cc pc = .ok (.lcmp, 1)) (hd2 : decode cc (pc + 1) = .ok (.ifCond .ne off, 3)) (ht : ((pc + 1 : Nat) : Int) + off = (tgt : Int)) (kt : ¬ x = y → kV cs p l e R s m args below meth c Q nL t pu tgt lv rest G) (kf : x = y → kV cs p l e R s m args below meth c Q nL t pu (pc + 1 + 3) lv rest G) : kV cs p l e R s m args below meth c Q nL t pu pc lv (.long y :: .long x :: rest) G := fun H locs ls hl hz => W.lcmp X.1 X.2.1 hd (lv_if_ne X.1 X.2.1 hd2 ht (fun h => kt (fun q => h ((lg_cmp_eq x y).mpr q)) H locs ls hl hz) (fun h => kf ((lg_cmp_eq x y).mp h) H locs ls hl hz))
theorem qw_lcmp_lt {x y : Int64} {off : Int} {tgt : Nat} (X : kX p s m args meth c cc nL own t) (hd : decode cc pc = .ok (.lcmp, 1)) (hd2 : decode cc (pc + 1) = .ok (.ifCond .lt off, 3)) (ht : ((pc + 1 : Nat) : Int) + off = (tgt : Int)) (kt : x < y → kV cs p l e R s m args below meth c Q nL t pu tgt lv rest G) (kf : ¬ x < y → kV cs p l e R s m args below meth c Q nL t pu (pc + 1 + 3) lv rest G) : kV cs p l e R s m args below meth c Q nL t pu pc lv (.long y :: .long x :: rest) G := fun H locs ls hl hz => W.lcmp X.1 X.2.1 hd (lv_if_lt X.1 X.2.1 hd2 ht (fun h => kt ((lg_cmp_lt x y).mp h) H locs ls hl hz) (fun h => kf (fun q => h ((lg_cmp_lt x y).mpr q)) H locs ls hl hz))
theorem qw_lcmp_ge {x y : Int64} {off : Int} {tgt : Nat} (X : kX p s m args meth c cc nL own t) (hd : decode cc pc = .ok (.lcmp, 1)) (hd2 : decode cc (pc + 1) = .ok (.ifCond .ge off, 3)) (ht : ((pc + 1 : Nat) : Int) + off = (tgt : Int)) (kt : y ≤ x → kV cs p l e R s m args below meth c Q nL t pu tgt lv rest G) (kf : ¬ y ≤ x → kV cs p l e R s m args below meth c Q nL t pu (pc + 1 + 3) lv rest G) : kV cs p l e R s m args below meth c Q nL t pu pc lv (.long y :: .long x :: rest) G := fun H locs ls hl hz => W.lcmp X.1 X.2.1 hd (lv_if_ge X.1 X.2.1 hd2 ht (fun h => kt ((lg_cmp_ge x y).mp h) H locs ls hl hz) (fun h => kf (fun q => h ((lg_cmp_ge x y).mpr q)) H locs ls hl hz))
theorem qw_lcmp_gt {x y : Int64} {off : Int} {tgt : Nat} (X : kX p s m args meth c cc nL own t) (hd : decode cc pc = .ok (.lcmp, 1)) (hd2 : decode cc (pc + 1) = .ok (.ifCond .gt off, 3)) (ht : ((pc + 1 : Nat) : Int) + off = (tgt : Int)) (kt : y < x → kV cs p l e R s m args below meth c Q nL t pu tgt lv rest G) (kf : ¬ y < x → kV cs p l e R s m args below meth c Q nL t pu (pc + 1 + 3) lv rest G) : kV cs p l e R s m args below meth c Q nL t pu pc lv (.long y :: .long x :: rest) G := fun H locs ls hl hz => W.lcmp X.1 X.2.1 hd (lv_if_gt X.1 X.2.1 hd2 ht (fun h => kt ((lg_cmp_gt x y).mp h) H locs ls hl hz) (fun h => kf (fun q => h ((lg_cmp_gt x y).mpr q)) H locs ls hl hz))
theorem qw_lcmp_le {x y : Int64} {off : Int} {tgt : Nat} (X : kX p s m args meth c cc nL own t) (hd : decode cc pc = .ok (.lcmp, 1)) (hd2 : decode cc (pc + 1) = .ok (.ifCond .le off, 3)) (ht : ((pc + 1 : Nat) : Int) + off = (tgt : Int)) (kt : x ≤ y → kV cs p l e R s m args below meth c Q nL t pu tgt lv rest G) (kf : ¬ x ≤ y → kV cs p l e R s m args below meth c Q nL t pu (pc + 1 + 3) lv rest G) : kV cs p l e R s m args below meth c Q nL t pu pc lv (.long y :: .long x :: rest) G := fun H locs ls hl hz => W.lcmp X.1 X.2.1 hd (lv_if_le X.1 X.2.1 hd2 ht (fun h => kt ((lg_cmp_le x y).mp h) H locs ls hl hz) (fun h => kf (fun q => h ((lg_cmp_le x y).mpr q)) H locs ls hl hz))
theorem qw_acmp_eq {rx ry : Option Nat} {off : Int} {tgt : Nat} (X : kX p s m args meth c cc nL own t) (hd : decode cc pc = .ok (.if_acmp .eq off, 3)) (ht : (pc : Int) + off = (tgt : Int)) (kt : rx = ry → kV cs p l e R s m args below meth c Q nL t pu tgt lv rest G) (kf : ¬ rx = ry → kV cs p l e R s m args below meth c Q nL t pu (pc + 3) lv rest G) : kV cs p l e R s m args below meth c Q nL t pu pc lv (va_rf ry :: va_rf rx :: rest) G := fun H locs ls hl hz => lv_acmp_eq X.1 X.2.1 hd ht (fun h => kt h H locs ls hl hz) (fun h => kf h H locs ls hl hz)
theorem qw_acmp_ne {rx ry : Option Nat} {off : Int} {tgt : Nat} (X : kX p s m args meth c cc nL own t) (hd : decode cc pc = .ok (.if_acmp .ne off, 3)) (ht : (pc : Int) + off = (tgt : Int)) (kt : ¬ rx = ry → kV cs p l e R s m args below meth c Q nL t pu tgt lv rest G) (kf : rx = ry → kV cs p l e R s m args below meth c Q nL t pu (pc + 3) lv rest G) : kV cs p l e R s m args below meth c Q nL t pu pc lv (va_rf ry :: va_rf rx :: rest) G := fun H locs ls hl hz => lv_acmp_ne X.1 X.2.1 hd ht (fun h => kt h H locs ls hl hz) (fun h => kf h H locs ls hl hz)
theorem qw_ifnull {r : Option Nat} {off : Int} {tgt : Nat} (X : kX p s m args meth c cc nL own t) (hd : decode cc pc = .ok (.ifnull off, 3)) (ht : (pc : Int) + off = (tgt : Int)) (kt : r = none → kV cs p l e R s m args below meth c Q nL t pu tgt lv rest G) (kf : ¬ r = none → kV cs p l e R s m args below meth c Q nL t pu (pc + 3) lv rest G) : kV cs p l e R s m args below meth c Q nL t pu pc lv (va_rf r :: rest) G := fun H locs ls hl hz => by
  cases r with
  | none => exact lv_ifnullN X.1 X.2.1 hd ht (kt rfl H locs ls hl hz)
  | some a => exact lv_ifnull X.1 X.2.1 hd (kf (fun q => by cases q) H locs ls hl hz)
theorem qw_ifnonnull {r : Option Nat} {off : Int} {tgt : Nat} (X : kX p s m args meth c cc nL own t) (hd : decode cc pc = .ok (.ifnonnull off, 3)) (ht : (pc : Int) + off = (tgt : Int)) (kt : ¬ r = none → kV cs p l e R s m args below meth c Q nL t pu tgt lv rest G) (kf : r = none → kV cs p l e R s m args below meth c Q nL t pu (pc + 3) lv rest G) : kV cs p l e R s m args below meth c Q nL t pu pc lv (va_rf r :: rest) G := fun H locs ls hl hz => by
  cases r with
  | none => exact lv_ifnonnullN X.1 X.2.1 hd (kf rfl H locs ls hl hz)
  | some a => exact lv_ifnonnull X.1 X.2.1 hd ht (kt (fun q => by cases q) H locs ls hl hz)
theorem qw_goto {off : Int} {tgt : Nat} (X : kX p s m args meth c cc nL own t) (hd : decode cc pc = .ok (.goto off, 3)) (ht : (pc : Int) + off = (tgt : Int)) (k : kV cs p l e R s m args below meth c Q nL t pu tgt lv rest G) : kV cs p l e R s m args below meth c Q nL t pu pc lv rest G := fun H locs ls hl hz => lv_goto X.1 X.2.1 hd ht (k H locs ls hl hz)
theorem qw_tableIn {dflt lo hi : Int} {offs : Array Int} {len : Nat} {x : Int32} {off : Int} {tgt : Nat} (X : kX p s m args meth c cc nL own t) (hd : decode cc pc = .ok (.tableswitch dflt lo hi offs, len)) (h1 : ¬ x.toInt < lo) (h2 : ¬ hi < x.toInt) (ho : offs[(x.toInt - lo).toNat]? = some off) (ht : (pc : Int) + off = (tgt : Int)) (k : kV cs p l e R s m args below meth c Q nL t pu tgt lv rest G) : kV cs p l e R s m args below meth c Q nL t pu pc lv (.int x :: rest) G := fun H locs ls hl hz => lv_tableIn X.1 X.2.1 hd h1 h2 ho ht (k H locs ls hl hz)
theorem qw_tableOut {dflt lo hi : Int} {offs : Array Int} {len : Nat} {x : Int32} {tgt : Nat} (X : kX p s m args meth c cc nL own t) (hd : decode cc pc = .ok (.tableswitch dflt lo hi offs, len)) (h : x.toInt < lo ∨ hi < x.toInt) (ht : (pc : Int) + dflt = (tgt : Int)) (k : kV cs p l e R s m args below meth c Q nL t pu tgt lv rest G) : kV cs p l e R s m args below meth c Q nL t pu pc lv (.int x :: rest) G := fun H locs ls hl hz => lv_tableOut X.1 X.2.1 hd h ht (k H locs ls hl hz)
theorem qw_lookup {dflt : Int} {ps : Array (Int × Int)} {len : Nat} {x : Int32} {off : Int} {tgt : Nat} (X : kX p s m args meth c cc nL own t) (hd : decode cc pc = .ok (.lookupswitch dflt ps, len)) (hp : (ps.toList.zip (ps.toList.drop 1)).all (fun (a, next) => a.1 < next.1) = true) (ho : Op.lookupswitch.offset ps.toList dflt x.toInt = off) (ht : (pc : Int) + off = (tgt : Int)) (k : kV cs p l e R s m args below meth c Q nL t pu tgt lv rest G) : kV cs p l e R s m args below meth c Q nL t pu pc lv (.int x :: rest) G := fun H locs ls hl hz => lv_lookup X.1 X.2.1 hd hp ho ht (k H locs ls hl hz)
theorem qg_0 {a idx : Nat} {r : Option Nat} (X : kX p s m args meth c cc nL own t) (hd : decode cc pc = .ok (.getfield idx, 3)) (hw : Cond.fieldLink own idx "TreeServer$Node" "path" "I" ∈ GW) (hr : r = some a) (hk : tk t a = 1) (k : kV cs p l e R s m args below meth c Q nL t pu (pc + 3) lv (.int (gi G 0 a) :: rest) G) : kV cs p l e R s m args below meth c Q nL t pu pc lv (va_rf r :: rest) G := by
  subst hr
  intro H locs ls hl hz
  obtain ⟨q0, hq⟩ := hz.1.get (X.d hk (by decide))
  rw [mE_1 hk] at hq
  exact va_get (D := tD t) (cl := mcl) (tys := mty t) (ws := va_pl (tdom t) (mE t G)) (ci := 0) (C := RK0) (T := TK0) (N := 13) X.1 X.2.1 X.ws (fun w h => GW_in (inK0 w h) (inG0 w h)) X.o X.k hz.1.1 q0 hq rfl 0 (by decide) (X.w hw) (fun _ h => h) rfl hd (k H locs ls hl hz)
theorem qp_0 {a idx : Nat} {r : Option Nat} {x : Int32} (X : kX p s m args meth c cc nL own t) (hpu : pu = false) (hd : decode cc pc = .ok (.putfield idx, 3)) (hw : Cond.fieldLink own idx "TreeServer$Node" "path" "I" ∈ GW) (hr : r = some a) (hk : tk t a = 1) (k : kV cs p l e R s m args below meth c Q nL t pu (pc + 3) lv rest (si G 0 a x)) : kV cs p l e R s m args below meth c Q nL t pu pc lv (.int x :: va_rf r :: rest) G := by
  subst hr
  intro H locs ls hl hz
  have ha := X.d hk (by decide)
  obtain ⟨q0, hq⟩ := hz.1.get ha
  have hq' := hq
  rw [mE_1 hk] at hq'
  refine va_put (D := tD t) (cl := mcl) (tys := mty t) (ws := va_pl (tdom t) (mE t G)) (A := tA t) (H0 := s.heap) (ci := 0) (C := RK0) (T := TK0) (N := 13) (v := .int x) (ty := .int) X.1 X.2.1 X.ws (fun w h => GW_in (inK0 w h) (inG0 w h)) yK0 yK0_ok nmK0 X.o X.k hz.1.1 hz.1.2.1 hz.2.1 q0 hq' rfl 0 (by decide) (X.w hw) (fun _ h => h) rfl (by decide +kernel) rfl rfl (Nat.le_of_ble_eq_true rfl) hd (fun H1 locs1 hP hD hS => ?_)
  exact k H1 locs1 ls hl ⟨hz.1.set ha hq (by rw [mE_1 hk]; simp [gi, gl, gr, si, u2]) (fun b hb => mE_si hb) hP hD (fun b j h => hz.1.2.2 b j h), hS, fun h => by rw [hpu] at h; cases h⟩
theorem qg_1 {a idx : Nat} {r : Option Nat} (X : kX p s m args meth c cc nL own t) (hd : decode cc pc = .ok (.getfield idx, 3)) (hw : Cond.fieldLink own idx "TreeServer$Node" "version" "I" ∈ GW) (hr : r = some a) (hk : tk t a = 1) (k : kV cs p l e R s m args below meth c Q nL t pu (pc + 3) lv (.int (gi G 1 a) :: rest) G) : kV cs p l e R s m args below meth c Q nL t pu pc lv (va_rf r :: rest) G := by
  subst hr
  intro H locs ls hl hz
  obtain ⟨q0, hq⟩ := hz.1.get (X.d hk (by decide))
  rw [mE_1 hk] at hq
  exact va_get (D := tD t) (cl := mcl) (tys := mty t) (ws := va_pl (tdom t) (mE t G)) (ci := 0) (C := RK0) (T := TK0) (N := 13) X.1 X.2.1 X.ws (fun w h => GW_in (inK0 w h) (inG0 w h)) X.o X.k hz.1.1 q0 hq rfl 1 (by decide) (X.w hw) (fun _ h => h) rfl hd (k H locs ls hl hz)
theorem qp_1 {a idx : Nat} {r : Option Nat} {x : Int32} (X : kX p s m args meth c cc nL own t) (hpu : pu = false) (hd : decode cc pc = .ok (.putfield idx, 3)) (hw : Cond.fieldLink own idx "TreeServer$Node" "version" "I" ∈ GW) (hr : r = some a) (hk : tk t a = 1) (k : kV cs p l e R s m args below meth c Q nL t pu (pc + 3) lv rest (si G 1 a x)) : kV cs p l e R s m args below meth c Q nL t pu pc lv (.int x :: va_rf r :: rest) G := by
  subst hr
  intro H locs ls hl hz
  have ha := X.d hk (by decide)
  obtain ⟨q0, hq⟩ := hz.1.get ha
  have hq' := hq
  rw [mE_1 hk] at hq'
  refine va_put (D := tD t) (cl := mcl) (tys := mty t) (ws := va_pl (tdom t) (mE t G)) (A := tA t) (H0 := s.heap) (ci := 0) (C := RK0) (T := TK0) (N := 13) (v := .int x) (ty := .int) X.1 X.2.1 X.ws (fun w h => GW_in (inK0 w h) (inG0 w h)) yK0 yK0_ok nmK0 X.o X.k hz.1.1 hz.1.2.1 hz.2.1 q0 hq' rfl 1 (by decide) (X.w hw) (fun _ h => h) rfl (by decide +kernel) rfl rfl (Nat.le_of_ble_eq_true rfl) hd (fun H1 locs1 hP hD hS => ?_)
  exact k H1 locs1 ls hl ⟨hz.1.set ha hq (by rw [mE_1 hk]; simp [gi, gl, gr, si, u2]) (fun b hb => mE_si hb) hP hD (fun b j h => hz.1.2.2 b j h), hS, fun h => by rw [hpu] at h; cases h⟩
theorem qg_2 {a idx : Nat} {r : Option Nat} (X : kX p s m args meth c cc nL own t) (hd : decode cc pc = .ok (.getfield idx, 3)) (hw : Cond.fieldLink own idx "TreeServer$Node" "mode" "I" ∈ GW) (hr : r = some a) (hk : tk t a = 1) (k : kV cs p l e R s m args below meth c Q nL t pu (pc + 3) lv (.int (gi G 2 a) :: rest) G) : kV cs p l e R s m args below meth c Q nL t pu pc lv (va_rf r :: rest) G := by
  subst hr
  intro H locs ls hl hz
  obtain ⟨q0, hq⟩ := hz.1.get (X.d hk (by decide))
  rw [mE_1 hk] at hq
  exact va_get (D := tD t) (cl := mcl) (tys := mty t) (ws := va_pl (tdom t) (mE t G)) (ci := 0) (C := RK0) (T := TK0) (N := 13) X.1 X.2.1 X.ws (fun w h => GW_in (inK0 w h) (inG0 w h)) X.o X.k hz.1.1 q0 hq rfl 2 (by decide) (X.w hw) (fun _ h => h) rfl hd (k H locs ls hl hz)
theorem qp_2 {a idx : Nat} {r : Option Nat} {x : Int32} (X : kX p s m args meth c cc nL own t) (hpu : pu = false) (hd : decode cc pc = .ok (.putfield idx, 3)) (hw : Cond.fieldLink own idx "TreeServer$Node" "mode" "I" ∈ GW) (hr : r = some a) (hk : tk t a = 1) (k : kV cs p l e R s m args below meth c Q nL t pu (pc + 3) lv rest (si G 2 a x)) : kV cs p l e R s m args below meth c Q nL t pu pc lv (.int x :: va_rf r :: rest) G := by
  subst hr
  intro H locs ls hl hz
  have ha := X.d hk (by decide)
  obtain ⟨q0, hq⟩ := hz.1.get ha
  have hq' := hq
  rw [mE_1 hk] at hq'
  refine va_put (D := tD t) (cl := mcl) (tys := mty t) (ws := va_pl (tdom t) (mE t G)) (A := tA t) (H0 := s.heap) (ci := 0) (C := RK0) (T := TK0) (N := 13) (v := .int x) (ty := .int) X.1 X.2.1 X.ws (fun w h => GW_in (inK0 w h) (inG0 w h)) yK0 yK0_ok nmK0 X.o X.k hz.1.1 hz.1.2.1 hz.2.1 q0 hq' rfl 2 (by decide) (X.w hw) (fun _ h => h) rfl (by decide +kernel) rfl rfl (Nat.le_of_ble_eq_true rfl) hd (fun H1 locs1 hP hD hS => ?_)
  exact k H1 locs1 ls hl ⟨hz.1.set ha hq (by rw [mE_1 hk]; simp [gi, gl, gr, si, u2]) (fun b hb => mE_si hb) hP hD (fun b j h => hz.1.2.2 b j h), hS, fun h => by rw [hpu] at h; cases h⟩
theorem qg_3 {a idx : Nat} {r : Option Nat} (X : kX p s m args meth c cc nL own t) (hd : decode cc pc = .ok (.getfield idx, 3)) (hw : Cond.fieldLink own idx "TreeServer$Node" "mtime" "I" ∈ GW) (hr : r = some a) (hk : tk t a = 1) (k : kV cs p l e R s m args below meth c Q nL t pu (pc + 3) lv (.int (gi G 3 a) :: rest) G) : kV cs p l e R s m args below meth c Q nL t pu pc lv (va_rf r :: rest) G := by
  subst hr
  intro H locs ls hl hz
  obtain ⟨q0, hq⟩ := hz.1.get (X.d hk (by decide))
  rw [mE_1 hk] at hq
  exact va_get (D := tD t) (cl := mcl) (tys := mty t) (ws := va_pl (tdom t) (mE t G)) (ci := 0) (C := RK0) (T := TK0) (N := 13) X.1 X.2.1 X.ws (fun w h => GW_in (inK0 w h) (inG0 w h)) X.o X.k hz.1.1 q0 hq rfl 3 (by decide) (X.w hw) (fun _ h => h) rfl hd (k H locs ls hl hz)
theorem qp_3 {a idx : Nat} {r : Option Nat} {x : Int32} (X : kX p s m args meth c cc nL own t) (hpu : pu = false) (hd : decode cc pc = .ok (.putfield idx, 3)) (hw : Cond.fieldLink own idx "TreeServer$Node" "mtime" "I" ∈ GW) (hr : r = some a) (hk : tk t a = 1) (k : kV cs p l e R s m args below meth c Q nL t pu (pc + 3) lv rest (si G 3 a x)) : kV cs p l e R s m args below meth c Q nL t pu pc lv (.int x :: va_rf r :: rest) G := by
  subst hr
  intro H locs ls hl hz
  have ha := X.d hk (by decide)
  obtain ⟨q0, hq⟩ := hz.1.get ha
  have hq' := hq
  rw [mE_1 hk] at hq'
  refine va_put (D := tD t) (cl := mcl) (tys := mty t) (ws := va_pl (tdom t) (mE t G)) (A := tA t) (H0 := s.heap) (ci := 0) (C := RK0) (T := TK0) (N := 13) (v := .int x) (ty := .int) X.1 X.2.1 X.ws (fun w h => GW_in (inK0 w h) (inG0 w h)) yK0 yK0_ok nmK0 X.o X.k hz.1.1 hz.1.2.1 hz.2.1 q0 hq' rfl 3 (by decide) (X.w hw) (fun _ h => h) rfl (by decide +kernel) rfl rfl (Nat.le_of_ble_eq_true rfl) hd (fun H1 locs1 hP hD hS => ?_)
  exact k H1 locs1 ls hl ⟨hz.1.set ha hq (by rw [mE_1 hk]; simp [gi, gl, gr, si, u2]) (fun b hb => mE_si hb) hP hD (fun b j h => hz.1.2.2 b j h), hS, fun h => by rw [hpu] at h; cases h⟩
theorem qg_4 {a idx : Nat} {r : Option Nat} (X : kX p s m args meth c cc nL own t) (hd : decode cc pc = .ok (.getfield idx, 3)) (hw : Cond.fieldLink own idx "TreeServer$Node" "owner" "LTreeServer$User;" ∈ GW) (hr : r = some a) (hk : tk t a = 1) (k : kV cs p l e R s m args below meth c Q nL t pu (pc + 3) lv (va_rf (gr G 4 a) :: rest) G) : kV cs p l e R s m args below meth c Q nL t pu pc lv (va_rf r :: rest) G := by
  subst hr
  intro H locs ls hl hz
  obtain ⟨q0, hq⟩ := hz.1.get (X.d hk (by decide))
  rw [mE_1 hk] at hq
  exact va_get (D := tD t) (cl := mcl) (tys := mty t) (ws := va_pl (tdom t) (mE t G)) (ci := 0) (C := RK0) (T := TK0) (N := 13) X.1 X.2.1 X.ws (fun w h => GW_in (inK0 w h) (inG0 w h)) X.o X.k hz.1.1 q0 hq rfl 4 (by decide) (X.w hw) (fun _ h => h) rfl hd (k H locs ls hl hz)
theorem qp_4 {a idx : Nat} {r : Option Nat} {x : Option Nat} (X : kX p s m args meth c cc nL own t) (hpu : pu = false) (hd : decode cc pc = .ok (.putfield idx, 3)) (hw : Cond.fieldLink own idx "TreeServer$Node" "owner" "LTreeServer$User;" ∈ GW) (hr : r = some a) (hk : tk t a = 1) (k : kV cs p l e R s m args below meth c Q nL t pu (pc + 3) lv rest (sr G 4 a x)) : kV cs p l e R s m args below meth c Q nL t pu pc lv (va_rf x :: va_rf r :: rest) G := by
  subst hr
  intro H locs ls hl hz
  have ha := X.d hk (by decide)
  obtain ⟨q0, hq⟩ := hz.1.get ha
  have hq' := hq
  rw [mE_1 hk] at hq'
  refine va_put (D := tD t) (cl := mcl) (tys := mty t) (ws := va_pl (tdom t) (mE t G)) (A := tA t) (H0 := s.heap) (ci := 0) (C := RK0) (T := TK0) (N := 13) (v := va_rf x) (ty := .object "TreeServer$User") X.1 X.2.1 X.ws (fun w h => GW_in (inK0 w h) (inG0 w h)) yK0 yK0_ok nmK0 X.o X.k hz.1.1 hz.1.2.1 hz.2.1 q0 hq' rfl 4 (by decide) (X.w hw) (fun _ h => h) rfl (by decide +kernel) (by cases x <;> rfl) (by cases x <;> rfl) (Nat.le_of_ble_eq_true rfl) hd (fun H1 locs1 hP hD hS => ?_)
  exact k H1 locs1 ls hl ⟨hz.1.set ha hq (by rw [mE_1 hk]; simp [gi, gl, gr, sr, u2]) (fun b hb => mE_sr hb) hP hD (fun b j h => hz.1.2.2 b j h), hS, fun h => by rw [hpu] at h; cases h⟩
theorem qg_5 {a idx : Nat} {r : Option Nat} (X : kX p s m args meth c cc nL own t) (hd : decode cc pc = .ok (.getfield idx, 3)) (hw : Cond.fieldLink own idx "TreeServer$Node" "group" "LTreeServer$User;" ∈ GW) (hr : r = some a) (hk : tk t a = 1) (k : kV cs p l e R s m args below meth c Q nL t pu (pc + 3) lv (va_rf (gr G 5 a) :: rest) G) : kV cs p l e R s m args below meth c Q nL t pu pc lv (va_rf r :: rest) G := by
  subst hr
  intro H locs ls hl hz
  obtain ⟨q0, hq⟩ := hz.1.get (X.d hk (by decide))
  rw [mE_1 hk] at hq
  exact va_get (D := tD t) (cl := mcl) (tys := mty t) (ws := va_pl (tdom t) (mE t G)) (ci := 0) (C := RK0) (T := TK0) (N := 13) X.1 X.2.1 X.ws (fun w h => GW_in (inK0 w h) (inG0 w h)) X.o X.k hz.1.1 q0 hq rfl 5 (by decide) (X.w hw) (fun _ h => h) rfl hd (k H locs ls hl hz)
theorem qp_5 {a idx : Nat} {r : Option Nat} {x : Option Nat} (X : kX p s m args meth c cc nL own t) (hpu : pu = false) (hd : decode cc pc = .ok (.putfield idx, 3)) (hw : Cond.fieldLink own idx "TreeServer$Node" "group" "LTreeServer$User;" ∈ GW) (hr : r = some a) (hk : tk t a = 1) (k : kV cs p l e R s m args below meth c Q nL t pu (pc + 3) lv rest (sr G 5 a x)) : kV cs p l e R s m args below meth c Q nL t pu pc lv (va_rf x :: va_rf r :: rest) G := by
  subst hr
  intro H locs ls hl hz
  have ha := X.d hk (by decide)
  obtain ⟨q0, hq⟩ := hz.1.get ha
  have hq' := hq
  rw [mE_1 hk] at hq'
  refine va_put (D := tD t) (cl := mcl) (tys := mty t) (ws := va_pl (tdom t) (mE t G)) (A := tA t) (H0 := s.heap) (ci := 0) (C := RK0) (T := TK0) (N := 13) (v := va_rf x) (ty := .object "TreeServer$User") X.1 X.2.1 X.ws (fun w h => GW_in (inK0 w h) (inG0 w h)) yK0 yK0_ok nmK0 X.o X.k hz.1.1 hz.1.2.1 hz.2.1 q0 hq' rfl 5 (by decide) (X.w hw) (fun _ h => h) rfl (by decide +kernel) (by cases x <;> rfl) (by cases x <;> rfl) (Nat.le_of_ble_eq_true rfl) hd (fun H1 locs1 hP hD hS => ?_)
  exact k H1 locs1 ls hl ⟨hz.1.set ha hq (by rw [mE_1 hk]; simp [gi, gl, gr, sr, u2]) (fun b hb => mE_sr hb) hP hD (fun b j h => hz.1.2.2 b j h), hS, fun h => by rw [hpu] at h; cases h⟩
theorem qg_6 {a idx : Nat} {r : Option Nat} (X : kX p s m args meth c cc nL own t) (hd : decode cc pc = .ok (.getfield idx, 3)) (hw : Cond.fieldLink own idx "TreeServer$Node" "changer" "LTreeServer$User;" ∈ GW) (hr : r = some a) (hk : tk t a = 1) (k : kV cs p l e R s m args below meth c Q nL t pu (pc + 3) lv (va_rf (gr G 6 a) :: rest) G) : kV cs p l e R s m args below meth c Q nL t pu pc lv (va_rf r :: rest) G := by
  subst hr
  intro H locs ls hl hz
  obtain ⟨q0, hq⟩ := hz.1.get (X.d hk (by decide))
  rw [mE_1 hk] at hq
  exact va_get (D := tD t) (cl := mcl) (tys := mty t) (ws := va_pl (tdom t) (mE t G)) (ci := 0) (C := RK0) (T := TK0) (N := 13) X.1 X.2.1 X.ws (fun w h => GW_in (inK0 w h) (inG0 w h)) X.o X.k hz.1.1 q0 hq rfl 6 (by decide) (X.w hw) (fun _ h => h) rfl hd (k H locs ls hl hz)
theorem qp_6 {a idx : Nat} {r : Option Nat} {x : Option Nat} (X : kX p s m args meth c cc nL own t) (hpu : pu = false) (hd : decode cc pc = .ok (.putfield idx, 3)) (hw : Cond.fieldLink own idx "TreeServer$Node" "changer" "LTreeServer$User;" ∈ GW) (hr : r = some a) (hk : tk t a = 1) (k : kV cs p l e R s m args below meth c Q nL t pu (pc + 3) lv rest (sr G 6 a x)) : kV cs p l e R s m args below meth c Q nL t pu pc lv (va_rf x :: va_rf r :: rest) G := by
  subst hr
  intro H locs ls hl hz
  have ha := X.d hk (by decide)
  obtain ⟨q0, hq⟩ := hz.1.get ha
  have hq' := hq
  rw [mE_1 hk] at hq'
  refine va_put (D := tD t) (cl := mcl) (tys := mty t) (ws := va_pl (tdom t) (mE t G)) (A := tA t) (H0 := s.heap) (ci := 0) (C := RK0) (T := TK0) (N := 13) (v := va_rf x) (ty := .object "TreeServer$User") X.1 X.2.1 X.ws (fun w h => GW_in (inK0 w h) (inG0 w h)) yK0 yK0_ok nmK0 X.o X.k hz.1.1 hz.1.2.1 hz.2.1 q0 hq' rfl 6 (by decide) (X.w hw) (fun _ h => h) rfl (by decide +kernel) (by cases x <;> rfl) (by cases x <;> rfl) (Nat.le_of_ble_eq_true rfl) hd (fun H1 locs1 hP hD hS => ?_)
  exact k H1 locs1 ls hl ⟨hz.1.set ha hq (by rw [mE_1 hk]; simp [gi, gl, gr, sr, u2]) (fun b hb => mE_sr hb) hP hD (fun b j h => hz.1.2.2 b j h), hS, fun h => by rw [hpu] at h; cases h⟩
theorem qg_7 {a idx : Nat} {r : Option Nat} (X : kX p s m args meth c cc nL own t) (hd : decode cc pc = .ok (.getfield idx, 3)) (hw : Cond.fieldLink own idx "TreeServer$Node" "home" "LTreeServer$Node;" ∈ GW) (hr : r = some a) (hk : tk t a = 1) (k : kV cs p l e R s m args below meth c Q nL t pu (pc + 3) lv (va_rf (gr G 7 a) :: rest) G) : kV cs p l e R s m args below meth c Q nL t pu pc lv (va_rf r :: rest) G := by
  subst hr
  intro H locs ls hl hz
  obtain ⟨q0, hq⟩ := hz.1.get (X.d hk (by decide))
  rw [mE_1 hk] at hq
  exact va_get (D := tD t) (cl := mcl) (tys := mty t) (ws := va_pl (tdom t) (mE t G)) (ci := 0) (C := RK0) (T := TK0) (N := 13) X.1 X.2.1 X.ws (fun w h => GW_in (inK0 w h) (inG0 w h)) X.o X.k hz.1.1 q0 hq rfl 7 (by decide) (X.w hw) (fun _ h => h) rfl hd (k H locs ls hl hz)
theorem qp_7 {a idx : Nat} {r : Option Nat} {x : Option Nat} (X : kX p s m args meth c cc nL own t) (hpu : pu = false) (hd : decode cc pc = .ok (.putfield idx, 3)) (hw : Cond.fieldLink own idx "TreeServer$Node" "home" "LTreeServer$Node;" ∈ GW) (hr : r = some a) (hk : tk t a = 1) (k : kV cs p l e R s m args below meth c Q nL t pu (pc + 3) lv rest (sr G 7 a x)) : kV cs p l e R s m args below meth c Q nL t pu pc lv (va_rf x :: va_rf r :: rest) G := by
  subst hr
  intro H locs ls hl hz
  have ha := X.d hk (by decide)
  obtain ⟨q0, hq⟩ := hz.1.get ha
  have hq' := hq
  rw [mE_1 hk] at hq'
  refine va_put (D := tD t) (cl := mcl) (tys := mty t) (ws := va_pl (tdom t) (mE t G)) (A := tA t) (H0 := s.heap) (ci := 0) (C := RK0) (T := TK0) (N := 13) (v := va_rf x) (ty := .object "TreeServer$Node") X.1 X.2.1 X.ws (fun w h => GW_in (inK0 w h) (inG0 w h)) yK0 yK0_ok nmK0 X.o X.k hz.1.1 hz.1.2.1 hz.2.1 q0 hq' rfl 7 (by decide) (X.w hw) (fun _ h => h) rfl (by decide +kernel) (by cases x <;> rfl) (by cases x <;> rfl) (Nat.le_of_ble_eq_true rfl) hd (fun H1 locs1 hP hD hS => ?_)
  exact k H1 locs1 ls hl ⟨hz.1.set ha hq (by rw [mE_1 hk]; simp [gi, gl, gr, sr, u2]) (fun b hb => mE_sr hb) hP hD (fun b j h => hz.1.2.2 b j h), hS, fun h => by rw [hpu] at h; cases h⟩
theorem qg_8 {a idx : Nat} {r : Option Nat} (X : kX p s m args meth c cc nL own t) (hd : decode cc pc = .ok (.getfield idx, 3)) (hw : Cond.fieldLink own idx "TreeServer$Node" "entries" "I" ∈ GW) (hr : r = some a) (hk : tk t a = 1) (k : kV cs p l e R s m args below meth c Q nL t pu (pc + 3) lv (.int (gi G 8 a) :: rest) G) : kV cs p l e R s m args below meth c Q nL t pu pc lv (va_rf r :: rest) G := by
  subst hr
  intro H locs ls hl hz
  obtain ⟨q0, hq⟩ := hz.1.get (X.d hk (by decide))
  rw [mE_1 hk] at hq
  exact va_get (D := tD t) (cl := mcl) (tys := mty t) (ws := va_pl (tdom t) (mE t G)) (ci := 0) (C := RK0) (T := TK0) (N := 13) X.1 X.2.1 X.ws (fun w h => GW_in (inK0 w h) (inG0 w h)) X.o X.k hz.1.1 q0 hq rfl 8 (by decide) (X.w hw) (fun _ h => h) rfl hd (k H locs ls hl hz)
theorem qp_8 {a idx : Nat} {r : Option Nat} {x : Int32} (X : kX p s m args meth c cc nL own t) (hpu : pu = false) (hd : decode cc pc = .ok (.putfield idx, 3)) (hw : Cond.fieldLink own idx "TreeServer$Node" "entries" "I" ∈ GW) (hr : r = some a) (hk : tk t a = 1) (k : kV cs p l e R s m args below meth c Q nL t pu (pc + 3) lv rest (si G 8 a x)) : kV cs p l e R s m args below meth c Q nL t pu pc lv (.int x :: va_rf r :: rest) G := by
  subst hr
  intro H locs ls hl hz
  have ha := X.d hk (by decide)
  obtain ⟨q0, hq⟩ := hz.1.get ha
  have hq' := hq
  rw [mE_1 hk] at hq'
  refine va_put (D := tD t) (cl := mcl) (tys := mty t) (ws := va_pl (tdom t) (mE t G)) (A := tA t) (H0 := s.heap) (ci := 0) (C := RK0) (T := TK0) (N := 13) (v := .int x) (ty := .int) X.1 X.2.1 X.ws (fun w h => GW_in (inK0 w h) (inG0 w h)) yK0 yK0_ok nmK0 X.o X.k hz.1.1 hz.1.2.1 hz.2.1 q0 hq' rfl 8 (by decide) (X.w hw) (fun _ h => h) rfl (by decide +kernel) rfl rfl (Nat.le_of_ble_eq_true rfl) hd (fun H1 locs1 hP hD hS => ?_)
  exact k H1 locs1 ls hl ⟨hz.1.set ha hq (by rw [mE_1 hk]; simp [gi, gl, gr, si, u2]) (fun b hb => mE_si hb) hP hD (fun b j h => hz.1.2.2 b j h), hS, fun h => by rw [hpu] at h; cases h⟩
theorem qg_9 {a idx : Nat} {r : Option Nat} (X : kX p s m args meth c cc nL own t) (hd : decode cc pc = .ok (.getfield idx, 3)) (hw : Cond.fieldLink own idx "TreeServer$Node" "name" "[B" ∈ GW) (hr : r = some a) (hk : tk t a = 1) (k : kV cs p l e R s m args below meth c Q nL t pu (pc + 3) lv (va_rf (gr G 9 a) :: rest) G) : kV cs p l e R s m args below meth c Q nL t pu pc lv (va_rf r :: rest) G := by
  subst hr
  intro H locs ls hl hz
  obtain ⟨q0, hq⟩ := hz.1.get (X.d hk (by decide))
  rw [mE_1 hk] at hq
  exact va_get (D := tD t) (cl := mcl) (tys := mty t) (ws := va_pl (tdom t) (mE t G)) (ci := 0) (C := RK0) (T := TK0) (N := 13) X.1 X.2.1 X.ws (fun w h => GW_in (inK0 w h) (inG0 w h)) X.o X.k hz.1.1 q0 hq rfl 9 (by decide) (X.w hw) (fun _ h => h) rfl hd (k H locs ls hl hz)
theorem qg_10 {a idx : Nat} {r : Option Nat} (X : kX p s m args meth c cc nL own t) (hd : decode cc pc = .ok (.getfield idx, 3)) (hw : Cond.fieldLink own idx "TreeServer$Node" "nameLength" "I" ∈ GW) (hr : r = some a) (hk : tk t a = 1) (k : kV cs p l e R s m args below meth c Q nL t pu (pc + 3) lv (.int (gi G 10 a) :: rest) G) : kV cs p l e R s m args below meth c Q nL t pu pc lv (va_rf r :: rest) G := by
  subst hr
  intro H locs ls hl hz
  obtain ⟨q0, hq⟩ := hz.1.get (X.d hk (by decide))
  rw [mE_1 hk] at hq
  exact va_get (D := tD t) (cl := mcl) (tys := mty t) (ws := va_pl (tdom t) (mE t G)) (ci := 0) (C := RK0) (T := TK0) (N := 13) X.1 X.2.1 X.ws (fun w h => GW_in (inK0 w h) (inG0 w h)) X.o X.k hz.1.1 q0 hq rfl 10 (by decide) (X.w hw) (fun _ h => h) rfl hd (k H locs ls hl hz)
theorem qp_10 {a idx : Nat} {r : Option Nat} {x : Int32} (X : kX p s m args meth c cc nL own t) (hpu : pu = false) (hd : decode cc pc = .ok (.putfield idx, 3)) (hw : Cond.fieldLink own idx "TreeServer$Node" "nameLength" "I" ∈ GW) (hr : r = some a) (hk : tk t a = 1) (k : kV cs p l e R s m args below meth c Q nL t pu (pc + 3) lv rest (si G 10 a x)) : kV cs p l e R s m args below meth c Q nL t pu pc lv (.int x :: va_rf r :: rest) G := by
  subst hr
  intro H locs ls hl hz
  have ha := X.d hk (by decide)
  obtain ⟨q0, hq⟩ := hz.1.get ha
  have hq' := hq
  rw [mE_1 hk] at hq'
  refine va_put (D := tD t) (cl := mcl) (tys := mty t) (ws := va_pl (tdom t) (mE t G)) (A := tA t) (H0 := s.heap) (ci := 0) (C := RK0) (T := TK0) (N := 13) (v := .int x) (ty := .int) X.1 X.2.1 X.ws (fun w h => GW_in (inK0 w h) (inG0 w h)) yK0 yK0_ok nmK0 X.o X.k hz.1.1 hz.1.2.1 hz.2.1 q0 hq' rfl 10 (by decide) (X.w hw) (fun _ h => h) rfl (by decide +kernel) rfl rfl (Nat.le_of_ble_eq_true rfl) hd (fun H1 locs1 hP hD hS => ?_)
  exact k H1 locs1 ls hl ⟨hz.1.set ha hq (by rw [mE_1 hk]; simp [gi, gl, gr, si, u2]) (fun b hb => mE_si hb) hP hD (fun b j h => hz.1.2.2 b j h), hS, fun h => by rw [hpu] at h; cases h⟩
theorem qg_11 {a idx : Nat} {r : Option Nat} (X : kX p s m args meth c cc nL own t) (hd : decode cc pc = .ok (.getfield idx, 3)) (hw : Cond.fieldLink own idx "TreeServer$Node" "content" "[B" ∈ GW) (hr : r = some a) (hk : tk t a = 1) (k : kV cs p l e R s m args below meth c Q nL t pu (pc + 3) lv (va_rf (gr G 11 a) :: rest) G) : kV cs p l e R s m args below meth c Q nL t pu pc lv (va_rf r :: rest) G := by
  subst hr
  intro H locs ls hl hz
  obtain ⟨q0, hq⟩ := hz.1.get (X.d hk (by decide))
  rw [mE_1 hk] at hq
  exact va_get (D := tD t) (cl := mcl) (tys := mty t) (ws := va_pl (tdom t) (mE t G)) (ci := 0) (C := RK0) (T := TK0) (N := 13) X.1 X.2.1 X.ws (fun w h => GW_in (inK0 w h) (inG0 w h)) X.o X.k hz.1.1 q0 hq rfl 11 (by decide) (X.w hw) (fun _ h => h) rfl hd (k H locs ls hl hz)
theorem qg_12 {a idx : Nat} {r : Option Nat} (X : kX p s m args meth c cc nL own t) (hd : decode cc pc = .ok (.getfield idx, 3)) (hw : Cond.fieldLink own idx "TreeServer$Node" "length" "I" ∈ GW) (hr : r = some a) (hk : tk t a = 1) (k : kV cs p l e R s m args below meth c Q nL t pu (pc + 3) lv (.int (gi G 12 a) :: rest) G) : kV cs p l e R s m args below meth c Q nL t pu pc lv (va_rf r :: rest) G := by
  subst hr
  intro H locs ls hl hz
  obtain ⟨q0, hq⟩ := hz.1.get (X.d hk (by decide))
  rw [mE_1 hk] at hq
  exact va_get (D := tD t) (cl := mcl) (tys := mty t) (ws := va_pl (tdom t) (mE t G)) (ci := 0) (C := RK0) (T := TK0) (N := 13) X.1 X.2.1 X.ws (fun w h => GW_in (inK0 w h) (inG0 w h)) X.o X.k hz.1.1 q0 hq rfl 12 (by decide) (X.w hw) (fun _ h => h) rfl hd (k H locs ls hl hz)
theorem qp_12 {a idx : Nat} {r : Option Nat} {x : Int32} (X : kX p s m args meth c cc nL own t) (hpu : pu = false) (hd : decode cc pc = .ok (.putfield idx, 3)) (hw : Cond.fieldLink own idx "TreeServer$Node" "length" "I" ∈ GW) (hr : r = some a) (hk : tk t a = 1) (k : kV cs p l e R s m args below meth c Q nL t pu (pc + 3) lv rest (si G 12 a x)) : kV cs p l e R s m args below meth c Q nL t pu pc lv (.int x :: va_rf r :: rest) G := by
  subst hr
  intro H locs ls hl hz
  have ha := X.d hk (by decide)
  obtain ⟨q0, hq⟩ := hz.1.get ha
  have hq' := hq
  rw [mE_1 hk] at hq'
  refine va_put (D := tD t) (cl := mcl) (tys := mty t) (ws := va_pl (tdom t) (mE t G)) (A := tA t) (H0 := s.heap) (ci := 0) (C := RK0) (T := TK0) (N := 13) (v := .int x) (ty := .int) X.1 X.2.1 X.ws (fun w h => GW_in (inK0 w h) (inG0 w h)) yK0 yK0_ok nmK0 X.o X.k hz.1.1 hz.1.2.1 hz.2.1 q0 hq' rfl 12 (by decide) (X.w hw) (fun _ h => h) rfl (by decide +kernel) rfl rfl (Nat.le_of_ble_eq_true rfl) hd (fun H1 locs1 hP hD hS => ?_)
  exact k H1 locs1 ls hl ⟨hz.1.set ha hq (by rw [mE_1 hk]; simp [gi, gl, gr, si, u2]) (fun b hb => mE_si hb) hP hD (fun b j h => hz.1.2.2 b j h), hS, fun h => by rw [hpu] at h; cases h⟩
theorem qg_13 {a idx : Nat} {r : Option Nat} (X : kX p s m args meth c cc nL own t) (hd : decode cc pc = .ok (.getfield idx, 3)) (hw : Cond.fieldLink own idx "TreeServer$Tree" "root" "LTreeServer$Node;" ∈ GW) (hr : r = some a) (hk : tk t a = 2) (k : kV cs p l e R s m args below meth c Q nL t pu (pc + 3) lv (va_rf (gr G 13 a) :: rest) G) : kV cs p l e R s m args below meth c Q nL t pu pc lv (va_rf r :: rest) G := by
  subst hr
  intro H locs ls hl hz
  obtain ⟨q0, hq⟩ := hz.1.get (X.d hk (by decide))
  rw [mE_2 hk] at hq
  exact va_get (D := tD t) (cl := mcl) (tys := mty t) (ws := va_pl (tdom t) (mE t G)) (ci := 1) (C := RK1) (T := TK1) (N := 4) X.1 X.2.1 X.ws (fun w h => GW_in (inK1 w h) (inG1 w h)) X.o X.k hz.1.1 q0 hq rfl 0 (by decide) (X.w hw) (fun _ h => h) rfl hd (k H locs ls hl hz)
theorem qg_14 {a idx : Nat} {r : Option Nat} (X : kX p s m args meth c cc nL own t) (hd : decode cc pc = .ok (.getfield idx, 3)) (hw : Cond.fieldLink own idx "TreeServer$Tree" "nodes" "[LTreeServer$Node;" ∈ GW) (hr : r = some a) (hk : tk t a = 2) (k : kV cs p l e R s m args below meth c Q nL t pu (pc + 3) lv (va_rf (gr G 14 a) :: rest) G) : kV cs p l e R s m args below meth c Q nL t pu pc lv (va_rf r :: rest) G := by
  subst hr
  intro H locs ls hl hz
  obtain ⟨q0, hq⟩ := hz.1.get (X.d hk (by decide))
  rw [mE_2 hk] at hq
  exact va_get (D := tD t) (cl := mcl) (tys := mty t) (ws := va_pl (tdom t) (mE t G)) (ci := 1) (C := RK1) (T := TK1) (N := 4) X.1 X.2.1 X.ws (fun w h => GW_in (inK1 w h) (inG1 w h)) X.o X.k hz.1.1 q0 hq rfl 1 (by decide) (X.w hw) (fun _ h => h) rfl hd (k H locs ls hl hz)
theorem qg_15 {a idx : Nat} {r : Option Nat} (X : kX p s m args meth c cc nL own t) (hd : decode cc pc = .ok (.getfield idx, 3)) (hw : Cond.fieldLink own idx "TreeServer$Tree" "count" "I" ∈ GW) (hr : r = some a) (hk : tk t a = 2) (k : kV cs p l e R s m args below meth c Q nL t pu (pc + 3) lv (.int (gi G 15 a) :: rest) G) : kV cs p l e R s m args below meth c Q nL t pu pc lv (va_rf r :: rest) G := by
  subst hr
  intro H locs ls hl hz
  obtain ⟨q0, hq⟩ := hz.1.get (X.d hk (by decide))
  rw [mE_2 hk] at hq
  exact va_get (D := tD t) (cl := mcl) (tys := mty t) (ws := va_pl (tdom t) (mE t G)) (ci := 1) (C := RK1) (T := TK1) (N := 4) X.1 X.2.1 X.ws (fun w h => GW_in (inK1 w h) (inG1 w h)) X.o X.k hz.1.1 q0 hq rfl 2 (by decide) (X.w hw) (fun _ h => h) rfl hd (k H locs ls hl hz)
theorem qp_15 {a idx : Nat} {r : Option Nat} {x : Int32} (X : kX p s m args meth c cc nL own t) (hpu : pu = false) (hd : decode cc pc = .ok (.putfield idx, 3)) (hw : Cond.fieldLink own idx "TreeServer$Tree" "count" "I" ∈ GW) (hr : r = some a) (hk : tk t a = 2) (k : kV cs p l e R s m args below meth c Q nL t pu (pc + 3) lv rest (si G 15 a x)) : kV cs p l e R s m args below meth c Q nL t pu pc lv (.int x :: va_rf r :: rest) G := by
  subst hr
  intro H locs ls hl hz
  have ha := X.d hk (by decide)
  obtain ⟨q0, hq⟩ := hz.1.get ha
  have hq' := hq
  rw [mE_2 hk] at hq'
  refine va_put (D := tD t) (cl := mcl) (tys := mty t) (ws := va_pl (tdom t) (mE t G)) (A := tA t) (H0 := s.heap) (ci := 1) (C := RK1) (T := TK1) (N := 4) (v := .int x) (ty := .int) X.1 X.2.1 X.ws (fun w h => GW_in (inK1 w h) (inG1 w h)) yK1 yK1_ok nmK1 X.o X.k hz.1.1 hz.1.2.1 hz.2.1 q0 hq' rfl 2 (by decide) (X.w hw) (fun _ h => h) rfl (by decide +kernel) rfl rfl (Nat.le_of_ble_eq_true rfl) hd (fun H1 locs1 hP hD hS => ?_)
  exact k H1 locs1 ls hl ⟨hz.1.set ha hq (by rw [mE_2 hk]; simp [gi, gl, gr, si, u2]) (fun b hb => mE_si hb) hP hD (fun b j h => hz.1.2.2 b j h), hS, fun h => by rw [hpu] at h; cases h⟩
theorem qg_16 {a idx : Nat} {r : Option Nat} (X : kX p s m args meth c cc nL own t) (hd : decode cc pc = .ok (.getfield idx, 3)) (hw : Cond.fieldLink own idx "TreeServer$Tree" "nextPath" "I" ∈ GW) (hr : r = some a) (hk : tk t a = 2) (k : kV cs p l e R s m args below meth c Q nL t pu (pc + 3) lv (.int (gi G 16 a) :: rest) G) : kV cs p l e R s m args below meth c Q nL t pu pc lv (va_rf r :: rest) G := by
  subst hr
  intro H locs ls hl hz
  obtain ⟨q0, hq⟩ := hz.1.get (X.d hk (by decide))
  rw [mE_2 hk] at hq
  exact va_get (D := tD t) (cl := mcl) (tys := mty t) (ws := va_pl (tdom t) (mE t G)) (ci := 1) (C := RK1) (T := TK1) (N := 4) X.1 X.2.1 X.ws (fun w h => GW_in (inK1 w h) (inG1 w h)) X.o X.k hz.1.1 q0 hq rfl 3 (by decide) (X.w hw) (fun _ h => h) rfl hd (k H locs ls hl hz)
theorem qp_16 {a idx : Nat} {r : Option Nat} {x : Int32} (X : kX p s m args meth c cc nL own t) (hpu : pu = false) (hd : decode cc pc = .ok (.putfield idx, 3)) (hw : Cond.fieldLink own idx "TreeServer$Tree" "nextPath" "I" ∈ GW) (hr : r = some a) (hk : tk t a = 2) (k : kV cs p l e R s m args below meth c Q nL t pu (pc + 3) lv rest (si G 16 a x)) : kV cs p l e R s m args below meth c Q nL t pu pc lv (.int x :: va_rf r :: rest) G := by
  subst hr
  intro H locs ls hl hz
  have ha := X.d hk (by decide)
  obtain ⟨q0, hq⟩ := hz.1.get ha
  have hq' := hq
  rw [mE_2 hk] at hq'
  refine va_put (D := tD t) (cl := mcl) (tys := mty t) (ws := va_pl (tdom t) (mE t G)) (A := tA t) (H0 := s.heap) (ci := 1) (C := RK1) (T := TK1) (N := 4) (v := .int x) (ty := .int) X.1 X.2.1 X.ws (fun w h => GW_in (inK1 w h) (inG1 w h)) yK1 yK1_ok nmK1 X.o X.k hz.1.1 hz.1.2.1 hz.2.1 q0 hq' rfl 3 (by decide) (X.w hw) (fun _ h => h) rfl (by decide +kernel) rfl rfl (Nat.le_of_ble_eq_true rfl) hd (fun H1 locs1 hP hD hS => ?_)
  exact k H1 locs1 ls hl ⟨hz.1.set ha hq (by rw [mE_2 hk]; simp [gi, gl, gr, si, u2]) (fun b hb => mE_si hb) hP hD (fun b j h => hz.1.2.2 b j h), hS, fun h => by rw [hpu] at h; cases h⟩
theorem qg_17 {a idx : Nat} {r : Option Nat} (X : kX p s m args meth c cc nL own t) (hd : decode cc pc = .ok (.getfield idx, 3)) (hw : Cond.fieldLink own idx "TreeServer$Log" "made" "I" ∈ GW) (hr : r = some a) (hk : tk t a = 3) (k : kV cs p l e R s m args below meth c Q nL t pu (pc + 3) lv (.int (gi G 17 a) :: rest) G) : kV cs p l e R s m args below meth c Q nL t pu pc lv (va_rf r :: rest) G := by
  subst hr
  intro H locs ls hl hz
  obtain ⟨q0, hq⟩ := hz.1.get (X.d hk (by decide))
  rw [mE_3 hk] at hq
  exact va_get (D := tD t) (cl := mcl) (tys := mty t) (ws := va_pl (tdom t) (mE t G)) (ci := 2) (C := RK2) (T := TK2) (N := 4) X.1 X.2.1 X.ws (fun w h => GW_in (inK2 w h) (inG2 w h)) X.o X.k hz.1.1 q0 hq rfl 0 (by decide) (X.w hw) (fun _ h => h) rfl hd (k H locs ls hl hz)
theorem qp_17 {a idx : Nat} {r : Option Nat} {x : Int32} (X : kX p s m args meth c cc nL own t) (hpu : pu = false) (hd : decode cc pc = .ok (.putfield idx, 3)) (hw : Cond.fieldLink own idx "TreeServer$Log" "made" "I" ∈ GW) (hr : r = some a) (hk : tk t a = 3) (k : kV cs p l e R s m args below meth c Q nL t pu (pc + 3) lv rest (si G 17 a x)) : kV cs p l e R s m args below meth c Q nL t pu pc lv (.int x :: va_rf r :: rest) G := by
  subst hr
  intro H locs ls hl hz
  have ha := X.d hk (by decide)
  obtain ⟨q0, hq⟩ := hz.1.get ha
  have hq' := hq
  rw [mE_3 hk] at hq'
  refine va_put (D := tD t) (cl := mcl) (tys := mty t) (ws := va_pl (tdom t) (mE t G)) (A := tA t) (H0 := s.heap) (ci := 2) (C := RK2) (T := TK2) (N := 4) (v := .int x) (ty := .int) X.1 X.2.1 X.ws (fun w h => GW_in (inK2 w h) (inG2 w h)) yK2 yK2_ok nmK2 X.o X.k hz.1.1 hz.1.2.1 hz.2.1 q0 hq' rfl 0 (by decide) (X.w hw) (fun _ h => h) rfl (by decide +kernel) rfl rfl (Nat.le_of_ble_eq_true rfl) hd (fun H1 locs1 hP hD hS => ?_)
  exact k H1 locs1 ls hl ⟨hz.1.set ha hq (by rw [mE_3 hk]; simp [gi, gl, gr, si, u2]) (fun b hb => mE_si hb) hP hD (fun b j h => hz.1.2.2 b j h), hS, fun h => by rw [hpu] at h; cases h⟩
theorem qg_18 {a idx : Nat} {r : Option Nat} (X : kX p s m args meth c cc nL own t) (hd : decode cc pc = .ok (.getfield idx, 3)) (hw : Cond.fieldLink own idx "TreeServer$Log" "cutAfter" "I" ∈ GW) (hr : r = some a) (hk : tk t a = 3) (k : kV cs p l e R s m args below meth c Q nL t pu (pc + 3) lv (.int (gi G 18 a) :: rest) G) : kV cs p l e R s m args below meth c Q nL t pu pc lv (va_rf r :: rest) G := by
  subst hr
  intro H locs ls hl hz
  obtain ⟨q0, hq⟩ := hz.1.get (X.d hk (by decide))
  rw [mE_3 hk] at hq
  exact va_get (D := tD t) (cl := mcl) (tys := mty t) (ws := va_pl (tdom t) (mE t G)) (ci := 2) (C := RK2) (T := TK2) (N := 4) X.1 X.2.1 X.ws (fun w h => GW_in (inK2 w h) (inG2 w h)) X.o X.k hz.1.1 q0 hq rfl 1 (by decide) (X.w hw) (fun _ h => h) rfl hd (k H locs ls hl hz)
theorem qp_18 {a idx : Nat} {r : Option Nat} {x : Int32} (X : kX p s m args meth c cc nL own t) (hpu : pu = false) (hd : decode cc pc = .ok (.putfield idx, 3)) (hw : Cond.fieldLink own idx "TreeServer$Log" "cutAfter" "I" ∈ GW) (hr : r = some a) (hk : tk t a = 3) (k : kV cs p l e R s m args below meth c Q nL t pu (pc + 3) lv rest (si G 18 a x)) : kV cs p l e R s m args below meth c Q nL t pu pc lv (.int x :: va_rf r :: rest) G := by
  subst hr
  intro H locs ls hl hz
  have ha := X.d hk (by decide)
  obtain ⟨q0, hq⟩ := hz.1.get ha
  have hq' := hq
  rw [mE_3 hk] at hq'
  refine va_put (D := tD t) (cl := mcl) (tys := mty t) (ws := va_pl (tdom t) (mE t G)) (A := tA t) (H0 := s.heap) (ci := 2) (C := RK2) (T := TK2) (N := 4) (v := .int x) (ty := .int) X.1 X.2.1 X.ws (fun w h => GW_in (inK2 w h) (inG2 w h)) yK2 yK2_ok nmK2 X.o X.k hz.1.1 hz.1.2.1 hz.2.1 q0 hq' rfl 1 (by decide) (X.w hw) (fun _ h => h) rfl (by decide +kernel) rfl rfl (Nat.le_of_ble_eq_true rfl) hd (fun H1 locs1 hP hD hS => ?_)
  exact k H1 locs1 ls hl ⟨hz.1.set ha hq (by rw [mE_3 hk]; simp [gi, gl, gr, si, u2]) (fun b hb => mE_si hb) hP hD (fun b j h => hz.1.2.2 b j h), hS, fun h => by rw [hpu] at h; cases h⟩
theorem qg_19 {a idx : Nat} {r : Option Nat} (X : kX p s m args meth c cc nL own t) (hd : decode cc pc = .ok (.getfield idx, 3)) (hw : Cond.fieldLink own idx "TreeServer$Log" "running" "Z" ∈ GW) (hr : r = some a) (hk : tk t a = 3) (k : kV cs p l e R s m args below meth c Q nL t pu (pc + 3) lv (.int (gi G 19 a) :: rest) G) : kV cs p l e R s m args below meth c Q nL t pu pc lv (va_rf r :: rest) G := by
  subst hr
  intro H locs ls hl hz
  obtain ⟨q0, hq⟩ := hz.1.get (X.d hk (by decide))
  rw [mE_3 hk] at hq
  exact va_get (D := tD t) (cl := mcl) (tys := mty t) (ws := va_pl (tdom t) (mE t G)) (ci := 2) (C := RK2) (T := TK2) (N := 4) X.1 X.2.1 X.ws (fun w h => GW_in (inK2 w h) (inG2 w h)) X.o X.k hz.1.1 q0 hq rfl 2 (by decide) (X.w hw) (fun _ h => h) rfl hd (k H locs ls hl hz)
theorem qp_19 {a idx : Nat} {r : Option Nat} {x : Int32} (X : kX p s m args meth c cc nL own t) (hpu : pu = false) (hd : decode cc pc = .ok (.putfield idx, 3)) (hw : Cond.fieldLink own idx "TreeServer$Log" "running" "Z" ∈ GW) (hr : r = some a) (hk : tk t a = 3) (hB : isB x) (k : kV cs p l e R s m args below meth c Q nL t pu (pc + 3) lv rest (si G 19 a x)) : kV cs p l e R s m args below meth c Q nL t pu pc lv (.int x :: va_rf r :: rest) G := by
  subst hr
  intro H locs ls hl hz
  have ha := X.d hk (by decide)
  obtain ⟨q0, hq⟩ := hz.1.get ha
  have hq' := hq
  rw [mE_3 hk] at hq'
  refine va_put (D := tD t) (cl := mcl) (tys := mty t) (ws := va_pl (tdom t) (mE t G)) (A := tA t) (H0 := s.heap) (ci := 2) (C := RK2) (T := TK2) (N := 4) (v := .int x) (ty := .boolean) X.1 X.2.1 X.ws (fun w h => GW_in (inK2 w h) (inG2 w h)) yK2 yK2_ok nmK2 X.o X.k hz.1.1 hz.1.2.1 hz.2.1 q0 hq' rfl 2 (by decide) (X.w hw) (fun _ h => h) rfl (by decide +kernel) (by rcases hB with rfl | rfl <;> rfl) (by rcases hB with rfl | rfl <;> rfl) (Nat.le_of_ble_eq_true rfl) hd (fun H1 locs1 hP hD hS => ?_)
  exact k H1 locs1 ls hl ⟨hz.1.set ha hq (by rw [mE_3 hk]; simp [gi, gl, gr, si, u2]) (fun b hb => mE_si hb) hP hD (fun b j h => hz.1.2.2 b j h), hS, fun h => by rw [hpu] at h; cases h⟩
theorem qg_20 {a idx : Nat} {r : Option Nat} (X : kX p s m args meth c cc nL own t) (hd : decode cc pc = .ok (.getfield idx, 3)) (hw : Cond.fieldLink own idx "TreeServer$Log" "closed" "Z" ∈ GW) (hr : r = some a) (hk : tk t a = 3) (k : kV cs p l e R s m args below meth c Q nL t pu (pc + 3) lv (.int (gi G 20 a) :: rest) G) : kV cs p l e R s m args below meth c Q nL t pu pc lv (va_rf r :: rest) G := by
  subst hr
  intro H locs ls hl hz
  obtain ⟨q0, hq⟩ := hz.1.get (X.d hk (by decide))
  rw [mE_3 hk] at hq
  exact va_get (D := tD t) (cl := mcl) (tys := mty t) (ws := va_pl (tdom t) (mE t G)) (ci := 2) (C := RK2) (T := TK2) (N := 4) X.1 X.2.1 X.ws (fun w h => GW_in (inK2 w h) (inG2 w h)) X.o X.k hz.1.1 q0 hq rfl 3 (by decide) (X.w hw) (fun _ h => h) rfl hd (k H locs ls hl hz)
theorem qp_20 {a idx : Nat} {r : Option Nat} {x : Int32} (X : kX p s m args meth c cc nL own t) (hpu : pu = false) (hd : decode cc pc = .ok (.putfield idx, 3)) (hw : Cond.fieldLink own idx "TreeServer$Log" "closed" "Z" ∈ GW) (hr : r = some a) (hk : tk t a = 3) (hB : isB x) (k : kV cs p l e R s m args below meth c Q nL t pu (pc + 3) lv rest (si G 20 a x)) : kV cs p l e R s m args below meth c Q nL t pu pc lv (.int x :: va_rf r :: rest) G := by
  subst hr
  intro H locs ls hl hz
  have ha := X.d hk (by decide)
  obtain ⟨q0, hq⟩ := hz.1.get ha
  have hq' := hq
  rw [mE_3 hk] at hq'
  refine va_put (D := tD t) (cl := mcl) (tys := mty t) (ws := va_pl (tdom t) (mE t G)) (A := tA t) (H0 := s.heap) (ci := 2) (C := RK2) (T := TK2) (N := 4) (v := .int x) (ty := .boolean) X.1 X.2.1 X.ws (fun w h => GW_in (inK2 w h) (inG2 w h)) yK2 yK2_ok nmK2 X.o X.k hz.1.1 hz.1.2.1 hz.2.1 q0 hq' rfl 3 (by decide) (X.w hw) (fun _ h => h) rfl (by decide +kernel) (by rcases hB with rfl | rfl <;> rfl) (by rcases hB with rfl | rfl <;> rfl) (Nat.le_of_ble_eq_true rfl) hd (fun H1 locs1 hP hD hS => ?_)
  exact k H1 locs1 ls hl ⟨hz.1.set ha hq (by rw [mE_3 hk]; simp [gi, gl, gr, si, u2]) (fun b hb => mE_si hb) hP hD (fun b j h => hz.1.2.2 b j h), hS, fun h => by rw [hpu] at h; cases h⟩
theorem qg_21 {a idx : Nat} {r : Option Nat} (X : kX p s m args meth c cc nL own t) (hd : decode cc pc = .ok (.getfield idx, 3)) (hw : Cond.fieldLink own idx "TreeServer$Change" "kind" "LTreeServer$Kind;" ∈ GW) (hr : r = some a) (hk : tk t a = 4) (k : kV cs p l e R s m args below meth c Q nL t pu (pc + 3) lv (va_rf (gr G 21 a) :: rest) G) : kV cs p l e R s m args below meth c Q nL t pu pc lv (va_rf r :: rest) G := by
  subst hr
  intro H locs ls hl hz
  obtain ⟨q0, hq⟩ := hz.1.get (X.d hk (by decide))
  rw [mE_4 hk] at hq
  exact va_get (D := tD t) (cl := mcl) (tys := mty t) (ws := va_pl (tdom t) (mE t G)) (ci := 3) (C := RK3) (T := TK3) (N := 15) X.1 X.2.1 X.ws (fun w h => GW_in (inK3 w h) (inG3 w h)) X.o X.k hz.1.1 q0 hq rfl 0 (by decide) (X.w hw) (fun _ h => h) rfl hd (k H locs ls hl hz)
theorem qp_21 {a idx : Nat} {r : Option Nat} {x : Option Nat} (X : kX p s m args meth c cc nL own t) (hpu : pu = false) (hd : decode cc pc = .ok (.putfield idx, 3)) (hw : Cond.fieldLink own idx "TreeServer$Change" "kind" "LTreeServer$Kind;" ∈ GW) (hr : r = some a) (hk : tk t a = 4) (k : kV cs p l e R s m args below meth c Q nL t pu (pc + 3) lv rest (sr G 21 a x)) : kV cs p l e R s m args below meth c Q nL t pu pc lv (va_rf x :: va_rf r :: rest) G := by
  subst hr
  intro H locs ls hl hz
  have ha := X.d hk (by decide)
  obtain ⟨q0, hq⟩ := hz.1.get ha
  have hq' := hq
  rw [mE_4 hk] at hq'
  refine va_put (D := tD t) (cl := mcl) (tys := mty t) (ws := va_pl (tdom t) (mE t G)) (A := tA t) (H0 := s.heap) (ci := 3) (C := RK3) (T := TK3) (N := 15) (v := va_rf x) (ty := .object "TreeServer$Kind") X.1 X.2.1 X.ws (fun w h => GW_in (inK3 w h) (inG3 w h)) yK3 yK3_ok nmK3 X.o X.k hz.1.1 hz.1.2.1 hz.2.1 q0 hq' rfl 0 (by decide) (X.w hw) (fun _ h => h) rfl (by decide +kernel) (by cases x <;> rfl) (by cases x <;> rfl) (Nat.le_of_ble_eq_true rfl) hd (fun H1 locs1 hP hD hS => ?_)
  exact k H1 locs1 ls hl ⟨hz.1.set ha hq (by rw [mE_4 hk]; simp [gi, gl, gr, sr, u2]) (fun b hb => mE_sr hb) hP hD (fun b j h => hz.1.2.2 b j h), hS, fun h => by rw [hpu] at h; cases h⟩
theorem qg_22 {a idx : Nat} {r : Option Nat} (X : kX p s m args meth c cc nL own t) (hd : decode cc pc = .ok (.getfield idx, 3)) (hw : Cond.fieldLink own idx "TreeServer$Change" "node" "LTreeServer$Node;" ∈ GW) (hr : r = some a) (hk : tk t a = 4) (k : kV cs p l e R s m args below meth c Q nL t pu (pc + 3) lv (va_rf (gr G 22 a) :: rest) G) : kV cs p l e R s m args below meth c Q nL t pu pc lv (va_rf r :: rest) G := by
  subst hr
  intro H locs ls hl hz
  obtain ⟨q0, hq⟩ := hz.1.get (X.d hk (by decide))
  rw [mE_4 hk] at hq
  exact va_get (D := tD t) (cl := mcl) (tys := mty t) (ws := va_pl (tdom t) (mE t G)) (ci := 3) (C := RK3) (T := TK3) (N := 15) X.1 X.2.1 X.ws (fun w h => GW_in (inK3 w h) (inG3 w h)) X.o X.k hz.1.1 q0 hq rfl 1 (by decide) (X.w hw) (fun _ h => h) rfl hd (k H locs ls hl hz)
theorem qp_22 {a idx : Nat} {r : Option Nat} {x : Option Nat} (X : kX p s m args meth c cc nL own t) (hpu : pu = false) (hd : decode cc pc = .ok (.putfield idx, 3)) (hw : Cond.fieldLink own idx "TreeServer$Change" "node" "LTreeServer$Node;" ∈ GW) (hr : r = some a) (hk : tk t a = 4) (k : kV cs p l e R s m args below meth c Q nL t pu (pc + 3) lv rest (sr G 22 a x)) : kV cs p l e R s m args below meth c Q nL t pu pc lv (va_rf x :: va_rf r :: rest) G := by
  subst hr
  intro H locs ls hl hz
  have ha := X.d hk (by decide)
  obtain ⟨q0, hq⟩ := hz.1.get ha
  have hq' := hq
  rw [mE_4 hk] at hq'
  refine va_put (D := tD t) (cl := mcl) (tys := mty t) (ws := va_pl (tdom t) (mE t G)) (A := tA t) (H0 := s.heap) (ci := 3) (C := RK3) (T := TK3) (N := 15) (v := va_rf x) (ty := .object "TreeServer$Node") X.1 X.2.1 X.ws (fun w h => GW_in (inK3 w h) (inG3 w h)) yK3 yK3_ok nmK3 X.o X.k hz.1.1 hz.1.2.1 hz.2.1 q0 hq' rfl 1 (by decide) (X.w hw) (fun _ h => h) rfl (by decide +kernel) (by cases x <;> rfl) (by cases x <;> rfl) (Nat.le_of_ble_eq_true rfl) hd (fun H1 locs1 hP hD hS => ?_)
  exact k H1 locs1 ls hl ⟨hz.1.set ha hq (by rw [mE_4 hk]; simp [gi, gl, gr, sr, u2]) (fun b hb => mE_sr hb) hP hD (fun b j h => hz.1.2.2 b j h), hS, fun h => by rw [hpu] at h; cases h⟩
theorem qg_23 {a idx : Nat} {r : Option Nat} (X : kX p s m args meth c cc nL own t) (hd : decode cc pc = .ok (.getfield idx, 3)) (hw : Cond.fieldLink own idx "TreeServer$Change" "user" "LTreeServer$User;" ∈ GW) (hr : r = some a) (hk : tk t a = 4) (k : kV cs p l e R s m args below meth c Q nL t pu (pc + 3) lv (va_rf (gr G 23 a) :: rest) G) : kV cs p l e R s m args below meth c Q nL t pu pc lv (va_rf r :: rest) G := by
  subst hr
  intro H locs ls hl hz
  obtain ⟨q0, hq⟩ := hz.1.get (X.d hk (by decide))
  rw [mE_4 hk] at hq
  exact va_get (D := tD t) (cl := mcl) (tys := mty t) (ws := va_pl (tdom t) (mE t G)) (ci := 3) (C := RK3) (T := TK3) (N := 15) X.1 X.2.1 X.ws (fun w h => GW_in (inK3 w h) (inG3 w h)) X.o X.k hz.1.1 q0 hq rfl 2 (by decide) (X.w hw) (fun _ h => h) rfl hd (k H locs ls hl hz)
theorem qp_23 {a idx : Nat} {r : Option Nat} {x : Option Nat} (X : kX p s m args meth c cc nL own t) (hpu : pu = false) (hd : decode cc pc = .ok (.putfield idx, 3)) (hw : Cond.fieldLink own idx "TreeServer$Change" "user" "LTreeServer$User;" ∈ GW) (hr : r = some a) (hk : tk t a = 4) (k : kV cs p l e R s m args below meth c Q nL t pu (pc + 3) lv rest (sr G 23 a x)) : kV cs p l e R s m args below meth c Q nL t pu pc lv (va_rf x :: va_rf r :: rest) G := by
  subst hr
  intro H locs ls hl hz
  have ha := X.d hk (by decide)
  obtain ⟨q0, hq⟩ := hz.1.get ha
  have hq' := hq
  rw [mE_4 hk] at hq'
  refine va_put (D := tD t) (cl := mcl) (tys := mty t) (ws := va_pl (tdom t) (mE t G)) (A := tA t) (H0 := s.heap) (ci := 3) (C := RK3) (T := TK3) (N := 15) (v := va_rf x) (ty := .object "TreeServer$User") X.1 X.2.1 X.ws (fun w h => GW_in (inK3 w h) (inG3 w h)) yK3 yK3_ok nmK3 X.o X.k hz.1.1 hz.1.2.1 hz.2.1 q0 hq' rfl 2 (by decide) (X.w hw) (fun _ h => h) rfl (by decide +kernel) (by cases x <;> rfl) (by cases x <;> rfl) (Nat.le_of_ble_eq_true rfl) hd (fun H1 locs1 hP hD hS => ?_)
  exact k H1 locs1 ls hl ⟨hz.1.set ha hq (by rw [mE_4 hk]; simp [gi, gl, gr, sr, u2]) (fun b hb => mE_sr hb) hP hD (fun b j h => hz.1.2.2 b j h), hS, fun h => by rw [hpu] at h; cases h⟩
theorem qg_24 {a idx : Nat} {r : Option Nat} (X : kX p s m args meth c cc nL own t) (hd : decode cc pc = .ok (.getfield idx, 3)) (hw : Cond.fieldLink own idx "TreeServer$Change" "time" "I" ∈ GW) (hr : r = some a) (hk : tk t a = 4) (k : kV cs p l e R s m args below meth c Q nL t pu (pc + 3) lv (.int (gi G 24 a) :: rest) G) : kV cs p l e R s m args below meth c Q nL t pu pc lv (va_rf r :: rest) G := by
  subst hr
  intro H locs ls hl hz
  obtain ⟨q0, hq⟩ := hz.1.get (X.d hk (by decide))
  rw [mE_4 hk] at hq
  exact va_get (D := tD t) (cl := mcl) (tys := mty t) (ws := va_pl (tdom t) (mE t G)) (ci := 3) (C := RK3) (T := TK3) (N := 15) X.1 X.2.1 X.ws (fun w h => GW_in (inK3 w h) (inG3 w h)) X.o X.k hz.1.1 q0 hq rfl 3 (by decide) (X.w hw) (fun _ h => h) rfl hd (k H locs ls hl hz)
theorem qp_24 {a idx : Nat} {r : Option Nat} {x : Int32} (X : kX p s m args meth c cc nL own t) (hpu : pu = false) (hd : decode cc pc = .ok (.putfield idx, 3)) (hw : Cond.fieldLink own idx "TreeServer$Change" "time" "I" ∈ GW) (hr : r = some a) (hk : tk t a = 4) (k : kV cs p l e R s m args below meth c Q nL t pu (pc + 3) lv rest (si G 24 a x)) : kV cs p l e R s m args below meth c Q nL t pu pc lv (.int x :: va_rf r :: rest) G := by
  subst hr
  intro H locs ls hl hz
  have ha := X.d hk (by decide)
  obtain ⟨q0, hq⟩ := hz.1.get ha
  have hq' := hq
  rw [mE_4 hk] at hq'
  refine va_put (D := tD t) (cl := mcl) (tys := mty t) (ws := va_pl (tdom t) (mE t G)) (A := tA t) (H0 := s.heap) (ci := 3) (C := RK3) (T := TK3) (N := 15) (v := .int x) (ty := .int) X.1 X.2.1 X.ws (fun w h => GW_in (inK3 w h) (inG3 w h)) yK3 yK3_ok nmK3 X.o X.k hz.1.1 hz.1.2.1 hz.2.1 q0 hq' rfl 3 (by decide) (X.w hw) (fun _ h => h) rfl (by decide +kernel) rfl rfl (Nat.le_of_ble_eq_true rfl) hd (fun H1 locs1 hP hD hS => ?_)
  exact k H1 locs1 ls hl ⟨hz.1.set ha hq (by rw [mE_4 hk]; simp [gi, gl, gr, si, u2]) (fun b hb => mE_si hb) hP hD (fun b j h => hz.1.2.2 b j h), hS, fun h => by rw [hpu] at h; cases h⟩
theorem qg_25 {a idx : Nat} {r : Option Nat} (X : kX p s m args meth c cc nL own t) (hd : decode cc pc = .ok (.getfield idx, 3)) (hw : Cond.fieldLink own idx "TreeServer$Change" "length" "I" ∈ GW) (hr : r = some a) (hk : tk t a = 4) (k : kV cs p l e R s m args below meth c Q nL t pu (pc + 3) lv (.int (gi G 25 a) :: rest) G) : kV cs p l e R s m args below meth c Q nL t pu pc lv (va_rf r :: rest) G := by
  subst hr
  intro H locs ls hl hz
  obtain ⟨q0, hq⟩ := hz.1.get (X.d hk (by decide))
  rw [mE_4 hk] at hq
  exact va_get (D := tD t) (cl := mcl) (tys := mty t) (ws := va_pl (tdom t) (mE t G)) (ci := 3) (C := RK3) (T := TK3) (N := 15) X.1 X.2.1 X.ws (fun w h => GW_in (inK3 w h) (inG3 w h)) X.o X.k hz.1.1 q0 hq rfl 4 (by decide) (X.w hw) (fun _ h => h) rfl hd (k H locs ls hl hz)
theorem qp_25 {a idx : Nat} {r : Option Nat} {x : Int32} (X : kX p s m args meth c cc nL own t) (hpu : pu = false) (hd : decode cc pc = .ok (.putfield idx, 3)) (hw : Cond.fieldLink own idx "TreeServer$Change" "length" "I" ∈ GW) (hr : r = some a) (hk : tk t a = 4) (k : kV cs p l e R s m args below meth c Q nL t pu (pc + 3) lv rest (si G 25 a x)) : kV cs p l e R s m args below meth c Q nL t pu pc lv (.int x :: va_rf r :: rest) G := by
  subst hr
  intro H locs ls hl hz
  have ha := X.d hk (by decide)
  obtain ⟨q0, hq⟩ := hz.1.get ha
  have hq' := hq
  rw [mE_4 hk] at hq'
  refine va_put (D := tD t) (cl := mcl) (tys := mty t) (ws := va_pl (tdom t) (mE t G)) (A := tA t) (H0 := s.heap) (ci := 3) (C := RK3) (T := TK3) (N := 15) (v := .int x) (ty := .int) X.1 X.2.1 X.ws (fun w h => GW_in (inK3 w h) (inG3 w h)) yK3 yK3_ok nmK3 X.o X.k hz.1.1 hz.1.2.1 hz.2.1 q0 hq' rfl 4 (by decide) (X.w hw) (fun _ h => h) rfl (by decide +kernel) rfl rfl (Nat.le_of_ble_eq_true rfl) hd (fun H1 locs1 hP hD hS => ?_)
  exact k H1 locs1 ls hl ⟨hz.1.set ha hq (by rw [mE_4 hk]; simp [gi, gl, gr, si, u2]) (fun b hb => mE_si hb) hP hD (fun b j h => hz.1.2.2 b j h), hS, fun h => by rw [hpu] at h; cases h⟩
theorem qg_26 {a idx : Nat} {r : Option Nat} (X : kX p s m args meth c cc nL own t) (hd : decode cc pc = .ok (.getfield idx, 3)) (hw : Cond.fieldLink own idx "TreeServer$Change" "givesMode" "Z" ∈ GW) (hr : r = some a) (hk : tk t a = 4) (k : kV cs p l e R s m args below meth c Q nL t pu (pc + 3) lv (.int (gi G 26 a) :: rest) G) : kV cs p l e R s m args below meth c Q nL t pu pc lv (va_rf r :: rest) G := by
  subst hr
  intro H locs ls hl hz
  obtain ⟨q0, hq⟩ := hz.1.get (X.d hk (by decide))
  rw [mE_4 hk] at hq
  exact va_get (D := tD t) (cl := mcl) (tys := mty t) (ws := va_pl (tdom t) (mE t G)) (ci := 3) (C := RK3) (T := TK3) (N := 15) X.1 X.2.1 X.ws (fun w h => GW_in (inK3 w h) (inG3 w h)) X.o X.k hz.1.1 q0 hq rfl 5 (by decide) (X.w hw) (fun _ h => h) rfl hd (k H locs ls hl hz)
theorem qp_26 {a idx : Nat} {r : Option Nat} {x : Int32} (X : kX p s m args meth c cc nL own t) (hpu : pu = false) (hd : decode cc pc = .ok (.putfield idx, 3)) (hw : Cond.fieldLink own idx "TreeServer$Change" "givesMode" "Z" ∈ GW) (hr : r = some a) (hk : tk t a = 4) (hB : isB x) (k : kV cs p l e R s m args below meth c Q nL t pu (pc + 3) lv rest (si G 26 a x)) : kV cs p l e R s m args below meth c Q nL t pu pc lv (.int x :: va_rf r :: rest) G := by
  subst hr
  intro H locs ls hl hz
  have ha := X.d hk (by decide)
  obtain ⟨q0, hq⟩ := hz.1.get ha
  have hq' := hq
  rw [mE_4 hk] at hq'
  refine va_put (D := tD t) (cl := mcl) (tys := mty t) (ws := va_pl (tdom t) (mE t G)) (A := tA t) (H0 := s.heap) (ci := 3) (C := RK3) (T := TK3) (N := 15) (v := .int x) (ty := .boolean) X.1 X.2.1 X.ws (fun w h => GW_in (inK3 w h) (inG3 w h)) yK3 yK3_ok nmK3 X.o X.k hz.1.1 hz.1.2.1 hz.2.1 q0 hq' rfl 5 (by decide) (X.w hw) (fun _ h => h) rfl (by decide +kernel) (by rcases hB with rfl | rfl <;> rfl) (by rcases hB with rfl | rfl <;> rfl) (Nat.le_of_ble_eq_true rfl) hd (fun H1 locs1 hP hD hS => ?_)
  exact k H1 locs1 ls hl ⟨hz.1.set ha hq (by rw [mE_4 hk]; simp [gi, gl, gr, si, u2]) (fun b hb => mE_si hb) hP hD (fun b j h => hz.1.2.2 b j h), hS, fun h => by rw [hpu] at h; cases h⟩
theorem qg_27 {a idx : Nat} {r : Option Nat} (X : kX p s m args meth c cc nL own t) (hd : decode cc pc = .ok (.getfield idx, 3)) (hw : Cond.fieldLink own idx "TreeServer$Change" "mode" "I" ∈ GW) (hr : r = some a) (hk : tk t a = 4) (k : kV cs p l e R s m args below meth c Q nL t pu (pc + 3) lv (.int (gi G 27 a) :: rest) G) : kV cs p l e R s m args below meth c Q nL t pu pc lv (va_rf r :: rest) G := by
  subst hr
  intro H locs ls hl hz
  obtain ⟨q0, hq⟩ := hz.1.get (X.d hk (by decide))
  rw [mE_4 hk] at hq
  exact va_get (D := tD t) (cl := mcl) (tys := mty t) (ws := va_pl (tdom t) (mE t G)) (ci := 3) (C := RK3) (T := TK3) (N := 15) X.1 X.2.1 X.ws (fun w h => GW_in (inK3 w h) (inG3 w h)) X.o X.k hz.1.1 q0 hq rfl 6 (by decide) (X.w hw) (fun _ h => h) rfl hd (k H locs ls hl hz)
theorem qp_27 {a idx : Nat} {r : Option Nat} {x : Int32} (X : kX p s m args meth c cc nL own t) (hpu : pu = false) (hd : decode cc pc = .ok (.putfield idx, 3)) (hw : Cond.fieldLink own idx "TreeServer$Change" "mode" "I" ∈ GW) (hr : r = some a) (hk : tk t a = 4) (k : kV cs p l e R s m args below meth c Q nL t pu (pc + 3) lv rest (si G 27 a x)) : kV cs p l e R s m args below meth c Q nL t pu pc lv (.int x :: va_rf r :: rest) G := by
  subst hr
  intro H locs ls hl hz
  have ha := X.d hk (by decide)
  obtain ⟨q0, hq⟩ := hz.1.get ha
  have hq' := hq
  rw [mE_4 hk] at hq'
  refine va_put (D := tD t) (cl := mcl) (tys := mty t) (ws := va_pl (tdom t) (mE t G)) (A := tA t) (H0 := s.heap) (ci := 3) (C := RK3) (T := TK3) (N := 15) (v := .int x) (ty := .int) X.1 X.2.1 X.ws (fun w h => GW_in (inK3 w h) (inG3 w h)) yK3 yK3_ok nmK3 X.o X.k hz.1.1 hz.1.2.1 hz.2.1 q0 hq' rfl 6 (by decide) (X.w hw) (fun _ h => h) rfl (by decide +kernel) rfl rfl (Nat.le_of_ble_eq_true rfl) hd (fun H1 locs1 hP hD hS => ?_)
  exact k H1 locs1 ls hl ⟨hz.1.set ha hq (by rw [mE_4 hk]; simp [gi, gl, gr, si, u2]) (fun b hb => mE_si hb) hP hD (fun b j h => hz.1.2.2 b j h), hS, fun h => by rw [hpu] at h; cases h⟩
theorem qg_28 {a idx : Nat} {r : Option Nat} (X : kX p s m args meth c cc nL own t) (hd : decode cc pc = .ok (.getfield idx, 3)) (hw : Cond.fieldLink own idx "TreeServer$Change" "givesMtime" "Z" ∈ GW) (hr : r = some a) (hk : tk t a = 4) (k : kV cs p l e R s m args below meth c Q nL t pu (pc + 3) lv (.int (gi G 28 a) :: rest) G) : kV cs p l e R s m args below meth c Q nL t pu pc lv (va_rf r :: rest) G := by
  subst hr
  intro H locs ls hl hz
  obtain ⟨q0, hq⟩ := hz.1.get (X.d hk (by decide))
  rw [mE_4 hk] at hq
  exact va_get (D := tD t) (cl := mcl) (tys := mty t) (ws := va_pl (tdom t) (mE t G)) (ci := 3) (C := RK3) (T := TK3) (N := 15) X.1 X.2.1 X.ws (fun w h => GW_in (inK3 w h) (inG3 w h)) X.o X.k hz.1.1 q0 hq rfl 7 (by decide) (X.w hw) (fun _ h => h) rfl hd (k H locs ls hl hz)
theorem qp_28 {a idx : Nat} {r : Option Nat} {x : Int32} (X : kX p s m args meth c cc nL own t) (hpu : pu = false) (hd : decode cc pc = .ok (.putfield idx, 3)) (hw : Cond.fieldLink own idx "TreeServer$Change" "givesMtime" "Z" ∈ GW) (hr : r = some a) (hk : tk t a = 4) (hB : isB x) (k : kV cs p l e R s m args below meth c Q nL t pu (pc + 3) lv rest (si G 28 a x)) : kV cs p l e R s m args below meth c Q nL t pu pc lv (.int x :: va_rf r :: rest) G := by
  subst hr
  intro H locs ls hl hz
  have ha := X.d hk (by decide)
  obtain ⟨q0, hq⟩ := hz.1.get ha
  have hq' := hq
  rw [mE_4 hk] at hq'
  refine va_put (D := tD t) (cl := mcl) (tys := mty t) (ws := va_pl (tdom t) (mE t G)) (A := tA t) (H0 := s.heap) (ci := 3) (C := RK3) (T := TK3) (N := 15) (v := .int x) (ty := .boolean) X.1 X.2.1 X.ws (fun w h => GW_in (inK3 w h) (inG3 w h)) yK3 yK3_ok nmK3 X.o X.k hz.1.1 hz.1.2.1 hz.2.1 q0 hq' rfl 7 (by decide) (X.w hw) (fun _ h => h) rfl (by decide +kernel) (by rcases hB with rfl | rfl <;> rfl) (by rcases hB with rfl | rfl <;> rfl) (Nat.le_of_ble_eq_true rfl) hd (fun H1 locs1 hP hD hS => ?_)
  exact k H1 locs1 ls hl ⟨hz.1.set ha hq (by rw [mE_4 hk]; simp [gi, gl, gr, si, u2]) (fun b hb => mE_si hb) hP hD (fun b j h => hz.1.2.2 b j h), hS, fun h => by rw [hpu] at h; cases h⟩
theorem qg_29 {a idx : Nat} {r : Option Nat} (X : kX p s m args meth c cc nL own t) (hd : decode cc pc = .ok (.getfield idx, 3)) (hw : Cond.fieldLink own idx "TreeServer$Change" "mtime" "I" ∈ GW) (hr : r = some a) (hk : tk t a = 4) (k : kV cs p l e R s m args below meth c Q nL t pu (pc + 3) lv (.int (gi G 29 a) :: rest) G) : kV cs p l e R s m args below meth c Q nL t pu pc lv (va_rf r :: rest) G := by
  subst hr
  intro H locs ls hl hz
  obtain ⟨q0, hq⟩ := hz.1.get (X.d hk (by decide))
  rw [mE_4 hk] at hq
  exact va_get (D := tD t) (cl := mcl) (tys := mty t) (ws := va_pl (tdom t) (mE t G)) (ci := 3) (C := RK3) (T := TK3) (N := 15) X.1 X.2.1 X.ws (fun w h => GW_in (inK3 w h) (inG3 w h)) X.o X.k hz.1.1 q0 hq rfl 8 (by decide) (X.w hw) (fun _ h => h) rfl hd (k H locs ls hl hz)
theorem qp_29 {a idx : Nat} {r : Option Nat} {x : Int32} (X : kX p s m args meth c cc nL own t) (hpu : pu = false) (hd : decode cc pc = .ok (.putfield idx, 3)) (hw : Cond.fieldLink own idx "TreeServer$Change" "mtime" "I" ∈ GW) (hr : r = some a) (hk : tk t a = 4) (k : kV cs p l e R s m args below meth c Q nL t pu (pc + 3) lv rest (si G 29 a x)) : kV cs p l e R s m args below meth c Q nL t pu pc lv (.int x :: va_rf r :: rest) G := by
  subst hr
  intro H locs ls hl hz
  have ha := X.d hk (by decide)
  obtain ⟨q0, hq⟩ := hz.1.get ha
  have hq' := hq
  rw [mE_4 hk] at hq'
  refine va_put (D := tD t) (cl := mcl) (tys := mty t) (ws := va_pl (tdom t) (mE t G)) (A := tA t) (H0 := s.heap) (ci := 3) (C := RK3) (T := TK3) (N := 15) (v := .int x) (ty := .int) X.1 X.2.1 X.ws (fun w h => GW_in (inK3 w h) (inG3 w h)) yK3 yK3_ok nmK3 X.o X.k hz.1.1 hz.1.2.1 hz.2.1 q0 hq' rfl 8 (by decide) (X.w hw) (fun _ h => h) rfl (by decide +kernel) rfl rfl (Nat.le_of_ble_eq_true rfl) hd (fun H1 locs1 hP hD hS => ?_)
  exact k H1 locs1 ls hl ⟨hz.1.set ha hq (by rw [mE_4 hk]; simp [gi, gl, gr, si, u2]) (fun b hb => mE_si hb) hP hD (fun b j h => hz.1.2.2 b j h), hS, fun h => by rw [hpu] at h; cases h⟩
theorem qg_30 {a idx : Nat} {r : Option Nat} (X : kX p s m args meth c cc nL own t) (hd : decode cc pc = .ok (.getfield idx, 3)) (hw : Cond.fieldLink own idx "TreeServer$Change" "group" "LTreeServer$User;" ∈ GW) (hr : r = some a) (hk : tk t a = 4) (k : kV cs p l e R s m args below meth c Q nL t pu (pc + 3) lv (va_rf (gr G 30 a) :: rest) G) : kV cs p l e R s m args below meth c Q nL t pu pc lv (va_rf r :: rest) G := by
  subst hr
  intro H locs ls hl hz
  obtain ⟨q0, hq⟩ := hz.1.get (X.d hk (by decide))
  rw [mE_4 hk] at hq
  exact va_get (D := tD t) (cl := mcl) (tys := mty t) (ws := va_pl (tdom t) (mE t G)) (ci := 3) (C := RK3) (T := TK3) (N := 15) X.1 X.2.1 X.ws (fun w h => GW_in (inK3 w h) (inG3 w h)) X.o X.k hz.1.1 q0 hq rfl 9 (by decide) (X.w hw) (fun _ h => h) rfl hd (k H locs ls hl hz)
theorem qp_30 {a idx : Nat} {r : Option Nat} {x : Option Nat} (X : kX p s m args meth c cc nL own t) (hpu : pu = false) (hd : decode cc pc = .ok (.putfield idx, 3)) (hw : Cond.fieldLink own idx "TreeServer$Change" "group" "LTreeServer$User;" ∈ GW) (hr : r = some a) (hk : tk t a = 4) (k : kV cs p l e R s m args below meth c Q nL t pu (pc + 3) lv rest (sr G 30 a x)) : kV cs p l e R s m args below meth c Q nL t pu pc lv (va_rf x :: va_rf r :: rest) G := by
  subst hr
  intro H locs ls hl hz
  have ha := X.d hk (by decide)
  obtain ⟨q0, hq⟩ := hz.1.get ha
  have hq' := hq
  rw [mE_4 hk] at hq'
  refine va_put (D := tD t) (cl := mcl) (tys := mty t) (ws := va_pl (tdom t) (mE t G)) (A := tA t) (H0 := s.heap) (ci := 3) (C := RK3) (T := TK3) (N := 15) (v := va_rf x) (ty := .object "TreeServer$User") X.1 X.2.1 X.ws (fun w h => GW_in (inK3 w h) (inG3 w h)) yK3 yK3_ok nmK3 X.o X.k hz.1.1 hz.1.2.1 hz.2.1 q0 hq' rfl 9 (by decide) (X.w hw) (fun _ h => h) rfl (by decide +kernel) (by cases x <;> rfl) (by cases x <;> rfl) (Nat.le_of_ble_eq_true rfl) hd (fun H1 locs1 hP hD hS => ?_)
  exact k H1 locs1 ls hl ⟨hz.1.set ha hq (by rw [mE_4 hk]; simp [gi, gl, gr, sr, u2]) (fun b hb => mE_sr hb) hP hD (fun b j h => hz.1.2.2 b j h), hS, fun h => by rw [hpu] at h; cases h⟩
theorem qg_31 {a idx : Nat} {r : Option Nat} (X : kX p s m args meth c cc nL own t) (hd : decode cc pc = .ok (.getfield idx, 3)) (hw : Cond.fieldLink own idx "TreeServer$Change" "name" "[B" ∈ GW) (hr : r = some a) (hk : tk t a = 4) (k : kV cs p l e R s m args below meth c Q nL t pu (pc + 3) lv (va_rf (gr G 31 a) :: rest) G) : kV cs p l e R s m args below meth c Q nL t pu pc lv (va_rf r :: rest) G := by
  subst hr
  intro H locs ls hl hz
  obtain ⟨q0, hq⟩ := hz.1.get (X.d hk (by decide))
  rw [mE_4 hk] at hq
  exact va_get (D := tD t) (cl := mcl) (tys := mty t) (ws := va_pl (tdom t) (mE t G)) (ci := 3) (C := RK3) (T := TK3) (N := 15) X.1 X.2.1 X.ws (fun w h => GW_in (inK3 w h) (inG3 w h)) X.o X.k hz.1.1 q0 hq rfl 10 (by decide) (X.w hw) (fun _ h => h) rfl hd (k H locs ls hl hz)
theorem qg_32 {a idx : Nat} {r : Option Nat} (X : kX p s m args meth c cc nL own t) (hd : decode cc pc = .ok (.getfield idx, 3)) (hw : Cond.fieldLink own idx "TreeServer$Change" "nameLength" "I" ∈ GW) (hr : r = some a) (hk : tk t a = 4) (k : kV cs p l e R s m args below meth c Q nL t pu (pc + 3) lv (.int (gi G 32 a) :: rest) G) : kV cs p l e R s m args below meth c Q nL t pu pc lv (va_rf r :: rest) G := by
  subst hr
  intro H locs ls hl hz
  obtain ⟨q0, hq⟩ := hz.1.get (X.d hk (by decide))
  rw [mE_4 hk] at hq
  exact va_get (D := tD t) (cl := mcl) (tys := mty t) (ws := va_pl (tdom t) (mE t G)) (ci := 3) (C := RK3) (T := TK3) (N := 15) X.1 X.2.1 X.ws (fun w h => GW_in (inK3 w h) (inG3 w h)) X.o X.k hz.1.1 q0 hq rfl 11 (by decide) (X.w hw) (fun _ h => h) rfl hd (k H locs ls hl hz)
theorem qp_32 {a idx : Nat} {r : Option Nat} {x : Int32} (X : kX p s m args meth c cc nL own t) (hpu : pu = false) (hd : decode cc pc = .ok (.putfield idx, 3)) (hw : Cond.fieldLink own idx "TreeServer$Change" "nameLength" "I" ∈ GW) (hr : r = some a) (hk : tk t a = 4) (k : kV cs p l e R s m args below meth c Q nL t pu (pc + 3) lv rest (si G 32 a x)) : kV cs p l e R s m args below meth c Q nL t pu pc lv (.int x :: va_rf r :: rest) G := by
  subst hr
  intro H locs ls hl hz
  have ha := X.d hk (by decide)
  obtain ⟨q0, hq⟩ := hz.1.get ha
  have hq' := hq
  rw [mE_4 hk] at hq'
  refine va_put (D := tD t) (cl := mcl) (tys := mty t) (ws := va_pl (tdom t) (mE t G)) (A := tA t) (H0 := s.heap) (ci := 3) (C := RK3) (T := TK3) (N := 15) (v := .int x) (ty := .int) X.1 X.2.1 X.ws (fun w h => GW_in (inK3 w h) (inG3 w h)) yK3 yK3_ok nmK3 X.o X.k hz.1.1 hz.1.2.1 hz.2.1 q0 hq' rfl 11 (by decide) (X.w hw) (fun _ h => h) rfl (by decide +kernel) rfl rfl (Nat.le_of_ble_eq_true rfl) hd (fun H1 locs1 hP hD hS => ?_)
  exact k H1 locs1 ls hl ⟨hz.1.set ha hq (by rw [mE_4 hk]; simp [gi, gl, gr, si, u2]) (fun b hb => mE_si hb) hP hD (fun b j h => hz.1.2.2 b j h), hS, fun h => by rw [hpu] at h; cases h⟩
theorem qg_33 {a idx : Nat} {r : Option Nat} (X : kX p s m args meth c cc nL own t) (hd : decode cc pc = .ok (.getfield idx, 3)) (hw : Cond.fieldLink own idx "TreeServer$Change" "bytes" "[B" ∈ GW) (hr : r = some a) (hk : tk t a = 4) (k : kV cs p l e R s m args below meth c Q nL t pu (pc + 3) lv (va_rf (gr G 33 a) :: rest) G) : kV cs p l e R s m args below meth c Q nL t pu pc lv (va_rf r :: rest) G := by
  subst hr
  intro H locs ls hl hz
  obtain ⟨q0, hq⟩ := hz.1.get (X.d hk (by decide))
  rw [mE_4 hk] at hq
  exact va_get (D := tD t) (cl := mcl) (tys := mty t) (ws := va_pl (tdom t) (mE t G)) (ci := 3) (C := RK3) (T := TK3) (N := 15) X.1 X.2.1 X.ws (fun w h => GW_in (inK3 w h) (inG3 w h)) X.o X.k hz.1.1 q0 hq rfl 12 (by decide) (X.w hw) (fun _ h => h) rfl hd (k H locs ls hl hz)
theorem qg_34 {a idx : Nat} {r : Option Nat} (X : kX p s m args meth c cc nL own t) (hd : decode cc pc = .ok (.getfield idx, 3)) (hw : Cond.fieldLink own idx "TreeServer$Change" "from" "I" ∈ GW) (hr : r = some a) (hk : tk t a = 4) (k : kV cs p l e R s m args below meth c Q nL t pu (pc + 3) lv (.int (gi G 34 a) :: rest) G) : kV cs p l e R s m args below meth c Q nL t pu pc lv (va_rf r :: rest) G := by
  subst hr
  intro H locs ls hl hz
  obtain ⟨q0, hq⟩ := hz.1.get (X.d hk (by decide))
  rw [mE_4 hk] at hq
  exact va_get (D := tD t) (cl := mcl) (tys := mty t) (ws := va_pl (tdom t) (mE t G)) (ci := 3) (C := RK3) (T := TK3) (N := 15) X.1 X.2.1 X.ws (fun w h => GW_in (inK3 w h) (inG3 w h)) X.o X.k hz.1.1 q0 hq rfl 13 (by decide) (X.w hw) (fun _ h => h) rfl hd (k H locs ls hl hz)
theorem qp_34 {a idx : Nat} {r : Option Nat} {x : Int32} (X : kX p s m args meth c cc nL own t) (hpu : pu = false) (hd : decode cc pc = .ok (.putfield idx, 3)) (hw : Cond.fieldLink own idx "TreeServer$Change" "from" "I" ∈ GW) (hr : r = some a) (hk : tk t a = 4) (k : kV cs p l e R s m args below meth c Q nL t pu (pc + 3) lv rest (si G 34 a x)) : kV cs p l e R s m args below meth c Q nL t pu pc lv (.int x :: va_rf r :: rest) G := by
  subst hr
  intro H locs ls hl hz
  have ha := X.d hk (by decide)
  obtain ⟨q0, hq⟩ := hz.1.get ha
  have hq' := hq
  rw [mE_4 hk] at hq'
  refine va_put (D := tD t) (cl := mcl) (tys := mty t) (ws := va_pl (tdom t) (mE t G)) (A := tA t) (H0 := s.heap) (ci := 3) (C := RK3) (T := TK3) (N := 15) (v := .int x) (ty := .int) X.1 X.2.1 X.ws (fun w h => GW_in (inK3 w h) (inG3 w h)) yK3 yK3_ok nmK3 X.o X.k hz.1.1 hz.1.2.1 hz.2.1 q0 hq' rfl 13 (by decide) (X.w hw) (fun _ h => h) rfl (by decide +kernel) rfl rfl (Nat.le_of_ble_eq_true rfl) hd (fun H1 locs1 hP hD hS => ?_)
  exact k H1 locs1 ls hl ⟨hz.1.set ha hq (by rw [mE_4 hk]; simp [gi, gl, gr, si, u2]) (fun b hb => mE_si hb) hP hD (fun b j h => hz.1.2.2 b j h), hS, fun h => by rw [hpu] at h; cases h⟩
theorem qg_35 {a idx : Nat} {r : Option Nat} (X : kX p s m args meth c cc nL own t) (hd : decode cc pc = .ok (.getfield idx, 3)) (hw : Cond.fieldLink own idx "TreeServer$Change" "count" "I" ∈ GW) (hr : r = some a) (hk : tk t a = 4) (k : kV cs p l e R s m args below meth c Q nL t pu (pc + 3) lv (.int (gi G 35 a) :: rest) G) : kV cs p l e R s m args below meth c Q nL t pu pc lv (va_rf r :: rest) G := by
  subst hr
  intro H locs ls hl hz
  obtain ⟨q0, hq⟩ := hz.1.get (X.d hk (by decide))
  rw [mE_4 hk] at hq
  exact va_get (D := tD t) (cl := mcl) (tys := mty t) (ws := va_pl (tdom t) (mE t G)) (ci := 3) (C := RK3) (T := TK3) (N := 15) X.1 X.2.1 X.ws (fun w h => GW_in (inK3 w h) (inG3 w h)) X.o X.k hz.1.1 q0 hq rfl 14 (by decide) (X.w hw) (fun _ h => h) rfl hd (k H locs ls hl hz)
theorem qp_35 {a idx : Nat} {r : Option Nat} {x : Int32} (X : kX p s m args meth c cc nL own t) (hpu : pu = false) (hd : decode cc pc = .ok (.putfield idx, 3)) (hw : Cond.fieldLink own idx "TreeServer$Change" "count" "I" ∈ GW) (hr : r = some a) (hk : tk t a = 4) (k : kV cs p l e R s m args below meth c Q nL t pu (pc + 3) lv rest (si G 35 a x)) : kV cs p l e R s m args below meth c Q nL t pu pc lv (.int x :: va_rf r :: rest) G := by
  subst hr
  intro H locs ls hl hz
  have ha := X.d hk (by decide)
  obtain ⟨q0, hq⟩ := hz.1.get ha
  have hq' := hq
  rw [mE_4 hk] at hq'
  refine va_put (D := tD t) (cl := mcl) (tys := mty t) (ws := va_pl (tdom t) (mE t G)) (A := tA t) (H0 := s.heap) (ci := 3) (C := RK3) (T := TK3) (N := 15) (v := .int x) (ty := .int) X.1 X.2.1 X.ws (fun w h => GW_in (inK3 w h) (inG3 w h)) yK3 yK3_ok nmK3 X.o X.k hz.1.1 hz.1.2.1 hz.2.1 q0 hq' rfl 14 (by decide) (X.w hw) (fun _ h => h) rfl (by decide +kernel) rfl rfl (Nat.le_of_ble_eq_true rfl) hd (fun H1 locs1 hP hD hS => ?_)
  exact k H1 locs1 ls hl ⟨hz.1.set ha hq (by rw [mE_4 hk]; simp [gi, gl, gr, si, u2]) (fun b hb => mE_si hb) hP hD (fun b j h => hz.1.2.2 b j h), hS, fun h => by rw [hpu] at h; cases h⟩
theorem qg_36 {a idx : Nat} {r : Option Nat} (X : kX p s m args meth c cc nL own t) (hd : decode cc pc = .ok (.getfield idx, 3)) (hw : Cond.fieldLink own idx "TreeServer$Message" "bytes" "[B" ∈ GW) (hr : r = some a) (hk : tk t a = 5) (k : kV cs p l e R s m args below meth c Q nL t pu (pc + 3) lv (va_rf (gr G 36 a) :: rest) G) : kV cs p l e R s m args below meth c Q nL t pu pc lv (va_rf r :: rest) G := by
  subst hr
  intro H locs ls hl hz
  obtain ⟨q0, hq⟩ := hz.1.get (X.d hk (by decide))
  rw [mE_5 hk] at hq
  exact va_get (D := tD t) (cl := mcl) (tys := mty t) (ws := va_pl (tdom t) (mE t G)) (ci := 4) (C := RK4) (T := TK4) (N := 8) X.1 X.2.1 X.ws (fun w h => GW_in (inK4 w h) (inG4 w h)) X.o X.k hz.1.1 q0 hq rfl 0 (by decide) (X.w hw) (fun _ h => h) rfl hd (k H locs ls hl hz)
theorem qg_37 {a idx : Nat} {r : Option Nat} (X : kX p s m args meth c cc nL own t) (hd : decode cc pc = .ok (.getfield idx, 3)) (hw : Cond.fieldLink own idx "TreeServer$Message" "size" "I" ∈ GW) (hr : r = some a) (hk : tk t a = 5) (k : kV cs p l e R s m args below meth c Q nL t pu (pc + 3) lv (.int (gi G 37 a) :: rest) G) : kV cs p l e R s m args below meth c Q nL t pu pc lv (va_rf r :: rest) G := by
  subst hr
  intro H locs ls hl hz
  obtain ⟨q0, hq⟩ := hz.1.get (X.d hk (by decide))
  rw [mE_5 hk] at hq
  exact va_get (D := tD t) (cl := mcl) (tys := mty t) (ws := va_pl (tdom t) (mE t G)) (ci := 4) (C := RK4) (T := TK4) (N := 8) X.1 X.2.1 X.ws (fun w h => GW_in (inK4 w h) (inG4 w h)) X.o X.k hz.1.1 q0 hq rfl 1 (by decide) (X.w hw) (fun _ h => h) rfl hd (k H locs ls hl hz)
theorem qp_37 {a idx : Nat} {r : Option Nat} {x : Int32} (X : kX p s m args meth c cc nL own t) (hpu : pu = false) (hd : decode cc pc = .ok (.putfield idx, 3)) (hw : Cond.fieldLink own idx "TreeServer$Message" "size" "I" ∈ GW) (hr : r = some a) (hk : tk t a = 5) (k : kV cs p l e R s m args below meth c Q nL t pu (pc + 3) lv rest (si G 37 a x)) : kV cs p l e R s m args below meth c Q nL t pu pc lv (.int x :: va_rf r :: rest) G := by
  subst hr
  intro H locs ls hl hz
  have ha := X.d hk (by decide)
  obtain ⟨q0, hq⟩ := hz.1.get ha
  have hq' := hq
  rw [mE_5 hk] at hq'
  refine va_put (D := tD t) (cl := mcl) (tys := mty t) (ws := va_pl (tdom t) (mE t G)) (A := tA t) (H0 := s.heap) (ci := 4) (C := RK4) (T := TK4) (N := 8) (v := .int x) (ty := .int) X.1 X.2.1 X.ws (fun w h => GW_in (inK4 w h) (inG4 w h)) yK4 yK4_ok nmK4 X.o X.k hz.1.1 hz.1.2.1 hz.2.1 q0 hq' rfl 1 (by decide) (X.w hw) (fun _ h => h) rfl (by decide +kernel) rfl rfl (Nat.le_of_ble_eq_true rfl) hd (fun H1 locs1 hP hD hS => ?_)
  exact k H1 locs1 ls hl ⟨hz.1.set ha hq (by rw [mE_5 hk]; simp [gi, gl, gr, si, u2]) (fun b hb => mE_si hb) hP hD (fun b j h => hz.1.2.2 b j h), hS, fun h => by rw [hpu] at h; cases h⟩
theorem qg_38 {a idx : Nat} {r : Option Nat} (X : kX p s m args meth c cc nL own t) (hd : decode cc pc = .ok (.getfield idx, 3)) (hw : Cond.fieldLink own idx "TreeServer$Message" "type" "I" ∈ GW) (hr : r = some a) (hk : tk t a = 5) (k : kV cs p l e R s m args below meth c Q nL t pu (pc + 3) lv (.int (gi G 38 a) :: rest) G) : kV cs p l e R s m args below meth c Q nL t pu pc lv (va_rf r :: rest) G := by
  subst hr
  intro H locs ls hl hz
  obtain ⟨q0, hq⟩ := hz.1.get (X.d hk (by decide))
  rw [mE_5 hk] at hq
  exact va_get (D := tD t) (cl := mcl) (tys := mty t) (ws := va_pl (tdom t) (mE t G)) (ci := 4) (C := RK4) (T := TK4) (N := 8) X.1 X.2.1 X.ws (fun w h => GW_in (inK4 w h) (inG4 w h)) X.o X.k hz.1.1 q0 hq rfl 2 (by decide) (X.w hw) (fun _ h => h) rfl hd (k H locs ls hl hz)
theorem qp_38 {a idx : Nat} {r : Option Nat} {x : Int32} (X : kX p s m args meth c cc nL own t) (hpu : pu = false) (hd : decode cc pc = .ok (.putfield idx, 3)) (hw : Cond.fieldLink own idx "TreeServer$Message" "type" "I" ∈ GW) (hr : r = some a) (hk : tk t a = 5) (k : kV cs p l e R s m args below meth c Q nL t pu (pc + 3) lv rest (si G 38 a x)) : kV cs p l e R s m args below meth c Q nL t pu pc lv (.int x :: va_rf r :: rest) G := by
  subst hr
  intro H locs ls hl hz
  have ha := X.d hk (by decide)
  obtain ⟨q0, hq⟩ := hz.1.get ha
  have hq' := hq
  rw [mE_5 hk] at hq'
  refine va_put (D := tD t) (cl := mcl) (tys := mty t) (ws := va_pl (tdom t) (mE t G)) (A := tA t) (H0 := s.heap) (ci := 4) (C := RK4) (T := TK4) (N := 8) (v := .int x) (ty := .int) X.1 X.2.1 X.ws (fun w h => GW_in (inK4 w h) (inG4 w h)) yK4 yK4_ok nmK4 X.o X.k hz.1.1 hz.1.2.1 hz.2.1 q0 hq' rfl 2 (by decide) (X.w hw) (fun _ h => h) rfl (by decide +kernel) rfl rfl (Nat.le_of_ble_eq_true rfl) hd (fun H1 locs1 hP hD hS => ?_)
  exact k H1 locs1 ls hl ⟨hz.1.set ha hq (by rw [mE_5 hk]; simp [gi, gl, gr, si, u2]) (fun b hb => mE_si hb) hP hD (fun b j h => hz.1.2.2 b j h), hS, fun h => by rw [hpu] at h; cases h⟩
theorem qg_39 {a idx : Nat} {r : Option Nat} (X : kX p s m args meth c cc nL own t) (hd : decode cc pc = .ok (.getfield idx, 3)) (hw : Cond.fieldLink own idx "TreeServer$Message" "tag" "I" ∈ GW) (hr : r = some a) (hk : tk t a = 5) (k : kV cs p l e R s m args below meth c Q nL t pu (pc + 3) lv (.int (gi G 39 a) :: rest) G) : kV cs p l e R s m args below meth c Q nL t pu pc lv (va_rf r :: rest) G := by
  subst hr
  intro H locs ls hl hz
  obtain ⟨q0, hq⟩ := hz.1.get (X.d hk (by decide))
  rw [mE_5 hk] at hq
  exact va_get (D := tD t) (cl := mcl) (tys := mty t) (ws := va_pl (tdom t) (mE t G)) (ci := 4) (C := RK4) (T := TK4) (N := 8) X.1 X.2.1 X.ws (fun w h => GW_in (inK4 w h) (inG4 w h)) X.o X.k hz.1.1 q0 hq rfl 3 (by decide) (X.w hw) (fun _ h => h) rfl hd (k H locs ls hl hz)
theorem qp_39 {a idx : Nat} {r : Option Nat} {x : Int32} (X : kX p s m args meth c cc nL own t) (hpu : pu = false) (hd : decode cc pc = .ok (.putfield idx, 3)) (hw : Cond.fieldLink own idx "TreeServer$Message" "tag" "I" ∈ GW) (hr : r = some a) (hk : tk t a = 5) (k : kV cs p l e R s m args below meth c Q nL t pu (pc + 3) lv rest (si G 39 a x)) : kV cs p l e R s m args below meth c Q nL t pu pc lv (.int x :: va_rf r :: rest) G := by
  subst hr
  intro H locs ls hl hz
  have ha := X.d hk (by decide)
  obtain ⟨q0, hq⟩ := hz.1.get ha
  have hq' := hq
  rw [mE_5 hk] at hq'
  refine va_put (D := tD t) (cl := mcl) (tys := mty t) (ws := va_pl (tdom t) (mE t G)) (A := tA t) (H0 := s.heap) (ci := 4) (C := RK4) (T := TK4) (N := 8) (v := .int x) (ty := .int) X.1 X.2.1 X.ws (fun w h => GW_in (inK4 w h) (inG4 w h)) yK4 yK4_ok nmK4 X.o X.k hz.1.1 hz.1.2.1 hz.2.1 q0 hq' rfl 3 (by decide) (X.w hw) (fun _ h => h) rfl (by decide +kernel) rfl rfl (Nat.le_of_ble_eq_true rfl) hd (fun H1 locs1 hP hD hS => ?_)
  exact k H1 locs1 ls hl ⟨hz.1.set ha hq (by rw [mE_5 hk]; simp [gi, gl, gr, si, u2]) (fun b hb => mE_si hb) hP hD (fun b j h => hz.1.2.2 b j h), hS, fun h => by rw [hpu] at h; cases h⟩
theorem qg_40 {a idx : Nat} {r : Option Nat} (X : kX p s m args meth c cc nL own t) (hd : decode cc pc = .ok (.getfield idx, 3)) (hw : Cond.fieldLink own idx "TreeServer$Message" "textAt" "[I" ∈ GW) (hr : r = some a) (hk : tk t a = 5) (k : kV cs p l e R s m args below meth c Q nL t pu (pc + 3) lv (va_rf (gr G 40 a) :: rest) G) : kV cs p l e R s m args below meth c Q nL t pu pc lv (va_rf r :: rest) G := by
  subst hr
  intro H locs ls hl hz
  obtain ⟨q0, hq⟩ := hz.1.get (X.d hk (by decide))
  rw [mE_5 hk] at hq
  exact va_get (D := tD t) (cl := mcl) (tys := mty t) (ws := va_pl (tdom t) (mE t G)) (ci := 4) (C := RK4) (T := TK4) (N := 8) X.1 X.2.1 X.ws (fun w h => GW_in (inK4 w h) (inG4 w h)) X.o X.k hz.1.1 q0 hq rfl 4 (by decide) (X.w hw) (fun _ h => h) rfl hd (k H locs ls hl hz)
theorem qg_41 {a idx : Nat} {r : Option Nat} (X : kX p s m args meth c cc nL own t) (hd : decode cc pc = .ok (.getfield idx, 3)) (hw : Cond.fieldLink own idx "TreeServer$Message" "textLength" "[I" ∈ GW) (hr : r = some a) (hk : tk t a = 5) (k : kV cs p l e R s m args below meth c Q nL t pu (pc + 3) lv (va_rf (gr G 41 a) :: rest) G) : kV cs p l e R s m args below meth c Q nL t pu pc lv (va_rf r :: rest) G := by
  subst hr
  intro H locs ls hl hz
  obtain ⟨q0, hq⟩ := hz.1.get (X.d hk (by decide))
  rw [mE_5 hk] at hq
  exact va_get (D := tD t) (cl := mcl) (tys := mty t) (ws := va_pl (tdom t) (mE t G)) (ci := 4) (C := RK4) (T := TK4) (N := 8) X.1 X.2.1 X.ws (fun w h => GW_in (inK4 w h) (inG4 w h)) X.o X.k hz.1.1 q0 hq rfl 5 (by decide) (X.w hw) (fun _ h => h) rfl hd (k H locs ls hl hz)
theorem qg_42 {a idx : Nat} {r : Option Nat} (X : kX p s m args meth c cc nL own t) (hd : decode cc pc = .ok (.getfield idx, 3)) (hw : Cond.fieldLink own idx "TreeServer$Message" "texts" "I" ∈ GW) (hr : r = some a) (hk : tk t a = 5) (k : kV cs p l e R s m args below meth c Q nL t pu (pc + 3) lv (.int (gi G 42 a) :: rest) G) : kV cs p l e R s m args below meth c Q nL t pu pc lv (va_rf r :: rest) G := by
  subst hr
  intro H locs ls hl hz
  obtain ⟨q0, hq⟩ := hz.1.get (X.d hk (by decide))
  rw [mE_5 hk] at hq
  exact va_get (D := tD t) (cl := mcl) (tys := mty t) (ws := va_pl (tdom t) (mE t G)) (ci := 4) (C := RK4) (T := TK4) (N := 8) X.1 X.2.1 X.ws (fun w h => GW_in (inK4 w h) (inG4 w h)) X.o X.k hz.1.1 q0 hq rfl 6 (by decide) (X.w hw) (fun _ h => h) rfl hd (k H locs ls hl hz)
theorem qp_42 {a idx : Nat} {r : Option Nat} {x : Int32} (X : kX p s m args meth c cc nL own t) (hpu : pu = false) (hd : decode cc pc = .ok (.putfield idx, 3)) (hw : Cond.fieldLink own idx "TreeServer$Message" "texts" "I" ∈ GW) (hr : r = some a) (hk : tk t a = 5) (k : kV cs p l e R s m args below meth c Q nL t pu (pc + 3) lv rest (si G 42 a x)) : kV cs p l e R s m args below meth c Q nL t pu pc lv (.int x :: va_rf r :: rest) G := by
  subst hr
  intro H locs ls hl hz
  have ha := X.d hk (by decide)
  obtain ⟨q0, hq⟩ := hz.1.get ha
  have hq' := hq
  rw [mE_5 hk] at hq'
  refine va_put (D := tD t) (cl := mcl) (tys := mty t) (ws := va_pl (tdom t) (mE t G)) (A := tA t) (H0 := s.heap) (ci := 4) (C := RK4) (T := TK4) (N := 8) (v := .int x) (ty := .int) X.1 X.2.1 X.ws (fun w h => GW_in (inK4 w h) (inG4 w h)) yK4 yK4_ok nmK4 X.o X.k hz.1.1 hz.1.2.1 hz.2.1 q0 hq' rfl 6 (by decide) (X.w hw) (fun _ h => h) rfl (by decide +kernel) rfl rfl (Nat.le_of_ble_eq_true rfl) hd (fun H1 locs1 hP hD hS => ?_)
  exact k H1 locs1 ls hl ⟨hz.1.set ha hq (by rw [mE_5 hk]; simp [gi, gl, gr, si, u2]) (fun b hb => mE_si hb) hP hD (fun b j h => hz.1.2.2 b j h), hS, fun h => by rw [hpu] at h; cases h⟩
theorem qg_43 {a idx : Nat} {r : Option Nat} (X : kX p s m args meth c cc nL own t) (hd : decode cc pc = .ok (.getfield idx, 3)) (hw : Cond.fieldLink own idx "TreeServer$Message" "textsEnd" "I" ∈ GW) (hr : r = some a) (hk : tk t a = 5) (k : kV cs p l e R s m args below meth c Q nL t pu (pc + 3) lv (.int (gi G 43 a) :: rest) G) : kV cs p l e R s m args below meth c Q nL t pu pc lv (va_rf r :: rest) G := by
  subst hr
  intro H locs ls hl hz
  obtain ⟨q0, hq⟩ := hz.1.get (X.d hk (by decide))
  rw [mE_5 hk] at hq
  exact va_get (D := tD t) (cl := mcl) (tys := mty t) (ws := va_pl (tdom t) (mE t G)) (ci := 4) (C := RK4) (T := TK4) (N := 8) X.1 X.2.1 X.ws (fun w h => GW_in (inK4 w h) (inG4 w h)) X.o X.k hz.1.1 q0 hq rfl 7 (by decide) (X.w hw) (fun _ h => h) rfl hd (k H locs ls hl hz)
theorem qp_43 {a idx : Nat} {r : Option Nat} {x : Int32} (X : kX p s m args meth c cc nL own t) (hpu : pu = false) (hd : decode cc pc = .ok (.putfield idx, 3)) (hw : Cond.fieldLink own idx "TreeServer$Message" "textsEnd" "I" ∈ GW) (hr : r = some a) (hk : tk t a = 5) (k : kV cs p l e R s m args below meth c Q nL t pu (pc + 3) lv rest (si G 43 a x)) : kV cs p l e R s m args below meth c Q nL t pu pc lv (.int x :: va_rf r :: rest) G := by
  subst hr
  intro H locs ls hl hz
  have ha := X.d hk (by decide)
  obtain ⟨q0, hq⟩ := hz.1.get ha
  have hq' := hq
  rw [mE_5 hk] at hq'
  refine va_put (D := tD t) (cl := mcl) (tys := mty t) (ws := va_pl (tdom t) (mE t G)) (A := tA t) (H0 := s.heap) (ci := 4) (C := RK4) (T := TK4) (N := 8) (v := .int x) (ty := .int) X.1 X.2.1 X.ws (fun w h => GW_in (inK4 w h) (inG4 w h)) yK4 yK4_ok nmK4 X.o X.k hz.1.1 hz.1.2.1 hz.2.1 q0 hq' rfl 7 (by decide) (X.w hw) (fun _ h => h) rfl (by decide +kernel) rfl rfl (Nat.le_of_ble_eq_true rfl) hd (fun H1 locs1 hP hD hS => ?_)
  exact k H1 locs1 ls hl ⟨hz.1.set ha hq (by rw [mE_5 hk]; simp [gi, gl, gr, si, u2]) (fun b hb => mE_si hb) hP hD (fun b j h => hz.1.2.2 b j h), hS, fun h => by rw [hpu] at h; cases h⟩
theorem qg_44 {a idx : Nat} {r : Option Nat} (X : kX p s m args meth c cc nL own t) (hd : decode cc pc = .ok (.getfield idx, 3)) (hw : Cond.fieldLink own idx "TreeServer$Answer" "bytes" "[B" ∈ GW) (hr : r = some a) (hk : tk t a = 6) (k : kV cs p l e R s m args below meth c Q nL t pu (pc + 3) lv (va_rf (gr G 44 a) :: rest) G) : kV cs p l e R s m args below meth c Q nL t pu pc lv (va_rf r :: rest) G := by
  subst hr
  intro H locs ls hl hz
  obtain ⟨q0, hq⟩ := hz.1.get (X.d hk (by decide))
  rw [mE_6 hk] at hq
  exact va_get (D := tD t) (cl := mcl) (tys := mty t) (ws := va_pl (tdom t) (mE t G)) (ci := 5) (C := RK5) (T := TK5) (N := 2) X.1 X.2.1 X.ws (fun w h => GW_in (inK5 w h) (inG5 w h)) X.o X.k hz.1.1 q0 hq rfl 0 (by decide) (X.w hw) (fun _ h => h) rfl hd (k H locs ls hl hz)
theorem qg_45 {a idx : Nat} {r : Option Nat} (X : kX p s m args meth c cc nL own t) (hd : decode cc pc = .ok (.getfield idx, 3)) (hw : Cond.fieldLink own idx "TreeServer$Answer" "length" "I" ∈ GW) (hr : r = some a) (hk : tk t a = 6) (k : kV cs p l e R s m args below meth c Q nL t pu (pc + 3) lv (.int (gi G 45 a) :: rest) G) : kV cs p l e R s m args below meth c Q nL t pu pc lv (va_rf r :: rest) G := by
  subst hr
  intro H locs ls hl hz
  obtain ⟨q0, hq⟩ := hz.1.get (X.d hk (by decide))
  rw [mE_6 hk] at hq
  exact va_get (D := tD t) (cl := mcl) (tys := mty t) (ws := va_pl (tdom t) (mE t G)) (ci := 5) (C := RK5) (T := TK5) (N := 2) X.1 X.2.1 X.ws (fun w h => GW_in (inK5 w h) (inG5 w h)) X.o X.k hz.1.1 q0 hq rfl 1 (by decide) (X.w hw) (fun _ h => h) rfl hd (k H locs ls hl hz)
theorem qp_45 {a idx : Nat} {r : Option Nat} {x : Int32} (X : kX p s m args meth c cc nL own t) (hpu : pu = false) (hd : decode cc pc = .ok (.putfield idx, 3)) (hw : Cond.fieldLink own idx "TreeServer$Answer" "length" "I" ∈ GW) (hr : r = some a) (hk : tk t a = 6) (k : kV cs p l e R s m args below meth c Q nL t pu (pc + 3) lv rest (si G 45 a x)) : kV cs p l e R s m args below meth c Q nL t pu pc lv (.int x :: va_rf r :: rest) G := by
  subst hr
  intro H locs ls hl hz
  have ha := X.d hk (by decide)
  obtain ⟨q0, hq⟩ := hz.1.get ha
  have hq' := hq
  rw [mE_6 hk] at hq'
  refine va_put (D := tD t) (cl := mcl) (tys := mty t) (ws := va_pl (tdom t) (mE t G)) (A := tA t) (H0 := s.heap) (ci := 5) (C := RK5) (T := TK5) (N := 2) (v := .int x) (ty := .int) X.1 X.2.1 X.ws (fun w h => GW_in (inK5 w h) (inG5 w h)) yK5 yK5_ok nmK5 X.o X.k hz.1.1 hz.1.2.1 hz.2.1 q0 hq' rfl 1 (by decide) (X.w hw) (fun _ h => h) rfl (by decide +kernel) rfl rfl (Nat.le_of_ble_eq_true rfl) hd (fun H1 locs1 hP hD hS => ?_)
  exact k H1 locs1 ls hl ⟨hz.1.set ha hq (by rw [mE_6 hk]; simp [gi, gl, gr, si, u2]) (fun b hb => mE_si hb) hP hD (fun b j h => hz.1.2.2 b j h), hS, fun h => by rw [hpu] at h; cases h⟩
theorem qg_46 {a idx : Nat} {r : Option Nat} (X : kX p s m args meth c cc nL own t) (hd : decode cc pc = .ok (.getfield idx, 3)) (hw : Cond.fieldLink own idx "TreeServer$Fid" "used" "Z" ∈ GW) (hr : r = some a) (hk : tk t a = 7) (k : kV cs p l e R s m args below meth c Q nL t pu (pc + 3) lv (.int (gi G 46 a) :: rest) G) : kV cs p l e R s m args below meth c Q nL t pu pc lv (va_rf r :: rest) G := by
  subst hr
  intro H locs ls hl hz
  obtain ⟨q0, hq⟩ := hz.1.get (X.d hk (by decide))
  rw [mE_7 hk] at hq
  exact va_get (D := tD t) (cl := mcl) (tys := mty t) (ws := va_pl (tdom t) (mE t G)) (ci := 6) (C := RK6) (T := TK6) (N := 9) X.1 X.2.1 X.ws (fun w h => GW_in (inK6 w h) (inG6 w h)) X.o X.k hz.1.1 q0 hq rfl 0 (by decide) (X.w hw) (fun _ h => h) rfl hd (k H locs ls hl hz)
theorem qp_46 {a idx : Nat} {r : Option Nat} {x : Int32} (X : kX p s m args meth c cc nL own t) (hpu : pu = false) (hd : decode cc pc = .ok (.putfield idx, 3)) (hw : Cond.fieldLink own idx "TreeServer$Fid" "used" "Z" ∈ GW) (hr : r = some a) (hk : tk t a = 7) (hB : isB x) (k : kV cs p l e R s m args below meth c Q nL t pu (pc + 3) lv rest (si G 46 a x)) : kV cs p l e R s m args below meth c Q nL t pu pc lv (.int x :: va_rf r :: rest) G := by
  subst hr
  intro H locs ls hl hz
  have ha := X.d hk (by decide)
  obtain ⟨q0, hq⟩ := hz.1.get ha
  have hq' := hq
  rw [mE_7 hk] at hq'
  refine va_put (D := tD t) (cl := mcl) (tys := mty t) (ws := va_pl (tdom t) (mE t G)) (A := tA t) (H0 := s.heap) (ci := 6) (C := RK6) (T := TK6) (N := 9) (v := .int x) (ty := .boolean) X.1 X.2.1 X.ws (fun w h => GW_in (inK6 w h) (inG6 w h)) yK6 yK6_ok nmK6 X.o X.k hz.1.1 hz.1.2.1 hz.2.1 q0 hq' rfl 0 (by decide) (X.w hw) (fun _ h => h) rfl (by decide +kernel) (by rcases hB with rfl | rfl <;> rfl) (by rcases hB with rfl | rfl <;> rfl) (Nat.le_of_ble_eq_true rfl) hd (fun H1 locs1 hP hD hS => ?_)
  exact k H1 locs1 ls hl ⟨hz.1.set ha hq (by rw [mE_7 hk]; simp [gi, gl, gr, si, u2]) (fun b hb => mE_si hb) hP hD (fun b j h => hz.1.2.2 b j h), hS, fun h => by rw [hpu] at h; cases h⟩
theorem qg_47 {a idx : Nat} {r : Option Nat} (X : kX p s m args meth c cc nL own t) (hd : decode cc pc = .ok (.getfield idx, 3)) (hw : Cond.fieldLink own idx "TreeServer$Fid" "number" "J" ∈ GW) (hr : r = some a) (hk : tk t a = 7) (k : kV cs p l e R s m args below meth c Q nL t pu (pc + 3) lv (.long (gl G 47 a) :: rest) G) : kV cs p l e R s m args below meth c Q nL t pu pc lv (va_rf r :: rest) G := by
  subst hr
  intro H locs ls hl hz
  obtain ⟨q0, hq⟩ := hz.1.get (X.d hk (by decide))
  rw [mE_7 hk] at hq
  exact va_get (D := tD t) (cl := mcl) (tys := mty t) (ws := va_pl (tdom t) (mE t G)) (ci := 6) (C := RK6) (T := TK6) (N := 9) X.1 X.2.1 X.ws (fun w h => GW_in (inK6 w h) (inG6 w h)) X.o X.k hz.1.1 q0 hq rfl 1 (by decide) (X.w hw) (fun _ h => h) rfl hd (k H locs ls hl hz)
theorem qp_47 {a idx : Nat} {r : Option Nat} {x : Int64} (X : kX p s m args meth c cc nL own t) (hpu : pu = false) (hd : decode cc pc = .ok (.putfield idx, 3)) (hw : Cond.fieldLink own idx "TreeServer$Fid" "number" "J" ∈ GW) (hr : r = some a) (hk : tk t a = 7) (k : kV cs p l e R s m args below meth c Q nL t pu (pc + 3) lv rest (sl G 47 a x)) : kV cs p l e R s m args below meth c Q nL t pu pc lv (.long x :: va_rf r :: rest) G := by
  subst hr
  intro H locs ls hl hz
  have ha := X.d hk (by decide)
  obtain ⟨q0, hq⟩ := hz.1.get ha
  have hq' := hq
  rw [mE_7 hk] at hq'
  refine va_put (D := tD t) (cl := mcl) (tys := mty t) (ws := va_pl (tdom t) (mE t G)) (A := tA t) (H0 := s.heap) (ci := 6) (C := RK6) (T := TK6) (N := 9) (v := .long x) (ty := .long) X.1 X.2.1 X.ws (fun w h => GW_in (inK6 w h) (inG6 w h)) yK6 yK6_ok nmK6 X.o X.k hz.1.1 hz.1.2.1 hz.2.1 q0 hq' rfl 1 (by decide) (X.w hw) (fun _ h => h) rfl (by decide +kernel) rfl rfl (Nat.le_of_ble_eq_true rfl) hd (fun H1 locs1 hP hD hS => ?_)
  exact k H1 locs1 ls hl ⟨hz.1.set ha hq (by rw [mE_7 hk]; simp [gi, gl, gr, sl, u2]) (fun b hb => mE_sl hb) hP hD (fun b j h => hz.1.2.2 b j h), hS, fun h => by rw [hpu] at h; cases h⟩
theorem qg_48 {a idx : Nat} {r : Option Nat} (X : kX p s m args meth c cc nL own t) (hd : decode cc pc = .ok (.getfield idx, 3)) (hw : Cond.fieldLink own idx "TreeServer$Fid" "node" "LTreeServer$Node;" ∈ GW) (hr : r = some a) (hk : tk t a = 7) (k : kV cs p l e R s m args below meth c Q nL t pu (pc + 3) lv (va_rf (gr G 48 a) :: rest) G) : kV cs p l e R s m args below meth c Q nL t pu pc lv (va_rf r :: rest) G := by
  subst hr
  intro H locs ls hl hz
  obtain ⟨q0, hq⟩ := hz.1.get (X.d hk (by decide))
  rw [mE_7 hk] at hq
  exact va_get (D := tD t) (cl := mcl) (tys := mty t) (ws := va_pl (tdom t) (mE t G)) (ci := 6) (C := RK6) (T := TK6) (N := 9) X.1 X.2.1 X.ws (fun w h => GW_in (inK6 w h) (inG6 w h)) X.o X.k hz.1.1 q0 hq rfl 2 (by decide) (X.w hw) (fun _ h => h) rfl hd (k H locs ls hl hz)
theorem qp_48 {a idx : Nat} {r : Option Nat} {x : Option Nat} (X : kX p s m args meth c cc nL own t) (hpu : pu = false) (hd : decode cc pc = .ok (.putfield idx, 3)) (hw : Cond.fieldLink own idx "TreeServer$Fid" "node" "LTreeServer$Node;" ∈ GW) (hr : r = some a) (hk : tk t a = 7) (k : kV cs p l e R s m args below meth c Q nL t pu (pc + 3) lv rest (sr G 48 a x)) : kV cs p l e R s m args below meth c Q nL t pu pc lv (va_rf x :: va_rf r :: rest) G := by
  subst hr
  intro H locs ls hl hz
  have ha := X.d hk (by decide)
  obtain ⟨q0, hq⟩ := hz.1.get ha
  have hq' := hq
  rw [mE_7 hk] at hq'
  refine va_put (D := tD t) (cl := mcl) (tys := mty t) (ws := va_pl (tdom t) (mE t G)) (A := tA t) (H0 := s.heap) (ci := 6) (C := RK6) (T := TK6) (N := 9) (v := va_rf x) (ty := .object "TreeServer$Node") X.1 X.2.1 X.ws (fun w h => GW_in (inK6 w h) (inG6 w h)) yK6 yK6_ok nmK6 X.o X.k hz.1.1 hz.1.2.1 hz.2.1 q0 hq' rfl 2 (by decide) (X.w hw) (fun _ h => h) rfl (by decide +kernel) (by cases x <;> rfl) (by cases x <;> rfl) (Nat.le_of_ble_eq_true rfl) hd (fun H1 locs1 hP hD hS => ?_)
  exact k H1 locs1 ls hl ⟨hz.1.set ha hq (by rw [mE_7 hk]; simp [gi, gl, gr, sr, u2]) (fun b hb => mE_sr hb) hP hD (fun b j h => hz.1.2.2 b j h), hS, fun h => by rw [hpu] at h; cases h⟩
theorem qg_49 {a idx : Nat} {r : Option Nat} (X : kX p s m args meth c cc nL own t) (hd : decode cc pc = .ok (.getfield idx, 3)) (hw : Cond.fieldLink own idx "TreeServer$Fid" "path" "I" ∈ GW) (hr : r = some a) (hk : tk t a = 7) (k : kV cs p l e R s m args below meth c Q nL t pu (pc + 3) lv (.int (gi G 49 a) :: rest) G) : kV cs p l e R s m args below meth c Q nL t pu pc lv (va_rf r :: rest) G := by
  subst hr
  intro H locs ls hl hz
  obtain ⟨q0, hq⟩ := hz.1.get (X.d hk (by decide))
  rw [mE_7 hk] at hq
  exact va_get (D := tD t) (cl := mcl) (tys := mty t) (ws := va_pl (tdom t) (mE t G)) (ci := 6) (C := RK6) (T := TK6) (N := 9) X.1 X.2.1 X.ws (fun w h => GW_in (inK6 w h) (inG6 w h)) X.o X.k hz.1.1 q0 hq rfl 3 (by decide) (X.w hw) (fun _ h => h) rfl hd (k H locs ls hl hz)
theorem qp_49 {a idx : Nat} {r : Option Nat} {x : Int32} (X : kX p s m args meth c cc nL own t) (hpu : pu = false) (hd : decode cc pc = .ok (.putfield idx, 3)) (hw : Cond.fieldLink own idx "TreeServer$Fid" "path" "I" ∈ GW) (hr : r = some a) (hk : tk t a = 7) (k : kV cs p l e R s m args below meth c Q nL t pu (pc + 3) lv rest (si G 49 a x)) : kV cs p l e R s m args below meth c Q nL t pu pc lv (.int x :: va_rf r :: rest) G := by
  subst hr
  intro H locs ls hl hz
  have ha := X.d hk (by decide)
  obtain ⟨q0, hq⟩ := hz.1.get ha
  have hq' := hq
  rw [mE_7 hk] at hq'
  refine va_put (D := tD t) (cl := mcl) (tys := mty t) (ws := va_pl (tdom t) (mE t G)) (A := tA t) (H0 := s.heap) (ci := 6) (C := RK6) (T := TK6) (N := 9) (v := .int x) (ty := .int) X.1 X.2.1 X.ws (fun w h => GW_in (inK6 w h) (inG6 w h)) yK6 yK6_ok nmK6 X.o X.k hz.1.1 hz.1.2.1 hz.2.1 q0 hq' rfl 3 (by decide) (X.w hw) (fun _ h => h) rfl (by decide +kernel) rfl rfl (Nat.le_of_ble_eq_true rfl) hd (fun H1 locs1 hP hD hS => ?_)
  exact k H1 locs1 ls hl ⟨hz.1.set ha hq (by rw [mE_7 hk]; simp [gi, gl, gr, si, u2]) (fun b hb => mE_si hb) hP hD (fun b j h => hz.1.2.2 b j h), hS, fun h => by rw [hpu] at h; cases h⟩
theorem qg_50 {a idx : Nat} {r : Option Nat} (X : kX p s m args meth c cc nL own t) (hd : decode cc pc = .ok (.getfield idx, 3)) (hw : Cond.fieldLink own idx "TreeServer$Fid" "user" "LTreeServer$User;" ∈ GW) (hr : r = some a) (hk : tk t a = 7) (k : kV cs p l e R s m args below meth c Q nL t pu (pc + 3) lv (va_rf (gr G 50 a) :: rest) G) : kV cs p l e R s m args below meth c Q nL t pu pc lv (va_rf r :: rest) G := by
  subst hr
  intro H locs ls hl hz
  obtain ⟨q0, hq⟩ := hz.1.get (X.d hk (by decide))
  rw [mE_7 hk] at hq
  exact va_get (D := tD t) (cl := mcl) (tys := mty t) (ws := va_pl (tdom t) (mE t G)) (ci := 6) (C := RK6) (T := TK6) (N := 9) X.1 X.2.1 X.ws (fun w h => GW_in (inK6 w h) (inG6 w h)) X.o X.k hz.1.1 q0 hq rfl 4 (by decide) (X.w hw) (fun _ h => h) rfl hd (k H locs ls hl hz)
theorem qp_50 {a idx : Nat} {r : Option Nat} {x : Option Nat} (X : kX p s m args meth c cc nL own t) (hpu : pu = false) (hd : decode cc pc = .ok (.putfield idx, 3)) (hw : Cond.fieldLink own idx "TreeServer$Fid" "user" "LTreeServer$User;" ∈ GW) (hr : r = some a) (hk : tk t a = 7) (k : kV cs p l e R s m args below meth c Q nL t pu (pc + 3) lv rest (sr G 50 a x)) : kV cs p l e R s m args below meth c Q nL t pu pc lv (va_rf x :: va_rf r :: rest) G := by
  subst hr
  intro H locs ls hl hz
  have ha := X.d hk (by decide)
  obtain ⟨q0, hq⟩ := hz.1.get ha
  have hq' := hq
  rw [mE_7 hk] at hq'
  refine va_put (D := tD t) (cl := mcl) (tys := mty t) (ws := va_pl (tdom t) (mE t G)) (A := tA t) (H0 := s.heap) (ci := 6) (C := RK6) (T := TK6) (N := 9) (v := va_rf x) (ty := .object "TreeServer$User") X.1 X.2.1 X.ws (fun w h => GW_in (inK6 w h) (inG6 w h)) yK6 yK6_ok nmK6 X.o X.k hz.1.1 hz.1.2.1 hz.2.1 q0 hq' rfl 4 (by decide) (X.w hw) (fun _ h => h) rfl (by decide +kernel) (by cases x <;> rfl) (by cases x <;> rfl) (Nat.le_of_ble_eq_true rfl) hd (fun H1 locs1 hP hD hS => ?_)
  exact k H1 locs1 ls hl ⟨hz.1.set ha hq (by rw [mE_7 hk]; simp [gi, gl, gr, sr, u2]) (fun b hb => mE_sr hb) hP hD (fun b j h => hz.1.2.2 b j h), hS, fun h => by rw [hpu] at h; cases h⟩
theorem qg_51 {a idx : Nat} {r : Option Nat} (X : kX p s m args meth c cc nL own t) (hd : decode cc pc = .ok (.getfield idx, 3)) (hw : Cond.fieldLink own idx "TreeServer$Fid" "openMode" "I" ∈ GW) (hr : r = some a) (hk : tk t a = 7) (k : kV cs p l e R s m args below meth c Q nL t pu (pc + 3) lv (.int (gi G 51 a) :: rest) G) : kV cs p l e R s m args below meth c Q nL t pu pc lv (va_rf r :: rest) G := by
  subst hr
  intro H locs ls hl hz
  obtain ⟨q0, hq⟩ := hz.1.get (X.d hk (by decide))
  rw [mE_7 hk] at hq
  exact va_get (D := tD t) (cl := mcl) (tys := mty t) (ws := va_pl (tdom t) (mE t G)) (ci := 6) (C := RK6) (T := TK6) (N := 9) X.1 X.2.1 X.ws (fun w h => GW_in (inK6 w h) (inG6 w h)) X.o X.k hz.1.1 q0 hq rfl 5 (by decide) (X.w hw) (fun _ h => h) rfl hd (k H locs ls hl hz)
theorem qp_51 {a idx : Nat} {r : Option Nat} {x : Int32} (X : kX p s m args meth c cc nL own t) (hpu : pu = false) (hd : decode cc pc = .ok (.putfield idx, 3)) (hw : Cond.fieldLink own idx "TreeServer$Fid" "openMode" "I" ∈ GW) (hr : r = some a) (hk : tk t a = 7) (k : kV cs p l e R s m args below meth c Q nL t pu (pc + 3) lv rest (si G 51 a x)) : kV cs p l e R s m args below meth c Q nL t pu pc lv (.int x :: va_rf r :: rest) G := by
  subst hr
  intro H locs ls hl hz
  have ha := X.d hk (by decide)
  obtain ⟨q0, hq⟩ := hz.1.get ha
  have hq' := hq
  rw [mE_7 hk] at hq'
  refine va_put (D := tD t) (cl := mcl) (tys := mty t) (ws := va_pl (tdom t) (mE t G)) (A := tA t) (H0 := s.heap) (ci := 6) (C := RK6) (T := TK6) (N := 9) (v := .int x) (ty := .int) X.1 X.2.1 X.ws (fun w h => GW_in (inK6 w h) (inG6 w h)) yK6 yK6_ok nmK6 X.o X.k hz.1.1 hz.1.2.1 hz.2.1 q0 hq' rfl 5 (by decide) (X.w hw) (fun _ h => h) rfl (by decide +kernel) rfl rfl (Nat.le_of_ble_eq_true rfl) hd (fun H1 locs1 hP hD hS => ?_)
  exact k H1 locs1 ls hl ⟨hz.1.set ha hq (by rw [mE_7 hk]; simp [gi, gl, gr, si, u2]) (fun b hb => mE_si hb) hP hD (fun b j h => hz.1.2.2 b j h), hS, fun h => by rw [hpu] at h; cases h⟩
theorem qg_52 {a idx : Nat} {r : Option Nat} (X : kX p s m args meth c cc nL own t) (hd : decode cc pc = .ok (.getfield idx, 3)) (hw : Cond.fieldLink own idx "TreeServer$Fid" "removes" "Z" ∈ GW) (hr : r = some a) (hk : tk t a = 7) (k : kV cs p l e R s m args below meth c Q nL t pu (pc + 3) lv (.int (gi G 52 a) :: rest) G) : kV cs p l e R s m args below meth c Q nL t pu pc lv (va_rf r :: rest) G := by
  subst hr
  intro H locs ls hl hz
  obtain ⟨q0, hq⟩ := hz.1.get (X.d hk (by decide))
  rw [mE_7 hk] at hq
  exact va_get (D := tD t) (cl := mcl) (tys := mty t) (ws := va_pl (tdom t) (mE t G)) (ci := 6) (C := RK6) (T := TK6) (N := 9) X.1 X.2.1 X.ws (fun w h => GW_in (inK6 w h) (inG6 w h)) X.o X.k hz.1.1 q0 hq rfl 6 (by decide) (X.w hw) (fun _ h => h) rfl hd (k H locs ls hl hz)
theorem qp_52 {a idx : Nat} {r : Option Nat} {x : Int32} (X : kX p s m args meth c cc nL own t) (hpu : pu = false) (hd : decode cc pc = .ok (.putfield idx, 3)) (hw : Cond.fieldLink own idx "TreeServer$Fid" "removes" "Z" ∈ GW) (hr : r = some a) (hk : tk t a = 7) (hB : isB x) (k : kV cs p l e R s m args below meth c Q nL t pu (pc + 3) lv rest (si G 52 a x)) : kV cs p l e R s m args below meth c Q nL t pu pc lv (.int x :: va_rf r :: rest) G := by
  subst hr
  intro H locs ls hl hz
  have ha := X.d hk (by decide)
  obtain ⟨q0, hq⟩ := hz.1.get ha
  have hq' := hq
  rw [mE_7 hk] at hq'
  refine va_put (D := tD t) (cl := mcl) (tys := mty t) (ws := va_pl (tdom t) (mE t G)) (A := tA t) (H0 := s.heap) (ci := 6) (C := RK6) (T := TK6) (N := 9) (v := .int x) (ty := .boolean) X.1 X.2.1 X.ws (fun w h => GW_in (inK6 w h) (inG6 w h)) yK6 yK6_ok nmK6 X.o X.k hz.1.1 hz.1.2.1 hz.2.1 q0 hq' rfl 6 (by decide) (X.w hw) (fun _ h => h) rfl (by decide +kernel) (by rcases hB with rfl | rfl <;> rfl) (by rcases hB with rfl | rfl <;> rfl) (Nat.le_of_ble_eq_true rfl) hd (fun H1 locs1 hP hD hS => ?_)
  exact k H1 locs1 ls hl ⟨hz.1.set ha hq (by rw [mE_7 hk]; simp [gi, gl, gr, si, u2]) (fun b hb => mE_si hb) hP hD (fun b j h => hz.1.2.2 b j h), hS, fun h => by rw [hpu] at h; cases h⟩
theorem qg_53 {a idx : Nat} {r : Option Nat} (X : kX p s m args meth c cc nL own t) (hd : decode cc pc = .ok (.getfield idx, 3)) (hw : Cond.fieldLink own idx "TreeServer$Fid" "nextOffset" "J" ∈ GW) (hr : r = some a) (hk : tk t a = 7) (k : kV cs p l e R s m args below meth c Q nL t pu (pc + 3) lv (.long (gl G 53 a) :: rest) G) : kV cs p l e R s m args below meth c Q nL t pu pc lv (va_rf r :: rest) G := by
  subst hr
  intro H locs ls hl hz
  obtain ⟨q0, hq⟩ := hz.1.get (X.d hk (by decide))
  rw [mE_7 hk] at hq
  exact va_get (D := tD t) (cl := mcl) (tys := mty t) (ws := va_pl (tdom t) (mE t G)) (ci := 6) (C := RK6) (T := TK6) (N := 9) X.1 X.2.1 X.ws (fun w h => GW_in (inK6 w h) (inG6 w h)) X.o X.k hz.1.1 q0 hq rfl 7 (by decide) (X.w hw) (fun _ h => h) rfl hd (k H locs ls hl hz)
theorem qp_53 {a idx : Nat} {r : Option Nat} {x : Int64} (X : kX p s m args meth c cc nL own t) (hpu : pu = false) (hd : decode cc pc = .ok (.putfield idx, 3)) (hw : Cond.fieldLink own idx "TreeServer$Fid" "nextOffset" "J" ∈ GW) (hr : r = some a) (hk : tk t a = 7) (k : kV cs p l e R s m args below meth c Q nL t pu (pc + 3) lv rest (sl G 53 a x)) : kV cs p l e R s m args below meth c Q nL t pu pc lv (.long x :: va_rf r :: rest) G := by
  subst hr
  intro H locs ls hl hz
  have ha := X.d hk (by decide)
  obtain ⟨q0, hq⟩ := hz.1.get ha
  have hq' := hq
  rw [mE_7 hk] at hq'
  refine va_put (D := tD t) (cl := mcl) (tys := mty t) (ws := va_pl (tdom t) (mE t G)) (A := tA t) (H0 := s.heap) (ci := 6) (C := RK6) (T := TK6) (N := 9) (v := .long x) (ty := .long) X.1 X.2.1 X.ws (fun w h => GW_in (inK6 w h) (inG6 w h)) yK6 yK6_ok nmK6 X.o X.k hz.1.1 hz.1.2.1 hz.2.1 q0 hq' rfl 7 (by decide) (X.w hw) (fun _ h => h) rfl (by decide +kernel) rfl rfl (Nat.le_of_ble_eq_true rfl) hd (fun H1 locs1 hP hD hS => ?_)
  exact k H1 locs1 ls hl ⟨hz.1.set ha hq (by rw [mE_7 hk]; simp [gi, gl, gr, sl, u2]) (fun b hb => mE_sl hb) hP hD (fun b j h => hz.1.2.2 b j h), hS, fun h => by rw [hpu] at h; cases h⟩
theorem qg_54 {a idx : Nat} {r : Option Nat} (X : kX p s m args meth c cc nL own t) (hd : decode cc pc = .ok (.getfield idx, 3)) (hw : Cond.fieldLink own idx "TreeServer$Fid" "lastRead" "I" ∈ GW) (hr : r = some a) (hk : tk t a = 7) (k : kV cs p l e R s m args below meth c Q nL t pu (pc + 3) lv (.int (gi G 54 a) :: rest) G) : kV cs p l e R s m args below meth c Q nL t pu pc lv (va_rf r :: rest) G := by
  subst hr
  intro H locs ls hl hz
  obtain ⟨q0, hq⟩ := hz.1.get (X.d hk (by decide))
  rw [mE_7 hk] at hq
  exact va_get (D := tD t) (cl := mcl) (tys := mty t) (ws := va_pl (tdom t) (mE t G)) (ci := 6) (C := RK6) (T := TK6) (N := 9) X.1 X.2.1 X.ws (fun w h => GW_in (inK6 w h) (inG6 w h)) X.o X.k hz.1.1 q0 hq rfl 8 (by decide) (X.w hw) (fun _ h => h) rfl hd (k H locs ls hl hz)
theorem qp_54 {a idx : Nat} {r : Option Nat} {x : Int32} (X : kX p s m args meth c cc nL own t) (hpu : pu = false) (hd : decode cc pc = .ok (.putfield idx, 3)) (hw : Cond.fieldLink own idx "TreeServer$Fid" "lastRead" "I" ∈ GW) (hr : r = some a) (hk : tk t a = 7) (k : kV cs p l e R s m args below meth c Q nL t pu (pc + 3) lv rest (si G 54 a x)) : kV cs p l e R s m args below meth c Q nL t pu pc lv (.int x :: va_rf r :: rest) G := by
  subst hr
  intro H locs ls hl hz
  have ha := X.d hk (by decide)
  obtain ⟨q0, hq⟩ := hz.1.get ha
  have hq' := hq
  rw [mE_7 hk] at hq'
  refine va_put (D := tD t) (cl := mcl) (tys := mty t) (ws := va_pl (tdom t) (mE t G)) (A := tA t) (H0 := s.heap) (ci := 6) (C := RK6) (T := TK6) (N := 9) (v := .int x) (ty := .int) X.1 X.2.1 X.ws (fun w h => GW_in (inK6 w h) (inG6 w h)) yK6 yK6_ok nmK6 X.o X.k hz.1.1 hz.1.2.1 hz.2.1 q0 hq' rfl 8 (by decide) (X.w hw) (fun _ h => h) rfl (by decide +kernel) rfl rfl (Nat.le_of_ble_eq_true rfl) hd (fun H1 locs1 hP hD hS => ?_)
  exact k H1 locs1 ls hl ⟨hz.1.set ha hq (by rw [mE_7 hk]; simp [gi, gl, gr, si, u2]) (fun b hb => mE_si hb) hP hD (fun b j h => hz.1.2.2 b j h), hS, fun h => by rw [hpu] at h; cases h⟩
theorem qg_55 {a idx : Nat} {r : Option Nat} (X : kX p s m args meth c cc nL own t) (hd : decode cc pc = .ok (.getfield idx, 3)) (hw : Cond.fieldLink own idx "TreeServer$Link" "input" "[B" ∈ GW) (hr : r = some a) (hk : tk t a = 8) (k : kV cs p l e R s m args below meth c Q nL t pu (pc + 3) lv (va_rf (gr G 55 a) :: rest) G) : kV cs p l e R s m args below meth c Q nL t pu pc lv (va_rf r :: rest) G := by
  subst hr
  intro H locs ls hl hz
  obtain ⟨q0, hq⟩ := hz.1.get (X.d hk (by decide))
  rw [mE_8 hk] at hq
  exact va_get (D := tD t) (cl := mcl) (tys := mty t) (ws := va_pl (tdom t) (mE t G)) (ci := 7) (C := RK7) (T := TK7) (N := 8) X.1 X.2.1 X.ws (fun w h => GW_in (inK7 w h) (inG7 w h)) X.o X.k hz.1.1 q0 hq rfl 0 (by decide) (X.w hw) (fun _ h => h) rfl hd (k H locs ls hl hz)
theorem qg_56 {a idx : Nat} {r : Option Nat} (X : kX p s m args meth c cc nL own t) (hd : decode cc pc = .ok (.getfield idx, 3)) (hw : Cond.fieldLink own idx "TreeServer$Link" "inputLength" "I" ∈ GW) (hr : r = some a) (hk : tk t a = 8) (k : kV cs p l e R s m args below meth c Q nL t pu (pc + 3) lv (.int (gi G 56 a) :: rest) G) : kV cs p l e R s m args below meth c Q nL t pu pc lv (va_rf r :: rest) G := by
  subst hr
  intro H locs ls hl hz
  obtain ⟨q0, hq⟩ := hz.1.get (X.d hk (by decide))
  rw [mE_8 hk] at hq
  exact va_get (D := tD t) (cl := mcl) (tys := mty t) (ws := va_pl (tdom t) (mE t G)) (ci := 7) (C := RK7) (T := TK7) (N := 8) X.1 X.2.1 X.ws (fun w h => GW_in (inK7 w h) (inG7 w h)) X.o X.k hz.1.1 q0 hq rfl 1 (by decide) (X.w hw) (fun _ h => h) rfl hd (k H locs ls hl hz)
theorem qp_56 {a idx : Nat} {r : Option Nat} {x : Int32} (X : kX p s m args meth c cc nL own t) (hpu : pu = false) (hd : decode cc pc = .ok (.putfield idx, 3)) (hw : Cond.fieldLink own idx "TreeServer$Link" "inputLength" "I" ∈ GW) (hr : r = some a) (hk : tk t a = 8) (k : kV cs p l e R s m args below meth c Q nL t pu (pc + 3) lv rest (si G 56 a x)) : kV cs p l e R s m args below meth c Q nL t pu pc lv (.int x :: va_rf r :: rest) G := by
  subst hr
  intro H locs ls hl hz
  have ha := X.d hk (by decide)
  obtain ⟨q0, hq⟩ := hz.1.get ha
  have hq' := hq
  rw [mE_8 hk] at hq'
  refine va_put (D := tD t) (cl := mcl) (tys := mty t) (ws := va_pl (tdom t) (mE t G)) (A := tA t) (H0 := s.heap) (ci := 7) (C := RK7) (T := TK7) (N := 8) (v := .int x) (ty := .int) X.1 X.2.1 X.ws (fun w h => GW_in (inK7 w h) (inG7 w h)) yK7 yK7_ok nmK7 X.o X.k hz.1.1 hz.1.2.1 hz.2.1 q0 hq' rfl 1 (by decide) (X.w hw) (fun _ h => h) rfl (by decide +kernel) rfl rfl (Nat.le_of_ble_eq_true rfl) hd (fun H1 locs1 hP hD hS => ?_)
  exact k H1 locs1 ls hl ⟨hz.1.set ha hq (by rw [mE_8 hk]; simp [gi, gl, gr, si, u2]) (fun b hb => mE_si hb) hP hD (fun b j h => hz.1.2.2 b j h), hS, fun h => by rw [hpu] at h; cases h⟩
theorem qg_57 {a idx : Nat} {r : Option Nat} (X : kX p s m args meth c cc nL own t) (hd : decode cc pc = .ok (.getfield idx, 3)) (hw : Cond.fieldLink own idx "TreeServer$Link" "output" "[B" ∈ GW) (hr : r = some a) (hk : tk t a = 8) (k : kV cs p l e R s m args below meth c Q nL t pu (pc + 3) lv (va_rf (gr G 57 a) :: rest) G) : kV cs p l e R s m args below meth c Q nL t pu pc lv (va_rf r :: rest) G := by
  subst hr
  intro H locs ls hl hz
  obtain ⟨q0, hq⟩ := hz.1.get (X.d hk (by decide))
  rw [mE_8 hk] at hq
  exact va_get (D := tD t) (cl := mcl) (tys := mty t) (ws := va_pl (tdom t) (mE t G)) (ci := 7) (C := RK7) (T := TK7) (N := 8) X.1 X.2.1 X.ws (fun w h => GW_in (inK7 w h) (inG7 w h)) X.o X.k hz.1.1 q0 hq rfl 2 (by decide) (X.w hw) (fun _ h => h) rfl hd (k H locs ls hl hz)
theorem qg_58 {a idx : Nat} {r : Option Nat} (X : kX p s m args meth c cc nL own t) (hd : decode cc pc = .ok (.getfield idx, 3)) (hw : Cond.fieldLink own idx "TreeServer$Link" "outputLength" "I" ∈ GW) (hr : r = some a) (hk : tk t a = 8) (k : kV cs p l e R s m args below meth c Q nL t pu (pc + 3) lv (.int (gi G 58 a) :: rest) G) : kV cs p l e R s m args below meth c Q nL t pu pc lv (va_rf r :: rest) G := by
  subst hr
  intro H locs ls hl hz
  obtain ⟨q0, hq⟩ := hz.1.get (X.d hk (by decide))
  rw [mE_8 hk] at hq
  exact va_get (D := tD t) (cl := mcl) (tys := mty t) (ws := va_pl (tdom t) (mE t G)) (ci := 7) (C := RK7) (T := TK7) (N := 8) X.1 X.2.1 X.ws (fun w h => GW_in (inK7 w h) (inG7 w h)) X.o X.k hz.1.1 q0 hq rfl 3 (by decide) (X.w hw) (fun _ h => h) rfl hd (k H locs ls hl hz)
theorem qp_58 {a idx : Nat} {r : Option Nat} {x : Int32} (X : kX p s m args meth c cc nL own t) (hpu : pu = false) (hd : decode cc pc = .ok (.putfield idx, 3)) (hw : Cond.fieldLink own idx "TreeServer$Link" "outputLength" "I" ∈ GW) (hr : r = some a) (hk : tk t a = 8) (k : kV cs p l e R s m args below meth c Q nL t pu (pc + 3) lv rest (si G 58 a x)) : kV cs p l e R s m args below meth c Q nL t pu pc lv (.int x :: va_rf r :: rest) G := by
  subst hr
  intro H locs ls hl hz
  have ha := X.d hk (by decide)
  obtain ⟨q0, hq⟩ := hz.1.get ha
  have hq' := hq
  rw [mE_8 hk] at hq'
  refine va_put (D := tD t) (cl := mcl) (tys := mty t) (ws := va_pl (tdom t) (mE t G)) (A := tA t) (H0 := s.heap) (ci := 7) (C := RK7) (T := TK7) (N := 8) (v := .int x) (ty := .int) X.1 X.2.1 X.ws (fun w h => GW_in (inK7 w h) (inG7 w h)) yK7 yK7_ok nmK7 X.o X.k hz.1.1 hz.1.2.1 hz.2.1 q0 hq' rfl 3 (by decide) (X.w hw) (fun _ h => h) rfl (by decide +kernel) rfl rfl (Nat.le_of_ble_eq_true rfl) hd (fun H1 locs1 hP hD hS => ?_)
  exact k H1 locs1 ls hl ⟨hz.1.set ha hq (by rw [mE_8 hk]; simp [gi, gl, gr, si, u2]) (fun b hb => mE_si hb) hP hD (fun b j h => hz.1.2.2 b j h), hS, fun h => by rw [hpu] at h; cases h⟩
theorem qg_59 {a idx : Nat} {r : Option Nat} (X : kX p s m args meth c cc nL own t) (hd : decode cc pc = .ok (.getfield idx, 3)) (hw : Cond.fieldLink own idx "TreeServer$Link" "msize" "I" ∈ GW) (hr : r = some a) (hk : tk t a = 8) (k : kV cs p l e R s m args below meth c Q nL t pu (pc + 3) lv (.int (gi G 59 a) :: rest) G) : kV cs p l e R s m args below meth c Q nL t pu pc lv (va_rf r :: rest) G := by
  subst hr
  intro H locs ls hl hz
  obtain ⟨q0, hq⟩ := hz.1.get (X.d hk (by decide))
  rw [mE_8 hk] at hq
  exact va_get (D := tD t) (cl := mcl) (tys := mty t) (ws := va_pl (tdom t) (mE t G)) (ci := 7) (C := RK7) (T := TK7) (N := 8) X.1 X.2.1 X.ws (fun w h => GW_in (inK7 w h) (inG7 w h)) X.o X.k hz.1.1 q0 hq rfl 4 (by decide) (X.w hw) (fun _ h => h) rfl hd (k H locs ls hl hz)
theorem qp_59 {a idx : Nat} {r : Option Nat} {x : Int32} (X : kX p s m args meth c cc nL own t) (hpu : pu = false) (hd : decode cc pc = .ok (.putfield idx, 3)) (hw : Cond.fieldLink own idx "TreeServer$Link" "msize" "I" ∈ GW) (hr : r = some a) (hk : tk t a = 8) (k : kV cs p l e R s m args below meth c Q nL t pu (pc + 3) lv rest (si G 59 a x)) : kV cs p l e R s m args below meth c Q nL t pu pc lv (.int x :: va_rf r :: rest) G := by
  subst hr
  intro H locs ls hl hz
  have ha := X.d hk (by decide)
  obtain ⟨q0, hq⟩ := hz.1.get ha
  have hq' := hq
  rw [mE_8 hk] at hq'
  refine va_put (D := tD t) (cl := mcl) (tys := mty t) (ws := va_pl (tdom t) (mE t G)) (A := tA t) (H0 := s.heap) (ci := 7) (C := RK7) (T := TK7) (N := 8) (v := .int x) (ty := .int) X.1 X.2.1 X.ws (fun w h => GW_in (inK7 w h) (inG7 w h)) yK7 yK7_ok nmK7 X.o X.k hz.1.1 hz.1.2.1 hz.2.1 q0 hq' rfl 4 (by decide) (X.w hw) (fun _ h => h) rfl (by decide +kernel) rfl rfl (Nat.le_of_ble_eq_true rfl) hd (fun H1 locs1 hP hD hS => ?_)
  exact k H1 locs1 ls hl ⟨hz.1.set ha hq (by rw [mE_8 hk]; simp [gi, gl, gr, si, u2]) (fun b hb => mE_si hb) hP hD (fun b j h => hz.1.2.2 b j h), hS, fun h => by rw [hpu] at h; cases h⟩
theorem qg_60 {a idx : Nat} {r : Option Nat} (X : kX p s m args meth c cc nL own t) (hd : decode cc pc = .ok (.getfield idx, 3)) (hw : Cond.fieldLink own idx "TreeServer$Link" "agreed" "Z" ∈ GW) (hr : r = some a) (hk : tk t a = 8) (k : kV cs p l e R s m args below meth c Q nL t pu (pc + 3) lv (.int (gi G 60 a) :: rest) G) : kV cs p l e R s m args below meth c Q nL t pu pc lv (va_rf r :: rest) G := by
  subst hr
  intro H locs ls hl hz
  obtain ⟨q0, hq⟩ := hz.1.get (X.d hk (by decide))
  rw [mE_8 hk] at hq
  exact va_get (D := tD t) (cl := mcl) (tys := mty t) (ws := va_pl (tdom t) (mE t G)) (ci := 7) (C := RK7) (T := TK7) (N := 8) X.1 X.2.1 X.ws (fun w h => GW_in (inK7 w h) (inG7 w h)) X.o X.k hz.1.1 q0 hq rfl 5 (by decide) (X.w hw) (fun _ h => h) rfl hd (k H locs ls hl hz)
theorem qp_60 {a idx : Nat} {r : Option Nat} {x : Int32} (X : kX p s m args meth c cc nL own t) (hpu : pu = false) (hd : decode cc pc = .ok (.putfield idx, 3)) (hw : Cond.fieldLink own idx "TreeServer$Link" "agreed" "Z" ∈ GW) (hr : r = some a) (hk : tk t a = 8) (hB : isB x) (k : kV cs p l e R s m args below meth c Q nL t pu (pc + 3) lv rest (si G 60 a x)) : kV cs p l e R s m args below meth c Q nL t pu pc lv (.int x :: va_rf r :: rest) G := by
  subst hr
  intro H locs ls hl hz
  have ha := X.d hk (by decide)
  obtain ⟨q0, hq⟩ := hz.1.get ha
  have hq' := hq
  rw [mE_8 hk] at hq'
  refine va_put (D := tD t) (cl := mcl) (tys := mty t) (ws := va_pl (tdom t) (mE t G)) (A := tA t) (H0 := s.heap) (ci := 7) (C := RK7) (T := TK7) (N := 8) (v := .int x) (ty := .boolean) X.1 X.2.1 X.ws (fun w h => GW_in (inK7 w h) (inG7 w h)) yK7 yK7_ok nmK7 X.o X.k hz.1.1 hz.1.2.1 hz.2.1 q0 hq' rfl 5 (by decide) (X.w hw) (fun _ h => h) rfl (by decide +kernel) (by rcases hB with rfl | rfl <;> rfl) (by rcases hB with rfl | rfl <;> rfl) (Nat.le_of_ble_eq_true rfl) hd (fun H1 locs1 hP hD hS => ?_)
  exact k H1 locs1 ls hl ⟨hz.1.set ha hq (by rw [mE_8 hk]; simp [gi, gl, gr, si, u2]) (fun b hb => mE_si hb) hP hD (fun b j h => hz.1.2.2 b j h), hS, fun h => by rw [hpu] at h; cases h⟩
theorem qg_61 {a idx : Nat} {r : Option Nat} (X : kX p s m args meth c cc nL own t) (hd : decode cc pc = .ok (.getfield idx, 3)) (hw : Cond.fieldLink own idx "TreeServer$Link" "broken" "Z" ∈ GW) (hr : r = some a) (hk : tk t a = 8) (k : kV cs p l e R s m args below meth c Q nL t pu (pc + 3) lv (.int (gi G 61 a) :: rest) G) : kV cs p l e R s m args below meth c Q nL t pu pc lv (va_rf r :: rest) G := by
  subst hr
  intro H locs ls hl hz
  obtain ⟨q0, hq⟩ := hz.1.get (X.d hk (by decide))
  rw [mE_8 hk] at hq
  exact va_get (D := tD t) (cl := mcl) (tys := mty t) (ws := va_pl (tdom t) (mE t G)) (ci := 7) (C := RK7) (T := TK7) (N := 8) X.1 X.2.1 X.ws (fun w h => GW_in (inK7 w h) (inG7 w h)) X.o X.k hz.1.1 q0 hq rfl 6 (by decide) (X.w hw) (fun _ h => h) rfl hd (k H locs ls hl hz)
theorem qp_61 {a idx : Nat} {r : Option Nat} {x : Int32} (X : kX p s m args meth c cc nL own t) (hpu : pu = false) (hd : decode cc pc = .ok (.putfield idx, 3)) (hw : Cond.fieldLink own idx "TreeServer$Link" "broken" "Z" ∈ GW) (hr : r = some a) (hk : tk t a = 8) (hB : isB x) (k : kV cs p l e R s m args below meth c Q nL t pu (pc + 3) lv rest (si G 61 a x)) : kV cs p l e R s m args below meth c Q nL t pu pc lv (.int x :: va_rf r :: rest) G := by
  subst hr
  intro H locs ls hl hz
  have ha := X.d hk (by decide)
  obtain ⟨q0, hq⟩ := hz.1.get ha
  have hq' := hq
  rw [mE_8 hk] at hq'
  refine va_put (D := tD t) (cl := mcl) (tys := mty t) (ws := va_pl (tdom t) (mE t G)) (A := tA t) (H0 := s.heap) (ci := 7) (C := RK7) (T := TK7) (N := 8) (v := .int x) (ty := .boolean) X.1 X.2.1 X.ws (fun w h => GW_in (inK7 w h) (inG7 w h)) yK7 yK7_ok nmK7 X.o X.k hz.1.1 hz.1.2.1 hz.2.1 q0 hq' rfl 6 (by decide) (X.w hw) (fun _ h => h) rfl (by decide +kernel) (by rcases hB with rfl | rfl <;> rfl) (by rcases hB with rfl | rfl <;> rfl) (Nat.le_of_ble_eq_true rfl) hd (fun H1 locs1 hP hD hS => ?_)
  exact k H1 locs1 ls hl ⟨hz.1.set ha hq (by rw [mE_8 hk]; simp [gi, gl, gr, si, u2]) (fun b hb => mE_si hb) hP hD (fun b j h => hz.1.2.2 b j h), hS, fun h => by rw [hpu] at h; cases h⟩
theorem qg_62 {a idx : Nat} {r : Option Nat} (X : kX p s m args meth c cc nL own t) (hd : decode cc pc = .ok (.getfield idx, 3)) (hw : Cond.fieldLink own idx "TreeServer$Link" "fids" "[LTreeServer$Fid;" ∈ GW) (hr : r = some a) (hk : tk t a = 8) (k : kV cs p l e R s m args below meth c Q nL t pu (pc + 3) lv (va_rf (gr G 62 a) :: rest) G) : kV cs p l e R s m args below meth c Q nL t pu pc lv (va_rf r :: rest) G := by
  subst hr
  intro H locs ls hl hz
  obtain ⟨q0, hq⟩ := hz.1.get (X.d hk (by decide))
  rw [mE_8 hk] at hq
  exact va_get (D := tD t) (cl := mcl) (tys := mty t) (ws := va_pl (tdom t) (mE t G)) (ci := 7) (C := RK7) (T := TK7) (N := 8) X.1 X.2.1 X.ws (fun w h => GW_in (inK7 w h) (inG7 w h)) X.o X.k hz.1.1 q0 hq rfl 7 (by decide) (X.w hw) (fun _ h => h) rfl hd (k H locs ls hl hz)
theorem qg_63 {a idx : Nat} {r : Option Nat} (X : kX p s m args meth c cc nL own t) (hd : decode cc pc = .ok (.getfield idx, 3)) (hw : Cond.fieldLink own idx "TreeServer" "tree" "LTreeServer$Tree;" ∈ GW) (hr : r = some a) (hk : tk t a = 9) (k : kV cs p l e R s m args below meth c Q nL t pu (pc + 3) lv (va_rf (gr G 63 a) :: rest) G) : kV cs p l e R s m args below meth c Q nL t pu pc lv (va_rf r :: rest) G := by
  subst hr
  intro H locs ls hl hz
  obtain ⟨q0, hq⟩ := hz.1.get (X.d hk (by decide))
  rw [mE_9 hk] at hq
  exact va_get (D := tD t) (cl := mcl) (tys := mty t) (ws := va_pl (tdom t) (mE t G)) (ci := 8) (C := RK8) (T := TK8) (N := 7) X.1 X.2.1 X.ws (fun w h => GW_in (inK8 w h) (inG8 w h)) X.o X.k hz.1.1 q0 hq rfl 0 (by decide) (X.w hw) (fun _ h => h) rfl hd (k H locs ls hl hz)
theorem qg_64 {a idx : Nat} {r : Option Nat} (X : kX p s m args meth c cc nL own t) (hd : decode cc pc = .ok (.getfield idx, 3)) (hw : Cond.fieldLink own idx "TreeServer" "log" "LTreeServer$Log;" ∈ GW) (hr : r = some a) (hk : tk t a = 9) (k : kV cs p l e R s m args below meth c Q nL t pu (pc + 3) lv (va_rf (gr G 64 a) :: rest) G) : kV cs p l e R s m args below meth c Q nL t pu pc lv (va_rf r :: rest) G := by
  subst hr
  intro H locs ls hl hz
  obtain ⟨q0, hq⟩ := hz.1.get (X.d hk (by decide))
  rw [mE_9 hk] at hq
  exact va_get (D := tD t) (cl := mcl) (tys := mty t) (ws := va_pl (tdom t) (mE t G)) (ci := 8) (C := RK8) (T := TK8) (N := 7) X.1 X.2.1 X.ws (fun w h => GW_in (inK8 w h) (inG8 w h)) X.o X.k hz.1.1 q0 hq rfl 1 (by decide) (X.w hw) (fun _ h => h) rfl hd (k H locs ls hl hz)
theorem qg_65 {a idx : Nat} {r : Option Nat} (X : kX p s m args meth c cc nL own t) (hd : decode cc pc = .ok (.getfield idx, 3)) (hw : Cond.fieldLink own idx "TreeServer" "change" "LTreeServer$Change;" ∈ GW) (hr : r = some a) (hk : tk t a = 9) (k : kV cs p l e R s m args below meth c Q nL t pu (pc + 3) lv (va_rf (gr G 65 a) :: rest) G) : kV cs p l e R s m args below meth c Q nL t pu pc lv (va_rf r :: rest) G := by
  subst hr
  intro H locs ls hl hz
  obtain ⟨q0, hq⟩ := hz.1.get (X.d hk (by decide))
  rw [mE_9 hk] at hq
  exact va_get (D := tD t) (cl := mcl) (tys := mty t) (ws := va_pl (tdom t) (mE t G)) (ci := 8) (C := RK8) (T := TK8) (N := 7) X.1 X.2.1 X.ws (fun w h => GW_in (inK8 w h) (inG8 w h)) X.o X.k hz.1.1 q0 hq rfl 2 (by decide) (X.w hw) (fun _ h => h) rfl hd (k H locs ls hl hz)
theorem qg_66 {a idx : Nat} {r : Option Nat} (X : kX p s m args meth c cc nL own t) (hd : decode cc pc = .ok (.getfield idx, 3)) (hw : Cond.fieldLink own idx "TreeServer" "message" "LTreeServer$Message;" ∈ GW) (hr : r = some a) (hk : tk t a = 9) (k : kV cs p l e R s m args below meth c Q nL t pu (pc + 3) lv (va_rf (gr G 66 a) :: rest) G) : kV cs p l e R s m args below meth c Q nL t pu pc lv (va_rf r :: rest) G := by
  subst hr
  intro H locs ls hl hz
  obtain ⟨q0, hq⟩ := hz.1.get (X.d hk (by decide))
  rw [mE_9 hk] at hq
  exact va_get (D := tD t) (cl := mcl) (tys := mty t) (ws := va_pl (tdom t) (mE t G)) (ci := 8) (C := RK8) (T := TK8) (N := 7) X.1 X.2.1 X.ws (fun w h => GW_in (inK8 w h) (inG8 w h)) X.o X.k hz.1.1 q0 hq rfl 3 (by decide) (X.w hw) (fun _ h => h) rfl hd (k H locs ls hl hz)
theorem qg_67 {a idx : Nat} {r : Option Nat} (X : kX p s m args meth c cc nL own t) (hd : decode cc pc = .ok (.getfield idx, 3)) (hw : Cond.fieldLink own idx "TreeServer" "answer" "LTreeServer$Answer;" ∈ GW) (hr : r = some a) (hk : tk t a = 9) (k : kV cs p l e R s m args below meth c Q nL t pu (pc + 3) lv (va_rf (gr G 67 a) :: rest) G) : kV cs p l e R s m args below meth c Q nL t pu pc lv (va_rf r :: rest) G := by
  subst hr
  intro H locs ls hl hz
  obtain ⟨q0, hq⟩ := hz.1.get (X.d hk (by decide))
  rw [mE_9 hk] at hq
  exact va_get (D := tD t) (cl := mcl) (tys := mty t) (ws := va_pl (tdom t) (mE t G)) (ci := 8) (C := RK8) (T := TK8) (N := 7) X.1 X.2.1 X.ws (fun w h => GW_in (inK8 w h) (inG8 w h)) X.o X.k hz.1.1 q0 hq rfl 4 (by decide) (X.w hw) (fun _ h => h) rfl hd (k H locs ls hl hz)
theorem qg_68 {a idx : Nat} {r : Option Nat} (X : kX p s m args meth c cc nL own t) (hd : decode cc pc = .ok (.getfield idx, 3)) (hw : Cond.fieldLink own idx "TreeServer" "links" "[LTreeServer$Link;" ∈ GW) (hr : r = some a) (hk : tk t a = 9) (k : kV cs p l e R s m args below meth c Q nL t pu (pc + 3) lv (va_rf (gr G 68 a) :: rest) G) : kV cs p l e R s m args below meth c Q nL t pu pc lv (va_rf r :: rest) G := by
  subst hr
  intro H locs ls hl hz
  obtain ⟨q0, hq⟩ := hz.1.get (X.d hk (by decide))
  rw [mE_9 hk] at hq
  exact va_get (D := tD t) (cl := mcl) (tys := mty t) (ws := va_pl (tdom t) (mE t G)) (ci := 8) (C := RK8) (T := TK8) (N := 7) X.1 X.2.1 X.ws (fun w h => GW_in (inK8 w h) (inG8 w h)) X.o X.k hz.1.1 q0 hq rfl 5 (by decide) (X.w hw) (fun _ h => h) rfl hd (k H locs ls hl hz)
theorem qg_69 {a idx : Nat} {r : Option Nat} (X : kX p s m args meth c cc nL own t) (hd : decode cc pc = .ok (.getfield idx, 3)) (hw : Cond.fieldLink own idx "TreeServer" "now" "I" ∈ GW) (hr : r = some a) (hk : tk t a = 9) (k : kV cs p l e R s m args below meth c Q nL t pu (pc + 3) lv (.int (gi G 69 a) :: rest) G) : kV cs p l e R s m args below meth c Q nL t pu pc lv (va_rf r :: rest) G := by
  subst hr
  intro H locs ls hl hz
  obtain ⟨q0, hq⟩ := hz.1.get (X.d hk (by decide))
  rw [mE_9 hk] at hq
  exact va_get (D := tD t) (cl := mcl) (tys := mty t) (ws := va_pl (tdom t) (mE t G)) (ci := 8) (C := RK8) (T := TK8) (N := 7) X.1 X.2.1 X.ws (fun w h => GW_in (inK8 w h) (inG8 w h)) X.o X.k hz.1.1 q0 hq rfl 6 (by decide) (X.w hw) (fun _ h => h) rfl hd (k H locs ls hl hz)
theorem qp_69 {a idx : Nat} {r : Option Nat} {x : Int32} (X : kX p s m args meth c cc nL own t) (hpu : pu = false) (hd : decode cc pc = .ok (.putfield idx, 3)) (hw : Cond.fieldLink own idx "TreeServer" "now" "I" ∈ GW) (hr : r = some a) (hk : tk t a = 9) (k : kV cs p l e R s m args below meth c Q nL t pu (pc + 3) lv rest (si G 69 a x)) : kV cs p l e R s m args below meth c Q nL t pu pc lv (.int x :: va_rf r :: rest) G := by
  subst hr
  intro H locs ls hl hz
  have ha := X.d hk (by decide)
  obtain ⟨q0, hq⟩ := hz.1.get ha
  have hq' := hq
  rw [mE_9 hk] at hq'
  refine va_put (D := tD t) (cl := mcl) (tys := mty t) (ws := va_pl (tdom t) (mE t G)) (A := tA t) (H0 := s.heap) (ci := 8) (C := RK8) (T := TK8) (N := 7) (v := .int x) (ty := .int) X.1 X.2.1 X.ws (fun w h => GW_in (inK8 w h) (inG8 w h)) yK8 yK8_ok nmK8 X.o X.k hz.1.1 hz.1.2.1 hz.2.1 q0 hq' rfl 6 (by decide) (X.w hw) (fun _ h => h) rfl (by decide +kernel) rfl rfl (Nat.le_of_ble_eq_true rfl) hd (fun H1 locs1 hP hD hS => ?_)
  exact k H1 locs1 ls hl ⟨hz.1.set ha hq (by rw [mE_9 hk]; simp [gi, gl, gr, si, u2]) (fun b hb => mE_si hb) hP hD (fun b j h => hz.1.2.2 b j h), hS, fun h => by rw [hpu] at h; cases h⟩
theorem qg_70 {a idx : Nat} {r : Option Nat} (X : kX p s m args meth c cc nL own t) (hd : decode cc pc = .ok (.getfield idx, 3)) (hw : Cond.fieldLink own idx "TreeServerModel" "tree" "[I" ∈ GW) (hr : r = some a) (hk : tk t a = 10) (k : kV cs p l e R s m args below meth c Q nL t pu (pc + 3) lv (va_rf (gr G 70 a) :: rest) G) : kV cs p l e R s m args below meth c Q nL t pu pc lv (va_rf r :: rest) G := by
  subst hr
  intro H locs ls hl hz
  obtain ⟨q0, hq⟩ := hz.1.get (X.d hk (by decide))
  rw [mE_10 hk] at hq
  exact va_get (D := tD t) (cl := mcl) (tys := mty t) (ws := va_pl (tdom t) (mE t G)) (ci := 9) (C := RK9) (T := TK9) (N := 30) X.1 X.2.1 X.ws (fun w h => GW_in (inK9 w h) (inG9 w h)) X.o X.k hz.1.1 q0 hq rfl 0 (by decide) (X.w hw) (fun _ h => h) rfl hd (k H locs ls hl hz)
theorem qg_71 {a idx : Nat} {r : Option Nat} (X : kX p s m args meth c cc nL own t) (hd : decode cc pc = .ok (.getfield idx, 3)) (hw : Cond.fieldLink own idx "TreeServerModel" "before" "[I" ∈ GW) (hr : r = some a) (hk : tk t a = 10) (k : kV cs p l e R s m args below meth c Q nL t pu (pc + 3) lv (va_rf (gr G 71 a) :: rest) G) : kV cs p l e R s m args below meth c Q nL t pu pc lv (va_rf r :: rest) G := by
  subst hr
  intro H locs ls hl hz
  obtain ⟨q0, hq⟩ := hz.1.get (X.d hk (by decide))
  rw [mE_10 hk] at hq
  exact va_get (D := tD t) (cl := mcl) (tys := mty t) (ws := va_pl (tdom t) (mE t G)) (ci := 9) (C := RK9) (T := TK9) (N := 30) X.1 X.2.1 X.ws (fun w h => GW_in (inK9 w h) (inG9 w h)) X.o X.k hz.1.1 q0 hq rfl 1 (by decide) (X.w hw) (fun _ h => h) rfl hd (k H locs ls hl hz)
theorem qg_72 {a idx : Nat} {r : Option Nat} (X : kX p s m args meth c cc nL own t) (hd : decode cc pc = .ok (.getfield idx, 3)) (hw : Cond.fieldLink own idx "TreeServerModel" "pending" "[I" ∈ GW) (hr : r = some a) (hk : tk t a = 10) (k : kV cs p l e R s m args below meth c Q nL t pu (pc + 3) lv (va_rf (gr G 72 a) :: rest) G) : kV cs p l e R s m args below meth c Q nL t pu pc lv (va_rf r :: rest) G := by
  subst hr
  intro H locs ls hl hz
  obtain ⟨q0, hq⟩ := hz.1.get (X.d hk (by decide))
  rw [mE_10 hk] at hq
  exact va_get (D := tD t) (cl := mcl) (tys := mty t) (ws := va_pl (tdom t) (mE t G)) (ci := 9) (C := RK9) (T := TK9) (N := 30) X.1 X.2.1 X.ws (fun w h => GW_in (inK9 w h) (inG9 w h)) X.o X.k hz.1.1 q0 hq rfl 2 (by decide) (X.w hw) (fun _ h => h) rfl hd (k H locs ls hl hz)
theorem qg_73 {a idx : Nat} {r : Option Nat} (X : kX p s m args meth c cc nL own t) (hd : decode cc pc = .ok (.getfield idx, 3)) (hw : Cond.fieldLink own idx "TreeServerModel" "kept" "Z" ∈ GW) (hr : r = some a) (hk : tk t a = 10) (k : kV cs p l e R s m args below meth c Q nL t pu (pc + 3) lv (.int (gi G 73 a) :: rest) G) : kV cs p l e R s m args below meth c Q nL t pu pc lv (va_rf r :: rest) G := by
  subst hr
  intro H locs ls hl hz
  obtain ⟨q0, hq⟩ := hz.1.get (X.d hk (by decide))
  rw [mE_10 hk] at hq
  exact va_get (D := tD t) (cl := mcl) (tys := mty t) (ws := va_pl (tdom t) (mE t G)) (ci := 9) (C := RK9) (T := TK9) (N := 30) X.1 X.2.1 X.ws (fun w h => GW_in (inK9 w h) (inG9 w h)) X.o X.k hz.1.1 q0 hq rfl 3 (by decide) (X.w hw) (fun _ h => h) rfl hd (k H locs ls hl hz)
theorem qp_73 {a idx : Nat} {r : Option Nat} {x : Int32} (X : kX p s m args meth c cc nL own t) (hpu : pu = false) (hd : decode cc pc = .ok (.putfield idx, 3)) (hw : Cond.fieldLink own idx "TreeServerModel" "kept" "Z" ∈ GW) (hr : r = some a) (hk : tk t a = 10) (hB : isB x) (k : kV cs p l e R s m args below meth c Q nL t pu (pc + 3) lv rest (si G 73 a x)) : kV cs p l e R s m args below meth c Q nL t pu pc lv (.int x :: va_rf r :: rest) G := by
  subst hr
  intro H locs ls hl hz
  have ha := X.d hk (by decide)
  obtain ⟨q0, hq⟩ := hz.1.get ha
  have hq' := hq
  rw [mE_10 hk] at hq'
  refine va_put (D := tD t) (cl := mcl) (tys := mty t) (ws := va_pl (tdom t) (mE t G)) (A := tA t) (H0 := s.heap) (ci := 9) (C := RK9) (T := TK9) (N := 30) (v := .int x) (ty := .boolean) X.1 X.2.1 X.ws (fun w h => GW_in (inK9 w h) (inG9 w h)) yK9 yK9_ok nmK9 X.o X.k hz.1.1 hz.1.2.1 hz.2.1 q0 hq' rfl 3 (by decide) (X.w hw) (fun _ h => h) rfl (by decide +kernel) (by rcases hB with rfl | rfl <;> rfl) (by rcases hB with rfl | rfl <;> rfl) (Nat.le_of_ble_eq_true rfl) hd (fun H1 locs1 hP hD hS => ?_)
  exact k H1 locs1 ls hl ⟨hz.1.set ha hq (by rw [mE_10 hk]; simp [gi, gl, gr, si, u2]) (fun b hb => mE_si hb) hP hD (fun b j h => hz.1.2.2 b j h), hS, fun h => by rw [hpu] at h; cases h⟩
theorem qg_74 {a idx : Nat} {r : Option Nat} (X : kX p s m args meth c cc nL own t) (hd : decode cc pc = .ok (.getfield idx, 3)) (hw : Cond.fieldLink own idx "TreeServerModel" "paths" "I" ∈ GW) (hr : r = some a) (hk : tk t a = 10) (k : kV cs p l e R s m args below meth c Q nL t pu (pc + 3) lv (.int (gi G 74 a) :: rest) G) : kV cs p l e R s m args below meth c Q nL t pu pc lv (va_rf r :: rest) G := by
  subst hr
  intro H locs ls hl hz
  obtain ⟨q0, hq⟩ := hz.1.get (X.d hk (by decide))
  rw [mE_10 hk] at hq
  exact va_get (D := tD t) (cl := mcl) (tys := mty t) (ws := va_pl (tdom t) (mE t G)) (ci := 9) (C := RK9) (T := TK9) (N := 30) X.1 X.2.1 X.ws (fun w h => GW_in (inK9 w h) (inG9 w h)) X.o X.k hz.1.1 q0 hq rfl 4 (by decide) (X.w hw) (fun _ h => h) rfl hd (k H locs ls hl hz)
theorem qp_74 {a idx : Nat} {r : Option Nat} {x : Int32} (X : kX p s m args meth c cc nL own t) (hpu : pu = false) (hd : decode cc pc = .ok (.putfield idx, 3)) (hw : Cond.fieldLink own idx "TreeServerModel" "paths" "I" ∈ GW) (hr : r = some a) (hk : tk t a = 10) (k : kV cs p l e R s m args below meth c Q nL t pu (pc + 3) lv rest (si G 74 a x)) : kV cs p l e R s m args below meth c Q nL t pu pc lv (.int x :: va_rf r :: rest) G := by
  subst hr
  intro H locs ls hl hz
  have ha := X.d hk (by decide)
  obtain ⟨q0, hq⟩ := hz.1.get ha
  have hq' := hq
  rw [mE_10 hk] at hq'
  refine va_put (D := tD t) (cl := mcl) (tys := mty t) (ws := va_pl (tdom t) (mE t G)) (A := tA t) (H0 := s.heap) (ci := 9) (C := RK9) (T := TK9) (N := 30) (v := .int x) (ty := .int) X.1 X.2.1 X.ws (fun w h => GW_in (inK9 w h) (inG9 w h)) yK9 yK9_ok nmK9 X.o X.k hz.1.1 hz.1.2.1 hz.2.1 q0 hq' rfl 4 (by decide) (X.w hw) (fun _ h => h) rfl (by decide +kernel) rfl rfl (Nat.le_of_ble_eq_true rfl) hd (fun H1 locs1 hP hD hS => ?_)
  exact k H1 locs1 ls hl ⟨hz.1.set ha hq (by rw [mE_10 hk]; simp [gi, gl, gr, si, u2]) (fun b hb => mE_si hb) hP hD (fun b j h => hz.1.2.2 b j h), hS, fun h => by rw [hpu] at h; cases h⟩
theorem qg_75 {a idx : Nat} {r : Option Nat} (X : kX p s m args meth c cc nL own t) (hd : decode cc pc = .ok (.getfield idx, 3)) (hw : Cond.fieldLink own idx "TreeServerModel" "down" "Z" ∈ GW) (hr : r = some a) (hk : tk t a = 10) (k : kV cs p l e R s m args below meth c Q nL t pu (pc + 3) lv (.int (gi G 75 a) :: rest) G) : kV cs p l e R s m args below meth c Q nL t pu pc lv (va_rf r :: rest) G := by
  subst hr
  intro H locs ls hl hz
  obtain ⟨q0, hq⟩ := hz.1.get (X.d hk (by decide))
  rw [mE_10 hk] at hq
  exact va_get (D := tD t) (cl := mcl) (tys := mty t) (ws := va_pl (tdom t) (mE t G)) (ci := 9) (C := RK9) (T := TK9) (N := 30) X.1 X.2.1 X.ws (fun w h => GW_in (inK9 w h) (inG9 w h)) X.o X.k hz.1.1 q0 hq rfl 5 (by decide) (X.w hw) (fun _ h => h) rfl hd (k H locs ls hl hz)
theorem qp_75 {a idx : Nat} {r : Option Nat} {x : Int32} (X : kX p s m args meth c cc nL own t) (hpu : pu = false) (hd : decode cc pc = .ok (.putfield idx, 3)) (hw : Cond.fieldLink own idx "TreeServerModel" "down" "Z" ∈ GW) (hr : r = some a) (hk : tk t a = 10) (hB : isB x) (k : kV cs p l e R s m args below meth c Q nL t pu (pc + 3) lv rest (si G 75 a x)) : kV cs p l e R s m args below meth c Q nL t pu pc lv (.int x :: va_rf r :: rest) G := by
  subst hr
  intro H locs ls hl hz
  have ha := X.d hk (by decide)
  obtain ⟨q0, hq⟩ := hz.1.get ha
  have hq' := hq
  rw [mE_10 hk] at hq'
  refine va_put (D := tD t) (cl := mcl) (tys := mty t) (ws := va_pl (tdom t) (mE t G)) (A := tA t) (H0 := s.heap) (ci := 9) (C := RK9) (T := TK9) (N := 30) (v := .int x) (ty := .boolean) X.1 X.2.1 X.ws (fun w h => GW_in (inK9 w h) (inG9 w h)) yK9 yK9_ok nmK9 X.o X.k hz.1.1 hz.1.2.1 hz.2.1 q0 hq' rfl 5 (by decide) (X.w hw) (fun _ h => h) rfl (by decide +kernel) (by rcases hB with rfl | rfl <;> rfl) (by rcases hB with rfl | rfl <;> rfl) (Nat.le_of_ble_eq_true rfl) hd (fun H1 locs1 hP hD hS => ?_)
  exact k H1 locs1 ls hl ⟨hz.1.set ha hq (by rw [mE_10 hk]; simp [gi, gl, gr, si, u2]) (fun b hb => mE_si hb) hP hD (fun b j h => hz.1.2.2 b j h), hS, fun h => by rw [hpu] at h; cases h⟩
theorem qg_76 {a idx : Nat} {r : Option Nat} (X : kX p s m args meth c cc nL own t) (hd : decode cc pc = .ok (.getfield idx, 3)) (hw : Cond.fieldLink own idx "TreeServerModel" "cutAt" "I" ∈ GW) (hr : r = some a) (hk : tk t a = 10) (k : kV cs p l e R s m args below meth c Q nL t pu (pc + 3) lv (.int (gi G 76 a) :: rest) G) : kV cs p l e R s m args below meth c Q nL t pu pc lv (va_rf r :: rest) G := by
  subst hr
  intro H locs ls hl hz
  obtain ⟨q0, hq⟩ := hz.1.get (X.d hk (by decide))
  rw [mE_10 hk] at hq
  exact va_get (D := tD t) (cl := mcl) (tys := mty t) (ws := va_pl (tdom t) (mE t G)) (ci := 9) (C := RK9) (T := TK9) (N := 30) X.1 X.2.1 X.ws (fun w h => GW_in (inK9 w h) (inG9 w h)) X.o X.k hz.1.1 q0 hq rfl 6 (by decide) (X.w hw) (fun _ h => h) rfl hd (k H locs ls hl hz)
theorem qp_76 {a idx : Nat} {r : Option Nat} {x : Int32} (X : kX p s m args meth c cc nL own t) (hpu : pu = false) (hd : decode cc pc = .ok (.putfield idx, 3)) (hw : Cond.fieldLink own idx "TreeServerModel" "cutAt" "I" ∈ GW) (hr : r = some a) (hk : tk t a = 10) (k : kV cs p l e R s m args below meth c Q nL t pu (pc + 3) lv rest (si G 76 a x)) : kV cs p l e R s m args below meth c Q nL t pu pc lv (.int x :: va_rf r :: rest) G := by
  subst hr
  intro H locs ls hl hz
  have ha := X.d hk (by decide)
  obtain ⟨q0, hq⟩ := hz.1.get ha
  have hq' := hq
  rw [mE_10 hk] at hq'
  refine va_put (D := tD t) (cl := mcl) (tys := mty t) (ws := va_pl (tdom t) (mE t G)) (A := tA t) (H0 := s.heap) (ci := 9) (C := RK9) (T := TK9) (N := 30) (v := .int x) (ty := .int) X.1 X.2.1 X.ws (fun w h => GW_in (inK9 w h) (inG9 w h)) yK9 yK9_ok nmK9 X.o X.k hz.1.1 hz.1.2.1 hz.2.1 q0 hq' rfl 6 (by decide) (X.w hw) (fun _ h => h) rfl (by decide +kernel) rfl rfl (Nat.le_of_ble_eq_true rfl) hd (fun H1 locs1 hP hD hS => ?_)
  exact k H1 locs1 ls hl ⟨hz.1.set ha hq (by rw [mE_10 hk]; simp [gi, gl, gr, si, u2]) (fun b hb => mE_si hb) hP hD (fun b j h => hz.1.2.2 b j h), hS, fun h => by rw [hpu] at h; cases h⟩
theorem qg_77 {a idx : Nat} {r : Option Nat} (X : kX p s m args meth c cc nL own t) (hd : decode cc pc = .ok (.getfield idx, 3)) (hw : Cond.fieldLink own idx "TreeServerModel" "written" "I" ∈ GW) (hr : r = some a) (hk : tk t a = 10) (k : kV cs p l e R s m args below meth c Q nL t pu (pc + 3) lv (.int (gi G 77 a) :: rest) G) : kV cs p l e R s m args below meth c Q nL t pu pc lv (va_rf r :: rest) G := by
  subst hr
  intro H locs ls hl hz
  obtain ⟨q0, hq⟩ := hz.1.get (X.d hk (by decide))
  rw [mE_10 hk] at hq
  exact va_get (D := tD t) (cl := mcl) (tys := mty t) (ws := va_pl (tdom t) (mE t G)) (ci := 9) (C := RK9) (T := TK9) (N := 30) X.1 X.2.1 X.ws (fun w h => GW_in (inK9 w h) (inG9 w h)) X.o X.k hz.1.1 q0 hq rfl 7 (by decide) (X.w hw) (fun _ h => h) rfl hd (k H locs ls hl hz)
theorem qp_77 {a idx : Nat} {r : Option Nat} {x : Int32} (X : kX p s m args meth c cc nL own t) (hpu : pu = false) (hd : decode cc pc = .ok (.putfield idx, 3)) (hw : Cond.fieldLink own idx "TreeServerModel" "written" "I" ∈ GW) (hr : r = some a) (hk : tk t a = 10) (k : kV cs p l e R s m args below meth c Q nL t pu (pc + 3) lv rest (si G 77 a x)) : kV cs p l e R s m args below meth c Q nL t pu pc lv (.int x :: va_rf r :: rest) G := by
  subst hr
  intro H locs ls hl hz
  have ha := X.d hk (by decide)
  obtain ⟨q0, hq⟩ := hz.1.get ha
  have hq' := hq
  rw [mE_10 hk] at hq'
  refine va_put (D := tD t) (cl := mcl) (tys := mty t) (ws := va_pl (tdom t) (mE t G)) (A := tA t) (H0 := s.heap) (ci := 9) (C := RK9) (T := TK9) (N := 30) (v := .int x) (ty := .int) X.1 X.2.1 X.ws (fun w h => GW_in (inK9 w h) (inG9 w h)) yK9 yK9_ok nmK9 X.o X.k hz.1.1 hz.1.2.1 hz.2.1 q0 hq' rfl 7 (by decide) (X.w hw) (fun _ h => h) rfl (by decide +kernel) rfl rfl (Nat.le_of_ble_eq_true rfl) hd (fun H1 locs1 hP hD hS => ?_)
  exact k H1 locs1 ls hl ⟨hz.1.set ha hq (by rw [mE_10 hk]; simp [gi, gl, gr, si, u2]) (fun b hb => mE_si hb) hP hD (fun b j h => hz.1.2.2 b j h), hS, fun h => by rw [hpu] at h; cases h⟩
theorem qg_78 {a idx : Nat} {r : Option Nat} (X : kX p s m args meth c cc nL own t) (hd : decode cc pc = .ok (.getfield idx, 3)) (hw : Cond.fieldLink own idx "TreeServerModel" "time" "I" ∈ GW) (hr : r = some a) (hk : tk t a = 10) (k : kV cs p l e R s m args below meth c Q nL t pu (pc + 3) lv (.int (gi G 78 a) :: rest) G) : kV cs p l e R s m args below meth c Q nL t pu pc lv (va_rf r :: rest) G := by
  subst hr
  intro H locs ls hl hz
  obtain ⟨q0, hq⟩ := hz.1.get (X.d hk (by decide))
  rw [mE_10 hk] at hq
  exact va_get (D := tD t) (cl := mcl) (tys := mty t) (ws := va_pl (tdom t) (mE t G)) (ci := 9) (C := RK9) (T := TK9) (N := 30) X.1 X.2.1 X.ws (fun w h => GW_in (inK9 w h) (inG9 w h)) X.o X.k hz.1.1 q0 hq rfl 8 (by decide) (X.w hw) (fun _ h => h) rfl hd (k H locs ls hl hz)
theorem qp_78 {a idx : Nat} {r : Option Nat} {x : Int32} (X : kX p s m args meth c cc nL own t) (hpu : pu = false) (hd : decode cc pc = .ok (.putfield idx, 3)) (hw : Cond.fieldLink own idx "TreeServerModel" "time" "I" ∈ GW) (hr : r = some a) (hk : tk t a = 10) (k : kV cs p l e R s m args below meth c Q nL t pu (pc + 3) lv rest (si G 78 a x)) : kV cs p l e R s m args below meth c Q nL t pu pc lv (.int x :: va_rf r :: rest) G := by
  subst hr
  intro H locs ls hl hz
  have ha := X.d hk (by decide)
  obtain ⟨q0, hq⟩ := hz.1.get ha
  have hq' := hq
  rw [mE_10 hk] at hq'
  refine va_put (D := tD t) (cl := mcl) (tys := mty t) (ws := va_pl (tdom t) (mE t G)) (A := tA t) (H0 := s.heap) (ci := 9) (C := RK9) (T := TK9) (N := 30) (v := .int x) (ty := .int) X.1 X.2.1 X.ws (fun w h => GW_in (inK9 w h) (inG9 w h)) yK9 yK9_ok nmK9 X.o X.k hz.1.1 hz.1.2.1 hz.2.1 q0 hq' rfl 8 (by decide) (X.w hw) (fun _ h => h) rfl (by decide +kernel) rfl rfl (Nat.le_of_ble_eq_true rfl) hd (fun H1 locs1 hP hD hS => ?_)
  exact k H1 locs1 ls hl ⟨hz.1.set ha hq (by rw [mE_10 hk]; simp [gi, gl, gr, si, u2]) (fun b hb => mE_si hb) hP hD (fun b j h => hz.1.2.2 b j h), hS, fun h => by rw [hpu] at h; cases h⟩
theorem qg_79 {a idx : Nat} {r : Option Nat} (X : kX p s m args meth c cc nL own t) (hd : decode cc pc = .ok (.getfield idx, 3)) (hw : Cond.fieldLink own idx "TreeServerModel" "input" "[I" ∈ GW) (hr : r = some a) (hk : tk t a = 10) (k : kV cs p l e R s m args below meth c Q nL t pu (pc + 3) lv (va_rf (gr G 79 a) :: rest) G) : kV cs p l e R s m args below meth c Q nL t pu pc lv (va_rf r :: rest) G := by
  subst hr
  intro H locs ls hl hz
  obtain ⟨q0, hq⟩ := hz.1.get (X.d hk (by decide))
  rw [mE_10 hk] at hq
  exact va_get (D := tD t) (cl := mcl) (tys := mty t) (ws := va_pl (tdom t) (mE t G)) (ci := 9) (C := RK9) (T := TK9) (N := 30) X.1 X.2.1 X.ws (fun w h => GW_in (inK9 w h) (inG9 w h)) X.o X.k hz.1.1 q0 hq rfl 9 (by decide) (X.w hw) (fun _ h => h) rfl hd (k H locs ls hl hz)
theorem qg_80 {a idx : Nat} {r : Option Nat} (X : kX p s m args meth c cc nL own t) (hd : decode cc pc = .ok (.getfield idx, 3)) (hw : Cond.fieldLink own idx "TreeServerModel" "inSize" "[I" ∈ GW) (hr : r = some a) (hk : tk t a = 10) (k : kV cs p l e R s m args below meth c Q nL t pu (pc + 3) lv (va_rf (gr G 80 a) :: rest) G) : kV cs p l e R s m args below meth c Q nL t pu pc lv (va_rf r :: rest) G := by
  subst hr
  intro H locs ls hl hz
  obtain ⟨q0, hq⟩ := hz.1.get (X.d hk (by decide))
  rw [mE_10 hk] at hq
  exact va_get (D := tD t) (cl := mcl) (tys := mty t) (ws := va_pl (tdom t) (mE t G)) (ci := 9) (C := RK9) (T := TK9) (N := 30) X.1 X.2.1 X.ws (fun w h => GW_in (inK9 w h) (inG9 w h)) X.o X.k hz.1.1 q0 hq rfl 10 (by decide) (X.w hw) (fun _ h => h) rfl hd (k H locs ls hl hz)
theorem qg_81 {a idx : Nat} {r : Option Nat} (X : kX p s m args meth c cc nL own t) (hd : decode cc pc = .ok (.getfield idx, 3)) (hw : Cond.fieldLink own idx "TreeServerModel" "output" "[I" ∈ GW) (hr : r = some a) (hk : tk t a = 10) (k : kV cs p l e R s m args below meth c Q nL t pu (pc + 3) lv (va_rf (gr G 81 a) :: rest) G) : kV cs p l e R s m args below meth c Q nL t pu pc lv (va_rf r :: rest) G := by
  subst hr
  intro H locs ls hl hz
  obtain ⟨q0, hq⟩ := hz.1.get (X.d hk (by decide))
  rw [mE_10 hk] at hq
  exact va_get (D := tD t) (cl := mcl) (tys := mty t) (ws := va_pl (tdom t) (mE t G)) (ci := 9) (C := RK9) (T := TK9) (N := 30) X.1 X.2.1 X.ws (fun w h => GW_in (inK9 w h) (inG9 w h)) X.o X.k hz.1.1 q0 hq rfl 11 (by decide) (X.w hw) (fun _ h => h) rfl hd (k H locs ls hl hz)
theorem qg_82 {a idx : Nat} {r : Option Nat} (X : kX p s m args meth c cc nL own t) (hd : decode cc pc = .ok (.getfield idx, 3)) (hw : Cond.fieldLink own idx "TreeServerModel" "outSize" "[I" ∈ GW) (hr : r = some a) (hk : tk t a = 10) (k : kV cs p l e R s m args below meth c Q nL t pu (pc + 3) lv (va_rf (gr G 82 a) :: rest) G) : kV cs p l e R s m args below meth c Q nL t pu pc lv (va_rf r :: rest) G := by
  subst hr
  intro H locs ls hl hz
  obtain ⟨q0, hq⟩ := hz.1.get (X.d hk (by decide))
  rw [mE_10 hk] at hq
  exact va_get (D := tD t) (cl := mcl) (tys := mty t) (ws := va_pl (tdom t) (mE t G)) (ci := 9) (C := RK9) (T := TK9) (N := 30) X.1 X.2.1 X.ws (fun w h => GW_in (inK9 w h) (inG9 w h)) X.o X.k hz.1.1 q0 hq rfl 12 (by decide) (X.w hw) (fun _ h => h) rfl hd (k H locs ls hl hz)
theorem qg_83 {a idx : Nat} {r : Option Nat} (X : kX p s m args meth c cc nL own t) (hd : decode cc pc = .ok (.getfield idx, 3)) (hw : Cond.fieldLink own idx "TreeServerModel" "msize" "[I" ∈ GW) (hr : r = some a) (hk : tk t a = 10) (k : kV cs p l e R s m args below meth c Q nL t pu (pc + 3) lv (va_rf (gr G 83 a) :: rest) G) : kV cs p l e R s m args below meth c Q nL t pu pc lv (va_rf r :: rest) G := by
  subst hr
  intro H locs ls hl hz
  obtain ⟨q0, hq⟩ := hz.1.get (X.d hk (by decide))
  rw [mE_10 hk] at hq
  exact va_get (D := tD t) (cl := mcl) (tys := mty t) (ws := va_pl (tdom t) (mE t G)) (ci := 9) (C := RK9) (T := TK9) (N := 30) X.1 X.2.1 X.ws (fun w h => GW_in (inK9 w h) (inG9 w h)) X.o X.k hz.1.1 q0 hq rfl 13 (by decide) (X.w hw) (fun _ h => h) rfl hd (k H locs ls hl hz)
theorem qg_84 {a idx : Nat} {r : Option Nat} (X : kX p s m args meth c cc nL own t) (hd : decode cc pc = .ok (.getfield idx, 3)) (hw : Cond.fieldLink own idx "TreeServerModel" "agreed" "[Z" ∈ GW) (hr : r = some a) (hk : tk t a = 10) (k : kV cs p l e R s m args below meth c Q nL t pu (pc + 3) lv (va_rf (gr G 84 a) :: rest) G) : kV cs p l e R s m args below meth c Q nL t pu pc lv (va_rf r :: rest) G := by
  subst hr
  intro H locs ls hl hz
  obtain ⟨q0, hq⟩ := hz.1.get (X.d hk (by decide))
  rw [mE_10 hk] at hq
  exact va_get (D := tD t) (cl := mcl) (tys := mty t) (ws := va_pl (tdom t) (mE t G)) (ci := 9) (C := RK9) (T := TK9) (N := 30) X.1 X.2.1 X.ws (fun w h => GW_in (inK9 w h) (inG9 w h)) X.o X.k hz.1.1 q0 hq rfl 14 (by decide) (X.w hw) (fun _ h => h) rfl hd (k H locs ls hl hz)
theorem qg_85 {a idx : Nat} {r : Option Nat} (X : kX p s m args meth c cc nL own t) (hd : decode cc pc = .ok (.getfield idx, 3)) (hw : Cond.fieldLink own idx "TreeServerModel" "broken" "[Z" ∈ GW) (hr : r = some a) (hk : tk t a = 10) (k : kV cs p l e R s m args below meth c Q nL t pu (pc + 3) lv (va_rf (gr G 85 a) :: rest) G) : kV cs p l e R s m args below meth c Q nL t pu pc lv (va_rf r :: rest) G := by
  subst hr
  intro H locs ls hl hz
  obtain ⟨q0, hq⟩ := hz.1.get (X.d hk (by decide))
  rw [mE_10 hk] at hq
  exact va_get (D := tD t) (cl := mcl) (tys := mty t) (ws := va_pl (tdom t) (mE t G)) (ci := 9) (C := RK9) (T := TK9) (N := 30) X.1 X.2.1 X.ws (fun w h => GW_in (inK9 w h) (inG9 w h)) X.o X.k hz.1.1 q0 hq rfl 15 (by decide) (X.w hw) (fun _ h => h) rfl hd (k H locs ls hl hz)
theorem qg_86 {a idx : Nat} {r : Option Nat} (X : kX p s m args meth c cc nL own t) (hd : decode cc pc = .ok (.getfield idx, 3)) (hw : Cond.fieldLink own idx "TreeServerModel" "used" "[Z" ∈ GW) (hr : r = some a) (hk : tk t a = 10) (k : kV cs p l e R s m args below meth c Q nL t pu (pc + 3) lv (va_rf (gr G 86 a) :: rest) G) : kV cs p l e R s m args below meth c Q nL t pu pc lv (va_rf r :: rest) G := by
  subst hr
  intro H locs ls hl hz
  obtain ⟨q0, hq⟩ := hz.1.get (X.d hk (by decide))
  rw [mE_10 hk] at hq
  exact va_get (D := tD t) (cl := mcl) (tys := mty t) (ws := va_pl (tdom t) (mE t G)) (ci := 9) (C := RK9) (T := TK9) (N := 30) X.1 X.2.1 X.ws (fun w h => GW_in (inK9 w h) (inG9 w h)) X.o X.k hz.1.1 q0 hq rfl 16 (by decide) (X.w hw) (fun _ h => h) rfl hd (k H locs ls hl hz)
theorem qg_87 {a idx : Nat} {r : Option Nat} (X : kX p s m args meth c cc nL own t) (hd : decode cc pc = .ok (.getfield idx, 3)) (hw : Cond.fieldLink own idx "TreeServerModel" "number" "[J" ∈ GW) (hr : r = some a) (hk : tk t a = 10) (k : kV cs p l e R s m args below meth c Q nL t pu (pc + 3) lv (va_rf (gr G 87 a) :: rest) G) : kV cs p l e R s m args below meth c Q nL t pu pc lv (va_rf r :: rest) G := by
  subst hr
  intro H locs ls hl hz
  obtain ⟨q0, hq⟩ := hz.1.get (X.d hk (by decide))
  rw [mE_10 hk] at hq
  exact va_get (D := tD t) (cl := mcl) (tys := mty t) (ws := va_pl (tdom t) (mE t G)) (ci := 9) (C := RK9) (T := TK9) (N := 30) X.1 X.2.1 X.ws (fun w h => GW_in (inK9 w h) (inG9 w h)) X.o X.k hz.1.1 q0 hq rfl 17 (by decide) (X.w hw) (fun _ h => h) rfl hd (k H locs ls hl hz)
theorem qg_88 {a idx : Nat} {r : Option Nat} (X : kX p s m args meth c cc nL own t) (hd : decode cc pc = .ok (.getfield idx, 3)) (hw : Cond.fieldLink own idx "TreeServerModel" "node" "[I" ∈ GW) (hr : r = some a) (hk : tk t a = 10) (k : kV cs p l e R s m args below meth c Q nL t pu (pc + 3) lv (va_rf (gr G 88 a) :: rest) G) : kV cs p l e R s m args below meth c Q nL t pu pc lv (va_rf r :: rest) G := by
  subst hr
  intro H locs ls hl hz
  obtain ⟨q0, hq⟩ := hz.1.get (X.d hk (by decide))
  rw [mE_10 hk] at hq
  exact va_get (D := tD t) (cl := mcl) (tys := mty t) (ws := va_pl (tdom t) (mE t G)) (ci := 9) (C := RK9) (T := TK9) (N := 30) X.1 X.2.1 X.ws (fun w h => GW_in (inK9 w h) (inG9 w h)) X.o X.k hz.1.1 q0 hq rfl 18 (by decide) (X.w hw) (fun _ h => h) rfl hd (k H locs ls hl hz)
theorem qg_89 {a idx : Nat} {r : Option Nat} (X : kX p s m args meth c cc nL own t) (hd : decode cc pc = .ok (.getfield idx, 3)) (hw : Cond.fieldLink own idx "TreeServerModel" "user" "[I" ∈ GW) (hr : r = some a) (hk : tk t a = 10) (k : kV cs p l e R s m args below meth c Q nL t pu (pc + 3) lv (va_rf (gr G 89 a) :: rest) G) : kV cs p l e R s m args below meth c Q nL t pu pc lv (va_rf r :: rest) G := by
  subst hr
  intro H locs ls hl hz
  obtain ⟨q0, hq⟩ := hz.1.get (X.d hk (by decide))
  rw [mE_10 hk] at hq
  exact va_get (D := tD t) (cl := mcl) (tys := mty t) (ws := va_pl (tdom t) (mE t G)) (ci := 9) (C := RK9) (T := TK9) (N := 30) X.1 X.2.1 X.ws (fun w h => GW_in (inK9 w h) (inG9 w h)) X.o X.k hz.1.1 q0 hq rfl 19 (by decide) (X.w hw) (fun _ h => h) rfl hd (k H locs ls hl hz)
theorem qg_90 {a idx : Nat} {r : Option Nat} (X : kX p s m args meth c cc nL own t) (hd : decode cc pc = .ok (.getfield idx, 3)) (hw : Cond.fieldLink own idx "TreeServerModel" "mode" "[I" ∈ GW) (hr : r = some a) (hk : tk t a = 10) (k : kV cs p l e R s m args below meth c Q nL t pu (pc + 3) lv (va_rf (gr G 90 a) :: rest) G) : kV cs p l e R s m args below meth c Q nL t pu pc lv (va_rf r :: rest) G := by
  subst hr
  intro H locs ls hl hz
  obtain ⟨q0, hq⟩ := hz.1.get (X.d hk (by decide))
  rw [mE_10 hk] at hq
  exact va_get (D := tD t) (cl := mcl) (tys := mty t) (ws := va_pl (tdom t) (mE t G)) (ci := 9) (C := RK9) (T := TK9) (N := 30) X.1 X.2.1 X.ws (fun w h => GW_in (inK9 w h) (inG9 w h)) X.o X.k hz.1.1 q0 hq rfl 20 (by decide) (X.w hw) (fun _ h => h) rfl hd (k H locs ls hl hz)
theorem qg_91 {a idx : Nat} {r : Option Nat} (X : kX p s m args meth c cc nL own t) (hd : decode cc pc = .ok (.getfield idx, 3)) (hw : Cond.fieldLink own idx "TreeServerModel" "removes" "[Z" ∈ GW) (hr : r = some a) (hk : tk t a = 10) (k : kV cs p l e R s m args below meth c Q nL t pu (pc + 3) lv (va_rf (gr G 91 a) :: rest) G) : kV cs p l e R s m args below meth c Q nL t pu pc lv (va_rf r :: rest) G := by
  subst hr
  intro H locs ls hl hz
  obtain ⟨q0, hq⟩ := hz.1.get (X.d hk (by decide))
  rw [mE_10 hk] at hq
  exact va_get (D := tD t) (cl := mcl) (tys := mty t) (ws := va_pl (tdom t) (mE t G)) (ci := 9) (C := RK9) (T := TK9) (N := 30) X.1 X.2.1 X.ws (fun w h => GW_in (inK9 w h) (inG9 w h)) X.o X.k hz.1.1 q0 hq rfl 21 (by decide) (X.w hw) (fun _ h => h) rfl hd (k H locs ls hl hz)
theorem qg_92 {a idx : Nat} {r : Option Nat} (X : kX p s m args meth c cc nL own t) (hd : decode cc pc = .ok (.getfield idx, 3)) (hw : Cond.fieldLink own idx "TreeServerModel" "readTo" "[J" ∈ GW) (hr : r = some a) (hk : tk t a = 10) (k : kV cs p l e R s m args below meth c Q nL t pu (pc + 3) lv (va_rf (gr G 92 a) :: rest) G) : kV cs p l e R s m args below meth c Q nL t pu pc lv (va_rf r :: rest) G := by
  subst hr
  intro H locs ls hl hz
  obtain ⟨q0, hq⟩ := hz.1.get (X.d hk (by decide))
  rw [mE_10 hk] at hq
  exact va_get (D := tD t) (cl := mcl) (tys := mty t) (ws := va_pl (tdom t) (mE t G)) (ci := 9) (C := RK9) (T := TK9) (N := 30) X.1 X.2.1 X.ws (fun w h => GW_in (inK9 w h) (inG9 w h)) X.o X.k hz.1.1 q0 hq rfl 22 (by decide) (X.w hw) (fun _ h => h) rfl hd (k H locs ls hl hz)
theorem qg_93 {a idx : Nat} {r : Option Nat} (X : kX p s m args meth c cc nL own t) (hd : decode cc pc = .ok (.getfield idx, 3)) (hw : Cond.fieldLink own idx "TreeServerModel" "readLast" "[I" ∈ GW) (hr : r = some a) (hk : tk t a = 10) (k : kV cs p l e R s m args below meth c Q nL t pu (pc + 3) lv (va_rf (gr G 93 a) :: rest) G) : kV cs p l e R s m args below meth c Q nL t pu pc lv (va_rf r :: rest) G := by
  subst hr
  intro H locs ls hl hz
  obtain ⟨q0, hq⟩ := hz.1.get (X.d hk (by decide))
  rw [mE_10 hk] at hq
  exact va_get (D := tD t) (cl := mcl) (tys := mty t) (ws := va_pl (tdom t) (mE t G)) (ci := 9) (C := RK9) (T := TK9) (N := 30) X.1 X.2.1 X.ws (fun w h => GW_in (inK9 w h) (inG9 w h)) X.o X.k hz.1.1 q0 hq rfl 23 (by decide) (X.w hw) (fun _ h => h) rfl hd (k H locs ls hl hz)
theorem qg_94 {a idx : Nat} {r : Option Nat} (X : kX p s m args meth c cc nL own t) (hd : decode cc pc = .ok (.getfield idx, 3)) (hw : Cond.fieldLink own idx "TreeServerModel" "message" "[I" ∈ GW) (hr : r = some a) (hk : tk t a = 10) (k : kV cs p l e R s m args below meth c Q nL t pu (pc + 3) lv (va_rf (gr G 94 a) :: rest) G) : kV cs p l e R s m args below meth c Q nL t pu pc lv (va_rf r :: rest) G := by
  subst hr
  intro H locs ls hl hz
  obtain ⟨q0, hq⟩ := hz.1.get (X.d hk (by decide))
  rw [mE_10 hk] at hq
  exact va_get (D := tD t) (cl := mcl) (tys := mty t) (ws := va_pl (tdom t) (mE t G)) (ci := 9) (C := RK9) (T := TK9) (N := 30) X.1 X.2.1 X.ws (fun w h => GW_in (inK9 w h) (inG9 w h)) X.o X.k hz.1.1 q0 hq rfl 24 (by decide) (X.w hw) (fun _ h => h) rfl hd (k H locs ls hl hz)
theorem qg_95 {a idx : Nat} {r : Option Nat} (X : kX p s m args meth c cc nL own t) (hd : decode cc pc = .ok (.getfield idx, 3)) (hw : Cond.fieldLink own idx "TreeServerModel" "size" "I" ∈ GW) (hr : r = some a) (hk : tk t a = 10) (k : kV cs p l e R s m args below meth c Q nL t pu (pc + 3) lv (.int (gi G 95 a) :: rest) G) : kV cs p l e R s m args below meth c Q nL t pu pc lv (va_rf r :: rest) G := by
  subst hr
  intro H locs ls hl hz
  obtain ⟨q0, hq⟩ := hz.1.get (X.d hk (by decide))
  rw [mE_10 hk] at hq
  exact va_get (D := tD t) (cl := mcl) (tys := mty t) (ws := va_pl (tdom t) (mE t G)) (ci := 9) (C := RK9) (T := TK9) (N := 30) X.1 X.2.1 X.ws (fun w h => GW_in (inK9 w h) (inG9 w h)) X.o X.k hz.1.1 q0 hq rfl 25 (by decide) (X.w hw) (fun _ h => h) rfl hd (k H locs ls hl hz)
theorem qp_95 {a idx : Nat} {r : Option Nat} {x : Int32} (X : kX p s m args meth c cc nL own t) (hpu : pu = false) (hd : decode cc pc = .ok (.putfield idx, 3)) (hw : Cond.fieldLink own idx "TreeServerModel" "size" "I" ∈ GW) (hr : r = some a) (hk : tk t a = 10) (k : kV cs p l e R s m args below meth c Q nL t pu (pc + 3) lv rest (si G 95 a x)) : kV cs p l e R s m args below meth c Q nL t pu pc lv (.int x :: va_rf r :: rest) G := by
  subst hr
  intro H locs ls hl hz
  have ha := X.d hk (by decide)
  obtain ⟨q0, hq⟩ := hz.1.get ha
  have hq' := hq
  rw [mE_10 hk] at hq'
  refine va_put (D := tD t) (cl := mcl) (tys := mty t) (ws := va_pl (tdom t) (mE t G)) (A := tA t) (H0 := s.heap) (ci := 9) (C := RK9) (T := TK9) (N := 30) (v := .int x) (ty := .int) X.1 X.2.1 X.ws (fun w h => GW_in (inK9 w h) (inG9 w h)) yK9 yK9_ok nmK9 X.o X.k hz.1.1 hz.1.2.1 hz.2.1 q0 hq' rfl 25 (by decide) (X.w hw) (fun _ h => h) rfl (by decide +kernel) rfl rfl (Nat.le_of_ble_eq_true rfl) hd (fun H1 locs1 hP hD hS => ?_)
  exact k H1 locs1 ls hl ⟨hz.1.set ha hq (by rw [mE_10 hk]; simp [gi, gl, gr, si, u2]) (fun b hb => mE_si hb) hP hD (fun b j h => hz.1.2.2 b j h), hS, fun h => by rw [hpu] at h; cases h⟩
theorem qg_96 {a idx : Nat} {r : Option Nat} (X : kX p s m args meth c cc nL own t) (hd : decode cc pc = .ok (.getfield idx, 3)) (hw : Cond.fieldLink own idx "TreeServerModel" "answer" "[I" ∈ GW) (hr : r = some a) (hk : tk t a = 10) (k : kV cs p l e R s m args below meth c Q nL t pu (pc + 3) lv (va_rf (gr G 96 a) :: rest) G) : kV cs p l e R s m args below meth c Q nL t pu pc lv (va_rf r :: rest) G := by
  subst hr
  intro H locs ls hl hz
  obtain ⟨q0, hq⟩ := hz.1.get (X.d hk (by decide))
  rw [mE_10 hk] at hq
  exact va_get (D := tD t) (cl := mcl) (tys := mty t) (ws := va_pl (tdom t) (mE t G)) (ci := 9) (C := RK9) (T := TK9) (N := 30) X.1 X.2.1 X.ws (fun w h => GW_in (inK9 w h) (inG9 w h)) X.o X.k hz.1.1 q0 hq rfl 26 (by decide) (X.w hw) (fun _ h => h) rfl hd (k H locs ls hl hz)
theorem qg_97 {a idx : Nat} {r : Option Nat} (X : kX p s m args meth c cc nL own t) (hd : decode cc pc = .ok (.getfield idx, 3)) (hw : Cond.fieldLink own idx "TreeServerModel" "made" "I" ∈ GW) (hr : r = some a) (hk : tk t a = 10) (k : kV cs p l e R s m args below meth c Q nL t pu (pc + 3) lv (.int (gi G 97 a) :: rest) G) : kV cs p l e R s m args below meth c Q nL t pu pc lv (va_rf r :: rest) G := by
  subst hr
  intro H locs ls hl hz
  obtain ⟨q0, hq⟩ := hz.1.get (X.d hk (by decide))
  rw [mE_10 hk] at hq
  exact va_get (D := tD t) (cl := mcl) (tys := mty t) (ws := va_pl (tdom t) (mE t G)) (ci := 9) (C := RK9) (T := TK9) (N := 30) X.1 X.2.1 X.ws (fun w h => GW_in (inK9 w h) (inG9 w h)) X.o X.k hz.1.1 q0 hq rfl 27 (by decide) (X.w hw) (fun _ h => h) rfl hd (k H locs ls hl hz)
theorem qp_97 {a idx : Nat} {r : Option Nat} {x : Int32} (X : kX p s m args meth c cc nL own t) (hpu : pu = false) (hd : decode cc pc = .ok (.putfield idx, 3)) (hw : Cond.fieldLink own idx "TreeServerModel" "made" "I" ∈ GW) (hr : r = some a) (hk : tk t a = 10) (k : kV cs p l e R s m args below meth c Q nL t pu (pc + 3) lv rest (si G 97 a x)) : kV cs p l e R s m args below meth c Q nL t pu pc lv (.int x :: va_rf r :: rest) G := by
  subst hr
  intro H locs ls hl hz
  have ha := X.d hk (by decide)
  obtain ⟨q0, hq⟩ := hz.1.get ha
  have hq' := hq
  rw [mE_10 hk] at hq'
  refine va_put (D := tD t) (cl := mcl) (tys := mty t) (ws := va_pl (tdom t) (mE t G)) (A := tA t) (H0 := s.heap) (ci := 9) (C := RK9) (T := TK9) (N := 30) (v := .int x) (ty := .int) X.1 X.2.1 X.ws (fun w h => GW_in (inK9 w h) (inG9 w h)) yK9 yK9_ok nmK9 X.o X.k hz.1.1 hz.1.2.1 hz.2.1 q0 hq' rfl 27 (by decide) (X.w hw) (fun _ h => h) rfl (by decide +kernel) rfl rfl (Nat.le_of_ble_eq_true rfl) hd (fun H1 locs1 hP hD hS => ?_)
  exact k H1 locs1 ls hl ⟨hz.1.set ha hq (by rw [mE_10 hk]; simp [gi, gl, gr, si, u2]) (fun b hb => mE_si hb) hP hD (fun b j h => hz.1.2.2 b j h), hS, fun h => by rw [hpu] at h; cases h⟩
theorem qg_98 {a idx : Nat} {r : Option Nat} (X : kX p s m args meth c cc nL own t) (hd : decode cc pc = .ok (.getfield idx, 3)) (hw : Cond.fieldLink own idx "TreeServerModel" "error" "J" ∈ GW) (hr : r = some a) (hk : tk t a = 10) (k : kV cs p l e R s m args below meth c Q nL t pu (pc + 3) lv (.long (gl G 98 a) :: rest) G) : kV cs p l e R s m args below meth c Q nL t pu pc lv (va_rf r :: rest) G := by
  subst hr
  intro H locs ls hl hz
  obtain ⟨q0, hq⟩ := hz.1.get (X.d hk (by decide))
  rw [mE_10 hk] at hq
  exact va_get (D := tD t) (cl := mcl) (tys := mty t) (ws := va_pl (tdom t) (mE t G)) (ci := 9) (C := RK9) (T := TK9) (N := 30) X.1 X.2.1 X.ws (fun w h => GW_in (inK9 w h) (inG9 w h)) X.o X.k hz.1.1 q0 hq rfl 28 (by decide) (X.w hw) (fun _ h => h) rfl hd (k H locs ls hl hz)
theorem qp_98 {a idx : Nat} {r : Option Nat} {x : Int64} (X : kX p s m args meth c cc nL own t) (hpu : pu = false) (hd : decode cc pc = .ok (.putfield idx, 3)) (hw : Cond.fieldLink own idx "TreeServerModel" "error" "J" ∈ GW) (hr : r = some a) (hk : tk t a = 10) (k : kV cs p l e R s m args below meth c Q nL t pu (pc + 3) lv rest (sl G 98 a x)) : kV cs p l e R s m args below meth c Q nL t pu pc lv (.long x :: va_rf r :: rest) G := by
  subst hr
  intro H locs ls hl hz
  have ha := X.d hk (by decide)
  obtain ⟨q0, hq⟩ := hz.1.get ha
  have hq' := hq
  rw [mE_10 hk] at hq'
  refine va_put (D := tD t) (cl := mcl) (tys := mty t) (ws := va_pl (tdom t) (mE t G)) (A := tA t) (H0 := s.heap) (ci := 9) (C := RK9) (T := TK9) (N := 30) (v := .long x) (ty := .long) X.1 X.2.1 X.ws (fun w h => GW_in (inK9 w h) (inG9 w h)) yK9 yK9_ok nmK9 X.o X.k hz.1.1 hz.1.2.1 hz.2.1 q0 hq' rfl 28 (by decide) (X.w hw) (fun _ h => h) rfl (by decide +kernel) rfl rfl (Nat.le_of_ble_eq_true rfl) hd (fun H1 locs1 hP hD hS => ?_)
  exact k H1 locs1 ls hl ⟨hz.1.set ha hq (by rw [mE_10 hk]; simp [gi, gl, gr, sl, u2]) (fun b hb => mE_sl hb) hP hD (fun b j h => hz.1.2.2 b j h), hS, fun h => by rw [hpu] at h; cases h⟩
theorem qg_99 {a idx : Nat} {r : Option Nat} (X : kX p s m args meth c cc nL own t) (hd : decode cc pc = .ok (.getfield idx, 3)) (hw : Cond.fieldLink own idx "TreeServerModel" "who" "I" ∈ GW) (hr : r = some a) (hk : tk t a = 10) (k : kV cs p l e R s m args below meth c Q nL t pu (pc + 3) lv (.int (gi G 99 a) :: rest) G) : kV cs p l e R s m args below meth c Q nL t pu pc lv (va_rf r :: rest) G := by
  subst hr
  intro H locs ls hl hz
  obtain ⟨q0, hq⟩ := hz.1.get (X.d hk (by decide))
  rw [mE_10 hk] at hq
  exact va_get (D := tD t) (cl := mcl) (tys := mty t) (ws := va_pl (tdom t) (mE t G)) (ci := 9) (C := RK9) (T := TK9) (N := 30) X.1 X.2.1 X.ws (fun w h => GW_in (inK9 w h) (inG9 w h)) X.o X.k hz.1.1 q0 hq rfl 29 (by decide) (X.w hw) (fun _ h => h) rfl hd (k H locs ls hl hz)
theorem qp_99 {a idx : Nat} {r : Option Nat} {x : Int32} (X : kX p s m args meth c cc nL own t) (hpu : pu = false) (hd : decode cc pc = .ok (.putfield idx, 3)) (hw : Cond.fieldLink own idx "TreeServerModel" "who" "I" ∈ GW) (hr : r = some a) (hk : tk t a = 10) (k : kV cs p l e R s m args below meth c Q nL t pu (pc + 3) lv rest (si G 99 a x)) : kV cs p l e R s m args below meth c Q nL t pu pc lv (.int x :: va_rf r :: rest) G := by
  subst hr
  intro H locs ls hl hz
  have ha := X.d hk (by decide)
  obtain ⟨q0, hq⟩ := hz.1.get ha
  have hq' := hq
  rw [mE_10 hk] at hq'
  refine va_put (D := tD t) (cl := mcl) (tys := mty t) (ws := va_pl (tdom t) (mE t G)) (A := tA t) (H0 := s.heap) (ci := 9) (C := RK9) (T := TK9) (N := 30) (v := .int x) (ty := .int) X.1 X.2.1 X.ws (fun w h => GW_in (inK9 w h) (inG9 w h)) yK9 yK9_ok nmK9 X.o X.k hz.1.1 hz.1.2.1 hz.2.1 q0 hq' rfl 29 (by decide) (X.w hw) (fun _ h => h) rfl (by decide +kernel) rfl rfl (Nat.le_of_ble_eq_true rfl) hd (fun H1 locs1 hP hD hS => ?_)
  exact k H1 locs1 ls hl ⟨hz.1.set ha hq (by rw [mE_10 hk]; simp [gi, gl, gr, si, u2]) (fun b hb => mE_si hb) hP hD (fun b j h => hz.1.2.2 b j h), hS, fun h => by rw [hpu] at h; cases h⟩
theorem qa_iald {a : Nat} {r : Option Nat} {i : Int32} (X : kX p s m args meth c cc nL own t) (hd : decode cc pc = .ok (.iaload, 1)) (hr : r = some a) (hk : tk t a = 50) (hin : vp_in i (tn t a)) (k : kV cs p l e R s m args below meth c Q nL t pu (pc + 1) lv (.int (ai G a i.toNatClampNeg) :: rest) G) : kV cs p l e R s m args below meth c Q nL t pu pc lv (.int i :: va_rf r :: rest) G := by
  subst hr
  intro H locs ls hl hz
  have ha := X.d hk (by decide)
  obtain ⟨q0, hq⟩ := hz.1.get ha
  have hq' := hq
  rw [mE_50 hk] at hq'
  exact va_iald (D := tD t) (cl := mcl) (tys := mty t) (ws := va_pl (tdom t) (mE t G)) X.1 X.2.1 X.k hz.1.1 q0 0 hq' rfl hin hd (k H locs ls hl hz)
theorem qa_bald {a : Nat} {r : Option Nat} {i : Int32} (X : kX p s m args meth c cc nL own t) (hd : decode cc pc = .ok (.baload, 1)) (hr : r = some a) (hk : tk t a = 51) (hin : vp_in i (tn t a)) (k : kV cs p l e R s m args below meth c Q nL t pu (pc + 1) lv (.int (ai G a i.toNatClampNeg) :: rest) G) : kV cs p l e R s m args below meth c Q nL t pu pc lv (.int i :: va_rf r :: rest) G := by
  subst hr
  intro H locs ls hl hz
  have ha := X.d hk (by decide)
  obtain ⟨q0, hq⟩ := hz.1.get ha
  have hq' := hq
  rw [mE_51 hk] at hq'
  exact va_bald (D := tD t) (cl := mcl) (tys := mty t) (ws := va_pl (tdom t) (mE t G)) X.1 X.2.1 X.k hz.1.1 q0 1 hq' rfl hin hd (k H locs ls hl hz)
theorem qa_zald {a : Nat} {r : Option Nat} {i : Int32} (X : kX p s m args meth c cc nL own t) (hd : decode cc pc = .ok (.baload, 1)) (hr : r = some a) (hk : tk t a = 52) (hin : vp_in i (tn t a)) (k : kV cs p l e R s m args below meth c Q nL t pu (pc + 1) lv (.int (ai G a i.toNatClampNeg) :: rest) G) : kV cs p l e R s m args below meth c Q nL t pu pc lv (.int i :: va_rf r :: rest) G := by
  subst hr
  intro H locs ls hl hz
  have ha := X.d hk (by decide)
  obtain ⟨q0, hq⟩ := hz.1.get ha
  have hq' := hq
  rw [mE_52 hk] at hq'
  exact va_zald (D := tD t) (cl := mcl) (tys := mty t) (ws := va_pl (tdom t) (mE t G)) X.1 X.2.1 X.k hz.1.1 q0 2 hq' rfl hin hd (k H locs ls hl hz)
theorem qa_lald {a : Nat} {r : Option Nat} {i : Int32} (X : kX p s m args meth c cc nL own t) (hd : decode cc pc = .ok (.laload, 1)) (hr : r = some a) (hk : tk t a = 53) (hin : vp_in i (tn t a)) (k : kV cs p l e R s m args below meth c Q nL t pu (pc + 1) lv (.long (al G a i.toNatClampNeg) :: rest) G) : kV cs p l e R s m args below meth c Q nL t pu pc lv (.int i :: va_rf r :: rest) G := by
  subst hr
  intro H locs ls hl hz
  have ha := X.d hk (by decide)
  obtain ⟨q0, hq⟩ := hz.1.get ha
  have hq' := hq
  rw [mE_53 hk] at hq'
  exact va_lald (D := tD t) (cl := mcl) (tys := mty t) (ws := va_pl (tdom t) (mE t G)) X.1 X.2.1 X.k hz.1.1 q0 3 hq' rfl hin hd (k H locs ls hl hz)
theorem qa_aald54 {a : Nat} {r : Option Nat} {i : Int32} (X : kX p s m args meth c cc nL own t) (hd : decode cc pc = .ok (.aaload, 1)) (hr : r = some a) (hk : tk t a = 54) (hin : vp_in i (tn t a)) (k : kV cs p l e R s m args below meth c Q nL t pu (pc + 1) lv (va_rf (ar G a i.toNatClampNeg) :: rest) G) : kV cs p l e R s m args below meth c Q nL t pu pc lv (.int i :: va_rf r :: rest) G := by
  subst hr
  intro H locs ls hl hz
  have ha := X.d hk (by decide)
  obtain ⟨q0, hq⟩ := hz.1.get ha
  have hq' := hq
  rw [mE_54 hk] at hq'
  exact va_aldq (D := tD t) (cl := mcl) (tys := mty t) (ws := va_pl (tdom t) (mE t G)) X.1 X.2.1 X.k hz.1.1 q0 4 hq' rfl hin hd (k H locs ls hl hz)
theorem qa_aald55 {a : Nat} {r : Option Nat} {i : Int32} (X : kX p s m args meth c cc nL own t) (hd : decode cc pc = .ok (.aaload, 1)) (hr : r = some a) (hk : tk t a = 55) (hin : vp_in i (tn t a)) (k : kV cs p l e R s m args below meth c Q nL t pu (pc + 1) lv (va_rf (ar G a i.toNatClampNeg) :: rest) G) : kV cs p l e R s m args below meth c Q nL t pu pc lv (.int i :: va_rf r :: rest) G := by
  subst hr
  intro H locs ls hl hz
  have ha := X.d hk (by decide)
  obtain ⟨q0, hq⟩ := hz.1.get ha
  have hq' := hq
  rw [mE_55 hk] at hq'
  exact va_aldq (D := tD t) (cl := mcl) (tys := mty t) (ws := va_pl (tdom t) (mE t G)) X.1 X.2.1 X.k hz.1.1 q0 5 hq' rfl hin hd (k H locs ls hl hz)
theorem qa_aald56 {a : Nat} {r : Option Nat} {i : Int32} (X : kX p s m args meth c cc nL own t) (hd : decode cc pc = .ok (.aaload, 1)) (hr : r = some a) (hk : tk t a = 56) (hin : vp_in i (tn t a)) (k : kV cs p l e R s m args below meth c Q nL t pu (pc + 1) lv (va_rf (ar G a i.toNatClampNeg) :: rest) G) : kV cs p l e R s m args below meth c Q nL t pu pc lv (.int i :: va_rf r :: rest) G := by
  subst hr
  intro H locs ls hl hz
  have ha := X.d hk (by decide)
  obtain ⟨q0, hq⟩ := hz.1.get ha
  have hq' := hq
  rw [mE_56 hk] at hq'
  exact va_aldq (D := tD t) (cl := mcl) (tys := mty t) (ws := va_pl (tdom t) (mE t G)) X.1 X.2.1 X.k hz.1.1 q0 6 hq' rfl hin hd (k H locs ls hl hz)
theorem qa_iast {a : Nat} {r : Option Nat} {i : Int32} {x : Int32} (X : kX p s m args meth c cc nL own t) (hpu : pu = false) (hd : decode cc pc = .ok (.iastore, 1)) (hr : r = some a) (hk : tk t a = 50) (hin : vp_in i (tn t a)) (k : kV cs p l e R s m args below meth c Q nL t pu (pc + 1) lv rest (ais G a i.toNatClampNeg x)) : kV cs p l e R s m args below meth c Q nL t pu pc lv (.int x :: .int i :: va_rf r :: rest) G := by
  subst hr
  intro H locs ls hl hz
  have ha := X.d hk (by decide)
  obtain ⟨q0, hq⟩ := hz.1.get ha
  have hq' := hq
  rw [mE_50 hk] at hq'
  refine va_iast (D := tD t) (cl := mcl) (tys := mty t) (ws := va_pl (tdom t) (mE t G)) (A := tA t) (H0 := s.heap) X.1 X.2.1 X.k hz.1.1 hz.1.2.1 hz.2.1 q0 0 hq' rfl hin hd (fun H1 locs1 hP hD hS => ?_)
  exact k H1 locs1 ls hl ⟨hz.1.set ha hq (by rw [mE_50 hk, ais_row]) (fun b hb => mE_ais hb) hP hD (fit_ais hz.1.2.2 (fun h => by rw [hk] at h; cases h)), hS, fun h => by rw [hpu] at h; cases h⟩
theorem qa_bast {a : Nat} {r : Option Nat} {i : Int32} {x : Int32} (X : kX p s m args meth c cc nL own t) (hpu : pu = false) (hd : decode cc pc = .ok (.bastore, 1)) (hr : r = some a) (hk : tk t a = 51) (hin : vp_in i (tn t a)) (k : kV cs p l e R s m args below meth c Q nL t pu (pc + 1) lv rest (ais G a i.toNatClampNeg (vp_nar .byte x))) : kV cs p l e R s m args below meth c Q nL t pu pc lv (.int x :: .int i :: va_rf r :: rest) G := by
  subst hr
  intro H locs ls hl hz
  have ha := X.d hk (by decide)
  obtain ⟨q0, hq⟩ := hz.1.get ha
  have hq' := hq
  rw [mE_51 hk] at hq'
  refine va_bast (D := tD t) (cl := mcl) (tys := mty t) (ws := va_pl (tdom t) (mE t G)) (A := tA t) (H0 := s.heap) X.1 X.2.1 X.k hz.1.1 hz.1.2.1 hz.2.1 q0 1 hq' rfl hin hd (fun H1 locs1 hP hD hS => ?_)
  exact k H1 locs1 ls hl ⟨hz.1.set ha hq (by rw [mE_51 hk, ais_row]) (fun b hb => mE_ais hb) hP hD (fit_ais hz.1.2.2 (fun _ => fit_nar x)), hS, fun h => by rw [hpu] at h; cases h⟩
theorem qa_zast {a : Nat} {r : Option Nat} {i : Int32} {x : Int32} (X : kX p s m args meth c cc nL own t) (hpu : pu = false) (hd : decode cc pc = .ok (.bastore, 1)) (hr : r = some a) (hk : tk t a = 52) (hin : vp_in i (tn t a)) (k : kV cs p l e R s m args below meth c Q nL t pu (pc + 1) lv rest (ais G a i.toNatClampNeg (vp_nar .boolean x))) : kV cs p l e R s m args below meth c Q nL t pu pc lv (.int x :: .int i :: va_rf r :: rest) G := by
  subst hr
  intro H locs ls hl hz
  have ha := X.d hk (by decide)
  obtain ⟨q0, hq⟩ := hz.1.get ha
  have hq' := hq
  rw [mE_52 hk] at hq'
  refine va_zast (D := tD t) (cl := mcl) (tys := mty t) (ws := va_pl (tdom t) (mE t G)) (A := tA t) (H0 := s.heap) X.1 X.2.1 X.k hz.1.1 hz.1.2.1 hz.2.1 q0 2 hq' rfl hin hd (fun H1 locs1 hP hD hS => ?_)
  exact k H1 locs1 ls hl ⟨hz.1.set ha hq (by rw [mE_52 hk, ais_row]) (fun b hb => mE_ais hb) hP hD (fit_ais hz.1.2.2 (fun h => by rw [hk] at h; cases h)), hS, fun h => by rw [hpu] at h; cases h⟩
theorem qa_last {a : Nat} {r : Option Nat} {i : Int32} {x : Int64} (X : kX p s m args meth c cc nL own t) (hpu : pu = false) (hd : decode cc pc = .ok (.lastore, 1)) (hr : r = some a) (hk : tk t a = 53) (hin : vp_in i (tn t a)) (k : kV cs p l e R s m args below meth c Q nL t pu (pc + 1) lv rest (als G a i.toNatClampNeg x)) : kV cs p l e R s m args below meth c Q nL t pu pc lv (.long x :: .int i :: va_rf r :: rest) G := by
  subst hr
  intro H locs ls hl hz
  have ha := X.d hk (by decide)
  obtain ⟨q0, hq⟩ := hz.1.get ha
  have hq' := hq
  rw [mE_53 hk] at hq'
  refine va_last (D := tD t) (cl := mcl) (tys := mty t) (ws := va_pl (tdom t) (mE t G)) (A := tA t) (H0 := s.heap) X.1 X.2.1 X.k hz.1.1 hz.1.2.1 hz.2.1 q0 3 hq' rfl hin hd (fun H1 locs1 hP hD hS => ?_)
  exact k H1 locs1 ls hl ⟨hz.1.set ha hq (by rw [mE_53 hk, als_row]) (fun b hb => mE_als hb) hP hD (fun b j h => hz.1.2.2 b j h), hS, fun h => by rw [hpu] at h; cases h⟩
theorem qa_aast54 {a b : Nat} {r rb : Option Nat} {i : Int32} (X : kX p s m args meth c cc nL own t) (hpu : pu = false) (hd : decode cc pc = .ok (.aastore, 1)) (hr : r = some a) (hk : tk t a = 54) (hin : vp_in i (tn t a)) (hrb : rb = some b) (hkb : tk t b = 1) (k : kV cs p l e R s m args below meth c Q nL t pu (pc + 1) lv rest (ars G a i.toNatClampNeg (some b))) : kV cs p l e R s m args below meth c Q nL t pu pc lv (va_rf rb :: .int i :: va_rf r :: rest) G := by
  subst hrb
  subst hr
  intro H locs ls hl hz
  have ha := X.d hk (by decide)
  obtain ⟨q0, hq⟩ := hz.1.get ha
  have hq' := hq
  rw [mE_54 hk] at hq'
  obtain ⟨q1, hq1⟩ := hz.1.get (X.d hkb (by decide))
  rw [mE_1 hkb] at hq1
  refine va_astq (D := tD t) (cl := mcl) (tys := mty t) (ws := va_pl (tdom t) (mE t G)) (A := tA t) (H0 := s.heap) (r := (RK0, TK0, 13)) X.1 X.2.1 X.k hz.1.1 hz.1.2.1 hz.2.1 q0 4 q1 0 hq' rfl hq1 rfl hin hd (fun H1 locs1 hP hD hS => ?_)
  exact k H1 locs1 ls hl ⟨hz.1.set ha hq (by rw [mE_54 hk, ars_row]) (fun b hb => mE_ars hb) hP hD (fun b j h => hz.1.2.2 b j h), hS, fun h => by rw [hpu] at h; cases h⟩
theorem qa_len50 {a : Nat} {r : Option Nat} (X : kX p s m args meth c cc nL own t) (hd : decode cc pc = .ok (.arraylength, 1)) (hr : r = some a) (hk : tk t a = 50) (k : kV cs p l e R s m args below meth c Q nL t pu (pc + 1) lv (.int (nI (tn t a)) :: rest) G) : kV cs p l e R s m args below meth c Q nL t pu pc lv (va_rf r :: rest) G := by
  subst hr
  intro H locs ls hl hz
  have ha := X.d hk (by decide)
  obtain ⟨q0, hq⟩ := hz.1.get ha
  have hq' := hq
  rw [mE_50 hk] at hq'
  exact va_alen (D := tD t) (cl := mcl) (tys := mty t) (ws := va_pl (tdom t) (mE t G)) X.1 X.2.1 X.k hz.1.1 q0 0 hq' rfl rfl hd (k H locs ls hl hz)
theorem qa_len51 {a : Nat} {r : Option Nat} (X : kX p s m args meth c cc nL own t) (hd : decode cc pc = .ok (.arraylength, 1)) (hr : r = some a) (hk : tk t a = 51) (k : kV cs p l e R s m args below meth c Q nL t pu (pc + 1) lv (.int (nI (tn t a)) :: rest) G) : kV cs p l e R s m args below meth c Q nL t pu pc lv (va_rf r :: rest) G := by
  subst hr
  intro H locs ls hl hz
  have ha := X.d hk (by decide)
  obtain ⟨q0, hq⟩ := hz.1.get ha
  have hq' := hq
  rw [mE_51 hk] at hq'
  exact va_alen (D := tD t) (cl := mcl) (tys := mty t) (ws := va_pl (tdom t) (mE t G)) X.1 X.2.1 X.k hz.1.1 q0 1 hq' rfl rfl hd (k H locs ls hl hz)
theorem qa_len52 {a : Nat} {r : Option Nat} (X : kX p s m args meth c cc nL own t) (hd : decode cc pc = .ok (.arraylength, 1)) (hr : r = some a) (hk : tk t a = 52) (k : kV cs p l e R s m args below meth c Q nL t pu (pc + 1) lv (.int (nI (tn t a)) :: rest) G) : kV cs p l e R s m args below meth c Q nL t pu pc lv (va_rf r :: rest) G := by
  subst hr
  intro H locs ls hl hz
  have ha := X.d hk (by decide)
  obtain ⟨q0, hq⟩ := hz.1.get ha
  have hq' := hq
  rw [mE_52 hk] at hq'
  exact va_alen (D := tD t) (cl := mcl) (tys := mty t) (ws := va_pl (tdom t) (mE t G)) X.1 X.2.1 X.k hz.1.1 q0 2 hq' rfl rfl hd (k H locs ls hl hz)
theorem qa_len53 {a : Nat} {r : Option Nat} (X : kX p s m args meth c cc nL own t) (hd : decode cc pc = .ok (.arraylength, 1)) (hr : r = some a) (hk : tk t a = 53) (k : kV cs p l e R s m args below meth c Q nL t pu (pc + 1) lv (.int (nI (tn t a)) :: rest) G) : kV cs p l e R s m args below meth c Q nL t pu pc lv (va_rf r :: rest) G := by
  subst hr
  intro H locs ls hl hz
  have ha := X.d hk (by decide)
  obtain ⟨q0, hq⟩ := hz.1.get ha
  have hq' := hq
  rw [mE_53 hk] at hq'
  exact va_alen (D := tD t) (cl := mcl) (tys := mty t) (ws := va_pl (tdom t) (mE t G)) X.1 X.2.1 X.k hz.1.1 q0 3 hq' rfl rfl hd (k H locs ls hl hz)
theorem qa_len54 {a : Nat} {r : Option Nat} (X : kX p s m args meth c cc nL own t) (hd : decode cc pc = .ok (.arraylength, 1)) (hr : r = some a) (hk : tk t a = 54) (k : kV cs p l e R s m args below meth c Q nL t pu (pc + 1) lv (.int (nI (tn t a)) :: rest) G) : kV cs p l e R s m args below meth c Q nL t pu pc lv (va_rf r :: rest) G := by
  subst hr
  intro H locs ls hl hz
  have ha := X.d hk (by decide)
  obtain ⟨q0, hq⟩ := hz.1.get ha
  have hq' := hq
  rw [mE_54 hk] at hq'
  exact va_alen (D := tD t) (cl := mcl) (tys := mty t) (ws := va_pl (tdom t) (mE t G)) X.1 X.2.1 X.k hz.1.1 q0 4 hq' rfl rfl hd (k H locs ls hl hz)
theorem qa_len55 {a : Nat} {r : Option Nat} (X : kX p s m args meth c cc nL own t) (hd : decode cc pc = .ok (.arraylength, 1)) (hr : r = some a) (hk : tk t a = 55) (k : kV cs p l e R s m args below meth c Q nL t pu (pc + 1) lv (.int (nI (tn t a)) :: rest) G) : kV cs p l e R s m args below meth c Q nL t pu pc lv (va_rf r :: rest) G := by
  subst hr
  intro H locs ls hl hz
  have ha := X.d hk (by decide)
  obtain ⟨q0, hq⟩ := hz.1.get ha
  have hq' := hq
  rw [mE_55 hk] at hq'
  exact va_alen (D := tD t) (cl := mcl) (tys := mty t) (ws := va_pl (tdom t) (mE t G)) X.1 X.2.1 X.k hz.1.1 q0 5 hq' rfl rfl hd (k H locs ls hl hz)
theorem qa_len56 {a : Nat} {r : Option Nat} (X : kX p s m args meth c cc nL own t) (hd : decode cc pc = .ok (.arraylength, 1)) (hr : r = some a) (hk : tk t a = 56) (k : kV cs p l e R s m args below meth c Q nL t pu (pc + 1) lv (.int (nI (tn t a)) :: rest) G) : kV cs p l e R s m args below meth c Q nL t pu pc lv (va_rf r :: rest) G := by
  subst hr
  intro H locs ls hl hz
  have ha := X.d hk (by decide)
  obtain ⟨q0, hq⟩ := hz.1.get ha
  have hq' := hq
  rw [mE_56 hk] at hq'
  exact va_alen (D := tD t) (cl := mcl) (tys := mty t) (ws := va_pl (tdom t) (mE t G)) X.1 X.2.1 X.k hz.1.1 q0 6 hq' rfl rfl hd (k H locs ls hl hz)
theorem qa_copy {a b idx : Nat} {ra rb : Option Nat} {sp dp n : Int32} (X : kX p s m args meth c cc nL own t) (hpu : pu = false) (hd : decode cc pc = .ok (.invokestatic idx, 3)) (hw : Cond.methodLink own idx arraycopyName ∈ GW) (hw2 : Cond.native arraycopyName ∈ GW) (hw3 : Cond.static arraycopyName ∈ GW) (hw4 : Cond.initialized "java/lang/System" ∈ GW) (hf : 1 ≤ R.frames) (hlo : (rest.map fun v => v.category).sum + (nativeFrameWords "java/lang/System" "arraycopy" 5 + 11) ≤ R.locals)
    (hra : ra = some a) (hrb : rb = some b) (hka : tk t a = 51) (hkb : tk t b = 51) (ho : acOk (tn t a) (tn t b) sp dp n) (k : kV cs p l e R s m args below meth c Q nL t pu (pc + 3) lv rest (acB G a b sp dp n)) : kV cs p l e R s m args below meth c Q nL t pu pc lv (.int n :: .int dp :: va_rf rb :: .int sp :: va_rf ra :: rest) G := by
  subst hra
  subst hrb
  intro H locs ls hl hz
  have ha := X.d hkb (by decide)
  obtain ⟨q0, hq0⟩ := hz.1.get (X.d hka (by decide))
  obtain ⟨q1, hq⟩ := hz.1.get ha
  have hq' := hq
  rw [mE_51 hka] at hq0
  rw [mE_51 hkb] at hq'
  obtain ⟨o1, o2, o3, o4, o5⟩ := ho
  refine va_copyi (D := tD t) (cl := mcl) (tys := mty t) (ws := va_pl (tdom t) (mE t G)) (A := tA t) (H0 := s.heap) (ty := .byte) X.1 X.2.1 (X.2.2.1.trans hl.1.symm) X.o (X.w hw) (X.w hw2) (X.w hw3) (X.w hw4) X.k hz.1.1 hz.1.2.1 hz.2.1 q0 q1 1 1 hq0 hq' rfl rfl rfl o1 o2 o3 o4 o5 (fun i _ => hz.1.2.2 a _ hka) hf hlo hd (fun H1 locs1 hP hD hS => ?_)
  exact k H1 locs1 ls hl ⟨hz.1.set ha hq (by rw [mE_51 hkb]; rw [show ai (acB G a b sp dp n) b = va_cpy (ai G a) (ai G b) sp.toNatClampNeg dp.toNatClampNeg n.toNatClampNeg from if_pos rfl]) (fun b hb => mE_acB hb) hP hD (fit_acB hz.1.2.2 hka), hS, fun h => by rw [hpu] at h; cases h⟩
theorem qw_ldcS {idx j : Nat} {tx : String} (X : kX p s m args meth c cc nL "TreeServer" t) (hd : decode cc pc = .ok (.ldc idx, 2)) (hj : j < 26) (hi : sidx j = idx) (k : kV cs p l e R s m args below meth c Q nL t pu (pc + 2) lv (va_rf (some (tks t j)) :: rest) G) : kV cs p l e R s m args below meth c Q nL t pu pc lv rest G := fun H locs ls hl hz => va_ldcS X.1 X.2.1 X.o (hi ▸ X.h.2.2.2.2.2.2.1 j hj) hd (k H locs ls hl hz)
theorem qw_ldcwS {idx j : Nat} (X : kX p s m args meth c cc nL "TreeServer" t) (hd : decode cc pc = .ok (.ldc_w idx, 3)) (hj : j < 26) (hi : sidx j = idx) (k : kV cs p l e R s m args below meth c Q nL t pu (pc + 3) lv (va_rf (some (tks t j)) :: rest) G) : kV cs p l e R s m args below meth c Q nL t pu pc lv rest G := fun H locs ls hl hz => lv_ldcwS X.1 X.2.1 X.o (hi ▸ X.h.2.2.2.2.2.2.1 j hj) hd (k H locs ls hl hz)
theorem qs_0 {idx : Nat} (X : kX p s m args meth c cc nL own t) (hd : decode cc pc = .ok (.getstatic idx, 3)) (hw : Cond.fieldLink own idx "TreeServer$User" "ANN" "LTreeServer$User;" ∈ GW) (k : kV cs p l e R s m args below meth c Q nL t pu (pc + 3) lv (va_rf (some (tad t 0)) :: rest) G) : kV cs p l e R s m args below meth c Q nL t pu pc lv rest G := fun H locs ls hl hz => va_gets X.1 X.2.1 (X.h.2.2.1.1 0 (by decide)).1 hz.2.1 X.o (X.w hw) (fun _ h => h) hd (k H locs ls hl hz)
theorem qs_1 {idx : Nat} (X : kX p s m args meth c cc nL own t) (hd : decode cc pc = .ok (.getstatic idx, 3)) (hw : Cond.fieldLink own idx "TreeServer$User" "BOB" "LTreeServer$User;" ∈ GW) (k : kV cs p l e R s m args below meth c Q nL t pu (pc + 3) lv (va_rf (some (tad t 1)) :: rest) G) : kV cs p l e R s m args below meth c Q nL t pu pc lv rest G := fun H locs ls hl hz => va_gets X.1 X.2.1 (X.h.2.2.1.1 1 (by decide)).1 hz.2.1 X.o (X.w hw) (fun _ h => h) hd (k H locs ls hl hz)
theorem qs_2 {idx : Nat} (X : kX p s m args meth c cc nL own t) (hd : decode cc pc = .ok (.getstatic idx, 3)) (hw : Cond.fieldLink own idx "TreeServer$User" "CY" "LTreeServer$User;" ∈ GW) (k : kV cs p l e R s m args below meth c Q nL t pu (pc + 3) lv (va_rf (some (tad t 2)) :: rest) G) : kV cs p l e R s m args below meth c Q nL t pu pc lv rest G := fun H locs ls hl hz => va_gets X.1 X.2.1 (X.h.2.2.1.1 2 (by decide)).1 hz.2.1 X.o (X.w hw) (fun _ h => h) hd (k H locs ls hl hz)
theorem qs_3 {idx : Nat} (X : kX p s m args meth c cc nL own t) (hd : decode cc pc = .ok (.getstatic idx, 3)) (hw : Cond.fieldLink own idx "TreeServer$Kind" "CREATE" "LTreeServer$Kind;" ∈ GW) (k : kV cs p l e R s m args below meth c Q nL t pu (pc + 3) lv (va_rf (some (tad t 3)) :: rest) G) : kV cs p l e R s m args below meth c Q nL t pu pc lv rest G := fun H locs ls hl hz => va_gets X.1 X.2.1 (X.h.2.2.2.1.1 0 (by decide)).1 hz.2.1 X.o (X.w hw) (fun _ h => h) hd (k H locs ls hl hz)
theorem qs_4 {idx : Nat} (X : kX p s m args meth c cc nL own t) (hd : decode cc pc = .ok (.getstatic idx, 3)) (hw : Cond.fieldLink own idx "TreeServer$Kind" "WRITE" "LTreeServer$Kind;" ∈ GW) (k : kV cs p l e R s m args below meth c Q nL t pu (pc + 3) lv (va_rf (some (tad t 4)) :: rest) G) : kV cs p l e R s m args below meth c Q nL t pu pc lv rest G := fun H locs ls hl hz => va_gets X.1 X.2.1 (X.h.2.2.2.1.1 1 (by decide)).1 hz.2.1 X.o (X.w hw) (fun _ h => h) hd (k H locs ls hl hz)
theorem qs_5 {idx : Nat} (X : kX p s m args meth c cc nL own t) (hd : decode cc pc = .ok (.getstatic idx, 3)) (hw : Cond.fieldLink own idx "TreeServer$Kind" "REMOVE" "LTreeServer$Kind;" ∈ GW) (k : kV cs p l e R s m args below meth c Q nL t pu (pc + 3) lv (va_rf (some (tad t 5)) :: rest) G) : kV cs p l e R s m args below meth c Q nL t pu pc lv rest G := fun H locs ls hl hz => va_gets X.1 X.2.1 (X.h.2.2.2.1.1 2 (by decide)).1 hz.2.1 X.o (X.w hw) (fun _ h => h) hd (k H locs ls hl hz)
theorem qs_6 {idx : Nat} (X : kX p s m args meth c cc nL own t) (hd : decode cc pc = .ok (.getstatic idx, 3)) (hw : Cond.fieldLink own idx "TreeServer$Kind" "ALTER" "LTreeServer$Kind;" ∈ GW) (k : kV cs p l e R s m args below meth c Q nL t pu (pc + 3) lv (va_rf (some (tad t 6)) :: rest) G) : kV cs p l e R s m args below meth c Q nL t pu pc lv rest G := fun H locs ls hl hz => va_gets X.1 X.2.1 (X.h.2.2.2.1.1 3 (by decide)).1 hz.2.1 X.o (X.w hw) (fun _ h => h) hd (k H locs ls hl hz)
theorem qs_users (X : kX p s m args meth c cc nL "TreeServer$Message" t) (hd : decode cc pc = .ok (.getstatic 93, 3)) (k : kV cs p l e R s m args below meth c Q nL t pu (pc + 3) lv (va_rf (some (tus t)) :: rest) G) : kV cs p l e R s m args below meth c Q nL t pu pc lv rest G := fun H locs ls hl hz => va_getsN X.1 X.2.1 X.h.2.2.2.2.2.2.2.1.1 hz.2.1 X.o X.h.2.2.2.2.2.2.2.1.2.2 (fun _ h => h) hd (k H locs ls hl hz)
theorem qs_userslen (X : kX p s m args meth c cc nL own t) (hd : decode cc pc = .ok (.arraylength, 1)) (k : kV cs p l e R s m args below meth c Q nL t pu (pc + 1) lv (.int 3 :: rest) G) : kV cs p l e R s m args below meth c Q nL t pu pc lv (va_rf (some (tus t)) :: rest) G := fun H locs ls hl hz => va_tlen X.1 X.2.1 X.h.2.2.2.2.2.2.2.1.2.1 hz.2.1 rfl hd (k H locs ls hl hz)
theorem qg_title {u idx : Nat} {r : Option Nat} (X : kX p s m args meth c cc nL own t) (hd : decode cc pc = .ok (.getfield idx, 3)) (hw : Cond.fieldLink own idx "TreeServer$User" "title" "Ljava/lang/String;" ∈ GW) (hu : u < 3) (hr : r = some (tad t u)) (k : kV cs p l e R s m args below meth c Q nL t pu (pc + 3) lv (va_rf (some (tks t (ttl u))) :: rest) G) : kV cs p l e R s m args below meth c Q nL t pu pc lv (va_rf r :: rest) G := by
  subst hr
  intro H locs ls hl hz
  exact vk_getf X.1 X.2.1 (X.h.2.2.2.2.1 u hu) hz.2.1 X.o (X.w hw) (fun _ h => h) hd (k H locs ls hl hz)
theorem qcV_i {y : MethodName} {bytes : ByteArray} {maxL n idx b : Nat} {ret : Option FieldType} {rm : Room} {C : String} {As st : List Value} {wp : Prop} {K : GS → Int32 → Prop} (X : kX p s m args meth c cc nL own t) (hcs : cs.1 ≤ R.cells ∧ cs.2 ≤ R.slots) (hpu : pu = false) (hM : Met l y (Cond.code y bytes maxL ret :: GW) rm (va_Pc (.ref b :: As) (fun U => HB t G U.heap ∧ HK t U ∧ wp)) (va_Qi (fun r (u : GS) => K u r) (fun u T => HB t u T.heap) (tA t)) 0 0 (tA t)) (cw : CallW R s args own C idx y bytes maxL ret (Cond.code y bytes maxL ret :: GW) rm 0 0 n) (hrecv : ∀ (H : Heap) (locs : List Loc), HB t G H → va_S (tA t) s.heap H locs → ∃ cell : Cell, H[b]? = some cell ∧ cell.vm.isStatics = false ∧ s.vm.findClass C = some cell.cls) (hn : As.length = n) (hst : st = As.reverse ++ .ref b :: rest) (hroom : (rest.map fun v => v.category).sum ≤ 8) (hd : decode cc pc = .ok (.invokevirtual idx, 3)) (hwp : wp) (k : ∀ (r : Int32) (u : GS), K u r → kV cs p l e R s m args below meth c Q nL t pu (pc + 3) lv (.int r :: rest) u) : kV cs p l e R s m args below meth c Q nL t pu pc lv st G := by
  subst hst
  intro H locs ls hl hz
  refine va_calli (S := GS) (va_runV (As := As) (rest := rest) (Ts := GW) ⟨X.1, X.2.1, X.2.2.1, X.o, X.ws⟩ hM cw ⟨HP_blind, hrecv H locs hz.1 hz.2.1, fun U hU hW => ⟨rfl, by rw [hU]; exact hz.1, X.h.to hz.2.1 hU hW, hwp⟩⟩ rfl hn hl.1 rfl (lv_room hroom) hd hcs) hz.2.1 (fun q _ h => h) (fun q h => h) (fun r u T H1 locs1 hT hvm hp hB hz1 hk1 hS1 => ?_)
  rw [hT] at hB
  exact k r u hp H1 locs1 ls hl ⟨hB, hS1, fun h => by rw [hpu] at h; cases h⟩
theorem qcVp_i {y : MethodName} {bytes : ByteArray} {maxL n idx b : Nat} {ret : Option FieldType} {rm : Room} {C : String} {As st : List Value} {wp : Prop} {K : Int32 → Prop} (X : kX p s m args meth c cc nL own t) (hcs : cs.1 ≤ R.cells ∧ cs.2 ≤ R.slots) (hM : Met l y (Cond.code y bytes maxL ret :: GW) rm (va_Pc (.ref b :: As) (fun U => HB t G U.heap ∧ HK t U ∧ wp)) (vp_Si K) 0 0 (fun _ => False)) (cw : CallW R s args own C idx y bytes maxL ret (Cond.code y bytes maxL ret :: GW) rm 0 0 n) (hrecv : ∀ (H : Heap) (locs : List Loc), HB t G H → va_S (tA t) s.heap H locs → ∃ cell : Cell, H[b]? = some cell ∧ cell.vm.isStatics = false ∧ s.vm.findClass C = some cell.cls) (hn : As.length = n) (hst : st = As.reverse ++ .ref b :: rest) (hroom : (rest.map fun v => v.category).sum ≤ 8) (hd : decode cc pc = .ok (.invokevirtual idx, 3)) (hwp : wp) (k : ∀ r : Int32, K r → kV cs p l e R s m args below meth c Q nL t pu (pc + 3) lv (.int r :: rest) G) : kV cs p l e R s m args below meth c Q nL t pu pc lv st G := by
  subst hst
  intro H locs ls hl hz
  exact vp_callSi (W.runV (As := As) (rest := rest) (Ts := GW) ⟨X.1, X.2.1, X.2.2.1, X.o, X.ws⟩ hM cw ⟨HP_blind, hrecv H locs hz.1 hz.2.1, fun U hU hW => ⟨rfl, by rw [hU]; exact hz.1, X.h.to hz.2.1 hU hW, hwp⟩⟩ rfl hn hl.1 rfl (lv_room hroom) hd hcs) (fun r h => k r h H locs ls hl hz)
theorem qcV_l {y : MethodName} {bytes : ByteArray} {maxL n idx b : Nat} {ret : Option FieldType} {rm : Room} {C : String} {As st : List Value} {wp : Prop} {K : GS → Int64 → Prop} (X : kX p s m args meth c cc nL own t) (hcs : cs.1 ≤ R.cells ∧ cs.2 ≤ R.slots) (hpu : pu = false) (hM : Met l y (Cond.code y bytes maxL ret :: GW) rm (va_Pc (.ref b :: As) (fun U => HB t G U.heap ∧ HK t U ∧ wp)) (va_Ql (fun r (u : GS) => K u r) (fun u T => HB t u T.heap) (tA t)) 0 0 (tA t)) (cw : CallW R s args own C idx y bytes maxL ret (Cond.code y bytes maxL ret :: GW) rm 0 0 n) (hrecv : ∀ (H : Heap) (locs : List Loc), HB t G H → va_S (tA t) s.heap H locs → ∃ cell : Cell, H[b]? = some cell ∧ cell.vm.isStatics = false ∧ s.vm.findClass C = some cell.cls) (hn : As.length = n) (hst : st = As.reverse ++ .ref b :: rest) (hroom : (rest.map fun v => v.category).sum ≤ 8) (hd : decode cc pc = .ok (.invokevirtual idx, 3)) (hwp : wp) (k : ∀ (r : Int64) (u : GS), K u r → kV cs p l e R s m args below meth c Q nL t pu (pc + 3) lv (.long r :: rest) u) : kV cs p l e R s m args below meth c Q nL t pu pc lv st G := by
  subst hst
  intro H locs ls hl hz
  refine va_calll (S := GS) (va_runV (As := As) (rest := rest) (Ts := GW) ⟨X.1, X.2.1, X.2.2.1, X.o, X.ws⟩ hM cw ⟨HP_blind, hrecv H locs hz.1 hz.2.1, fun U hU hW => ⟨rfl, by rw [hU]; exact hz.1, X.h.to hz.2.1 hU hW, hwp⟩⟩ rfl hn hl.1 rfl (lv_room hroom) hd hcs) hz.2.1 (fun q _ h => h) (fun q h => h) (fun r u T H1 locs1 hT hvm hp hB hz1 hk1 hS1 => ?_)
  rw [hT] at hB
  exact k r u hp H1 locs1 ls hl ⟨hB, hS1, fun h => by rw [hpu] at h; cases h⟩
theorem qcVp_l {y : MethodName} {bytes : ByteArray} {maxL n idx b : Nat} {ret : Option FieldType} {rm : Room} {C : String} {As st : List Value} {wp : Prop} {K : Int64 → Prop} (X : kX p s m args meth c cc nL own t) (hcs : cs.1 ≤ R.cells ∧ cs.2 ≤ R.slots) (hM : Met l y (Cond.code y bytes maxL ret :: GW) rm (va_Pc (.ref b :: As) (fun U => HB t G U.heap ∧ HK t U ∧ wp)) (vp_Sl K) 0 0 (fun _ => False)) (cw : CallW R s args own C idx y bytes maxL ret (Cond.code y bytes maxL ret :: GW) rm 0 0 n) (hrecv : ∀ (H : Heap) (locs : List Loc), HB t G H → va_S (tA t) s.heap H locs → ∃ cell : Cell, H[b]? = some cell ∧ cell.vm.isStatics = false ∧ s.vm.findClass C = some cell.cls) (hn : As.length = n) (hst : st = As.reverse ++ .ref b :: rest) (hroom : (rest.map fun v => v.category).sum ≤ 8) (hd : decode cc pc = .ok (.invokevirtual idx, 3)) (hwp : wp) (k : ∀ r : Int64, K r → kV cs p l e R s m args below meth c Q nL t pu (pc + 3) lv (.long r :: rest) G) : kV cs p l e R s m args below meth c Q nL t pu pc lv st G := by
  subst hst
  intro H locs ls hl hz
  exact vp_callSl (W.runV (As := As) (rest := rest) (Ts := GW) ⟨X.1, X.2.1, X.2.2.1, X.o, X.ws⟩ hM cw ⟨HP_blind, hrecv H locs hz.1 hz.2.1, fun U hU hW => ⟨rfl, by rw [hU]; exact hz.1, X.h.to hz.2.1 hU hW, hwp⟩⟩ rfl hn hl.1 rfl (lv_room hroom) hd hcs) (fun r h => k r h H locs ls hl hz)
theorem qcV_q {y : MethodName} {bytes : ByteArray} {maxL n idx b : Nat} {ret : Option FieldType} {rm : Room} {C : String} {As st : List Value} {wp : Prop} {K : GS → Option Nat → Prop} (X : kX p s m args meth c cc nL own t) (hcs : cs.1 ≤ R.cells ∧ cs.2 ≤ R.slots) (hpu : pu = false) (hM : Met l y (Cond.code y bytes maxL ret :: GW) rm (va_Pc (.ref b :: As) (fun U => HB t G U.heap ∧ HK t U ∧ wp)) (va_Qq (fun r (u : GS) => K u r) (fun u T => HB t u T.heap) (tA t)) 0 0 (tA t)) (cw : CallW R s args own C idx y bytes maxL ret (Cond.code y bytes maxL ret :: GW) rm 0 0 n) (hrecv : ∀ (H : Heap) (locs : List Loc), HB t G H → va_S (tA t) s.heap H locs → ∃ cell : Cell, H[b]? = some cell ∧ cell.vm.isStatics = false ∧ s.vm.findClass C = some cell.cls) (hn : As.length = n) (hst : st = As.reverse ++ .ref b :: rest) (hroom : (rest.map fun v => v.category).sum ≤ 8) (hd : decode cc pc = .ok (.invokevirtual idx, 3)) (hwp : wp) (k : ∀ (r : Option Nat) (u : GS), K u r → kV cs p l e R s m args below meth c Q nL t pu (pc + 3) lv (va_rf r :: rest) u) : kV cs p l e R s m args below meth c Q nL t pu pc lv st G := by
  subst hst
  intro H locs ls hl hz
  refine va_callq (S := GS) (va_runV (As := As) (rest := rest) (Ts := GW) ⟨X.1, X.2.1, X.2.2.1, X.o, X.ws⟩ hM cw ⟨HP_blind, hrecv H locs hz.1 hz.2.1, fun U hU hW => ⟨rfl, by rw [hU]; exact hz.1, X.h.to hz.2.1 hU hW, hwp⟩⟩ rfl hn hl.1 rfl (lv_room hroom) hd hcs) hz.2.1 (fun q _ h => h) (fun q h => h) (fun r u T H1 locs1 hT hvm hp hB hz1 hk1 hS1 => ?_)
  rw [hT] at hB
  exact k r u hp H1 locs1 ls hl ⟨hB, hS1, fun h => by rw [hpu] at h; cases h⟩
theorem qcVp_q {y : MethodName} {bytes : ByteArray} {maxL n idx b : Nat} {ret : Option FieldType} {rm : Room} {C : String} {As st : List Value} {wp : Prop} {K : Option Nat → Prop} (X : kX p s m args meth c cc nL own t) (hcs : cs.1 ≤ R.cells ∧ cs.2 ≤ R.slots) (hM : Met l y (Cond.code y bytes maxL ret :: GW) rm (va_Pc (.ref b :: As) (fun U => HB t G U.heap ∧ HK t U ∧ wp)) (va_Sq K) 0 0 (fun _ => False)) (cw : CallW R s args own C idx y bytes maxL ret (Cond.code y bytes maxL ret :: GW) rm 0 0 n) (hrecv : ∀ (H : Heap) (locs : List Loc), HB t G H → va_S (tA t) s.heap H locs → ∃ cell : Cell, H[b]? = some cell ∧ cell.vm.isStatics = false ∧ s.vm.findClass C = some cell.cls) (hn : As.length = n) (hst : st = As.reverse ++ .ref b :: rest) (hroom : (rest.map fun v => v.category).sum ≤ 8) (hd : decode cc pc = .ok (.invokevirtual idx, 3)) (hwp : wp) (k : ∀ r : Option Nat, K r → kV cs p l e R s m args below meth c Q nL t pu (pc + 3) lv (va_rf r :: rest) G) : kV cs p l e R s m args below meth c Q nL t pu pc lv st G := by
  subst hst
  intro H locs ls hl hz
  exact va_csq (W.runV (As := As) (rest := rest) (Ts := GW) ⟨X.1, X.2.1, X.2.2.1, X.o, X.ws⟩ hM cw ⟨HP_blind, hrecv H locs hz.1 hz.2.1, fun U hU hW => ⟨rfl, by rw [hU]; exact hz.1, X.h.to hz.2.1 hU hW, hwp⟩⟩ rfl hn hl.1 rfl (lv_room hroom) hd hcs) (fun r h => k r h H locs ls hl hz)
theorem qcV_v {y : MethodName} {bytes : ByteArray} {maxL n idx b : Nat} {ret : Option FieldType} {rm : Room} {C : String} {As st : List Value} {wp : Prop} {K : GS → Prop} (X : kX p s m args meth c cc nL own t) (hcs : cs.1 ≤ R.cells ∧ cs.2 ≤ R.slots) (hpu : pu = false) (hM : Met l y (Cond.code y bytes maxL ret :: GW) rm (va_Pc (.ref b :: As) (fun U => HB t G U.heap ∧ HK t U ∧ wp)) (va_Qv (fun u : GS => K u) (fun u T => HB t u T.heap) (tA t)) 0 0 (tA t)) (cw : CallW R s args own C idx y bytes maxL ret (Cond.code y bytes maxL ret :: GW) rm 0 0 n) (hrecv : ∀ (H : Heap) (locs : List Loc), HB t G H → va_S (tA t) s.heap H locs → ∃ cell : Cell, H[b]? = some cell ∧ cell.vm.isStatics = false ∧ s.vm.findClass C = some cell.cls) (hn : As.length = n) (hst : st = As.reverse ++ .ref b :: rest) (hroom : (rest.map fun v => v.category).sum ≤ 8) (hd : decode cc pc = .ok (.invokevirtual idx, 3)) (hwp : wp) (k : ∀ u : GS, K u → kV cs p l e R s m args below meth c Q nL t pu (pc + 3) lv rest u) : kV cs p l e R s m args below meth c Q nL t pu pc lv st G := by
  subst hst
  intro H locs ls hl hz
  refine va_callv (S := GS) (va_runV (As := As) (rest := rest) (Ts := GW) ⟨X.1, X.2.1, X.2.2.1, X.o, X.ws⟩ hM cw ⟨HP_blind, hrecv H locs hz.1 hz.2.1, fun U hU hW => ⟨rfl, by rw [hU]; exact hz.1, X.h.to hz.2.1 hU hW, hwp⟩⟩ rfl hn hl.1 rfl (lv_room hroom) hd hcs) hz.2.1 (fun q _ h => h) (fun q h => h) (fun u T H1 locs1 hT hvm hp hB hz1 hk1 hS1 => ?_)
  rw [hT] at hB
  exact k u hp H1 locs1 ls hl ⟨hB, hS1, fun h => by rw [hpu] at h; cases h⟩
theorem qcS_i {y : MethodName} {bytes : ByteArray} {maxL n idx : Nat} {ret : Option FieldType} {rm : Room} {As st : List Value} {wp : Prop} {K : GS → Int32 → Prop} (X : kX p s m args meth c cc nL own t) (hcs : cs.1 ≤ R.cells ∧ cs.2 ≤ R.slots) (hpu : pu = false) (hM : Met l y (Cond.code y bytes maxL ret :: GW) rm (va_Pc As (fun U => HB t G U.heap ∧ HK t U ∧ wp)) (va_Qi (fun r (u : GS) => K u r) (fun u T => HB t u T.heap) (tA t)) 0 0 (tA t)) (cw : CallB R s args own idx y bytes maxL ret (Cond.code y bytes maxL ret :: GW) rm 0 0 n ∧ (Cond.static y).before args s = true) (hn : As.length = n) (hst : st = As.reverse ++ rest) (hroom : (rest.map fun v => v.category).sum ≤ 8) (hd : decode cc pc = .ok (.invokestatic idx, 3)) (hwp : wp) (k : ∀ (r : Int32) (u : GS), K u r → kV cs p l e R s m args below meth c Q nL t pu (pc + 3) lv (.int r :: rest) u) : kV cs p l e R s m args below meth c Q nL t pu pc lv st G := by
  subst hst
  intro H locs ls hl hz
  refine va_calli (S := GS) (va_runS (As := As) (rest := rest) (Ts := GW) ⟨X.1, X.2.1, X.2.2.1, X.o, X.ws⟩ hM cw ⟨HP_blind, fun U hU hW => ⟨rfl, by rw [hU]; exact hz.1, X.h.to hz.2.1 hU hW, hwp⟩⟩ rfl hn hl.1 rfl (lv_room hroom) hd hcs) hz.2.1 (fun q _ h => h) (fun q h => h) (fun r u T H1 locs1 hT hvm hp hB hz1 hk1 hS1 => ?_)
  rw [hT] at hB
  exact k r u hp H1 locs1 ls hl ⟨hB, hS1, fun h => by rw [hpu] at h; cases h⟩
theorem qcSp_i {y : MethodName} {bytes : ByteArray} {maxL n idx : Nat} {ret : Option FieldType} {rm : Room} {As st : List Value} {wp : Prop} {K : Int32 → Prop} (X : kX p s m args meth c cc nL own t) (hcs : cs.1 ≤ R.cells ∧ cs.2 ≤ R.slots) (hM : Met l y (Cond.code y bytes maxL ret :: GW) rm (va_Pc As (fun U => HB t G U.heap ∧ HK t U ∧ wp)) (vp_Si K) 0 0 (fun _ => False)) (cw : CallB R s args own idx y bytes maxL ret (Cond.code y bytes maxL ret :: GW) rm 0 0 n ∧ (Cond.static y).before args s = true) (hn : As.length = n) (hst : st = As.reverse ++ rest) (hroom : (rest.map fun v => v.category).sum ≤ 8) (hd : decode cc pc = .ok (.invokestatic idx, 3)) (hwp : wp) (k : ∀ r : Int32, K r → kV cs p l e R s m args below meth c Q nL t pu (pc + 3) lv (.int r :: rest) G) : kV cs p l e R s m args below meth c Q nL t pu pc lv st G := by
  subst hst
  intro H locs ls hl hz
  exact vp_callSi (W.runS (As := As) (rest := rest) (Ts := GW) ⟨X.1, X.2.1, X.2.2.1, X.o, X.ws⟩ hM cw ⟨HP_blind, fun U hU hW => ⟨rfl, by rw [hU]; exact hz.1, X.h.to hz.2.1 hU hW, hwp⟩⟩ rfl hn hl.1 rfl (lv_room hroom) hd hcs) (fun r h => k r h H locs ls hl hz)
theorem qcS_l {y : MethodName} {bytes : ByteArray} {maxL n idx : Nat} {ret : Option FieldType} {rm : Room} {As st : List Value} {wp : Prop} {K : GS → Int64 → Prop} (X : kX p s m args meth c cc nL own t) (hcs : cs.1 ≤ R.cells ∧ cs.2 ≤ R.slots) (hpu : pu = false) (hM : Met l y (Cond.code y bytes maxL ret :: GW) rm (va_Pc As (fun U => HB t G U.heap ∧ HK t U ∧ wp)) (va_Ql (fun r (u : GS) => K u r) (fun u T => HB t u T.heap) (tA t)) 0 0 (tA t)) (cw : CallB R s args own idx y bytes maxL ret (Cond.code y bytes maxL ret :: GW) rm 0 0 n ∧ (Cond.static y).before args s = true) (hn : As.length = n) (hst : st = As.reverse ++ rest) (hroom : (rest.map fun v => v.category).sum ≤ 8) (hd : decode cc pc = .ok (.invokestatic idx, 3)) (hwp : wp) (k : ∀ (r : Int64) (u : GS), K u r → kV cs p l e R s m args below meth c Q nL t pu (pc + 3) lv (.long r :: rest) u) : kV cs p l e R s m args below meth c Q nL t pu pc lv st G := by
  subst hst
  intro H locs ls hl hz
  refine va_calll (S := GS) (va_runS (As := As) (rest := rest) (Ts := GW) ⟨X.1, X.2.1, X.2.2.1, X.o, X.ws⟩ hM cw ⟨HP_blind, fun U hU hW => ⟨rfl, by rw [hU]; exact hz.1, X.h.to hz.2.1 hU hW, hwp⟩⟩ rfl hn hl.1 rfl (lv_room hroom) hd hcs) hz.2.1 (fun q _ h => h) (fun q h => h) (fun r u T H1 locs1 hT hvm hp hB hz1 hk1 hS1 => ?_)
  rw [hT] at hB
  exact k r u hp H1 locs1 ls hl ⟨hB, hS1, fun h => by rw [hpu] at h; cases h⟩
theorem qcSp_l {y : MethodName} {bytes : ByteArray} {maxL n idx : Nat} {ret : Option FieldType} {rm : Room} {As st : List Value} {wp : Prop} {K : Int64 → Prop} (X : kX p s m args meth c cc nL own t) (hcs : cs.1 ≤ R.cells ∧ cs.2 ≤ R.slots) (hM : Met l y (Cond.code y bytes maxL ret :: GW) rm (va_Pc As (fun U => HB t G U.heap ∧ HK t U ∧ wp)) (vp_Sl K) 0 0 (fun _ => False)) (cw : CallB R s args own idx y bytes maxL ret (Cond.code y bytes maxL ret :: GW) rm 0 0 n ∧ (Cond.static y).before args s = true) (hn : As.length = n) (hst : st = As.reverse ++ rest) (hroom : (rest.map fun v => v.category).sum ≤ 8) (hd : decode cc pc = .ok (.invokestatic idx, 3)) (hwp : wp) (k : ∀ r : Int64, K r → kV cs p l e R s m args below meth c Q nL t pu (pc + 3) lv (.long r :: rest) G) : kV cs p l e R s m args below meth c Q nL t pu pc lv st G := by
  subst hst
  intro H locs ls hl hz
  exact vp_callSl (W.runS (As := As) (rest := rest) (Ts := GW) ⟨X.1, X.2.1, X.2.2.1, X.o, X.ws⟩ hM cw ⟨HP_blind, fun U hU hW => ⟨rfl, by rw [hU]; exact hz.1, X.h.to hz.2.1 hU hW, hwp⟩⟩ rfl hn hl.1 rfl (lv_room hroom) hd hcs) (fun r h => k r h H locs ls hl hz)
theorem qcS_q {y : MethodName} {bytes : ByteArray} {maxL n idx : Nat} {ret : Option FieldType} {rm : Room} {As st : List Value} {wp : Prop} {K : GS → Option Nat → Prop} (X : kX p s m args meth c cc nL own t) (hcs : cs.1 ≤ R.cells ∧ cs.2 ≤ R.slots) (hpu : pu = false) (hM : Met l y (Cond.code y bytes maxL ret :: GW) rm (va_Pc As (fun U => HB t G U.heap ∧ HK t U ∧ wp)) (va_Qq (fun r (u : GS) => K u r) (fun u T => HB t u T.heap) (tA t)) 0 0 (tA t)) (cw : CallB R s args own idx y bytes maxL ret (Cond.code y bytes maxL ret :: GW) rm 0 0 n ∧ (Cond.static y).before args s = true) (hn : As.length = n) (hst : st = As.reverse ++ rest) (hroom : (rest.map fun v => v.category).sum ≤ 8) (hd : decode cc pc = .ok (.invokestatic idx, 3)) (hwp : wp) (k : ∀ (r : Option Nat) (u : GS), K u r → kV cs p l e R s m args below meth c Q nL t pu (pc + 3) lv (va_rf r :: rest) u) : kV cs p l e R s m args below meth c Q nL t pu pc lv st G := by
  subst hst
  intro H locs ls hl hz
  refine va_callq (S := GS) (va_runS (As := As) (rest := rest) (Ts := GW) ⟨X.1, X.2.1, X.2.2.1, X.o, X.ws⟩ hM cw ⟨HP_blind, fun U hU hW => ⟨rfl, by rw [hU]; exact hz.1, X.h.to hz.2.1 hU hW, hwp⟩⟩ rfl hn hl.1 rfl (lv_room hroom) hd hcs) hz.2.1 (fun q _ h => h) (fun q h => h) (fun r u T H1 locs1 hT hvm hp hB hz1 hk1 hS1 => ?_)
  rw [hT] at hB
  exact k r u hp H1 locs1 ls hl ⟨hB, hS1, fun h => by rw [hpu] at h; cases h⟩
theorem qcSp_q {y : MethodName} {bytes : ByteArray} {maxL n idx : Nat} {ret : Option FieldType} {rm : Room} {As st : List Value} {wp : Prop} {K : Option Nat → Prop} (X : kX p s m args meth c cc nL own t) (hcs : cs.1 ≤ R.cells ∧ cs.2 ≤ R.slots) (hM : Met l y (Cond.code y bytes maxL ret :: GW) rm (va_Pc As (fun U => HB t G U.heap ∧ HK t U ∧ wp)) (va_Sq K) 0 0 (fun _ => False)) (cw : CallB R s args own idx y bytes maxL ret (Cond.code y bytes maxL ret :: GW) rm 0 0 n ∧ (Cond.static y).before args s = true) (hn : As.length = n) (hst : st = As.reverse ++ rest) (hroom : (rest.map fun v => v.category).sum ≤ 8) (hd : decode cc pc = .ok (.invokestatic idx, 3)) (hwp : wp) (k : ∀ r : Option Nat, K r → kV cs p l e R s m args below meth c Q nL t pu (pc + 3) lv (va_rf r :: rest) G) : kV cs p l e R s m args below meth c Q nL t pu pc lv st G := by
  subst hst
  intro H locs ls hl hz
  exact va_csq (W.runS (As := As) (rest := rest) (Ts := GW) ⟨X.1, X.2.1, X.2.2.1, X.o, X.ws⟩ hM cw ⟨HP_blind, fun U hU hW => ⟨rfl, by rw [hU]; exact hz.1, X.h.to hz.2.1 hU hW, hwp⟩⟩ rfl hn hl.1 rfl (lv_room hroom) hd hcs) (fun r h => k r h H locs ls hl hz)
theorem qcS_v {y : MethodName} {bytes : ByteArray} {maxL n idx : Nat} {ret : Option FieldType} {rm : Room} {As st : List Value} {wp : Prop} {K : GS → Prop} (X : kX p s m args meth c cc nL own t) (hcs : cs.1 ≤ R.cells ∧ cs.2 ≤ R.slots) (hpu : pu = false) (hM : Met l y (Cond.code y bytes maxL ret :: GW) rm (va_Pc As (fun U => HB t G U.heap ∧ HK t U ∧ wp)) (va_Qv (fun u : GS => K u) (fun u T => HB t u T.heap) (tA t)) 0 0 (tA t)) (cw : CallB R s args own idx y bytes maxL ret (Cond.code y bytes maxL ret :: GW) rm 0 0 n ∧ (Cond.static y).before args s = true) (hn : As.length = n) (hst : st = As.reverse ++ rest) (hroom : (rest.map fun v => v.category).sum ≤ 8) (hd : decode cc pc = .ok (.invokestatic idx, 3)) (hwp : wp) (k : ∀ u : GS, K u → kV cs p l e R s m args below meth c Q nL t pu (pc + 3) lv rest u) : kV cs p l e R s m args below meth c Q nL t pu pc lv st G := by
  subst hst
  intro H locs ls hl hz
  refine va_callv (S := GS) (va_runS (As := As) (rest := rest) (Ts := GW) ⟨X.1, X.2.1, X.2.2.1, X.o, X.ws⟩ hM cw ⟨HP_blind, fun U hU hW => ⟨rfl, by rw [hU]; exact hz.1, X.h.to hz.2.1 hU hW, hwp⟩⟩ rfl hn hl.1 rfl (lv_room hroom) hd hcs) hz.2.1 (fun q _ h => h) (fun q h => h) (fun u T H1 locs1 hT hvm hp hB hz1 hk1 hS1 => ?_)
  rw [hT] at hB
  exact k u hp H1 locs1 ls hl ⟨hB, hS1, fun h => by rw [hpu] at h; cases h⟩
theorem qr_i {v : Int32} {K : GS → Int32 → Prop} (X : kX p s m args meth c cc nL own t) (hr : meth.sig.returnType = some .int) (hd : decode cc pc = .ok (.ireturn, 1)) (hk : K G v) : kV cs p l e R s m args below meth c (MQ below (va_Qi (fun r (u : GS) => K u r) (fun u T => HB t u T.heap) (tA t)) args s cs.1 cs.2 (tA t)) nL t pu pc lv [.int v] G := fun H locs ls hl hz => W.iret X.1 X.2.1 hr (fun T hT hW => ⟨⟨v, G, rfl, hk, by show HB t G T.heap; rw [hT]; exact hz.1⟩, hz.2.1.F hT⟩) hz.2.1.2.2 hd X.2.2.2.2.2.1
theorem qr_l {v : Int64} {K : GS → Int64 → Prop} (X : kX p s m args meth c cc nL own t) (hr : meth.sig.returnType = some .long) (hd : decode cc pc = .ok (.lreturn, 1)) (hk : K G v) : kV cs p l e R s m args below meth c (MQ below (va_Ql (fun r (u : GS) => K u r) (fun u T => HB t u T.heap) (tA t)) args s cs.1 cs.2 (tA t)) nL t pu pc lv [.long v] G := fun H locs ls hl hz => W.lret X.1 X.2.1 hr (fun T hT hW => ⟨⟨v, G, rfl, hk, by show HB t G T.heap; rw [hT]; exact hz.1⟩, hz.2.1.F hT⟩) hz.2.1.2.2 hd X.2.2.2.2.2.1
theorem qr_z {v : Int32} {K : GS → Int32 → Prop} (X : kX p s m args meth c cc nL own t) (hr : meth.sig.returnType = some .boolean) (hd : decode cc pc = .ok (.ireturn, 1)) (hB : isB v) (hk : K G v) : kV cs p l e R s m args below meth c (MQ below (va_Qi (fun r (u : GS) => isB r ∧ K u r) (fun u T => HB t u T.heap) (tA t)) args s cs.1 cs.2 (tA t)) nL t pu pc lv [.int v] G := fun H locs ls hl hz => W.zret X.1 X.2.1 hr (by rcases hB with rfl | rfl <;> rfl) (fun T hT hW => ⟨⟨v, G, rfl, ⟨hB, hk⟩, by show HB t G T.heap; rw [hT]; exact hz.1⟩, hz.2.1.F hT⟩) hz.2.1.2.2 hd X.2.2.2.2.2.1
theorem qr_q {rt : FieldType} {v : Option Nat} {K : GS → Option Nat → Prop} (X : kX p s m args meth c cc nL own t) (hr : meth.sig.returnType = some rt) (hd : decode cc pc = .ok (.areturn, 1)) (hrt : (∃ n, rt = .object n) ∨ ∃ t, rt = .array t) (hk : K G v) : kV cs p l e R s m args below meth c (MQ below (va_Qq (fun r (u : GS) => K u r) (fun u T => HB t u T.heap) (tA t)) args s cs.1 cs.2 (tA t)) nL t pu pc lv [va_rf v] G := fun H locs ls hl hz => W.aret X.1 X.2.1 hr hrt (va_rf_or v) (fun T hT hW => ⟨⟨v, G, rfl, hk, by show HB t G T.heap; rw [hT]; exact hz.1⟩, hz.2.1.F hT⟩) hz.2.1.2.2 hd X.2.2.2.2.2.1
theorem qr_v {K : GS → Prop} (X : kX p s m args meth c cc nL own t) (hr : meth.sig.returnType = none) (hd : decode cc pc = .ok (.return_, 1)) (hk : K G) : kV cs p l e R s m args below meth c (MQ below (va_Qv (fun u : GS => K u) (fun u T => HB t u T.heap) (tA t)) args s cs.1 cs.2 (tA t)) nL t pu pc lv [] G := fun H locs ls hl hz => W.vret X.1 X.2.1 hr (fun T hT hW => ⟨⟨G, rfl, hk, by show HB t G T.heap; rw [hT]; exact hz.1⟩, hz.2.1.F hT⟩) hz.2.1.2.2 hd X.2.2.2.2.2.1
theorem qa_aast55 {a b : Nat} {r rb : Option Nat} {i : Int32} (X : kX p s m args meth c cc nL own t) (hpu : pu = false) (hd : decode cc pc = .ok (.aastore, 1)) (hr : r = some a) (hk : tk t a = 55) (hin : vp_in i (tn t a)) (hrb : rb = some b) (hkb : tk t b = 8) (k : kV cs p l e R s m args below meth c Q nL t pu (pc + 1) lv rest (ars G a i.toNatClampNeg (some b))) : kV cs p l e R s m args below meth c Q nL t pu pc lv (va_rf rb :: .int i :: va_rf r :: rest) G := by
  subst hrb
  subst hr
  intro H locs ls hl hz
  have ha := X.d hk (by decide)
  obtain ⟨q0, hq⟩ := hz.1.get ha
  have hq' := hq
  rw [mE_55 hk] at hq'
  obtain ⟨q1, hq1⟩ := hz.1.get (X.d hkb (by decide))
  rw [mE_8 hkb] at hq1
  refine va_astq (D := tD t) (cl := mcl) (tys := mty t) (ws := va_pl (tdom t) (mE t G)) (A := tA t) (H0 := s.heap) (r := (RK7, TK7, 8)) X.1 X.2.1 X.k hz.1.1 hz.1.2.1 hz.2.1 q0 5 q1 7 hq' rfl hq1 rfl hin hd (fun H1 locs1 hP hD hS => ?_)
  exact k H1 locs1 ls hl ⟨hz.1.set ha hq (by rw [mE_55 hk, ars_row]) (fun b hb => mE_ars hb) hP hD (fun b j h => hz.1.2.2 b j h), hS, fun h => by rw [hpu] at h; cases h⟩
theorem qa_aast56 {a b : Nat} {r rb : Option Nat} {i : Int32} (X : kX p s m args meth c cc nL own t) (hpu : pu = false) (hd : decode cc pc = .ok (.aastore, 1)) (hr : r = some a) (hk : tk t a = 56) (hin : vp_in i (tn t a)) (hrb : rb = some b) (hkb : tk t b = 7) (k : kV cs p l e R s m args below meth c Q nL t pu (pc + 1) lv rest (ars G a i.toNatClampNeg (some b))) : kV cs p l e R s m args below meth c Q nL t pu pc lv (va_rf rb :: .int i :: va_rf r :: rest) G := by
  subst hrb
  subst hr
  intro H locs ls hl hz
  have ha := X.d hk (by decide)
  obtain ⟨q0, hq⟩ := hz.1.get ha
  have hq' := hq
  rw [mE_56 hk] at hq'
  obtain ⟨q1, hq1⟩ := hz.1.get (X.d hkb (by decide))
  rw [mE_7 hkb] at hq1
  refine va_astq (D := tD t) (cl := mcl) (tys := mty t) (ws := va_pl (tdom t) (mE t G)) (A := tA t) (H0 := s.heap) (r := (RK6, TK6, 9)) X.1 X.2.1 X.k hz.1.1 hz.1.2.1 hz.2.1 q0 6 q1 6 hq' rfl hq1 rfl hin hd (fun H1 locs1 hP hD hS => ?_)
  exact k H1 locs1 ls hl ⟨hz.1.set ha hq (by rw [mE_56 hk, ars_row]) (fun b hb => mE_ars hb) hP hD (fun b j h => hz.1.2.2 b j h), hS, fun h => by rw [hpu] at h; cases h⟩
end KV
