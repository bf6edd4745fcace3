def sidx (j : Nat) : Nat := ([168, 172, 174, 176, 184, 300, 309, 189, 315, 320, 328, 201, 215, 343, 368, 370, 376, 359, 523, 385, 403, 425, 429, 434, 485, 528] : List Nat).getD j 0
def stxt (j : Nat) : String := (["type", "form", "", "version", "msize", "9P2000", "unknown", "auth", "inuse", "fids", "user", "fid", "gone", "open", "dir", "perm", "..", "noent", "empty", "mode", "excl", "name", "exist", "full", "offset", "stat"] : List String).getD j ""
def nestL : List (String × Nat × MethodName) := [("TreeServer$Tree", 11, ⟨"TreeServer$Node", "<init>", "()V"⟩), ("TreeServer", 18, ⟨"TreeServer$Log", "<init>", "()V"⟩), ("TreeServer", 25, ⟨"TreeServer$Change", "<init>", "()V"⟩), ("TreeServer", 32, ⟨"TreeServer$Message", "<init>", "()V"⟩), ("TreeServer", 39, ⟨"TreeServer$Answer", "<init>", "()V"⟩), ("TreeServer$Link", 30, ⟨"TreeServer$Node", "<init>", "()V"⟩)]
theorem rf_cat (r : Option Nat) : (va_rf r).category = 1 := by cases r <;> rfl
/-- the string constants: plain Strings of one byte a character; what each spells -/
def kS (N : Nat) (len : List Nat) (byt : List (List Int32)) (adK adV : Nat → Nat) (A : Nat → Prop) (U : State) (H : Heap) : Prop :=
  (∀ i : Nat, i < N → va_O "java/lang/String" (adK i) A U H ∧ va_OF "java/lang/String" "coder" "B" (.int 0) (adK i) A U H ∧ va_OF "java/lang/String" "value" "[B" (.ref (adV i)) (adK i) A U H ∧ va_T .byte (adV i) (len.getD i 0) (fun j => .int ((byt.getD i []).getD j 0)) A U H) ∧ True
theorem kS.moved {N : Nat} {len : List Nat} {byt : List (List Int32)} {adK adV : Nat → Nat} {A : Nat → Prop} {u U : State} {H : Heap} (hvm : u.vm.Alike U.vm) (h : kS N len byt adK adV A u H) : kS N len byt adK adV A U H :=
  ⟨fun i hi => ⟨va_O.moved hvm (h.1 i hi).1, va_OF.moved hvm (h.1 i hi).2.1, va_OF.moved hvm (h.1 i hi).2.2.1, va_T.moved hvm (h.1 i hi).2.2.2⟩, trivial⟩
theorem kS.kept {N : Nat} {len : List Nat} {byt : List (List Int32)} {adK adV : Nat → Nat} {A : Nat → Prop} {U : State} {H H1 : Heap} (h : kS N len byt adK adV A U H) (hq : ∀ a : Nat, a < H.size → ¬ A a → H1[a]? = H[a]?) : kS N len byt adK adV A U H1 :=
  ⟨fun i hi => ⟨(h.1 i hi).1.kept hq, (h.1 i hi).2.1.kept hq, (h.1 i hi).2.2.1.kept hq, (h.1 i hi).2.2.2.kept hq⟩, trivial⟩
/-- what is fixed at a method's start: the classes, the constants -/
def HK (t : TY) (s : State) : Prop :=
  va_K (tD t) mcl (mty t) s ∧ ((∀ a, tk t a ≠ 0 → a ∈ tdom t) ∧ tsz t ≤ s.heap.size)
  ∧ va_En "TreeServer$User" "LTreeServer$User;" ["ANN", "BOB", "CY"] [] (tad t) (tA t) s s.heap
  ∧ va_En "TreeServer$Kind" "LTreeServer$Kind;" ["CREATE", "WRITE", "REMOVE", "ALTER"] [] (fun i => tad t (i + 3)) (tA t) s s.heap
  ∧ (∀ i, i < 3 → va_OF "TreeServer$User" "title" "Ljava/lang/String;" (.ref (tks t (ttl i))) (tad t i) (tA t) s s.heap)
  ∧ kS 29 slens sbyts (tks t) (tkv t) (tA t) s s.heap
  ∧ (∀ j, j < 26 → vk_R "TreeServer" (sidx j) (stxt j) (tks t j) s)
  ∧ (va_Z "TreeServer" "USERS" "[LTreeServer$User;" (.ref (tus t)) (tA t) s s.heap ∧ va_T (.object "TreeServer$User") (tus t) 3 (fun i => .ref (tad t i)) (tA t) s s.heap ∧ va_Nw (.fieldLinkNest "TreeServer$Message" 93 "TreeServer" "USERS" "[LTreeServer$User;" "TreeServer") s)
  ∧ va_Z "java/lang/String" "COMPACT_STRINGS" "Z" (.int 1) (tA t) s s.heap
  ∧ (∃ r : Option Nat, va_Z "jdk/internal/util/Preconditions" "SIOOBE_FORMATTER" "Ljava/util/function/BiFunction;" (va_rf r) (tA t) s s.heap)
  ∧ (va_AO "TreeServer$Node" s ∧ va_AO "TreeServer$Link" s ∧ va_AO "TreeServer$Fid" s)
  ∧ (∀ q ∈ nestL, va_Nw (.methodLinkNest q.1 q.2.1 q.2.2 "TreeServer") s)
theorem HK.to {t : TY} {s U : State} {H : Heap} {locs : List Loc} (h : HK t s) (hS : va_S (tA t) s.heap H locs) (hU : U.heap = H) (hW : s.WarmedH U.vm) : HK t U := by
  obtain ⟨h1, h2, h3, h4, h5, h6, h7, ⟨h8, h9, h10⟩, h11, ⟨r0, h12⟩, ⟨h13, h14, h15⟩, h16⟩ := h
  refine ⟨va_K.moved hW.alike h1, ⟨h2.1, by rw [hU]; exact Nat.le_trans h2.2 hS.1⟩, ?_, ?_, ?_, ?_, fun j hj => vk_R.warm hW (h7 j hj), ⟨?_, ?_, ?_⟩, ?_, ⟨r0, ?_⟩, ⟨va_AO.moved hW.alike h13, va_AO.moved hW.alike h14, va_AO.moved hW.alike h15⟩, fun q hq => va_Nw.warmM hW (h16 q hq)⟩
  · rw [hU]; exact va_En.moved hW.alike (h3.kept hS.2.1)
  · rw [hU]; exact va_En.moved hW.alike (h4.kept hS.2.1)
  · intro i hi; rw [hU]; exact va_OF.moved hW.alike ((h5 i hi).kept hS.2.1)
  · rw [hU]; exact kS.moved hW.alike (h6.kept hS.2.1)
  · rw [hU]; exact va_Z.moved hW.alike (h8.kept hS.2.1)
  · rw [hU]; exact va_T.moved hW.alike (h9.kept hS.2.1)
  · exact va_Nw.warmF hW h10
  · rw [hU]; exact va_Z.moved hW.alike (h11.kept hS.2.1)
  · rw [hU]; exact va_Z.moved hW.alike (h12.kept hS.2.1)
theorem HK.calling {t : TY} {U : State} (h : HK t U) (g : JFrame) (mk : MethodId) (a : Array Value) : HK t (U.calling g mk a) := by
  obtain ⟨h1, h2, h3, h4, h5, h6, h7, ⟨h8, h9, h10⟩, h11, ⟨r0, h12⟩, ⟨h13, h14, h15⟩, h16⟩ := h
  have r : U.vm.Alike (U.calling g mk a).vm := Vm.Alike.refl U.vm
  exact ⟨va_K.moved r h1, h2, va_En.moved r h3, va_En.moved r h4, fun i hi => va_OF.moved r (h5 i hi), kS.moved r h6, fun j hj => vk_R.same (u := U) rfl (h7 j hj), ⟨va_Z.moved r h8, va_T.moved r h9, va_Nw.same (u := U) rfl rfl h10⟩, va_Z.moved r h11, ⟨r0, va_Z.moved r h12⟩, ⟨va_AO.moved r h13, va_AO.moved r h14, va_AO.moved r h15⟩, fun q hq => va_Nw.same (u := U) rfl rfl (h16 q hq)⟩
/-- what the heap is at a place of a method: it holds G; what isn't ours is as it was; a method that writes nothing has its own start's heap -/
def kZ (t : TY) (pu : Bool) (s : State) (G : GS) (H : Heap) (locs : List Loc) : Prop := HB t G H ∧ va_S (tA t) s.heap H locs ∧ (pu = true → H = s.heap ∧ locs = [])
def kW (p : Program) (l : Launch) (e : Env) (R : Room) (s : State) (m : MethodId) (args : Array Value) (below : List Frame) (meth : Method) (c : Code) (Q : State → Prop) (nL : Nat) (t : TY) (pu : Bool) (pc : Nat) (lv : List (Nat × Value)) (st : List Value) (G : GS) : Prop :=
  ∀ (H : Heap) (locs : List Loc) (ls : Array Slot), lv_has ls nL lv → kZ t pu s G H locs → W p l e R s m args below meth c H locs 0 0 Q (F0 m pc ls st)
def kX (p : Program) (s : State) (m : MethodId) (args : Array Value) (meth : Method) (c : Code) (cc : ByteArray) (nL : Nat) (own : String) (t : TY) : Prop :=
  p.tables.exec = Jvm.exec ∧ c.code = cc ∧ c.maxLocals = nL ∧ s.vm.findClass own = some m.cls ∧ (∀ w ∈ GW, w.before args s = true) ∧ meth.locks = false ∧ HK t s
section KW
variable {p : Program} {l : Launch} {e : Env} {R : Room} {s : State} {m : MethodId} {args : Array Value} {below : List Frame} {meth : Method} {c : Code} {Q : State → Prop}
variable {cc : ByteArray} {nL : Nat} {own : String} {t : TY} {pu : Bool} {G : GS} {pc : Nat} {lv lv' : List (Nat × Value)} {rest : List Value}
theorem kX.w (X : kX p s m args meth c cc nL own t) {w : Cond} (h : w ∈ GW) : w.before args s = true := X.2.2.2.2.1 w h
theorem kX.ws (X : kX p s m args meth c cc nL own t) : ∀ w ∈ GW, w.before args s = true := X.2.2.2.2.1
theorem kX.k (X : kX p s m args meth c cc nL own t) : va_K (tD t) mcl (mty t) s := X.2.2.2.2.2.2.1
theorem kX.h (X : kX p s m args meth c cc nL own t) : HK t s := X.2.2.2.2.2.2
theorem kX.o (X : kX p s m args meth c cc nL own t) : s.vm.findClass own = some m.cls := X.2.2.2.1
theorem kX.d (X : kX p s m args meth c cc nL own t) {a n : Nat} (h : tk t a = n) (hn : n ≠ 0) : a ∈ tdom t := X.2.2.2.2.2.2.2.1.1 a (by rw [h]; exact hn)
/-- fewer locals, in another order -/
theorem kW.sub (ks : List Nat) (h : lv_pick lv ks = lv') (k : kW p l e R s m args below meth c Q nL t pu pc lv' rest G) : kW p l e R s m args below meth c Q nL t pu pc lv rest G := fun H locs ls hl hz => k H locs ls (lv_sub hl ks h) hz
theorem kW.st {st st' : List Value} (h : st = st') (k : kW p l e R s m args below meth c Q nL t pu pc lv st' G) : kW p l e R s m args below meth c Q nL t pu pc lv st G := h ▸ k
theorem kW.g {G' : GS} (h : G = G') (k : kW p l e R s m args below meth c Q nL t pu pc lv rest G') : kW p l e R s m args below meth c Q nL t pu pc lv rest G := h ▸ k
theorem kw_iconst {n : Int} {v : Int32} (X : kX p s m args meth c cc nL own t) (hd : decode cc pc = .ok (.iconst n, 1)) (hv : Int32.ofInt n = v) (k : kW p l e R s m args below meth c Q nL t pu (pc + 1) lv (.int v :: rest) G) : kW p l e R s m args below meth c Q nL t pu pc lv (rest) G := fun H locs ls hl hz => lv_iconst X.1 X.2.1  hd hv (k H locs ls hl hz)
theorem kw_bipush {n : Int} {v : Int32} (X : kX p s m args meth c cc nL own t) (hd : decode cc pc = .ok (.bipush n, 2)) (hv : (Int8.ofInt n).toInt32 = v) (k : kW p l e R s m args below meth c Q nL t pu (pc + 2) lv (.int v :: rest) G) : kW p l e R s m args below meth c Q nL t pu pc lv (rest) G := fun H locs ls hl hz => lv_bipush X.1 X.2.1  hd hv (k H locs ls hl hz)
theorem kw_sipush {n : Int} {v : Int32} (X : kX p s m args meth c cc nL own t) (hd : decode cc pc = .ok (.sipush n, 3)) (hv : (Int16.ofInt n).toInt32 = v) (k : kW p l e R s m args below meth c Q nL t pu (pc + 3) lv (.int v :: rest) G) : kW p l e R s m args below meth c Q nL t pu pc lv (rest) G := fun H locs ls hl hz => lv_sipush X.1 X.2.1  hd hv (k H locs ls hl hz)
theorem kw_lconst {n : Fin 2} {v : Int64} (X : kX p s m args meth c cc nL own t) (hd : decode cc pc = .ok (.lconst n, 1)) (hv : Int64.ofNat (n : Nat) = v) (k : kW p l e R s m args below meth c Q nL t pu (pc + 1) lv (.long v :: rest) G) : kW p l e R s m args below meth c Q nL t pu pc lv (rest) G := fun H locs ls hl hz => lv_lconst X.1 X.2.1  hd hv (k H locs ls hl hz)
theorem kw_ldc {idx : Nat} {v : Int32} (X : kX p s m args meth c cc nL own t) (hd : decode cc pc = .ok (.ldc idx, 2)) (hw : Cond.constant own idx v ∈ GW) (k : kW p l e R s m args below meth c Q nL t pu (pc + 2) lv (.int v :: rest) G) : kW p l e R s m args below meth c Q nL t pu pc lv rest G := fun H locs ls hl hz => lv_ldc X.1 X.2.1 X.o (X.w hw) hd (k H locs ls hl hz)
theorem kw_ldcw {idx : Nat} {v : Int32} (X : kX p s m args meth c cc nL own t) (hd : decode cc pc = .ok (.ldc_w idx, 3)) (hw : Cond.constant own idx v ∈ GW) (k : kW p l e R s m args below meth c Q nL t pu (pc + 3) lv (.int v :: rest) G) : kW p l e R s m args below meth c Q nL t pu pc lv rest G := fun H locs ls hl hz => lv_ldcw X.1 X.2.1 X.o (X.w hw) hd (k H locs ls hl hz)
theorem kw_ldc2 {idx : Nat} {v : Int64} (X : kX p s m args meth c cc nL own t) (hd : decode cc pc = .ok (.ldc2_w idx, 3)) (hw : Cond.constantLong own idx v ∈ GW) (k : kW p l e R s m args below meth c Q nL t pu (pc + 3) lv (.long v :: rest) G) : kW p l e R s m args below meth c Q nL t pu pc lv rest G := fun H locs ls hl hz => lv_ldc2 X.1 X.2.1 X.o (X.w hw) hd (k H locs ls hl hz)
theorem kw_null  (X : kX p s m args meth c cc nL own t) (hd : decode cc pc = .ok (.aconst_null, 1))  (k : kW p l e R s m args below meth c Q nL t pu (pc + 1) lv (va_rf none :: rest) G) : kW p l e R s m args below meth c Q nL t pu pc lv (rest) G := fun H locs ls hl hz => lv_null X.1 X.2.1  hd  (k H locs ls hl hz)
theorem kw_iload_n {k : Fin 4} {i : Nat} {x : Int32} (X : kX p s m args meth c cc nL own t) (hd : decode cc pc = .ok (.iload_n k, 1)) (hi : (k : Nat) = i) (q : Nat) (hq : lv[q]? = some (i, .int x)) (k : kW p l e R s m args below meth c Q nL t pu (pc + 1) lv (.int x :: rest) G) : kW p l e R s m args below meth c Q nL t pu pc lv rest G := fun H locs ls hl hz => lv_iload_n X.1 X.2.1 hd hi (lv_at hl q hq) (k H locs ls hl hz)
theorem kw_iload {i : Nat} {x : Int32} (X : kX p s m args meth c cc nL own t) (hd : decode cc pc = .ok (.iload i, 2)) (q : Nat) (hq : lv[q]? = some (i, .int x)) (k : kW p l e R s m args below meth c Q nL t pu (pc + 2) lv (.int x :: rest) G) : kW p l e R s m args below meth c Q nL t pu pc lv rest G := fun H locs ls hl hz => lv_iload X.1 X.2.1 hd (lv_at hl q hq) (k H locs ls hl hz)
theorem kw_lload_n {k : Fin 4} {i : Nat} {x : Int64} (X : kX p s m args meth c cc nL own t) (hd : decode cc pc = .ok (.lload_n k, 1)) (hi : (k : Nat) = i) (q : Nat) (hq : lv[q]? = some (i, .long x)) (k : kW p l e R s m args below meth c Q nL t pu (pc + 1) lv (.long x :: rest) G) : kW p l e R s m args below meth c Q nL t pu pc lv rest G := fun H locs ls hl hz => lv_lload_n X.1 X.2.1 hd hi (lv_at hl q hq) (k H locs ls hl hz)
theorem kw_lload {i : Nat} {x : Int64} (X : kX p s m args meth c cc nL own t) (hd : decode cc pc = .ok (.lload i, 2)) (q : Nat) (hq : lv[q]? = some (i, .long x)) (k : kW p l e R s m args below meth c Q nL t pu (pc + 2) lv (.long x :: rest) G) : kW p l e R s m args below meth c Q nL t pu pc lv rest G := fun H locs ls hl hz => lv_lload X.1 X.2.1 hd (lv_at hl q hq) (k H locs ls hl hz)
theorem kw_aload_n {k : Fin 4} {i : Nat} {r : Option Nat} (X : kX p s m args meth c cc nL own t) (hd : decode cc pc = .ok (.aload_n k, 1)) (hi : (k : Nat) = i) (q : Nat) (hq : lv[q]? = some (i, va_rf r)) (k : kW p l e R s m args below meth c Q nL t pu (pc + 1) lv (va_rf r :: rest) G) : kW p l e R s m args below meth c Q nL t pu pc lv rest G := fun H locs ls hl hz => by
  cases r with
  | none => exact lv_aload_nN X.1 X.2.1 hd hi (lv_at hl q hq) (k H locs ls hl hz)
  | some a => exact lv_aload_n X.1 X.2.1 hd hi (lv_at hl q hq) (k H locs ls hl hz)
theorem kw_aload {i : Nat} {r : Option Nat} (X : kX p s m args meth c cc nL own t) (hd : decode cc pc = .ok (.aload i, 2)) (q : Nat) (hq : lv[q]? = some (i, va_rf r)) (k : kW p l e R s m args below meth c Q nL t pu (pc + 2) lv (va_rf r :: rest) G) : kW p l e R s m args below meth c Q nL t pu pc lv rest G := fun H locs ls hl hz => by
  cases r with
  | none => exact lv_aloadN X.1 X.2.1 hd (lv_at hl q hq) (k H locs ls hl hz)
  | some a => exact lv_aload X.1 X.2.1 hd (lv_at hl q hq) (k H locs ls hl hz)
theorem kw_istore_n {k : Fin 4} {i : Nat} {x : Int32} (X : kX p s m args meth c cc nL own t) (hd : decode cc pc = .ok (.istore_n k, 1)) (hi : (k : Nat) = i) (hn : i < nL) (hl' : (i, Value.int x) :: lv.filter (fun q => !(q.1 == i) && !(q.1 + 1 == i && q.2.category == 2)) = lv') (k : kW p l e R s m args below meth c Q nL t pu (pc + 1) lv' rest G) : kW p l e R s m args below meth c Q nL t pu pc lv (.int x :: rest) G := fun H locs ls hl hz => lv_istore_n X.1 X.2.1 hd hi hl hn hl' (fun ls' h' => k H locs ls' h' hz)
theorem kw_istore {i : Nat} {x : Int32} (X : kX p s m args meth c cc nL own t) (hd : decode cc pc = .ok (.istore i, 2)) (hn : i < nL) (hl' : (i, Value.int x) :: lv.filter (fun q => !(q.1 == i) && !(q.1 + 1 == i && q.2.category == 2)) = lv') (k : kW p l e R s m args below meth c Q nL t pu (pc + 2) lv' rest G) : kW p l e R s m args below meth c Q nL t pu pc lv (.int x :: rest) G := fun H locs ls hl hz => lv_istore X.1 X.2.1 hd hl hn hl' (fun ls' h' => k H locs ls' h' hz)
theorem kw_lstore_n {k : Fin 4} {i : Nat} {x : Int64} (X : kX p s m args meth c cc nL own t) (hd : decode cc pc = .ok (.lstore_n k, 1)) (hi : (k : Nat) = i) (hn : i + 1 < nL) (hl' : (i, Value.long x) :: lv.filter (fun q => !(q.1 == i) && (!(q.1 == i + 1) && !(q.1 + 1 == i && q.2.category == 2))) = lv') (k : kW p l e R s m args below meth c Q nL t pu (pc + 1) lv' rest G) : kW p l e R s m args below meth c Q nL t pu pc lv (.long x :: rest) G := fun H locs ls hl hz => lv_lstore_n X.1 X.2.1 hd hi hl hn hl' (fun ls' h' => k H locs ls' h' hz)
theorem kw_lstore {i : Nat} {x : Int64} (X : kX p s m args meth c cc nL own t) (hd : decode cc pc = .ok (.lstore i, 2)) (hn : i + 1 < nL) (hl' : (i, Value.long x) :: lv.filter (fun q => !(q.1 == i) && (!(q.1 == i + 1) && !(q.1 + 1 == i && q.2.category == 2))) = lv') (k : kW p l e R s m args below meth c Q nL t pu (pc + 2) lv' rest G) : kW p l e R s m args below meth c Q nL t pu pc lv (.long x :: rest) G := fun H locs ls hl hz => lv_lstore X.1 X.2.1 hd hl hn hl' (fun ls' h' => k H locs ls' h' hz)
theorem kw_astore_n {k : Fin 4} {i : Nat} {r : Option Nat} (X : kX p s m args meth c cc nL own t) (hd : decode cc pc = .ok (.astore_n k, 1)) (hi : (k : Nat) = i) (hn : i < nL) (hl' : (i, va_rf r) :: lv.filter (fun q => !(q.1 == i) && !(q.1 + 1 == i && q.2.category == 2)) = lv') (k : kW p l e R s m args below meth c Q nL t pu (pc + 1) lv' rest G) : kW p l e R s m args below meth c Q nL t pu pc lv (va_rf r :: rest) G := fun H locs ls hl hz => by
  cases r with
  | none => exact lv_astore_nN X.1 X.2.1 hd hi hl hn hl' (fun ls' h' => k H locs ls' h' hz)
  | some a => exact lv_astore_n X.1 X.2.1 hd hi hl hn hl' (fun ls' h' => k H locs ls' h' hz)
theorem kw_astore {i : Nat} {r : Option Nat} (X : kX p s m args meth c cc nL own t) (hd : decode cc pc = .ok (.astore i, 2)) (hn : i < nL) (hl' : (i, va_rf r) :: lv.filter (fun q => !(q.1 == i) && !(q.1 + 1 == i && q.2.category == 2)) = lv') (k : kW p l e R s m args below meth c Q nL t pu (pc + 2) lv' rest G) : kW p l e R s m args below meth c Q nL t pu pc lv (va_rf r :: rest) G := fun H locs ls hl hz => by
  cases r with
  | none => exact lv_astoreN X.1 X.2.1 hd hl hn hl' (fun ls' h' => k H locs ls' h' hz)
  | some a => exact lv_astore X.1 X.2.1 hd hl hn hl' (fun ls' h' => k H locs ls' h' hz)
theorem kw_iinc {i : Nat} {n : Int} {x v : Int32} (X : kX p s m args meth c cc nL own t) (hd : decode cc pc = .ok (.iinc i n, 3)) (q : Nat) (hq : lv[q]? = some (i, .int x)) (hv : x + Int32.ofInt n = v) (hn : i < nL) (hl' : (i, Value.int v) :: lv.filter (fun q => !(q.1 == i) && !(q.1 + 1 == i && q.2.category == 2)) = lv') (k : kW p l e R s m args below meth c Q nL t pu (pc + 3) lv' rest G) : kW p l e R s m args below meth c Q nL t pu pc lv rest G := fun H locs ls hl hz => lv_iinc X.1 X.2.1 hd hl hq hv hn hl' (fun ls' h' => k H locs ls' h' hz)
theorem kw_iadd {x y : Int32} (X : kX p s m args meth c cc nL own t) (hd : decode cc pc = .ok (.iadd, 1))  (k : kW p l e R s m args below meth c Q nL t pu (pc + 1) lv (.int (x + y) :: rest) G) : kW p l e R s m args below meth c Q nL t pu pc lv (.int y :: .int x :: rest) G := fun H locs ls hl hz => lv_iadd X.1 X.2.1  hd  (k H locs ls hl hz)
theorem kw_isub {x y : Int32} (X : kX p s m args meth c cc nL own t) (hd : decode cc pc = .ok (.isub, 1))  (k : kW p l e R s m args below meth c Q nL t pu (pc + 1) lv (.int (x - y) :: rest) G) : kW p l e R s m args below meth c Q nL t pu pc lv (.int y :: .int x :: rest) G := fun H locs ls hl hz => lv_isub X.1 X.2.1  hd  (k H locs ls hl hz)
theorem kw_imul {x y : Int32} (X : kX p s m args meth c cc nL own t) (hd : decode cc pc = .ok (.imul, 1))  (k : kW p l e R s m args below meth c Q nL t pu (pc + 1) lv (.int (x * y) :: rest) G) : kW p l e R s m args below meth c Q nL t pu pc lv (.int y :: .int x :: rest) G := fun H locs ls hl hz => lv_imul X.1 X.2.1  hd  (k H locs ls hl hz)
theorem kw_iand {x y : Int32} (X : kX p s m args meth c cc nL own t) (hd : decode cc pc = .ok (.iand, 1))  (k : kW p l e R s m args below meth c Q nL t pu (pc + 1) lv (.int (x &&& y) :: rest) G) : kW p l e R s m args below meth c Q nL t pu pc lv (.int y :: .int x :: rest) G := fun H locs ls hl hz => lv_iand X.1 X.2.1  hd  (k H locs ls hl hz)
theorem kw_ior {x y : Int32} (X : kX p s m args meth c cc nL own t) (hd : decode cc pc = .ok (.ior, 1))  (k : kW p l e R s m args below meth c Q nL t pu (pc + 1) lv (.int (x ||| y) :: rest) G) : kW p l e R s m args below meth c Q nL t pu pc lv (.int y :: .int x :: rest) G := fun H locs ls hl hz => lv_ior X.1 X.2.1  hd  (k H locs ls hl hz)
theorem kw_ixor {x y : Int32} (X : kX p s m args meth c cc nL own t) (hd : decode cc pc = .ok (.ixor, 1))  (k : kW p l e R s m args below meth c Q nL t pu (pc + 1) lv (.int (x ^^^ y) :: rest) G) : kW p l e R s m args below meth c Q nL t pu pc lv (.int y :: .int x :: rest) G := fun H locs ls hl hz => lv_ixor X.1 X.2.1  hd  (k H locs ls hl hz)
theorem kw_idiv {x y : Int32} (X : kX p s m args meth c cc nL own t) (hd : decode cc pc = .ok (.idiv, 1)) (hne : ¬ y = 0) (k : kW p l e R s m args below meth c Q nL t pu (pc + 1) lv (.int (x / y) :: rest) G) : kW p l e R s m args below meth c Q nL t pu pc lv (.int y :: .int x :: rest) G := fun H locs ls hl hz => lv_idiv X.1 X.2.1  hd hne (k H locs ls hl hz)
theorem kw_irem {x y : Int32} (X : kX p s m args meth c cc nL own t) (hd : decode cc pc = .ok (.irem, 1)) (hne : ¬ y = 0) (k : kW p l e R s m args below meth c Q nL t pu (pc + 1) lv (.int (x - x / y * y) :: rest) G) : kW p l e R s m args below meth c Q nL t pu pc lv (.int y :: .int x :: rest) G := fun H locs ls hl hz => lv_irem X.1 X.2.1  hd hne (k H locs ls hl hz)
theorem kw_ladd {x y : Int64} (X : kX p s m args meth c cc nL own t) (hd : decode cc pc = .ok (.ladd, 1))  (k : kW p l e R s m args below meth c Q nL t pu (pc + 1) lv (.long (x + y) :: rest) G) : kW p l e R s m args below meth c Q nL t pu pc lv (.long y :: .long x :: rest) G := fun H locs ls hl hz => lv_ladd X.1 X.2.1  hd  (k H locs ls hl hz)
theorem kw_lsub {x y : Int64} (X : kX p s m args meth c cc nL own t) (hd : decode cc pc = .ok (.lsub, 1))  (k : kW p l e R s m args below meth c Q nL t pu (pc + 1) lv (.long (x - y) :: rest) G) : kW p l e R s m args below meth c Q nL t pu pc lv (.long y :: .long x :: rest) G := fun H locs ls hl hz => lv_lsub X.1 X.2.1  hd  (k H locs ls hl hz)
theorem kw_lmul {x y : Int64} (X : kX p s m args meth c cc nL own t) (hd : decode cc pc = .ok (.lmul, 1))  (k : kW p l e R s m args below meth c Q nL t pu (pc + 1) lv (.long (x * y) :: rest) G) : kW p l e R s m args below meth c Q nL t pu pc lv (.long y :: .long x :: rest) G := fun H locs ls hl hz => lv_lmul X.1 X.2.1  hd  (k H locs ls hl hz)
theorem kw_land {x y : Int64} (X : kX p s m args meth c cc nL own t) (hd : decode cc pc = .ok (.land, 1))  (k : kW p l e R s m args below meth c Q nL t pu (pc + 1) lv (.long (x &&& y) :: rest) G) : kW p l e R s m args below meth c Q nL t pu pc lv (.long y :: .long x :: rest) G := fun H locs ls hl hz => lv_land X.1 X.2.1  hd  (k H locs ls hl hz)
theorem kw_lor {x y : Int64} (X : kX p s m args meth c cc nL own t) (hd : decode cc pc = .ok (.lor, 1))  (k : kW p l e R s m args below meth c Q nL t pu (pc + 1) lv (.long (x ||| y) :: rest) G) : kW p l e R s m args below meth c Q nL t pu pc lv (.long y :: .long x :: rest) G := fun H locs ls hl hz => lv_lor X.1 X.2.1  hd  (k H locs ls hl hz)
theorem kw_lxor {x y : Int64} (X : kX p s m args meth c cc nL own t) (hd : decode cc pc = .ok (.lxor, 1))  (k : kW p l e R s m args below meth c Q nL t pu (pc + 1) lv (.long (x ^^^ y) :: rest) G) : kW p l e R s m args below meth c Q nL t pu pc lv (.long y :: .long x :: rest) G := fun H locs ls hl hz => lv_lxor X.1 X.2.1  hd  (k H locs ls hl hz)
theorem kw_ldiv {x y : Int64} (X : kX p s m args meth c cc nL own t) (hd : decode cc pc = .ok (.ldiv, 1)) (hne : ¬ y = 0) (k : kW p l e R s m args below meth c Q nL t pu (pc + 1) lv (.long (x / y) :: rest) G) : kW p l e R s m args below meth c Q nL t pu pc lv (.long y :: .long x :: rest) G := fun H locs ls hl hz => lv_ldiv X.1 X.2.1  hd hne (k H locs ls hl hz)
theorem kw_lrem {x y : Int64} (X : kX p s m args meth c cc nL own t) (hd : decode cc pc = .ok (.lrem, 1)) (hne : ¬ y = 0) (k : kW p l e R s m args below meth c Q nL t pu (pc + 1) lv (.long (x - x / y * y) :: rest) G) : kW p l e R s m args below meth c Q nL t pu pc lv (.long y :: .long x :: rest) G := fun H locs ls hl hz => lv_lrem X.1 X.2.1  hd hne (k H locs ls hl hz)
theorem kw_ishl {x y : Int32} (X : kX p s m args meth c cc nL own t) (hd : decode cc pc = .ok (.ishl, 1))  (k : kW p l e R s m args below meth c Q nL t pu (pc + 1) lv (.int (x <<< (y &&& 31)) :: rest) G) : kW p l e R s m args below meth c Q nL t pu pc lv (.int y :: .int x :: rest) G := fun H locs ls hl hz => lv_ishl X.1 X.2.1  hd  (k H locs ls hl hz)
theorem kw_ishr {x y : Int32} (X : kX p s m args meth c cc nL own t) (hd : decode cc pc = .ok (.ishr, 1))  (k : kW p l e R s m args below meth c Q nL t pu (pc + 1) lv (.int (x >>> (y &&& 31)) :: rest) G) : kW p l e R s m args below meth c Q nL t pu pc lv (.int y :: .int x :: rest) G := fun H locs ls hl hz => lv_ishr X.1 X.2.1  hd  (k H locs ls hl hz)
theorem kw_iushr {x y : Int32} (X : kX p s m args meth c cc nL own t) (hd : decode cc pc = .ok (.iushr, 1))  (k : kW p l e R s m args below meth c Q nL t pu (pc + 1) lv (.int ((x.toUInt32 >>> (y.toUInt32 &&& Int32.toUInt32 31)).toInt32) :: rest) G) : kW p l e R s m args below meth c Q nL t pu pc lv (.int y :: .int x :: rest) G := fun H locs ls hl hz => lv_iushr X.1 X.2.1  hd rfl (k H locs ls hl hz)
theorem kw_lshl {x : Int64} {y : Int32} (X : kX p s m args meth c cc nL own t) (hd : decode cc pc = .ok (.lshl, 1))  (k : kW p l e R s m args below meth c Q nL t pu (pc + 1) lv (.long (x <<< (y.toInt64 &&& 63)) :: rest) G) : kW p l e R s m args below meth c Q nL t pu pc lv (.int y :: .long x :: rest) G := fun H locs ls hl hz => lv_lshl X.1 X.2.1  hd rfl (k H locs ls hl hz)
theorem kw_lshr {x : Int64} {y : Int32} (X : kX p s m args meth c cc nL own t) (hd : decode cc pc = .ok (.lshr, 1))  (k : kW p l e R s m args below meth c Q nL t pu (pc + 1) lv (.long (x >>> (y.toInt64 &&& 63)) :: rest) G) : kW p l e R s m args below meth c Q nL t pu pc lv (.int y :: .long x :: rest) G := fun H locs ls hl hz => lv_lshr X.1 X.2.1  hd rfl (k H locs ls hl hz)
theorem kw_lushr {x : Int64} {y : Int32} (X : kX p s m args meth c cc nL own t) (hd : decode cc pc = .ok (.lushr, 1))  (k : kW p l e R s m args below meth c Q nL t pu (pc + 1) lv (.long ((x.toUInt64 >>> (y.toInt64.toUInt64 &&& Int64.toUInt64 63)).toInt64) :: rest) G) : kW p l e R s m args below meth c Q nL t pu pc lv (.int y :: .long x :: rest) G := fun H locs ls hl hz => lv_lushr X.1 X.2.1  hd rfl (k H locs ls hl hz)
theorem kw_i2l {x : Int32} (X : kX p s m args meth c cc nL own t) (hd : decode cc pc = .ok (.i2l, 1))  (k : kW p l e R s m args below meth c Q nL t pu (pc + 1) lv (.long x.toInt64 :: rest) G) : kW p l e R s m args below meth c Q nL t pu pc lv (.int x :: rest) G := fun H locs ls hl hz => lv_i2l X.1 X.2.1  hd rfl (k H locs ls hl hz)
theorem kw_l2i {x : Int64} (X : kX p s m args meth c cc nL own t) (hd : decode cc pc = .ok (.l2i, 1))  (k : kW p l e R s m args below meth c Q nL t pu (pc + 1) lv (.int x.toInt32 :: rest) G) : kW p l e R s m args below meth c Q nL t pu pc lv (.long x :: rest) G := fun H locs ls hl hz => lv_l2i X.1 X.2.1  hd rfl (k H locs ls hl hz)
theorem kw_i2b {x : Int32} (X : kX p s m args meth c cc nL own t) (hd : decode cc pc = .ok (.i2b, 1))  (k : kW p l e R s m args below meth c Q nL t pu (pc + 1) lv (.int x.toInt8.toInt32 :: rest) G) : kW p l e R s m args below meth c Q nL t pu pc lv (.int x :: rest) G := fun H locs ls hl hz => lv_i2b X.1 X.2.1  hd rfl (k H locs ls hl hz)
theorem kw_dup {v : Value} (X : kX p s m args meth c cc nL own t) (hd : decode cc pc = .ok (.dup, 1)) (hv : v.category = 1) (k : kW p l e R s m args below meth c Q nL t pu (pc + 1) lv (v :: v :: rest) G) : kW p l e R s m args below meth c Q nL t pu pc lv (v :: rest) G := fun H locs ls hl hz => lv_dup X.1 X.2.1  hd hv (k H locs ls hl hz)
theorem kw_pop {v : Value} (X : kX p s m args meth c cc nL own t) (hd : decode cc pc = .ok (.pop, 1)) (hv : v.category = 1) (k : kW p l e R s m args below meth c Q nL t pu (pc + 1) lv (rest) G) : kW p l e R s m args below meth c Q nL t pu pc lv (v :: rest) G := fun H locs ls hl hz => lv_pop X.1 X.2.1  hd hv (k H locs ls hl hz)
theorem kw_dup2 {v u : Value} (X : kX p s m args meth c cc nL own t) (hd : decode cc pc = .ok (.dup2, 1)) (hv : v.category = 1) (hu : u.category = 1) (k : kW p l e R s m args below meth c Q nL t pu (pc + 1) lv (v :: u :: v :: u :: rest) G) : kW p l e R s m args below meth c Q nL t pu pc lv (v :: u :: rest) G := fun H locs ls hl hz => lv_dup2_11 X.1 X.2.1  hd hv hu (k H locs ls hl hz)
theorem kw_if_eq {x : Int32} {off : Int} {tgt : Nat} (X : kX p s m args meth c cc nL own t) (hd : decode cc pc = .ok (.ifCond .eq off, 3)) (ht : (pc : Int) + off = (tgt : Int)) (kt : x = 0 → kW p l e R s m args below meth c Q nL t pu tgt lv rest G) (kf : ¬ x = 0 → kW p l e R s m args below meth c Q nL t pu (pc + 3) lv rest G) : kW p l e R s m args below meth c Q nL t pu pc lv (.int x :: rest) G := fun H locs ls hl hz => lv_if_eq X.1 X.2.1 hd ht (fun h => kt h H locs ls hl hz) (fun h => kf h H locs ls hl hz)
theorem kw_if_ne {x : Int32} {off : Int} {tgt : Nat} (X : kX p s m args meth c cc nL own t) (hd : decode cc pc = .ok (.ifCond .ne off, 3)) (ht : (pc : Int) + off = (tgt : Int)) (kt : ¬ x = 0 → kW p l e R s m args below meth c Q nL t pu tgt lv rest G) (kf : x = 0 → kW p l e R s m args below meth c Q nL t pu (pc + 3) lv rest G) : kW p l e R s m args below meth c Q nL t pu pc lv (.int x :: rest) G := fun H locs ls hl hz => lv_if_ne X.1 X.2.1 hd ht (fun h => kt h H locs ls hl hz) (fun h => kf h H locs ls hl hz)
theorem kw_if_lt {x : Int32} {off : Int} {tgt : Nat} (X : kX p s m args meth c cc nL own t) (hd : decode cc pc = .ok (.ifCond .lt off, 3)) (ht : (pc : Int) + off = (tgt : Int)) (kt : x < 0 → kW p l e R s m args below meth c Q nL t pu tgt lv rest G) (kf : ¬ x < 0 → kW p l e R s m args below meth c Q nL t pu (pc + 3) lv rest G) : kW p l e R s m args below meth c Q nL t pu pc lv (.int x :: rest) G := fun H locs ls hl hz => lv_if_lt X.1 X.2.1 hd ht (fun h => kt h H locs ls hl hz) (fun h => kf h H locs ls hl hz)
theorem kw_if_ge {x : Int32} {off : Int} {tgt : Nat} (X : kX p s m args meth c cc nL own t) (hd : decode cc pc = .ok (.ifCond .ge off, 3)) (ht : (pc : Int) + off = (tgt : Int)) (kt : 0 ≤ x → kW p l e R s m args below meth c Q nL t pu tgt lv rest G) (kf : ¬ 0 ≤ x → kW p l e R s m args below meth c Q nL t pu (pc + 3) lv rest G) : kW p l e R s m args below meth c Q nL t pu pc lv (.int x :: rest) G := fun H locs ls hl hz => lv_if_ge X.1 X.2.1 hd ht (fun h => kt h H locs ls hl hz) (fun h => kf h H locs ls hl hz)
theorem kw_if_gt {x : Int32} {off : Int} {tgt : Nat} (X : kX p s m args meth c cc nL own t) (hd : decode cc pc = .ok (.ifCond .gt off, 3)) (ht : (pc : Int) + off = (tgt : Int)) (kt : 0 < x → kW p l e R s m args below meth c Q nL t pu tgt lv rest G) (kf : ¬ 0 < x → kW p l e R s m args below meth c Q nL t pu (pc + 3) lv rest G) : kW p l e R s m args below meth c Q nL t pu pc lv (.int x :: rest) G := fun H locs ls hl hz => lv_if_gt X.1 X.2.1 hd ht (fun h => kt h H locs ls hl hz) (fun h => kf h H locs ls hl hz)
theorem kw_if_le {x : Int32} {off : Int} {tgt : Nat} (X : kX p s m args meth c cc nL own t) (hd : decode cc pc = .ok (.ifCond .le off, 3)) (ht : (pc : Int) + off = (tgt : Int)) (kt : x ≤ 0 → kW p l e R s m args below meth c Q nL t pu tgt lv rest G) (kf : ¬ x ≤ 0 → kW p l e R s m args below meth c Q nL t pu (pc + 3) lv rest G) : kW p l e R s m args below meth c Q nL t pu pc lv (.int x :: rest) G := fun H locs ls hl hz => lv_if_le X.1 X.2.1 hd ht (fun h => kt h H locs ls hl hz) (fun h => kf h H locs ls hl hz)
theorem kw_icmp_eq {x y : Int32} {off : Int} {tgt : Nat} (X : kX p s m args meth c cc nL own t) (hd : decode cc pc = .ok (.if_icmp .eq off, 3)) (ht : (pc : Int) + off = (tgt : Int)) (kt : x = y → kW p l e R s m args below meth c Q nL t pu tgt lv rest G) (kf : ¬ x = y → kW p l e R s m args below meth c Q nL t pu (pc + 3) lv rest G) : kW p l e R s m args below meth c Q nL t pu pc lv (.int y :: .int x :: rest) G := fun H locs ls hl hz => lv_icmp_eq X.1 X.2.1 hd ht (fun h => kt h H locs ls hl hz) (fun h => kf h H locs ls hl hz)
theorem kw_icmp_ne {x y : Int32} {off : Int} {tgt : Nat} (X : kX p s m args meth c cc nL own t) (hd : decode cc pc = .ok (.if_icmp .ne off, 3)) (ht : (pc : Int) + off = (tgt : Int)) (kt : ¬ x = y → kW p l e R s m args below meth c Q nL t pu tgt lv rest G) (kf : x = y → kW p l e R s m args below meth c Q nL t pu (pc + 3) lv rest G) : kW p l e R s m args below meth c Q nL t pu pc lv (.int y :: .int x :: rest) G := fun H locs ls hl hz => lv_icmp_ne X.1 X.2.1 hd ht (fun h => kt h H locs ls hl hz) (fun h => kf h H locs ls hl hz)
theorem kw_icmp_lt {x y : Int32} {off : Int} {tgt : Nat} (X : kX p s m args meth c cc nL own t) (hd : decode cc pc = .ok (.if_icmp .lt off, 3)) (ht : (pc : Int) + off = (tgt : Int)) (kt : x < y → kW p l e R s m args below meth c Q nL t pu tgt lv rest G) (kf : ¬ x < y → kW p l e R s m args below meth c Q nL t pu (pc + 3) lv rest G) : kW p l e R s m args below meth c Q nL t pu pc lv (.int y :: .int x :: rest) G := fun H locs ls hl hz => lv_icmp_lt X.1 X.2.1 hd ht (fun h => kt h H locs ls hl hz) (fun h => kf h H locs ls hl hz)
theorem kw_icmp_ge {x y : Int32} {off : Int} {tgt : Nat} (X : kX p s m args meth c cc nL own t) (hd : decode cc pc = .ok (.if_icmp .ge off, 3)) (ht : (pc : Int) + off = (tgt : Int)) (kt : y ≤ x → kW p l e R s m args below meth c Q nL t pu tgt lv rest G) (kf : ¬ y ≤ x → kW p l e R s m args below meth c Q nL t pu (pc + 3) lv rest G) : kW p l e R s m args below meth c Q nL t pu pc lv (.int y :: .int x :: rest) G := fun H locs ls hl hz => lv_icmp_ge X.1 X.2.1 hd ht (fun h => kt h H locs ls hl hz) (fun h => kf h H locs ls hl hz)
theorem kw_icmp_gt {x y : Int32} {off : Int} {tgt : Nat} (X : kX p s m args meth c cc nL own t) (hd : decode cc pc = .ok (.if_icmp .gt off, 3)) (ht : (pc : Int) + off = (tgt : Int)) (kt : y < x → kW p l e R s m args below meth c Q nL t pu tgt lv rest G) (kf : ¬ y < x → kW p l e R s m args below meth c Q nL t pu (pc + 3) lv rest G) : kW p l e R s m args below meth c Q nL t pu pc lv (.int y :: .int x :: rest) G := fun H locs ls hl hz => lv_icmp_gt X.1 X.2.1 hd ht (fun h => kt h H locs ls hl hz) (fun h => kf h H locs ls hl hz)
theorem kw_icmp_le {x y : Int32} {off : Int} {tgt : Nat} (X : kX p s m args meth c cc nL own t) (hd : decode cc pc = .ok (.if_icmp .le off, 3)) (ht : (pc : Int) + off = (tgt : Int)) (kt : x ≤ y → kW p l e R s m args below meth c Q nL t pu tgt lv rest G) (kf : ¬ x ≤ y → kW p l e R s m args below meth c Q nL t pu (pc + 3) lv rest G) : kW p l e R s m args below meth c Q nL t pu pc lv (.int y :: .int x :: rest) G := fun H locs ls hl hz => lv_icmp_le X.1 X.2.1 hd ht (fun h => kt h H locs ls hl hz) (fun h => kf h H locs ls hl hz)
theorem kw_lcmp_eq {x y : Int64} {off : Int} {tgt : Nat} (X : kX p s m args meth c cc nL own t) (hd : decode cc pc = .ok (.lcmp, 1)) (hd2 : decode cc (pc + 1) = .ok (.ifCond .eq off, 3)) (ht : ((pc + 1 : Nat) : Int) + off = (tgt : Int)) (kt : x = y → kW p l e R s m args below meth c Q nL t pu tgt lv rest G) (kf : ¬ x = y → kW p l e R s m args below meth c Q nL t pu (pc + 1 + 3) lv rest G) : kW p l e R s m args below meth c Q nL t pu pc lv (.long y :: .long x :: rest) G := fun H locs ls hl hz => W.lcmp X.1 X.2.1 hd (lv_if_eq X.1 X.2.1 hd2 ht (fun h => kt ((lg_cmp_eq x y).mp h) H locs ls hl hz) (fun h => kf (fun q => h ((lg_cmp_eq x y).mpr q)) H locs ls hl hz))
theorem kw_lcmp_ne {x y : Int64} {off : Int} {tgt : Nat} (X : kX p s m args meth c cc nL own t) (hd : decode cc pc = .ok (.lcmp, 1)) (hd2 : decode cc (pc + 1) = .ok (.ifCond .ne off, 3)) (ht : ((pc + 1 : Nat) : Int) + off = (tgt : Int)) (kt : ¬ x = y → kW p l e R s m args below meth c Q nL t pu tgt lv rest G) (kf : x = y → kW p l e R s m args below meth c Q nL t pu (pc + 1 + 3) lv rest G) : kW p l e R s m args below meth c Q nL t pu pc lv (.long y :: .long x :: rest) G := fun H locs ls hl hz => W.lcmp X.1 X.2.1 hd (lv_if_ne X.1 X.2.1 hd2 ht (fun h => kt (fun q => h ((lg_cmp_eq x y).mpr q)) H locs ls hl hz) (fun h => kf ((lg_cmp_eq x y).mp h) H locs ls hl hz))
theorem kw_lcmp_lt {x y : Int64} {off : Int} {tgt : Nat} (X : kX p s m args meth c cc nL own t) (hd : decode cc pc = .ok (.lcmp, 1)) (hd2 : decode cc (pc + 1) = .ok (.ifCond .lt off, 3)) (ht : ((pc + 1 : Nat) : Int) + off = (tgt : Int)) (kt : x < y → kW p l e R s m args below meth c Q nL t pu tgt lv rest G) (kf : ¬ x < y → kW p l e R s m args below meth c Q nL t pu (pc + 1 + 3) lv rest G) : kW p l e R s m args below meth c Q nL t pu pc lv (.long y :: .long x :: rest) G := fun H locs ls hl hz => W.lcmp X.1 X.2.1 hd (lv_if_lt X.1 X.2.1 hd2 ht (fun h => kt ((lg_cmp_lt x y).mp h) H locs ls hl hz) (fun h => kf (fun q => h ((lg_cmp_lt x y).mpr q)) H locs ls hl hz))
theorem kw_lcmp_ge {x y : Int64} {off : Int} {tgt : Nat} (X : kX p s m args meth c cc nL own t) (hd : decode cc pc = .ok (.lcmp, 1)) (hd2 : decode cc (pc + 1) = .ok (.ifCond .ge off, 3)) (ht : ((pc + 1 : Nat) : Int) + off = (tgt : Int)) (kt : y ≤ x → kW p l e R s m args below meth c Q nL t pu tgt lv rest G) (kf : ¬ y ≤ x → kW p l e R s m args below meth c Q nL t pu (pc + 1 + 3) lv rest G) : kW p l e R s m args below meth c Q nL t pu pc lv (.long y :: .long x :: rest) G := fun H locs ls hl hz => W.lcmp X.1 X.2.1 hd (lv_if_ge X.1 X.2.1 hd2 ht (fun h => kt ((lg_cmp_ge x y).mp h) H locs ls hl hz) (fun h => kf (fun q => h ((lg_cmp_ge x y).mpr q)) H locs ls hl hz))
theorem kw_lcmp_gt {x y : Int64} {off : Int} {tgt : Nat} (X : kX p s m args meth c cc nL own t) (hd : decode cc pc = .ok (.lcmp, 1)) (hd2 : decode cc (pc + 1) = .ok (.ifCond .gt off, 3)) (ht : ((pc + 1 : Nat) : Int) + off = (tgt : Int)) (kt : y < x → kW p l e R s m args below meth c Q nL t pu tgt lv rest G) (kf : ¬ y < x → kW p l e R s m args below meth c Q nL t pu (pc + 1 + 3) lv rest G) : kW p l e R s m args below meth c Q nL t pu pc lv (.long y :: .long x :: rest) G := fun H locs ls hl hz => W.lcmp X.1 X.2.1 hd (lv_if_gt X.1 X.2.1 hd2 ht (fun h => kt ((lg_cmp_gt x y).mp h) H locs ls hl hz) (fun h => kf (fun q => h ((lg_cmp_gt x y).mpr q)) H locs ls hl hz))
theorem kw_lcmp_le {x y : Int64} {off : Int} {tgt : Nat} (X : kX p s m args meth c cc nL own t) (hd : decode cc pc = .ok (.lcmp, 1)) (hd2 : decode cc (pc + 1) = .ok (.ifCond .le off, 3)) (ht : ((pc + 1 : Nat) : Int) + off = (tgt : Int)) (kt : x ≤ y → kW p l e R s m args below meth c Q nL t pu tgt lv rest G) (kf : ¬ x ≤ y → kW p l e R s m args below meth c Q nL t pu (pc + 1 + 3) lv rest G) : kW p l e R s m args below meth c Q nL t pu pc lv (.long y :: .long x :: rest) G := fun H locs ls hl hz => W.lcmp X.1 X.2.1 hd (lv_if_le X.1 X.2.1 hd2 ht (fun h => kt ((lg_cmp_le x y).mp h) H locs ls hl hz) (fun h => kf (fun q => h ((lg_cmp_le x y).mpr q)) H locs ls hl hz))
theorem kw_acmp_eq {rx ry : Option Nat} {off : Int} {tgt : Nat} (X : kX p s m args meth c cc nL own t) (hd : decode cc pc = .ok (.if_acmp .eq off, 3)) (ht : (pc : Int) + off = (tgt : Int)) (kt : rx = ry → kW p l e R s m args below meth c Q nL t pu tgt lv rest G) (kf : ¬ rx = ry → kW p l e R s m args below meth c Q nL t pu (pc + 3) lv rest G) : kW p l e R s m args below meth c Q nL t pu pc lv (va_rf ry :: va_rf rx :: rest) G := fun H locs ls hl hz => lv_acmp_eq X.1 X.2.1 hd ht (fun h => kt h H locs ls hl hz) (fun h => kf h H locs ls hl hz)
theorem kw_acmp_ne {rx ry : Option Nat} {off : Int} {tgt : Nat} (X : kX p s m args meth c cc nL own t) (hd : decode cc pc = .ok (.if_acmp .ne off, 3)) (ht : (pc : Int) + off = (tgt : Int)) (kt : ¬ rx = ry → kW p l e R s m args below meth c Q nL t pu tgt lv rest G) (kf : rx = ry → kW p l e R s m args below meth c Q nL t pu (pc + 3) lv rest G) : kW p l e R s m args below meth c Q nL t pu pc lv (va_rf ry :: va_rf rx :: rest) G := fun H locs ls hl hz => lv_acmp_ne X.1 X.2.1 hd ht (fun h => kt h H locs ls hl hz) (fun h => kf h H locs ls hl hz)
theorem kw_ifnull {r : Option Nat} {off : Int} {tgt : Nat} (X : kX p s m args meth c cc nL own t) (hd : decode cc pc = .ok (.ifnull off, 3)) (ht : (pc : Int) + off = (tgt : Int)) (kt : r = none → kW p l e R s m args below meth c Q nL t pu tgt lv rest G) (kf : ¬ r = none → kW p l e R s m args below meth c Q nL t pu (pc + 3) lv rest G) : kW p l e R s m args below meth c Q nL t pu pc lv (va_rf r :: rest) G := fun H locs ls hl hz => by
  cases r with
  | none => exact lv_ifnullN X.1 X.2.1 hd ht (kt rfl H locs ls hl hz)
  | some a => exact lv_ifnull X.1 X.2.1 hd (kf (fun q => by cases q) H locs ls hl hz)
theorem kw_ifnonnull {r : Option Nat} {off : Int} {tgt : Nat} (X : kX p s m args meth c cc nL own t) (hd : decode cc pc = .ok (.ifnonnull off, 3)) (ht : (pc : Int) + off = (tgt : Int)) (kt : ¬ r = none → kW p l e R s m args below meth c Q nL t pu tgt lv rest G) (kf : r = none → kW p l e R s m args below meth c Q nL t pu (pc + 3) lv rest G) : kW p l e R s m args below meth c Q nL t pu pc lv (va_rf r :: rest) G := fun H locs ls hl hz => by
  cases r with
  | none => exact lv_ifnonnullN X.1 X.2.1 hd (kf rfl H locs ls hl hz)
  | some a => exact lv_ifnonnull X.1 X.2.1 hd ht (kt (fun q => by cases q) H locs ls hl hz)
theorem kw_goto {off : Int} {tgt : Nat} (X : kX p s m args meth c cc nL own t) (hd : decode cc pc = .ok (.goto off, 3)) (ht : (pc : Int) + off = (tgt : Int)) (k : kW p l e R s m args below meth c Q nL t pu tgt lv rest G) : kW p l e R s m args below meth c Q nL t pu pc lv rest G := fun H locs ls hl hz => lv_goto X.1 X.2.1 hd ht (k H locs ls hl hz)
theorem kw_tableIn {dflt lo hi : Int} {offs : Array Int} {len : Nat} {x : Int32} {off : Int} {tgt : Nat} (X : kX p s m args meth c cc nL own t) (hd : decode cc pc = .ok (.tableswitch dflt lo hi offs, len)) (h1 : ¬ x.toInt < lo) (h2 : ¬ hi < x.toInt) (ho : offs[(x.toInt - lo).toNat]? = some off) (ht : (pc : Int) + off = (tgt : Int)) (k : kW p l e R s m args below meth c Q nL t pu tgt lv rest G) : kW p l e R s m args below meth c Q nL t pu pc lv (.int x :: rest) G := fun H locs ls hl hz => lv_tableIn X.1 X.2.1 hd h1 h2 ho ht (k H locs ls hl hz)
theorem kw_tableOut {dflt lo hi : Int} {offs : Array Int} {len : Nat} {x : Int32} {tgt : Nat} (X : kX p s m args meth c cc nL own t) (hd : decode cc pc = .ok (.tableswitch dflt lo hi offs, len)) (h : x.toInt < lo ∨ hi < x.toInt) (ht : (pc : Int) + dflt = (tgt : Int)) (k : kW p l e R s m args below meth c Q nL t pu tgt lv rest G) : kW p l e R s m args below meth c Q nL t pu pc lv (.int x :: rest) G := fun H locs ls hl hz => lv_tableOut X.1 X.2.1 hd h ht (k H locs ls hl hz)
theorem kw_lookup {dflt : Int} {ps : Array (Int × Int)} {len : Nat} {x : Int32} {off : Int} {tgt : Nat} (X : kX p s m args meth c cc nL own t) (hd : decode cc pc = .ok (.lookupswitch dflt ps, len)) (hp : (ps.toList.zip (ps.toList.drop 1)).all (fun (a, next) => a.1 < next.1) = true) (ho : Op.lookupswitch.offset ps.toList dflt x.toInt = off) (ht : (pc : Int) + off = (tgt : Int)) (k : kW p l e R s m args below meth c Q nL t pu tgt lv rest G) : kW p l e R s m args below meth c Q nL t pu pc lv (.int x :: rest) G := fun H locs ls hl hz => lv_lookup X.1 X.2.1 hd hp ho ht (k H locs ls hl hz)
theorem kg_0 {a idx : Nat} {r : Option Nat} (X : kX p s m args meth c cc nL own t) (hd : decode cc pc = .ok (.getfield idx, 3)) (hw : Cond.fieldLink own idx "TreeServer$Node" "path" "I" ∈ GW) (hr : r = some a) (hk : tk t a = 1) (k : kW p l e R s m args below meth c Q nL t pu (pc + 3) lv (.int (gi G 0 a) :: rest) G) : kW p l e R s m args below meth c Q nL t pu pc lv (va_rf r :: rest) G := by
  subst hr
  intro H locs ls hl hz
  obtain ⟨q0, hq⟩ := hz.1.get (X.d hk (by decide))
  rw [mE_1 hk] at hq
  exact va_get (D := tD t) (cl := mcl) (tys := mty t) (ws := va_pl (tdom t) (mE t G)) (ci := 0) (C := RK0) (T := TK0) (N := 13) X.1 X.2.1 X.ws (fun w h => GW_in (inK0 w h) (inG0 w h)) X.o X.k hz.1.1 q0 hq rfl 0 (by decide) (X.w hw) (fun _ h => h) rfl hd (k H locs ls hl hz)
theorem kp_0 {a idx : Nat} {r : Option Nat} {x : Int32} (X : kX p s m args meth c cc nL own t) (hpu : pu = false) (hd : decode cc pc = .ok (.putfield idx, 3)) (hw : Cond.fieldLink own idx "TreeServer$Node" "path" "I" ∈ GW) (hr : r = some a) (hk : tk t a = 1) (k : kW p l e R s m args below meth c Q nL t pu (pc + 3) lv rest (si G 0 a x)) : kW p l e R s m args below meth c Q nL t pu pc lv (.int x :: va_rf r :: rest) G := by
  subst hr
  intro H locs ls hl hz
  have ha := X.d hk (by decide)
  obtain ⟨q0, hq⟩ := hz.1.get ha
  have hq' := hq
  rw [mE_1 hk] at hq'
  refine va_put (D := tD t) (cl := mcl) (tys := mty t) (ws := va_pl (tdom t) (mE t G)) (A := tA t) (H0 := s.heap) (ci := 0) (C := RK0) (T := TK0) (N := 13) (v := .int x) (ty := .int) X.1 X.2.1 X.ws (fun w h => GW_in (inK0 w h) (inG0 w h)) yK0 yK0_ok nmK0 X.o X.k hz.1.1 hz.1.2.1 hz.2.1 q0 hq' rfl 0 (by decide) (X.w hw) (fun _ h => h) rfl (by decide +kernel) rfl rfl (Nat.le_of_ble_eq_true rfl) hd (fun H1 locs1 hP hD hS => ?_)
  exact k H1 locs1 ls hl ⟨hz.1.set ha hq (by rw [mE_1 hk]; simp [gi, gl, gr, si, u2]) (fun b hb => mE_si hb) hP hD (fun b j h => hz.1.2.2 b j h), hS, fun h => by rw [hpu] at h; cases h⟩
theorem kg_1 {a idx : Nat} {r : Option Nat} (X : kX p s m args meth c cc nL own t) (hd : decode cc pc = .ok (.getfield idx, 3)) (hw : Cond.fieldLink own idx "TreeServer$Node" "version" "I" ∈ GW) (hr : r = some a) (hk : tk t a = 1) (k : kW p l e R s m args below meth c Q nL t pu (pc + 3) lv (.int (gi G 1 a) :: rest) G) : kW p l e R s m args below meth c Q nL t pu pc lv (va_rf r :: rest) G := by
  subst hr
  intro H locs ls hl hz
  obtain ⟨q0, hq⟩ := hz.1.get (X.d hk (by decide))
  rw [mE_1 hk] at hq
  exact va_get (D := tD t) (cl := mcl) (tys := mty t) (ws := va_pl (tdom t) (mE t G)) (ci := 0) (C := RK0) (T := TK0) (N := 13) X.1 X.2.1 X.ws (fun w h => GW_in (inK0 w h) (inG0 w h)) X.o X.k hz.1.1 q0 hq rfl 1 (by decide) (X.w hw) (fun _ h => h) rfl hd (k H locs ls hl hz)
theorem kp_1 {a idx : Nat} {r : Option Nat} {x : Int32} (X : kX p s m args meth c cc nL own t) (hpu : pu = false) (hd : decode cc pc = .ok (.putfield idx, 3)) (hw : Cond.fieldLink own idx "TreeServer$Node" "version" "I" ∈ GW) (hr : r = some a) (hk : tk t a = 1) (k : kW p l e R s m args below meth c Q nL t pu (pc + 3) lv rest (si G 1 a x)) : kW p l e R s m args below meth c Q nL t pu pc lv (.int x :: va_rf r :: rest) G := by
  subst hr
  intro H locs ls hl hz
  have ha := X.d hk (by decide)
  obtain ⟨q0, hq⟩ := hz.1.get ha
  have hq' := hq
  rw [mE_1 hk] at hq'
  refine va_put (D := tD t) (cl := mcl) (tys := mty t) (ws := va_pl (tdom t) (mE t G)) (A := tA t) (H0 := s.heap) (ci := 0) (C := RK0) (T := TK0) (N := 13) (v := .int x) (ty := .int) X.1 X.2.1 X.ws (fun w h => GW_in (inK0 w h) (inG0 w h)) yK0 yK0_ok nmK0 X.o X.k hz.1.1 hz.1.2.1 hz.2.1 q0 hq' rfl 1 (by decide) (X.w hw) (fun _ h => h) rfl (by decide +kernel) rfl rfl (Nat.le_of_ble_eq_true rfl) hd (fun H1 locs1 hP hD hS => ?_)
  exact k H1 locs1 ls hl ⟨hz.1.set ha hq (by rw [mE_1 hk]; simp [gi, gl, gr, si, u2]) (fun b hb => mE_si hb) hP hD (fun b j h => hz.1.2.2 b j h), hS, fun h => by rw [hpu] at h; cases h⟩
theorem kg_2 {a idx : Nat} {r : Option Nat} (X : kX p s m args meth c cc nL own t) (hd : decode cc pc = .ok (.getfield idx, 3)) (hw : Cond.fieldLink own idx "TreeServer$Node" "mode" "I" ∈ GW) (hr : r = some a) (hk : tk t a = 1) (k : kW p l e R s m args below meth c Q nL t pu (pc + 3) lv (.int (gi G 2 a) :: rest) G) : kW p l e R s m args below meth c Q nL t pu pc lv (va_rf r :: rest) G := by
  subst hr
  intro H locs ls hl hz
  obtain ⟨q0, hq⟩ := hz.1.get (X.d hk (by decide))
  rw [mE_1 hk] at hq
  exact va_get (D := tD t) (cl := mcl) (tys := mty t) (ws := va_pl (tdom t) (mE t G)) (ci := 0) (C := RK0) (T := TK0) (N := 13) X.1 X.2.1 X.ws (fun w h => GW_in (inK0 w h) (inG0 w h)) X.o X.k hz.1.1 q0 hq rfl 2 (by decide) (X.w hw) (fun _ h => h) rfl hd (k H locs ls hl hz)
theorem kp_2 {a idx : Nat} {r : Option Nat} {x : Int32} (X : kX p s m args meth c cc nL own t) (hpu : pu = false) (hd : decode cc pc = .ok (.putfield idx, 3)) (hw : Cond.fieldLink own idx "TreeServer$Node" "mode" "I" ∈ GW) (hr : r = some a) (hk : tk t a = 1) (k : kW p l e R s m args below meth c Q nL t pu (pc + 3) lv rest (si G 2 a x)) : kW p l e R s m args below meth c Q nL t pu pc lv (.int x :: va_rf r :: rest) G := by
  subst hr
  intro H locs ls hl hz
  have ha := X.d hk (by decide)
  obtain ⟨q0, hq⟩ := hz.1.get ha
  have hq' := hq
  rw [mE_1 hk] at hq'
  refine va_put (D := tD t) (cl := mcl) (tys := mty t) (ws := va_pl (tdom t) (mE t G)) (A := tA t) (H0 := s.heap) (ci := 0) (C := RK0) (T := TK0) (N := 13) (v := .int x) (ty := .int) X.1 X.2.1 X.ws (fun w h => GW_in (inK0 w h) (inG0 w h)) yK0 yK0_ok nmK0 X.o X.k hz.1.1 hz.1.2.1 hz.2.1 q0 hq' rfl 2 (by decide) (X.w hw) (fun _ h => h) rfl (by decide +kernel) rfl rfl (Nat.le_of_ble_eq_true rfl) hd (fun H1 locs1 hP hD hS => ?_)
  exact k H1 locs1 ls hl ⟨hz.1.set ha hq (by rw [mE_1 hk]; simp [gi, gl, gr, si, u2]) (fun b hb => mE_si hb) hP hD (fun b j h => hz.1.2.2 b j h), hS, fun h => by rw [hpu] at h; cases h⟩
theorem kg_3 {a idx : Nat} {r : Option Nat} (X : kX p s m args meth c cc nL own t) (hd : decode cc pc = .ok (.getfield idx, 3)) (hw : Cond.fieldLink own idx "TreeServer$Node" "mtime" "I" ∈ GW) (hr : r = some a) (hk : tk t a = 1) (k : kW p l e R s m args below meth c Q nL t pu (pc + 3) lv (.int (gi G 3 a) :: rest) G) : kW p l e R s m args below meth c Q nL t pu pc lv (va_rf r :: rest) G := by
  subst hr
  intro H locs ls hl hz
  obtain ⟨q0, hq⟩ := hz.1.get (X.d hk (by decide))
  rw [mE_1 hk] at hq
  exact va_get (D := tD t) (cl := mcl) (tys := mty t) (ws := va_pl (tdom t) (mE t G)) (ci := 0) (C := RK0) (T := TK0) (N := 13) X.1 X.2.1 X.ws (fun w h => GW_in (inK0 w h) (inG0 w h)) X.o X.k hz.1.1 q0 hq rfl 3 (by decide) (X.w hw) (fun _ h => h) rfl hd (k H locs ls hl hz)
theorem kp_3 {a idx : Nat} {r : Option Nat} {x : Int32} (X : kX p s m args meth c cc nL own t) (hpu : pu = false) (hd : decode cc pc = .ok (.putfield idx, 3)) (hw : Cond.fieldLink own idx "TreeServer$Node" "mtime" "I" ∈ GW) (hr : r = some a) (hk : tk t a = 1) (k : kW p l e R s m args below meth c Q nL t pu (pc + 3) lv rest (si G 3 a x)) : kW p l e R s m args below meth c Q nL t pu pc lv (.int x :: va_rf r :: rest) G := by
  subst hr
  intro H locs ls hl hz
  have ha := X.d hk (by decide)
  obtain ⟨q0, hq⟩ := hz.1.get ha
  have hq' := hq
  rw [mE_1 hk] at hq'
  refine va_put (D := tD t) (cl := mcl) (tys := mty t) (ws := va_pl (tdom t) (mE t G)) (A := tA t) (H0 := s.heap) (ci := 0) (C := RK0) (T := TK0) (N := 13) (v := .int x) (ty := .int) X.1 X.2.1 X.ws (fun w h => GW_in (inK0 w h) (inG0 w h)) yK0 yK0_ok nmK0 X.o X.k hz.1.1 hz.1.2.1 hz.2.1 q0 hq' rfl 3 (by decide) (X.w hw) (fun _ h => h) rfl (by decide +kernel) rfl rfl (Nat.le_of_ble_eq_true rfl) hd (fun H1 locs1 hP hD hS => ?_)
  exact k H1 locs1 ls hl ⟨hz.1.set ha hq (by rw [mE_1 hk]; simp [gi, gl, gr, si, u2]) (fun b hb => mE_si hb) hP hD (fun b j h => hz.1.2.2 b j h), hS, fun h => by rw [hpu] at h; cases h⟩
theorem kg_4 {a idx : Nat} {r : Option Nat} (X : kX p s m args meth c cc nL own t) (hd : decode cc pc = .ok (.getfield idx, 3)) (hw : Cond.fieldLink own idx "TreeServer$Node" "owner" "LTreeServer$User;" ∈ GW) (hr : r = some a) (hk : tk t a = 1) (k : kW p l e R s m args below meth c Q nL t pu (pc + 3) lv (va_rf (gr G 4 a) :: rest) G) : kW p l e R s m args below meth c Q nL t pu pc lv (va_rf r :: rest) G := by
  subst hr
  intro H locs ls hl hz
  obtain ⟨q0, hq⟩ := hz.1.get (X.d hk (by decide))
  rw [mE_1 hk] at hq
  exact va_get (D := tD t) (cl := mcl) (tys := mty t) (ws := va_pl (tdom t) (mE t G)) (ci := 0) (C := RK0) (T := TK0) (N := 13) X.1 X.2.1 X.ws (fun w h => GW_in (inK0 w h) (inG0 w h)) X.o X.k hz.1.1 q0 hq rfl 4 (by decide) (X.w hw) (fun _ h => h) rfl hd (k H locs ls hl hz)
theorem kp_4 {a idx : Nat} {r : Option Nat} {x : Option Nat} (X : kX p s m args meth c cc nL own t) (hpu : pu = false) (hd : decode cc pc = .ok (.putfield idx, 3)) (hw : Cond.fieldLink own idx "TreeServer$Node" "owner" "LTreeServer$User;" ∈ GW) (hr : r = some a) (hk : tk t a = 1) (k : kW p l e R s m args below meth c Q nL t pu (pc + 3) lv rest (sr G 4 a x)) : kW p l e R s m args below meth c Q nL t pu pc lv (va_rf x :: va_rf r :: rest) G := by
  subst hr
  intro H locs ls hl hz
  have ha := X.d hk (by decide)
  obtain ⟨q0, hq⟩ := hz.1.get ha
  have hq' := hq
  rw [mE_1 hk] at hq'
  refine va_put (D := tD t) (cl := mcl) (tys := mty t) (ws := va_pl (tdom t) (mE t G)) (A := tA t) (H0 := s.heap) (ci := 0) (C := RK0) (T := TK0) (N := 13) (v := va_rf x) (ty := .object "TreeServer$User") X.1 X.2.1 X.ws (fun w h => GW_in (inK0 w h) (inG0 w h)) yK0 yK0_ok nmK0 X.o X.k hz.1.1 hz.1.2.1 hz.2.1 q0 hq' rfl 4 (by decide) (X.w hw) (fun _ h => h) rfl (by decide +kernel) (by cases x <;> rfl) (by cases x <;> rfl) (Nat.le_of_ble_eq_true rfl) hd (fun H1 locs1 hP hD hS => ?_)
  exact k H1 locs1 ls hl ⟨hz.1.set ha hq (by rw [mE_1 hk]; simp [gi, gl, gr, sr, u2]) (fun b hb => mE_sr hb) hP hD (fun b j h => hz.1.2.2 b j h), hS, fun h => by rw [hpu] at h; cases h⟩
theorem kg_5 {a idx : Nat} {r : Option Nat} (X : kX p s m args meth c cc nL own t) (hd : decode cc pc = .ok (.getfield idx, 3)) (hw : Cond.fieldLink own idx "TreeServer$Node" "group" "LTreeServer$User;" ∈ GW) (hr : r = some a) (hk : tk t a = 1) (k : kW p l e R s m args below meth c Q nL t pu (pc + 3) lv (va_rf (gr G 5 a) :: rest) G) : kW p l e R s m args below meth c Q nL t pu pc lv (va_rf r :: rest) G := by
  subst hr
  intro H locs ls hl hz
  obtain ⟨q0, hq⟩ := hz.1.get (X.d hk (by decide))
  rw [mE_1 hk] at hq
  exact va_get (D := tD t) (cl := mcl) (tys := mty t) (ws := va_pl (tdom t) (mE t G)) (ci := 0) (C := RK0) (T := TK0) (N := 13) X.1 X.2.1 X.ws (fun w h => GW_in (inK0 w h) (inG0 w h)) X.o X.k hz.1.1 q0 hq rfl 5 (by decide) (X.w hw) (fun _ h => h) rfl hd (k H locs ls hl hz)
theorem kp_5 {a idx : Nat} {r : Option Nat} {x : Option Nat} (X : kX p s m args meth c cc nL own t) (hpu : pu = false) (hd : decode cc pc = .ok (.putfield idx, 3)) (hw : Cond.fieldLink own idx "TreeServer$Node" "group" "LTreeServer$User;" ∈ GW) (hr : r = some a) (hk : tk t a = 1) (k : kW p l e R s m args below meth c Q nL t pu (pc + 3) lv rest (sr G 5 a x)) : kW p l e R s m args below meth c Q nL t pu pc lv (va_rf x :: va_rf r :: rest) G := by
  subst hr
  intro H locs ls hl hz
  have ha := X.d hk (by decide)
  obtain ⟨q0, hq⟩ := hz.1.get ha
  have hq' := hq
  rw [mE_1 hk] at hq'
  refine va_put (D := tD t) (cl := mcl) (tys := mty t) (ws := va_pl (tdom t) (mE t G)) (A := tA t) (H0 := s.heap) (ci := 0) (C := RK0) (T := TK0) (N := 13) (v := va_rf x) (ty := .object "TreeServer$User") X.1 X.2.1 X.ws (fun w h => GW_in (inK0 w h) (inG0 w h)) yK0 yK0_ok nmK0 X.o X.k hz.1.1 hz.1.2.1 hz.2.1 q0 hq' rfl 5 (by decide) (X.w hw) (fun _ h => h) rfl (by decide +kernel) (by cases x <;> rfl) (by cases x <;> rfl) (Nat.le_of_ble_eq_true rfl) hd (fun H1 locs1 hP hD hS => ?_)
  exact k H1 locs1 ls hl ⟨hz.1.set ha hq (by rw [mE_1 hk]; simp [gi, gl, gr, sr, u2]) (fun b hb => mE_sr hb) hP hD (fun b j h => hz.1.2.2 b j h), hS, fun h => by rw [hpu] at h; cases h⟩
theorem kg_6 {a idx : Nat} {r : Option Nat} (X : kX p s m args meth c cc nL own t) (hd : decode cc pc = .ok (.getfield idx, 3)) (hw : Cond.fieldLink own idx "TreeServer$Node" "changer" "LTreeServer$User;" ∈ GW) (hr : r = some a) (hk : tk t a = 1) (k : kW p l e R s m args below meth c Q nL t pu (pc + 3) lv (va_rf (gr G 6 a) :: rest) G) : kW p l e R s m args below meth c Q nL t pu pc lv (va_rf r :: rest) G := by
  subst hr
  intro H locs ls hl hz
  obtain ⟨q0, hq⟩ := hz.1.get (X.d hk (by decide))
  rw [mE_1 hk] at hq
  exact va_get (D := tD t) (cl := mcl) (tys := mty t) (ws := va_pl (tdom t) (mE t G)) (ci := 0) (C := RK0) (T := TK0) (N := 13) X.1 X.2.1 X.ws (fun w h => GW_in (inK0 w h) (inG0 w h)) X.o X.k hz.1.1 q0 hq rfl 6 (by decide) (X.w hw) (fun _ h => h) rfl hd (k H locs ls hl hz)
theorem kp_6 {a idx : Nat} {r : Option Nat} {x : Option Nat} (X : kX p s m args meth c cc nL own t) (hpu : pu = false) (hd : decode cc pc = .ok (.putfield idx, 3)) (hw : Cond.fieldLink own idx "TreeServer$Node" "changer" "LTreeServer$User;" ∈ GW) (hr : r = some a) (hk : tk t a = 1) (k : kW p l e R s m args below meth c Q nL t pu (pc + 3) lv rest (sr G 6 a x)) : kW p l e R s m args below meth c Q nL t pu pc lv (va_rf x :: va_rf r :: rest) G := by
  subst hr
  intro H locs ls hl hz
  have ha := X.d hk (by decide)
  obtain ⟨q0, hq⟩ := hz.1.get ha
  have hq' := hq
  rw [mE_1 hk] at hq'
  refine va_put (D := tD t) (cl := mcl) (tys := mty t) (ws := va_pl (tdom t) (mE t G)) (A := tA t) (H0 := s.heap) (ci := 0) (C := RK0) (T := TK0) (N := 13) (v := va_rf x) (ty := .object "TreeServer$User") X.1 X.2.1 X.ws (fun w h => GW_in (inK0 w h) (inG0 w h)) yK0 yK0_ok nmK0 X.o X.k hz.1.1 hz.1.2.1 hz.2.1 q0 hq' rfl 6 (by decide) (X.w hw) (fun _ h => h) rfl (by decide +kernel) (by cases x <;> rfl) (by cases x <;> rfl) (Nat.le_of_ble_eq_true rfl) hd (fun H1 locs1 hP hD hS => ?_)
  exact k H1 locs1 ls hl ⟨hz.1.set ha hq (by rw [mE_1 hk]; simp [gi, gl, gr, sr, u2]) (fun b hb => mE_sr hb) hP hD (fun b j h => hz.1.2.2 b j h), hS, fun h => by rw [hpu] at h; cases h⟩
theorem kg_7 {a idx : Nat} {r : Option Nat} (X : kX p s m args meth c cc nL own t) (hd : decode cc pc = .ok (.getfield idx, 3)) (hw : Cond.fieldLink own idx "TreeServer$Node" "home" "LTreeServer$Node;" ∈ GW) (hr : r = some a) (hk : tk t a = 1) (k : kW p l e R s m args below meth c Q nL t pu (pc + 3) lv (va_rf (gr G 7 a) :: rest) G) : kW p l e R s m args below meth c Q nL t pu pc lv (va_rf r :: rest) G := by
  subst hr
  intro H locs ls hl hz
  obtain ⟨q0, hq⟩ := hz.1.get (X.d hk (by decide))
  rw [mE_1 hk] at hq
  exact va_get (D := tD t) (cl := mcl) (tys := mty t) (ws := va_pl (tdom t) (mE t G)) (ci := 0) (C := RK0) (T := TK0) (N := 13) X.1 X.2.1 X.ws (fun w h => GW_in (inK0 w h) (inG0 w h)) X.o X.k hz.1.1 q0 hq rfl 7 (by decide) (X.w hw) (fun _ h => h) rfl hd (k H locs ls hl hz)
theorem kp_7 {a idx : Nat} {r : Option Nat} {x : Option Nat} (X : kX p s m args meth c cc nL own t) (hpu : pu = false) (hd : decode cc pc = .ok (.putfield idx, 3)) (hw : Cond.fieldLink own idx "TreeServer$Node" "home" "LTreeServer$Node;" ∈ GW) (hr : r = some a) (hk : tk t a = 1) (k : kW p l e R s m args below meth c Q nL t pu (pc + 3) lv rest (sr G 7 a x)) : kW p l e R s m args below meth c Q nL t pu pc lv (va_rf x :: va_rf r :: rest) G := by
  subst hr
  intro H locs ls hl hz
  have ha := X.d hk (by decide)
  obtain ⟨q0, hq⟩ := hz.1.get ha
  have hq' := hq
  rw [mE_1 hk] at hq'
  refine va_put (D := tD t) (cl := mcl) (tys := mty t) (ws := va_pl (tdom t) (mE t G)) (A := tA t) (H0 := s.heap) (ci := 0) (C := RK0) (T := TK0) (N := 13) (v := va_rf x) (ty := .object "TreeServer$Node") X.1 X.2.1 X.ws (fun w h => GW_in (inK0 w h) (inG0 w h)) yK0 yK0_ok nmK0 X.o X.k hz.1.1 hz.1.2.1 hz.2.1 q0 hq' rfl 7 (by decide) (X.w hw) (fun _ h => h) rfl (by decide +kernel) (by cases x <;> rfl) (by cases x <;> rfl) (Nat.le_of_ble_eq_true rfl) hd (fun H1 locs1 hP hD hS => ?_)
  exact k H1 locs1 ls hl ⟨hz.1.set ha hq (by rw [mE_1 hk]; simp [gi, gl, gr, sr, u2]) (fun b hb => mE_sr hb) hP hD (fun b j h => hz.1.2.2 b j h), hS, fun h => by rw [hpu] at h; cases h⟩
theorem kg_8 {a idx : Nat} {r : Option Nat} (X : kX p s m args meth c cc nL own t) (hd : decode cc pc = .ok (.getfield idx, 3)) (hw : Cond.fieldLink own idx "TreeServer$Node" "entries" "I" ∈ GW) (hr : r = some a) (hk : tk t a = 1) (k : kW p l e R s m args below meth c Q nL t pu (pc + 3) lv (.int (gi G 8 a) :: rest) G) : kW p l e R s m args below meth c Q nL t pu pc lv (va_rf r :: rest) G := by
  subst hr
  intro H locs ls hl hz
  obtain ⟨q0, hq⟩ := hz.1.get (X.d hk (by decide))
  rw [mE_1 hk] at hq
  exact va_get (D := tD t) (cl := mcl) (tys := mty t) (ws := va_pl (tdom t) (mE t G)) (ci := 0) (C := RK0) (T := TK0) (N := 13) X.1 X.2.1 X.ws (fun w h => GW_in (inK0 w h) (inG0 w h)) X.o X.k hz.1.1 q0 hq rfl 8 (by decide) (X.w hw) (fun _ h => h) rfl hd (k H locs ls hl hz)
theorem kp_8 {a idx : Nat} {r : Option Nat} {x : Int32} (X : kX p s m args meth c cc nL own t) (hpu : pu = false) (hd : decode cc pc = .ok (.putfield idx, 3)) (hw : Cond.fieldLink own idx "TreeServer$Node" "entries" "I" ∈ GW) (hr : r = some a) (hk : tk t a = 1) (k : kW p l e R s m args below meth c Q nL t pu (pc + 3) lv rest (si G 8 a x)) : kW p l e R s m args below meth c Q nL t pu pc lv (.int x :: va_rf r :: rest) G := by
  subst hr
  intro H locs ls hl hz
  have ha := X.d hk (by decide)
  obtain ⟨q0, hq⟩ := hz.1.get ha
  have hq' := hq
  rw [mE_1 hk] at hq'
  refine va_put (D := tD t) (cl := mcl) (tys := mty t) (ws := va_pl (tdom t) (mE t G)) (A := tA t) (H0 := s.heap) (ci := 0) (C := RK0) (T := TK0) (N := 13) (v := .int x) (ty := .int) X.1 X.2.1 X.ws (fun w h => GW_in (inK0 w h) (inG0 w h)) yK0 yK0_ok nmK0 X.o X.k hz.1.1 hz.1.2.1 hz.2.1 q0 hq' rfl 8 (by decide) (X.w hw) (fun _ h => h) rfl (by decide +kernel) rfl rfl (Nat.le_of_ble_eq_true rfl) hd (fun H1 locs1 hP hD hS => ?_)
  exact k H1 locs1 ls hl ⟨hz.1.set ha hq (by rw [mE_1 hk]; simp [gi, gl, gr, si, u2]) (fun b hb => mE_si hb) hP hD (fun b j h => hz.1.2.2 b j h), hS, fun h => by rw [hpu] at h; cases h⟩
theorem kg_9 {a idx : Nat} {r : Option Nat} (X : kX p s m args meth c cc nL own t) (hd : decode cc pc = .ok (.getfield idx, 3)) (hw : Cond.fieldLink own idx "TreeServer$Node" "name" "[B" ∈ GW) (hr : r = some a) (hk : tk t a = 1) (k : kW p l e R s m args below meth c Q nL t pu (pc + 3) lv (va_rf (gr G 9 a) :: rest) G) : kW p l e R s m args below meth c Q nL t pu pc lv (va_rf r :: rest) G := by
  subst hr
  intro H locs ls hl hz
  obtain ⟨q0, hq⟩ := hz.1.get (X.d hk (by decide))
  rw [mE_1 hk] at hq
  exact va_get (D := tD t) (cl := mcl) (tys := mty t) (ws := va_pl (tdom t) (mE t G)) (ci := 0) (C := RK0) (T := TK0) (N := 13) X.1 X.2.1 X.ws (fun w h => GW_in (inK0 w h) (inG0 w h)) X.o X.k hz.1.1 q0 hq rfl 9 (by decide) (X.w hw) (fun _ h => h) rfl hd (k H locs ls hl hz)
theorem kg_10 {a idx : Nat} {r : Option Nat} (X : kX p s m args meth c cc nL own t) (hd : decode cc pc = .ok (.getfield idx, 3)) (hw : Cond.fieldLink own idx "TreeServer$Node" "nameLength" "I" ∈ GW) (hr : r = some a) (hk : tk t a = 1) (k : kW p l e R s m args below meth c Q nL t pu (pc + 3) lv (.int (gi G 10 a) :: rest) G) : kW p l e R s m args below meth c Q nL t pu pc lv (va_rf r :: rest) G := by
  subst hr
  intro H locs ls hl hz
  obtain ⟨q0, hq⟩ := hz.1.get (X.d hk (by decide))
  rw [mE_1 hk] at hq
  exact va_get (D := tD t) (cl := mcl) (tys := mty t) (ws := va_pl (tdom t) (mE t G)) (ci := 0) (C := RK0) (T := TK0) (N := 13) X.1 X.2.1 X.ws (fun w h => GW_in (inK0 w h) (inG0 w h)) X.o X.k hz.1.1 q0 hq rfl 10 (by decide) (X.w hw) (fun _ h => h) rfl hd (k H locs ls hl hz)
theorem kp_10 {a idx : Nat} {r : Option Nat} {x : Int32} (X : kX p s m args meth c cc nL own t) (hpu : pu = false) (hd : decode cc pc = .ok (.putfield idx, 3)) (hw : Cond.fieldLink own idx "TreeServer$Node" "nameLength" "I" ∈ GW) (hr : r = some a) (hk : tk t a = 1) (k : kW p l e R s m args below meth c Q nL t pu (pc + 3) lv rest (si G 10 a x)) : kW p l e R s m args below meth c Q nL t pu pc lv (.int x :: va_rf r :: rest) G := by
  subst hr
  intro H locs ls hl hz
  have ha := X.d hk (by decide)
  obtain ⟨q0, hq⟩ := hz.1.get ha
  have hq' := hq
  rw [mE_1 hk] at hq'
  refine va_put (D := tD t) (cl := mcl) (tys := mty t) (ws := va_pl (tdom t) (mE t G)) (A := tA t) (H0 := s.heap) (ci := 0) (C := RK0) (T := TK0) (N := 13) (v := .int x) (ty := .int) X.1 X.2.1 X.ws (fun w h => GW_in (inK0 w h) (inG0 w h)) yK0 yK0_ok nmK0 X.o X.k hz.1.1 hz.1.2.1 hz.2.1 q0 hq' rfl 10 (by decide) (X.w hw) (fun _ h => h) rfl (by decide +kernel) rfl rfl (Nat.le_of_ble_eq_true rfl) hd (fun H1 locs1 hP hD hS => ?_)
  exact k H1 locs1 ls hl ⟨hz.1.set ha hq (by rw [mE_1 hk]; simp [gi, gl, gr, si, u2]) (fun b hb => mE_si hb) hP hD (fun b j h => hz.1.2.2 b j h), hS, fun h => by rw [hpu] at h; cases h⟩
theorem kg_11 {a idx : Nat} {r : Option Nat} (X : kX p s m args meth c cc nL own t) (hd : decode cc pc = .ok (.getfield idx, 3)) (hw : Cond.fieldLink own idx "TreeServer$Node" "content" "[B" ∈ GW) (hr : r = some a) (hk : tk t a = 1) (k : kW p l e R s m args below meth c Q nL t pu (pc + 3) lv (va_rf (gr G 11 a) :: rest) G) : kW p l e R s m args below meth c Q nL t pu pc lv (va_rf r :: rest) G := by
  subst hr
  intro H locs ls hl hz
  obtain ⟨q0, hq⟩ := hz.1.get (X.d hk (by decide))
  rw [mE_1 hk] at hq
  exact va_get (D := tD t) (cl := mcl) (tys := mty t) (ws := va_pl (tdom t) (mE t G)) (ci := 0) (C := RK0) (T := TK0) (N := 13) X.1 X.2.1 X.ws (fun w h => GW_in (inK0 w h) (inG0 w h)) X.o X.k hz.1.1 q0 hq rfl 11 (by decide) (X.w hw) (fun _ h => h) rfl hd (k H locs ls hl hz)
theorem kg_12 {a idx : Nat} {r : Option Nat} (X : kX p s m args meth c cc nL own t) (hd : decode cc pc = .ok (.getfield idx, 3)) (hw : Cond.fieldLink own idx "TreeServer$Node" "length" "I" ∈ GW) (hr : r = some a) (hk : tk t a = 1) (k : kW p l e R s m args below meth c Q nL t pu (pc + 3) lv (.int (gi G 12 a) :: rest) G) : kW p l e R s m args below meth c Q nL t pu pc lv (va_rf r :: rest) G := by
  subst hr
  intro H locs ls hl hz
  obtain ⟨q0, hq⟩ := hz.1.get (X.d hk (by decide))
  rw [mE_1 hk] at hq
  exact va_get (D := tD t) (cl := mcl) (tys := mty t) (ws := va_pl (tdom t) (mE t G)) (ci := 0) (C := RK0) (T := TK0) (N := 13) X.1 X.2.1 X.ws (fun w h => GW_in (inK0 w h) (inG0 w h)) X.o X.k hz.1.1 q0 hq rfl 12 (by decide) (X.w hw) (fun _ h => h) rfl hd (k H locs ls hl hz)
theorem kp_12 {a idx : Nat} {r : Option Nat} {x : Int32} (X : kX p s m args meth c cc nL own t) (hpu : pu = false) (hd : decode cc pc = .ok (.putfield idx, 3)) (hw : Cond.fieldLink own idx "TreeServer$Node" "length" "I" ∈ GW) (hr : r = some a) (hk : tk t a = 1) (k : kW p l e R s m args below meth c Q nL t pu (pc + 3) lv rest (si G 12 a x)) : kW p l e R s m args below meth c Q nL t pu pc lv (.int x :: va_rf r :: rest) G := by
  subst hr
  intro H locs ls hl hz
  have ha := X.d hk (by decide)
  obtain ⟨q0, hq⟩ := hz.1.get ha
  have hq' := hq
  rw [mE_1 hk] at hq'
  refine va_put (D := tD t) (cl := mcl) (tys := mty t) (ws := va_pl (tdom t) (mE t G)) (A := tA t) (H0 := s.heap) (ci := 0) (C := RK0) (T := TK0) (N := 13) (v := .int x) (ty := .int) X.1 X.2.1 X.ws (fun w h => GW_in (inK0 w h) (inG0 w h)) yK0 yK0_ok nmK0 X.o X.k hz.1.1 hz.1.2.1 hz.2.1 q0 hq' rfl 12 (by decide) (X.w hw) (fun _ h => h) rfl (by decide +kernel) rfl rfl (Nat.le_of_ble_eq_true rfl) hd (fun H1 locs1 hP hD hS => ?_)
  exact k H1 locs1 ls hl ⟨hz.1.set ha hq (by rw [mE_1 hk]; simp [gi, gl, gr, si, u2]) (fun b hb => mE_si hb) hP hD (fun b j h => hz.1.2.2 b j h), hS, fun h => by rw [hpu] at h; cases h⟩
theorem kg_13 {a idx : Nat} {r : Option Nat} (X : kX p s m args meth c cc nL own t) (hd : decode cc pc = .ok (.getfield idx, 3)) (hw : Cond.fieldLink own idx "TreeServer$Tree" "root" "LTreeServer$Node;" ∈ GW) (hr : r = some a) (hk : tk t a = 2) (k : kW p l e R s m args below meth c Q nL t pu (pc + 3) lv (va_rf (gr G 13 a) :: rest) G) : kW p l e R s m args below meth c Q nL t pu pc lv (va_rf r :: rest) G := by
  subst hr
  intro H locs ls hl hz
  obtain ⟨q0, hq⟩ := hz.1.get (X.d hk (by decide))
  rw [mE_2 hk] at hq
  exact va_get (D := tD t) (cl := mcl) (tys := mty t) (ws := va_pl (tdom t) (mE t G)) (ci := 1) (C := RK1) (T := TK1) (N := 4) X.1 X.2.1 X.ws (fun w h => GW_in (inK1 w h) (inG1 w h)) X.o X.k hz.1.1 q0 hq rfl 0 (by decide) (X.w hw) (fun _ h => h) rfl hd (k H locs ls hl hz)
theorem kg_14 {a idx : Nat} {r : Option Nat} (X : kX p s m args meth c cc nL own t) (hd : decode cc pc = .ok (.getfield idx, 3)) (hw : Cond.fieldLink own idx "TreeServer$Tree" "nodes" "[LTreeServer$Node;" ∈ GW) (hr : r = some a) (hk : tk t a = 2) (k : kW p l e R s m args below meth c Q nL t pu (pc + 3) lv (va_rf (gr G 14 a) :: rest) G) : kW p l e R s m args below meth c Q nL t pu pc lv (va_rf r :: rest) G := by
  subst hr
  intro H locs ls hl hz
  obtain ⟨q0, hq⟩ := hz.1.get (X.d hk (by decide))
  rw [mE_2 hk] at hq
  exact va_get (D := tD t) (cl := mcl) (tys := mty t) (ws := va_pl (tdom t) (mE t G)) (ci := 1) (C := RK1) (T := TK1) (N := 4) X.1 X.2.1 X.ws (fun w h => GW_in (inK1 w h) (inG1 w h)) X.o X.k hz.1.1 q0 hq rfl 1 (by decide) (X.w hw) (fun _ h => h) rfl hd (k H locs ls hl hz)
theorem kg_15 {a idx : Nat} {r : Option Nat} (X : kX p s m args meth c cc nL own t) (hd : decode cc pc = .ok (.getfield idx, 3)) (hw : Cond.fieldLink own idx "TreeServer$Tree" "count" "I" ∈ GW) (hr : r = some a) (hk : tk t a = 2) (k : kW p l e R s m args below meth c Q nL t pu (pc + 3) lv (.int (gi G 15 a) :: rest) G) : kW p l e R s m args below meth c Q nL t pu pc lv (va_rf r :: rest) G := by
  subst hr
  intro H locs ls hl hz
  obtain ⟨q0, hq⟩ := hz.1.get (X.d hk (by decide))
  rw [mE_2 hk] at hq
  exact va_get (D := tD t) (cl := mcl) (tys := mty t) (ws := va_pl (tdom t) (mE t G)) (ci := 1) (C := RK1) (T := TK1) (N := 4) X.1 X.2.1 X.ws (fun w h => GW_in (inK1 w h) (inG1 w h)) X.o X.k hz.1.1 q0 hq rfl 2 (by decide) (X.w hw) (fun _ h => h) rfl hd (k H locs ls hl hz)
theorem kp_15 {a idx : Nat} {r : Option Nat} {x : Int32} (X : kX p s m args meth c cc nL own t) (hpu : pu = false) (hd : decode cc pc = .ok (.putfield idx, 3)) (hw : Cond.fieldLink own idx "TreeServer$Tree" "count" "I" ∈ GW) (hr : r = some a) (hk : tk t a = 2) (k : kW p l e R s m args below meth c Q nL t pu (pc + 3) lv rest (si G 15 a x)) : kW p l e R s m args below meth c Q nL t pu pc lv (.int x :: va_rf r :: rest) G := by
  subst hr
  intro H locs ls hl hz
  have ha := X.d hk (by decide)
  obtain ⟨q0, hq⟩ := hz.1.get ha
  have hq' := hq
  rw [mE_2 hk] at hq'
  refine va_put (D := tD t) (cl := mcl) (tys := mty t) (ws := va_pl (tdom t) (mE t G)) (A := tA t) (H0 := s.heap) (ci := 1) (C := RK1) (T := TK1) (N := 4) (v := .int x) (ty := .int) X.1 X.2.1 X.ws (fun w h => GW_in (inK1 w h) (inG1 w h)) yK1 yK1_ok nmK1 X.o X.k hz.1.1 hz.1.2.1 hz.2.1 q0 hq' rfl 2 (by decide) (X.w hw) (fun _ h => h) rfl (by decide +kernel) rfl rfl (Nat.le_of_ble_eq_true rfl) hd (fun H1 locs1 hP hD hS => ?_)
  exact k H1 locs1 ls hl ⟨hz.1.set ha hq (by rw [mE_2 hk]; simp [gi, gl, gr, si, u2]) (fun b hb => mE_si hb) hP hD (fun b j h => hz.1.2.2 b j h), hS, fun h => by rw [hpu] at h; cases h⟩
theorem kg_16 {a idx : Nat} {r : Option Nat} (X : kX p s m args meth c cc nL own t) (hd : decode cc pc = .ok (.getfield idx, 3)) (hw : Cond.fieldLink own idx "TreeServer$Tree" "nextPath" "I" ∈ GW) (hr : r = some a) (hk : tk t a = 2) (k : kW p l e R s m args below meth c Q nL t pu (pc + 3) lv (.int (gi G 16 a) :: rest) G) : kW p l e R s m args below meth c Q nL t pu pc lv (va_rf r :: rest) G := by
  subst hr
  intro H locs ls hl hz
  obtain ⟨q0, hq⟩ := hz.1.get (X.d hk (by decide))
  rw [mE_2 hk] at hq
  exact va_get (D := tD t) (cl := mcl) (tys := mty t) (ws := va_pl (tdom t) (mE t G)) (ci := 1) (C := RK1) (T := TK1) (N := 4) X.1 X.2.1 X.ws (fun w h => GW_in (inK1 w h) (inG1 w h)) X.o X.k hz.1.1 q0 hq rfl 3 (by decide) (X.w hw) (fun _ h => h) rfl hd (k H locs ls hl hz)
theorem kp_16 {a idx : Nat} {r : Option Nat} {x : Int32} (X : kX p s m args meth c cc nL own t) (hpu : pu = false) (hd : decode cc pc = .ok (.putfield idx, 3)) (hw : Cond.fieldLink own idx "TreeServer$Tree" "nextPath" "I" ∈ GW) (hr : r = some a) (hk : tk t a = 2) (k : kW p l e R s m args below meth c Q nL t pu (pc + 3) lv rest (si G 16 a x)) : kW p l e R s m args below meth c Q nL t pu pc lv (.int x :: va_rf r :: rest) G := by
  subst hr
  intro H locs ls hl hz
  have ha := X.d hk (by decide)
  obtain ⟨q0, hq⟩ := hz.1.get ha
  have hq' := hq
  rw [mE_2 hk] at hq'
  refine va_put (D := tD t) (cl := mcl) (tys := mty t) (ws := va_pl (tdom t) (mE t G)) (A := tA t) (H0 := s.heap) (ci := 1) (C := RK1) (T := TK1) (N := 4) (v := .int x) (ty := .int) X.1 X.2.1 X.ws (fun w h => GW_in (inK1 w h) (inG1 w h)) yK1 yK1_ok nmK1 X.o X.k hz.1.1 hz.1.2.1 hz.2.1 q0 hq' rfl 3 (by decide) (X.w hw) (fun _ h => h) rfl (by decide +kernel) rfl rfl (Nat.le_of_ble_eq_true rfl) hd (fun H1 locs1 hP hD hS => ?_)
  exact k H1 locs1 ls hl ⟨hz.1.set ha hq (by rw [mE_2 hk]; simp [gi, gl, gr, si, u2]) (fun b hb => mE_si hb) hP hD (fun b j h => hz.1.2.2 b j h), hS, fun h => by rw [hpu] at h; cases h⟩
theorem kg_17 {a idx : Nat} {r : Option Nat} (X : kX p s m args meth c cc nL own t) (hd : decode cc pc = .ok (.getfield idx, 3)) (hw : Cond.fieldLink own idx "TreeServer$Log" "made" "I" ∈ GW) (hr : r = some a) (hk : tk t a = 3) (k : kW p l e R s m args below meth c Q nL t pu (pc + 3) lv (.int (gi G 17 a) :: rest) G) : kW p l e R s m args below meth c Q nL t pu pc lv (va_rf r :: rest) G := by
  subst hr
  intro H locs ls hl hz
  obtain ⟨q0, hq⟩ := hz.1.get (X.d hk (by decide))
  rw [mE_3 hk] at hq
  exact va_get (D := tD t) (cl := mcl) (tys := mty t) (ws := va_pl (tdom t) (mE t G)) (ci := 2) (C := RK2) (T := TK2) (N := 4) X.1 X.2.1 X.ws (fun w h => GW_in (inK2 w h) (inG2 w h)) X.o X.k hz.1.1 q0 hq rfl 0 (by decide) (X.w hw) (fun _ h => h) rfl hd (k H locs ls hl hz)
theorem kp_17 {a idx : Nat} {r : Option Nat} {x : Int32} (X : kX p s m args meth c cc nL own t) (hpu : pu = false) (hd : decode cc pc = .ok (.putfield idx, 3)) (hw : Cond.fieldLink own idx "TreeServer$Log" "made" "I" ∈ GW) (hr : r = some a) (hk : tk t a = 3) (k : kW p l e R s m args below meth c Q nL t pu (pc + 3) lv rest (si G 17 a x)) : kW p l e R s m args below meth c Q nL t pu pc lv (.int x :: va_rf r :: rest) G := by
  subst hr
  intro H locs ls hl hz
  have ha := X.d hk (by decide)
  obtain ⟨q0, hq⟩ := hz.1.get ha
  have hq' := hq
  rw [mE_3 hk] at hq'
  refine va_put (D := tD t) (cl := mcl) (tys := mty t) (ws := va_pl (tdom t) (mE t G)) (A := tA t) (H0 := s.heap) (ci := 2) (C := RK2) (T := TK2) (N := 4) (v := .int x) (ty := .int) X.1 X.2.1 X.ws (fun w h => GW_in (inK2 w h) (inG2 w h)) yK2 yK2_ok nmK2 X.o X.k hz.1.1 hz.1.2.1 hz.2.1 q0 hq' rfl 0 (by decide) (X.w hw) (fun _ h => h) rfl (by decide +kernel) rfl rfl (Nat.le_of_ble_eq_true rfl) hd (fun H1 locs1 hP hD hS => ?_)
  exact k H1 locs1 ls hl ⟨hz.1.set ha hq (by rw [mE_3 hk]; simp [gi, gl, gr, si, u2]) (fun b hb => mE_si hb) hP hD (fun b j h => hz.1.2.2 b j h), hS, fun h => by rw [hpu] at h; cases h⟩
theorem kg_18 {a idx : Nat} {r : Option Nat} (X : kX p s m args meth c cc nL own t) (hd : decode cc pc = .ok (.getfield idx, 3)) (hw : Cond.fieldLink own idx "TreeServer$Log" "cutAfter" "I" ∈ GW) (hr : r = some a) (hk : tk t a = 3) (k : kW p l e R s m args below meth c Q nL t pu (pc + 3) lv (.int (gi G 18 a) :: rest) G) : kW p l e R s m args below meth c Q nL t pu pc lv (va_rf r :: rest) G := by
  subst hr
  intro H locs ls hl hz
  obtain ⟨q0, hq⟩ := hz.1.get (X.d hk (by decide))
  rw [mE_3 hk] at hq
  exact va_get (D := tD t) (cl := mcl) (tys := mty t) (ws := va_pl (tdom t) (mE t G)) (ci := 2) (C := RK2) (T := TK2) (N := 4) X.1 X.2.1 X.ws (fun w h => GW_in (inK2 w h) (inG2 w h)) X.o X.k hz.1.1 q0 hq rfl 1 (by decide) (X.w hw) (fun _ h => h) rfl hd (k H locs ls hl hz)
theorem kp_18 {a idx : Nat} {r : Option Nat} {x : Int32} (X : kX p s m args meth c cc nL own t) (hpu : pu = false) (hd : decode cc pc = .ok (.putfield idx, 3)) (hw : Cond.fieldLink own idx "TreeServer$Log" "cutAfter" "I" ∈ GW) (hr : r = some a) (hk : tk t a = 3) (k : kW p l e R s m args below meth c Q nL t pu (pc + 3) lv rest (si G 18 a x)) : kW p l e R s m args below meth c Q nL t pu pc lv (.int x :: va_rf r :: rest) G := by
  subst hr
  intro H locs ls hl hz
  have ha := X.d hk (by decide)
  obtain ⟨q0, hq⟩ := hz.1.get ha
  have hq' := hq
  rw [mE_3 hk] at hq'
  refine va_put (D := tD t) (cl := mcl) (tys := mty t) (ws := va_pl (tdom t) (mE t G)) (A := tA t) (H0 := s.heap) (ci := 2) (C := RK2) (T := TK2) (N := 4) (v := .int x) (ty := .int) X.1 X.2.1 X.ws (fun w h => GW_in (inK2 w h) (inG2 w h)) yK2 yK2_ok nmK2 X.o X.k hz.1.1 hz.1.2.1 hz.2.1 q0 hq' rfl 1 (by decide) (X.w hw) (fun _ h => h) rfl (by decide +kernel) rfl rfl (Nat.le_of_ble_eq_true rfl) hd (fun H1 locs1 hP hD hS => ?_)
  exact k H1 locs1 ls hl ⟨hz.1.set ha hq (by rw [mE_3 hk]; simp [gi, gl, gr, si, u2]) (fun b hb => mE_si hb) hP hD (fun b j h => hz.1.2.2 b j h), hS, fun h => by rw [hpu] at h; cases h⟩
theorem kg_19 {a idx : Nat} {r : Option Nat} (X : kX p s m args meth c cc nL own t) (hd : decode cc pc = .ok (.getfield idx, 3)) (hw : Cond.fieldLink own idx "TreeServer$Log" "running" "Z" ∈ GW) (hr : r = some a) (hk : tk t a = 3) (k : kW p l e R s m args below meth c Q nL t pu (pc + 3) lv (.int (gi G 19 a) :: rest) G) : kW p l e R s m args below meth c Q nL t pu pc lv (va_rf r :: rest) G := by
  subst hr
  intro H locs ls hl hz
  obtain ⟨q0, hq⟩ := hz.1.get (X.d hk (by decide))
  rw [mE_3 hk] at hq
  exact va_get (D := tD t) (cl := mcl) (tys := mty t) (ws := va_pl (tdom t) (mE t G)) (ci := 2) (C := RK2) (T := TK2) (N := 4) X.1 X.2.1 X.ws (fun w h => GW_in (inK2 w h) (inG2 w h)) X.o X.k hz.1.1 q0 hq rfl 2 (by decide) (X.w hw) (fun _ h => h) rfl hd (k H locs ls hl hz)
theorem kp_19 {a idx : Nat} {r : Option Nat} {x : Int32} (X : kX p s m args meth c cc nL own t) (hpu : pu = false) (hd : decode cc pc = .ok (.putfield idx, 3)) (hw : Cond.fieldLink own idx "TreeServer$Log" "running" "Z" ∈ GW) (hr : r = some a) (hk : tk t a = 3) (hB : isB x) (k : kW p l e R s m args below meth c Q nL t pu (pc + 3) lv rest (si G 19 a x)) : kW p l e R s m args below meth c Q nL t pu pc lv (.int x :: va_rf r :: rest) G := by
  subst hr
  intro H locs ls hl hz
  have ha := X.d hk (by decide)
  obtain ⟨q0, hq⟩ := hz.1.get ha
  have hq' := hq
  rw [mE_3 hk] at hq'
  refine va_put (D := tD t) (cl := mcl) (tys := mty t) (ws := va_pl (tdom t) (mE t G)) (A := tA t) (H0 := s.heap) (ci := 2) (C := RK2) (T := TK2) (N := 4) (v := .int x) (ty := .boolean) X.1 X.2.1 X.ws (fun w h => GW_in (inK2 w h) (inG2 w h)) yK2 yK2_ok nmK2 X.o X.k hz.1.1 hz.1.2.1 hz.2.1 q0 hq' rfl 2 (by decide) (X.w hw) (fun _ h => h) rfl (by decide +kernel) (by rcases hB with rfl | rfl <;> rfl) (by rcases hB with rfl | rfl <;> rfl) (Nat.le_of_ble_eq_true rfl) hd (fun H1 locs1 hP hD hS => ?_)
  exact k H1 locs1 ls hl ⟨hz.1.set ha hq (by rw [mE_3 hk]; simp [gi, gl, gr, si, u2]) (fun b hb => mE_si hb) hP hD (fun b j h => hz.1.2.2 b j h), hS, fun h => by rw [hpu] at h; cases h⟩
theorem kg_20 {a idx : Nat} {r : Option Nat} (X : kX p s m args meth c cc nL own t) (hd : decode cc pc = .ok (.getfield idx, 3)) (hw : Cond.fieldLink own idx "TreeServer$Log" "closed" "Z" ∈ GW) (hr : r = some a) (hk : tk t a = 3) (k : kW p l e R s m args below meth c Q nL t pu (pc + 3) lv (.int (gi G 20 a) :: rest) G) : kW p l e R s m args below meth c Q nL t pu pc lv (va_rf r :: rest) G := by
  subst hr
  intro H locs ls hl hz
  obtain ⟨q0, hq⟩ := hz.1.get (X.d hk (by decide))
  rw [mE_3 hk] at hq
  exact va_get (D := tD t) (cl := mcl) (tys := mty t) (ws := va_pl (tdom t) (mE t G)) (ci := 2) (C := RK2) (T := TK2) (N := 4) X.1 X.2.1 X.ws (fun w h => GW_in (inK2 w h) (inG2 w h)) X.o X.k hz.1.1 q0 hq rfl 3 (by decide) (X.w hw) (fun _ h => h) rfl hd (k H locs ls hl hz)
theorem kp_20 {a idx : Nat} {r : Option Nat} {x : Int32} (X : kX p s m args meth c cc nL own t) (hpu : pu = false) (hd : decode cc pc = .ok (.putfield idx, 3)) (hw : Cond.fieldLink own idx "TreeServer$Log" "closed" "Z" ∈ GW) (hr : r = some a) (hk : tk t a = 3) (hB : isB x) (k : kW p l e R s m args below meth c Q nL t pu (pc + 3) lv rest (si G 20 a x)) : kW p l e R s m args below meth c Q nL t pu pc lv (.int x :: va_rf r :: rest) G := by
  subst hr
  intro H locs ls hl hz
  have ha := X.d hk (by decide)
  obtain ⟨q0, hq⟩ := hz.1.get ha
  have hq' := hq
  rw [mE_3 hk] at hq'
  refine va_put (D := tD t) (cl := mcl) (tys := mty t) (ws := va_pl (tdom t) (mE t G)) (A := tA t) (H0 := s.heap) (ci := 2) (C := RK2) (T := TK2) (N := 4) (v := .int x) (ty := .boolean) X.1 X.2.1 X.ws (fun w h => GW_in (inK2 w h) (inG2 w h)) yK2 yK2_ok nmK2 X.o X.k hz.1.1 hz.1.2.1 hz.2.1 q0 hq' rfl 3 (by decide) (X.w hw) (fun _ h => h) rfl (by decide +kernel) (by rcases hB with rfl | rfl <;> rfl) (by rcases hB with rfl | rfl <;> rfl) (Nat.le_of_ble_eq_true rfl) hd (fun H1 locs1 hP hD hS => ?_)
  exact k H1 locs1 ls hl ⟨hz.1.set ha hq (by rw [mE_3 hk]; simp [gi, gl, gr, si, u2]) (fun b hb => mE_si hb) hP hD (fun b j h => hz.1.2.2 b j h), hS, fun h => by rw [hpu] at h; cases h⟩
theorem kg_21 {a idx : Nat} {r : Option Nat} (X : kX p s m args meth c cc nL own t) (hd : decode cc pc = .ok (.getfield idx, 3)) (hw : Cond.fieldLink own idx "TreeServer$Change" "kind" "LTreeServer$Kind;" ∈ GW) (hr : r = some a) (hk : tk t a = 4) (k : kW p l e R s m args below meth c Q nL t pu (pc + 3) lv (va_rf (gr G 21 a) :: rest) G) : kW p l e R s m args below meth c Q nL t pu pc lv (va_rf r :: rest) G := by
  subst hr
  intro H locs ls hl hz
  obtain ⟨q0, hq⟩ := hz.1.get (X.d hk (by decide))
  rw [mE_4 hk] at hq
  exact va_get (D := tD t) (cl := mcl) (tys := mty t) (ws := va_pl (tdom t) (mE t G)) (ci := 3) (C := RK3) (T := TK3) (N := 15) X.1 X.2.1 X.ws (fun w h => GW_in (inK3 w h) (inG3 w h)) X.o X.k hz.1.1 q0 hq rfl 0 (by decide) (X.w hw) (fun _ h => h) rfl hd (k H locs ls hl hz)
theorem kp_21 {a idx : Nat} {r : Option Nat} {x : Option Nat} (X : kX p s m args meth c cc nL own t) (hpu : pu = false) (hd : decode cc pc = .ok (.putfield idx, 3)) (hw : Cond.fieldLink own idx "TreeServer$Change" "kind" "LTreeServer$Kind;" ∈ GW) (hr : r = some a) (hk : tk t a = 4) (k : kW p l e R s m args below meth c Q nL t pu (pc + 3) lv rest (sr G 21 a x)) : kW p l e R s m args below meth c Q nL t pu pc lv (va_rf x :: va_rf r :: rest) G := by
  subst hr
  intro H locs ls hl hz
  have ha := X.d hk (by decide)
  obtain ⟨q0, hq⟩ := hz.1.get ha
  have hq' := hq
  rw [mE_4 hk] at hq'
  refine va_put (D := tD t) (cl := mcl) (tys := mty t) (ws := va_pl (tdom t) (mE t G)) (A := tA t) (H0 := s.heap) (ci := 3) (C := RK3) (T := TK3) (N := 15) (v := va_rf x) (ty := .object "TreeServer$Kind") X.1 X.2.1 X.ws (fun w h => GW_in (inK3 w h) (inG3 w h)) yK3 yK3_ok nmK3 X.o X.k hz.1.1 hz.1.2.1 hz.2.1 q0 hq' rfl 0 (by decide) (X.w hw) (fun _ h => h) rfl (by decide +kernel) (by cases x <;> rfl) (by cases x <;> rfl) (Nat.le_of_ble_eq_true rfl) hd (fun H1 locs1 hP hD hS => ?_)
  exact k H1 locs1 ls hl ⟨hz.1.set ha hq (by rw [mE_4 hk]; simp [gi, gl, gr, sr, u2]) (fun b hb => mE_sr hb) hP hD (fun b j h => hz.1.2.2 b j h), hS, fun h => by rw [hpu] at h; cases h⟩
theorem kg_22 {a idx : Nat} {r : Option Nat} (X : kX p s m args meth c cc nL own t) (hd : decode cc pc = .ok (.getfield idx, 3)) (hw : Cond.fieldLink own idx "TreeServer$Change" "node" "LTreeServer$Node;" ∈ GW) (hr : r = some a) (hk : tk t a = 4) (k : kW p l e R s m args below meth c Q nL t pu (pc + 3) lv (va_rf (gr G 22 a) :: rest) G) : kW p l e R s m args below meth c Q nL t pu pc lv (va_rf r :: rest) G := by
  subst hr
  intro H locs ls hl hz
  obtain ⟨q0, hq⟩ := hz.1.get (X.d hk (by decide))
  rw [mE_4 hk] at hq
  exact va_get (D := tD t) (cl := mcl) (tys := mty t) (ws := va_pl (tdom t) (mE t G)) (ci := 3) (C := RK3) (T := TK3) (N := 15) X.1 X.2.1 X.ws (fun w h => GW_in (inK3 w h) (inG3 w h)) X.o X.k hz.1.1 q0 hq rfl 1 (by decide) (X.w hw) (fun _ h => h) rfl hd (k H locs ls hl hz)
theorem kp_22 {a idx : Nat} {r : Option Nat} {x : Option Nat} (X : kX p s m args meth c cc nL own t) (hpu : pu = false) (hd : decode cc pc = .ok (.putfield idx, 3)) (hw : Cond.fieldLink own idx "TreeServer$Change" "node" "LTreeServer$Node;" ∈ GW) (hr : r = some a) (hk : tk t a = 4) (k : kW p l e R s m args below meth c Q nL t pu (pc + 3) lv rest (sr G 22 a x)) : kW p l e R s m args below meth c Q nL t pu pc lv (va_rf x :: va_rf r :: rest) G := by
  subst hr
  intro H locs ls hl hz
  have ha := X.d hk (by decide)
  obtain ⟨q0, hq⟩ := hz.1.get ha
  have hq' := hq
  rw [mE_4 hk] at hq'
  refine va_put (D := tD t) (cl := mcl) (tys := mty t) (ws := va_pl (tdom t) (mE t G)) (A := tA t) (H0 := s.heap) (ci := 3) (C := RK3) (T := TK3) (N := 15) (v := va_rf x) (ty := .object "TreeServer$Node") X.1 X.2.1 X.ws (fun w h => GW_in (inK3 w h) (inG3 w h)) yK3 yK3_ok nmK3 X.o X.k hz.1.1 hz.1.2.1 hz.2.1 q0 hq' rfl 1 (by decide) (X.w hw) (fun _ h => h) rfl (by decide +kernel) (by cases x <;> rfl) (by cases x <;> rfl) (Nat.le_of_ble_eq_true rfl) hd (fun H1 locs1 hP hD hS => ?_)
  exact k H1 locs1 ls hl ⟨hz.1.set ha hq (by rw [mE_4 hk]; simp [gi, gl, gr, sr, u2]) (fun b hb => mE_sr hb) hP hD (fun b j h => hz.1.2.2 b j h), hS, fun h => by rw [hpu] at h; cases h⟩
theorem kg_23 {a idx : Nat} {r : Option Nat} (X : kX p s m args meth c cc nL own t) (hd : decode cc pc = .ok (.getfield idx, 3)) (hw : Cond.fieldLink own idx "TreeServer$Change" "user" "LTreeServer$User;" ∈ GW) (hr : r = some a) (hk : tk t a = 4) (k : kW p l e R s m args below meth c Q nL t pu (pc + 3) lv (va_rf (gr G 23 a) :: rest) G) : kW p l e R s m args below meth c Q nL t pu pc lv (va_rf r :: rest) G := by
  subst hr
  intro H locs ls hl hz
  obtain ⟨q0, hq⟩ := hz.1.get (X.d hk (by decide))
  rw [mE_4 hk] at hq
  exact va_get (D := tD t) (cl := mcl) (tys := mty t) (ws := va_pl (tdom t) (mE t G)) (ci := 3) (C := RK3) (T := TK3) (N := 15) X.1 X.2.1 X.ws (fun w h => GW_in (inK3 w h) (inG3 w h)) X.o X.k hz.1.1 q0 hq rfl 2 (by decide) (X.w hw) (fun _ h => h) rfl hd (k H locs ls hl hz)
theorem kp_23 {a idx : Nat} {r : Option Nat} {x : Option Nat} (X : kX p s m args meth c cc nL own t) (hpu : pu = false) (hd : decode cc pc = .ok (.putfield idx, 3)) (hw : Cond.fieldLink own idx "TreeServer$Change" "user" "LTreeServer$User;" ∈ GW) (hr : r = some a) (hk : tk t a = 4) (k : kW p l e R s m args below meth c Q nL t pu (pc + 3) lv rest (sr G 23 a x)) : kW p l e R s m args below meth c Q nL t pu pc lv (va_rf x :: va_rf r :: rest) G := by
  subst hr
  intro H locs ls hl hz
  have ha := X.d hk (by decide)
  obtain ⟨q0, hq⟩ := hz.1.get ha
  have hq' := hq
  rw [mE_4 hk] at hq'
  refine va_put (D := tD t) (cl := mcl) (tys := mty t) (ws := va_pl (tdom t) (mE t G)) (A := tA t) (H0 := s.heap) (ci := 3) (C := RK3) (T := TK3) (N := 15) (v := va_rf x) (ty := .object "TreeServer$User") X.1 X.2.1 X.ws (fun w h => GW_in (inK3 w h) (inG3 w h)) yK3 yK3_ok nmK3 X.o X.k hz.1.1 hz.1.2.1 hz.2.1 q0 hq' rfl 2 (by decide) (X.w hw) (fun _ h => h) rfl (by decide +kernel) (by cases x <;> rfl) (by cases x <;> rfl) (Nat.le_of_ble_eq_true rfl) hd (fun H1 locs1 hP hD hS => ?_)
  exact k H1 locs1 ls hl ⟨hz.1.set ha hq (by rw [mE_4 hk]; simp [gi, gl, gr, sr, u2]) (fun b hb => mE_sr hb) hP hD (fun b j h => hz.1.2.2 b j h), hS, fun h => by rw [hpu] at h; cases h⟩
theorem kg_24 {a idx : Nat} {r : Option Nat} (X : kX p s m args meth c cc nL own t) (hd : decode cc pc = .ok (.getfield idx, 3)) (hw : Cond.fieldLink own idx "TreeServer$Change" "time" "I" ∈ GW) (hr : r = some a) (hk : tk t a = 4) (k : kW p l e R s m args below meth c Q nL t pu (pc + 3) lv (.int (gi G 24 a) :: rest) G) : kW p l e R s m args below meth c Q nL t pu pc lv (va_rf r :: rest) G := by
  subst hr
  intro H locs ls hl hz
  obtain ⟨q0, hq⟩ := hz.1.get (X.d hk (by decide))
  rw [mE_4 hk] at hq
  exact va_get (D := tD t) (cl := mcl) (tys := mty t) (ws := va_pl (tdom t) (mE t G)) (ci := 3) (C := RK3) (T := TK3) (N := 15) X.1 X.2.1 X.ws (fun w h => GW_in (inK3 w h) (inG3 w h)) X.o X.k hz.1.1 q0 hq rfl 3 (by decide) (X.w hw) (fun _ h => h) rfl hd (k H locs ls hl hz)
theorem kp_24 {a idx : Nat} {r : Option Nat} {x : Int32} (X : kX p s m args meth c cc nL own t) (hpu : pu = false) (hd : decode cc pc = .ok (.putfield idx, 3)) (hw : Cond.fieldLink own idx "TreeServer$Change" "time" "I" ∈ GW) (hr : r = some a) (hk : tk t a = 4) (k : kW p l e R s m args below meth c Q nL t pu (pc + 3) lv rest (si G 24 a x)) : kW p l e R s m args below meth c Q nL t pu pc lv (.int x :: va_rf r :: rest) G := by
  subst hr
  intro H locs ls hl hz
  have ha := X.d hk (by decide)
  obtain ⟨q0, hq⟩ := hz.1.get ha
  have hq' := hq
  rw [mE_4 hk] at hq'
  refine va_put (D := tD t) (cl := mcl) (tys := mty t) (ws := va_pl (tdom t) (mE t G)) (A := tA t) (H0 := s.heap) (ci := 3) (C := RK3) (T := TK3) (N := 15) (v := .int x) (ty := .int) X.1 X.2.1 X.ws (fun w h => GW_in (inK3 w h) (inG3 w h)) yK3 yK3_ok nmK3 X.o X.k hz.1.1 hz.1.2.1 hz.2.1 q0 hq' rfl 3 (by decide) (X.w hw) (fun _ h => h) rfl (by decide +kernel) rfl rfl (Nat.le_of_ble_eq_true rfl) hd (fun H1 locs1 hP hD hS => ?_)
  exact k H1 locs1 ls hl ⟨hz.1.set ha hq (by rw [mE_4 hk]; simp [gi, gl, gr, si, u2]) (fun b hb => mE_si hb) hP hD (fun b j h => hz.1.2.2 b j h), hS, fun h => by rw [hpu] at h; cases h⟩
theorem kg_25 {a idx : Nat} {r : Option Nat} (X : kX p s m args meth c cc nL own t) (hd : decode cc pc = .ok (.getfield idx, 3)) (hw : Cond.fieldLink own idx "TreeServer$Change" "length" "I" ∈ GW) (hr : r = some a) (hk : tk t a = 4) (k : kW p l e R s m args below meth c Q nL t pu (pc + 3) lv (.int (gi G 25 a) :: rest) G) : kW p l e R s m args below meth c Q nL t pu pc lv (va_rf r :: rest) G := by
  subst hr
  intro H locs ls hl hz
  obtain ⟨q0, hq⟩ := hz.1.get (X.d hk (by decide))
  rw [mE_4 hk] at hq
  exact va_get (D := tD t) (cl := mcl) (tys := mty t) (ws := va_pl (tdom t) (mE t G)) (ci := 3) (C := RK3) (T := TK3) (N := 15) X.1 X.2.1 X.ws (fun w h => GW_in (inK3 w h) (inG3 w h)) X.o X.k hz.1.1 q0 hq rfl 4 (by decide) (X.w hw) (fun _ h => h) rfl hd (k H locs ls hl hz)
theorem kp_25 {a idx : Nat} {r : Option Nat} {x : Int32} (X : kX p s m args meth c cc nL own t) (hpu : pu = false) (hd : decode cc pc = .ok (.putfield idx, 3)) (hw : Cond.fieldLink own idx "TreeServer$Change" "length" "I" ∈ GW) (hr : r = some a) (hk : tk t a = 4) (k : kW p l e R s m args below meth c Q nL t pu (pc + 3) lv rest (si G 25 a x)) : kW p l e R s m args below meth c Q nL t pu pc lv (.int x :: va_rf r :: rest) G := by
  subst hr
  intro H locs ls hl hz
  have ha := X.d hk (by decide)
  obtain ⟨q0, hq⟩ := hz.1.get ha
  have hq' := hq
  rw [mE_4 hk] at hq'
  refine va_put (D := tD t) (cl := mcl) (tys := mty t) (ws := va_pl (tdom t) (mE t G)) (A := tA t) (H0 := s.heap) (ci := 3) (C := RK3) (T := TK3) (N := 15) (v := .int x) (ty := .int) X.1 X.2.1 X.ws (fun w h => GW_in (inK3 w h) (inG3 w h)) yK3 yK3_ok nmK3 X.o X.k hz.1.1 hz.1.2.1 hz.2.1 q0 hq' rfl 4 (by decide) (X.w hw) (fun _ h => h) rfl (by decide +kernel) rfl rfl (Nat.le_of_ble_eq_true rfl) hd (fun H1 locs1 hP hD hS => ?_)
  exact k H1 locs1 ls hl ⟨hz.1.set ha hq (by rw [mE_4 hk]; simp [gi, gl, gr, si, u2]) (fun b hb => mE_si hb) hP hD (fun b j h => hz.1.2.2 b j h), hS, fun h => by rw [hpu] at h; cases h⟩
theorem kg_26 {a idx : Nat} {r : Option Nat} (X : kX p s m args meth c cc nL own t) (hd : decode cc pc = .ok (.getfield idx, 3)) (hw : Cond.fieldLink own idx "TreeServer$Change" "givesMode" "Z" ∈ GW) (hr : r = some a) (hk : tk t a = 4) (k : kW p l e R s m args below meth c Q nL t pu (pc + 3) lv (.int (gi G 26 a) :: rest) G) : kW p l e R s m args below meth c Q nL t pu pc lv (va_rf r :: rest) G := by
  subst hr
  intro H locs ls hl hz
  obtain ⟨q0, hq⟩ := hz.1.get (X.d hk (by decide))
  rw [mE_4 hk] at hq
  exact va_get (D := tD t) (cl := mcl) (tys := mty t) (ws := va_pl (tdom t) (mE t G)) (ci := 3) (C := RK3) (T := TK3) (N := 15) X.1 X.2.1 X.ws (fun w h => GW_in (inK3 w h) (inG3 w h)) X.o X.k hz.1.1 q0 hq rfl 5 (by decide) (X.w hw) (fun _ h => h) rfl hd (k H locs ls hl hz)
theorem kp_26 {a idx : Nat} {r : Option Nat} {x : Int32} (X : kX p s m args meth c cc nL own t) (hpu : pu = false) (hd : decode cc pc = .ok (.putfield idx, 3)) (hw : Cond.fieldLink own idx "TreeServer$Change" "givesMode" "Z" ∈ GW) (hr : r = some a) (hk : tk t a = 4) (hB : isB x) (k : kW p l e R s m args below meth c Q nL t pu (pc + 3) lv rest (si G 26 a x)) : kW p l e R s m args below meth c Q nL t pu pc lv (.int x :: va_rf r :: rest) G := by
  subst hr
  intro H locs ls hl hz
  have ha := X.d hk (by decide)
  obtain ⟨q0, hq⟩ := hz.1.get ha
  have hq' := hq
  rw [mE_4 hk] at hq'
  refine va_put (D := tD t) (cl := mcl) (tys := mty t) (ws := va_pl (tdom t) (mE t G)) (A := tA t) (H0 := s.heap) (ci := 3) (C := RK3) (T := TK3) (N := 15) (v := .int x) (ty := .boolean) X.1 X.2.1 X.ws (fun w h => GW_in (inK3 w h) (inG3 w h)) yK3 yK3_ok nmK3 X.o X.k hz.1.1 hz.1.2.1 hz.2.1 q0 hq' rfl 5 (by decide) (X.w hw) (fun _ h => h) rfl (by decide +kernel) (by rcases hB with rfl | rfl <;> rfl) (by rcases hB with rfl | rfl <;> rfl) (Nat.le_of_ble_eq_true rfl) hd (fun H1 locs1 hP hD hS => ?_)
  exact k H1 locs1 ls hl ⟨hz.1.set ha hq (by rw [mE_4 hk]; simp [gi, gl, gr, si, u2]) (fun b hb => mE_si hb) hP hD (fun b j h => hz.1.2.2 b j h), hS, fun h => by rw [hpu] at h; cases h⟩
theorem kg_27 {a idx : Nat} {r : Option Nat} (X : kX p s m args meth c cc nL own t) (hd : decode cc pc = .ok (.getfield idx, 3)) (hw : Cond.fieldLink own idx "TreeServer$Change" "mode" "I" ∈ GW) (hr : r = some a) (hk : tk t a = 4) (k : kW p l e R s m args below meth c Q nL t pu (pc + 3) lv (.int (gi G 27 a) :: rest) G) : kW p l e R s m args below meth c Q nL t pu pc lv (va_rf r :: rest) G := by
  subst hr
  intro H locs ls hl hz
  obtain ⟨q0, hq⟩ := hz.1.get (X.d hk (by decide))
  rw [mE_4 hk] at hq
  exact va_get (D := tD t) (cl := mcl) (tys := mty t) (ws := va_pl (tdom t) (mE t G)) (ci := 3) (C := RK3) (T := TK3) (N := 15) X.1 X.2.1 X.ws (fun w h => GW_in (inK3 w h) (inG3 w h)) X.o X.k hz.1.1 q0 hq rfl 6 (by decide) (X.w hw) (fun _ h => h) rfl hd (k H locs ls hl hz)
theorem kp_27 {a idx : Nat} {r : Option Nat} {x : Int32} (X : kX p s m args meth c cc nL own t) (hpu : pu = false) (hd : decode cc pc = .ok (.putfield idx, 3)) (hw : Cond.fieldLink own idx "TreeServer$Change" "mode" "I" ∈ GW) (hr : r = some a) (hk : tk t a = 4) (k : kW p l e R s m args below meth c Q nL t pu (pc + 3) lv rest (si G 27 a x)) : kW p l e R s m args below meth c Q nL t pu pc lv (.int x :: va_rf r :: rest) G := by
  subst hr
  intro H locs ls hl hz
  have ha := X.d hk (by decide)
  obtain ⟨q0, hq⟩ := hz.1.get ha
  have hq' := hq
  rw [mE_4 hk] at hq'
  refine va_put (D := tD t) (cl := mcl) (tys := mty t) (ws := va_pl (tdom t) (mE t G)) (A := tA t) (H0 := s.heap) (ci := 3) (C := RK3) (T := TK3) (N := 15) (v := .int x) (ty := .int) X.1 X.2.1 X.ws (fun w h => GW_in (inK3 w h) (inG3 w h)) yK3 yK3_ok nmK3 X.o X.k hz.1.1 hz.1.2.1 hz.2.1 q0 hq' rfl 6 (by decide) (X.w hw) (fun _ h => h) rfl (by decide +kernel) rfl rfl (Nat.le_of_ble_eq_true rfl) hd (fun H1 locs1 hP hD hS => ?_)
  exact k H1 locs1 ls hl ⟨hz.1.set ha hq (by rw [mE_4 hk]; simp [gi, gl, gr, si, u2]) (fun b hb => mE_si hb) hP hD (fun b j h => hz.1.2.2 b j h), hS, fun h => by rw [hpu] at h; cases h⟩
theorem kg_28 {a idx : Nat} {r : Option Nat} (X : kX p s m args meth c cc nL own t) (hd : decode cc pc = .ok (.getfield idx, 3)) (hw : Cond.fieldLink own idx "TreeServer$Change" "givesMtime" "Z" ∈ GW) (hr : r = some a) (hk : tk t a = 4) (k : kW p l e R s m args below meth c Q nL t pu (pc + 3) lv (.int (gi G 28 a) :: rest) G) : kW p l e R s m args below meth c Q nL t pu pc lv (va_rf r :: rest) G := by
  subst hr
  intro H locs ls hl hz
  obtain ⟨q0, hq⟩ := hz.1.get (X.d hk (by decide))
  rw [mE_4 hk] at hq
  exact va_get (D := tD t) (cl := mcl) (tys := mty t) (ws := va_pl (tdom t) (mE t G)) (ci := 3) (C := RK3) (T := TK3) (N := 15) X.1 X.2.1 X.ws (fun w h => GW_in (inK3 w h) (inG3 w h)) X.o X.k hz.1.1 q0 hq rfl 7 (by decide) (X.w hw) (fun _ h => h) rfl hd (k H locs ls hl hz)
theorem kp_28 {a idx : Nat} {r : Option Nat} {x : Int32} (X : kX p s m args meth c cc nL own t) (hpu : pu = false) (hd : decode cc pc = .ok (.putfield idx, 3)) (hw : Cond.fieldLink own idx "TreeServer$Change" "givesMtime" "Z" ∈ GW) (hr : r = some a) (hk : tk t a = 4) (hB : isB x) (k : kW p l e R s m args below meth c Q nL t pu (pc + 3) lv rest (si G 28 a x)) : kW p l e R s m args below meth c Q nL t pu pc lv (.int x :: va_rf r :: rest) G := by
  subst hr
  intro H locs ls hl hz
  have ha := X.d hk (by decide)
  obtain ⟨q0, hq⟩ := hz.1.get ha
  have hq' := hq
  rw [mE_4 hk] at hq'
  refine va_put (D := tD t) (cl := mcl) (tys := mty t) (ws := va_pl (tdom t) (mE t G)) (A := tA t) (H0 := s.heap) (ci := 3) (C := RK3) (T := TK3) (N := 15) (v := .int x) (ty := .boolean) X.1 X.2.1 X.ws (fun w h => GW_in (inK3 w h) (inG3 w h)) yK3 yK3_ok nmK3 X.o X.k hz.1.1 hz.1.2.1 hz.2.1 q0 hq' rfl 7 (by decide) (X.w hw) (fun _ h => h) rfl (by decide +kernel) (by rcases hB with rfl | rfl <;> rfl) (by rcases hB with rfl | rfl <;> rfl) (Nat.le_of_ble_eq_true rfl) hd (fun H1 locs1 hP hD hS => ?_)
  exact k H1 locs1 ls hl ⟨hz.1.set ha hq (by rw [mE_4 hk]; simp [gi, gl, gr, si, u2]) (fun b hb => mE_si hb) hP hD (fun b j h => hz.1.2.2 b j h), hS, fun h => by rw [hpu] at h; cases h⟩
theorem kg_29 {a idx : Nat} {r : Option Nat} (X : kX p s m args meth c cc nL own t) (hd : decode cc pc = .ok (.getfield idx, 3)) (hw : Cond.fieldLink own idx "TreeServer$Change" "mtime" "I" ∈ GW) (hr : r = some a) (hk : tk t a = 4) (k : kW p l e R s m args below meth c Q nL t pu (pc + 3) lv (.int (gi G 29 a) :: rest) G) : kW p l e R s m args below meth c Q nL t pu pc lv (va_rf r :: rest) G := by
  subst hr
  intro H locs ls hl hz
  obtain ⟨q0, hq⟩ := hz.1.get (X.d hk (by decide))
  rw [mE_4 hk] at hq
  exact va_get (D := tD t) (cl := mcl) (tys := mty t) (ws := va_pl (tdom t) (mE t G)) (ci := 3) (C := RK3) (T := TK3) (N := 15) X.1 X.2.1 X.ws (fun w h => GW_in (inK3 w h) (inG3 w h)) X.o X.k hz.1.1 q0 hq rfl 8 (by decide) (X.w hw) (fun _ h => h) rfl hd (k H locs ls hl hz)
theorem kp_29 {a idx : Nat} {r : Option Nat} {x : Int32} (X : kX p s m args meth c cc nL own t) (hpu : pu = false) (hd : decode cc pc = .ok (.putfield idx, 3)) (hw : Cond.fieldLink own idx "TreeServer$Change" "mtime" "I" ∈ GW) (hr : r = some a) (hk : tk t a = 4) (k : kW p l e R s m args below meth c Q nL t pu (pc + 3) lv rest (si G 29 a x)) : kW p l e R s m args below meth c Q nL t pu pc lv (.int x :: va_rf r :: rest) G := by
  subst hr
  intro H locs ls hl hz
  have ha := X.d hk (by decide)
  obtain ⟨q0, hq⟩ := hz.1.get ha
  have hq' := hq
  rw [mE_4 hk] at hq'
  refine va_put (D := tD t) (cl := mcl) (tys := mty t) (ws := va_pl (tdom t) (mE t G)) (A := tA t) (H0 := s.heap) (ci := 3) (C := RK3) (T := TK3) (N := 15) (v := .int x) (ty := .int) X.1 X.2.1 X.ws (fun w h => GW_in (inK3 w h) (inG3 w h)) yK3 yK3_ok nmK3 X.o X.k hz.1.1 hz.1.2.1 hz.2.1 q0 hq' rfl 8 (by decide) (X.w hw) (fun _ h => h) rfl (by decide +kernel) rfl rfl (Nat.le_of_ble_eq_true rfl) hd (fun H1 locs1 hP hD hS => ?_)
  exact k H1 locs1 ls hl ⟨hz.1.set ha hq (by rw [mE_4 hk]; simp [gi, gl, gr, si, u2]) (fun b hb => mE_si hb) hP hD (fun b j h => hz.1.2.2 b j h), hS, fun h => by rw [hpu] at h; cases h⟩
theorem kg_30 {a idx : Nat} {r : Option Nat} (X : kX p s m args meth c cc nL own t) (hd : decode cc pc = .ok (.getfield idx, 3)) (hw : Cond.fieldLink own idx "TreeServer$Change" "group" "LTreeServer$User;" ∈ GW) (hr : r = some a) (hk : tk t a = 4) (k : kW p l e R s m args below meth c Q nL t pu (pc + 3) lv (va_rf (gr G 30 a) :: rest) G) : kW p l e R s m args below meth c Q nL t pu pc lv (va_rf r :: rest) G := by
  subst hr
  intro H locs ls hl hz
  obtain ⟨q0, hq⟩ := hz.1.get (X.d hk (by decide))
  rw [mE_4 hk] at hq
  exact va_get (D := tD t) (cl := mcl) (tys := mty t) (ws := va_pl (tdom t) (mE t G)) (ci := 3) (C := RK3) (T := TK3) (N := 15) X.1 X.2.1 X.ws (fun w h => GW_in (inK3 w h) (inG3 w h)) X.o X.k hz.1.1 q0 hq rfl 9 (by decide) (X.w hw) (fun _ h => h) rfl hd (k H locs ls hl hz)
theorem kp_30 {a idx : Nat} {r : Option Nat} {x : Option Nat} (X : kX p s m args meth c cc nL own t) (hpu : pu = false) (hd : decode cc pc = .ok (.putfield idx, 3)) (hw : Cond.fieldLink own idx "TreeServer$Change" "group" "LTreeServer$User;" ∈ GW) (hr : r = some a) (hk : tk t a = 4) (k : kW p l e R s m args below meth c Q nL t pu (pc + 3) lv rest (sr G 30 a x)) : kW p l e R s m args below meth c Q nL t pu pc lv (va_rf x :: va_rf r :: rest) G := by
  subst hr
  intro H locs ls hl hz
  have ha := X.d hk (by decide)
  obtain ⟨q0, hq⟩ := hz.1.get ha
  have hq' := hq
  rw [mE_4 hk] at hq'
  refine va_put (D := tD t) (cl := mcl) (tys := mty t) (ws := va_pl (tdom t) (mE t G)) (A := tA t) (H0 := s.heap) (ci := 3) (C := RK3) (T := TK3) (N := 15) (v := va_rf x) (ty := .object "TreeServer$User") X.1 X.2.1 X.ws (fun w h => GW_in (inK3 w h) (inG3 w h)) yK3 yK3_ok nmK3 X.o X.k hz.1.1 hz.1.2.1 hz.2.1 q0 hq' rfl 9 (by decide) (X.w hw) (fun _ h => h) rfl (by decide +kernel) (by cases x <;> rfl) (by cases x <;> rfl) (Nat.le_of_ble_eq_true rfl) hd (fun H1 locs1 hP hD hS => ?_)
  exact k H1 locs1 ls hl ⟨hz.1.set ha hq (by rw [mE_4 hk]; simp [gi, gl, gr, sr, u2]) (fun b hb => mE_sr hb) hP hD (fun b j h => hz.1.2.2 b j h), hS, fun h => by rw [hpu] at h; cases h⟩
theorem kg_31 {a idx : Nat} {r : Option Nat} (X : kX p s m args meth c cc nL own t) (hd : decode cc pc = .ok (.getfield idx, 3)) (hw : Cond.fieldLink own idx "TreeServer$Change" "name" "[B" ∈ GW) (hr : r = some a) (hk : tk t a = 4) (k : kW p l e R s m args below meth c Q nL t pu (pc + 3) lv (va_rf (gr G 31 a) :: rest) G) : kW p l e R s m args below meth c Q nL t pu pc lv (va_rf r :: rest) G := by
  subst hr
  intro H locs ls hl hz
  obtain ⟨q0, hq⟩ := hz.1.get (X.d hk (by decide))
  rw [mE_4 hk] at hq
  exact va_get (D := tD t) (cl := mcl) (tys := mty t) (ws := va_pl (tdom t) (mE t G)) (ci := 3) (C := RK3) (T := TK3) (N := 15) X.1 X.2.1 X.ws (fun w h => GW_in (inK3 w h) (inG3 w h)) X.o X.k hz.1.1 q0 hq rfl 10 (by decide) (X.w hw) (fun _ h => h) rfl hd (k H locs ls hl hz)
theorem kg_32 {a idx : Nat} {r : Option Nat} (X : kX p s m args meth c cc nL own t) (hd : decode cc pc = .ok (.getfield idx, 3)) (hw : Cond.fieldLink own idx "TreeServer$Change" "nameLength" "I" ∈ GW) (hr : r = some a) (hk : tk t a = 4) (k : kW p l e R s m args below meth c Q nL t pu (pc + 3) lv (.int (gi G 32 a) :: rest) G) : kW p l e R s m args below meth c Q nL t pu pc lv (va_rf r :: rest) G := by
  subst hr
  intro H locs ls hl hz
  obtain ⟨q0, hq⟩ := hz.1.get (X.d hk (by decide))
  rw [mE_4 hk] at hq
  exact va_get (D := tD t) (cl := mcl) (tys := mty t) (ws := va_pl (tdom t) (mE t G)) (ci := 3) (C := RK3) (T := TK3) (N := 15) X.1 X.2.1 X.ws (fun w h => GW_in (inK3 w h) (inG3 w h)) X.o X.k hz.1.1 q0 hq rfl 11 (by decide) (X.w hw) (fun _ h => h) rfl hd (k H locs ls hl hz)
theorem kp_32 {a idx : Nat} {r : Option Nat} {x : Int32} (X : kX p s m args meth c cc nL own t) (hpu : pu = false) (hd : decode cc pc = .ok (.putfield idx, 3)) (hw : Cond.fieldLink own idx "TreeServer$Change" "nameLength" "I" ∈ GW) (hr : r = some a) (hk : tk t a = 4) (k : kW p l e R s m args below meth c Q nL t pu (pc + 3) lv rest (si G 32 a x)) : kW p l e R s m args below meth c Q nL t pu pc lv (.int x :: va_rf r :: rest) G := by
  subst hr
  intro H locs ls hl hz
  have ha := X.d hk (by decide)
  obtain ⟨q0, hq⟩ := hz.1.get ha
  have hq' := hq
  rw [mE_4 hk] at hq'
  refine va_put (D := tD t) (cl := mcl) (tys := mty t) (ws := va_pl (tdom t) (mE t G)) (A := tA t) (H0 := s.heap) (ci := 3) (C := RK3) (T := TK3) (N := 15) (v := .int x) (ty := .int) X.1 X.2.1 X.ws (fun w h => GW_in (inK3 w h) (inG3 w h)) yK3 yK3_ok nmK3 X.o X.k hz.1.1 hz.1.2.1 hz.2.1 q0 hq' rfl 11 (by decide) (X.w hw) (fun _ h => h) rfl (by decide +kernel) rfl rfl (Nat.le_of_ble_eq_true rfl) hd (fun H1 locs1 hP hD hS => ?_)
  exact k H1 locs1 ls hl ⟨hz.1.set ha hq (by rw [mE_4 hk]; simp [gi, gl, gr, si, u2]) (fun b hb => mE_si hb) hP hD (fun b j h => hz.1.2.2 b j h), hS, fun h => by rw [hpu] at h; cases h⟩
theorem kg_33 {a idx : Nat} {r : Option Nat} (X : kX p s m args meth c cc nL own t) (hd : decode cc pc = .ok (.getfield idx, 3)) (hw : Cond.fieldLink own idx "TreeServer$Change" "bytes" "[B" ∈ GW) (hr : r = some a) (hk : tk t a = 4) (k : kW p l e R s m args below meth c Q nL t pu (pc + 3) lv (va_rf (gr G 33 a) :: rest) G) : kW p l e R s m args below meth c Q nL t pu pc lv (va_rf r :: rest) G := by
  subst hr
  intro H locs ls hl hz
  obtain ⟨q0, hq⟩ := hz.1.get (X.d hk (by decide))
  rw [mE_4 hk] at hq
  exact va_get (D := tD t) (cl := mcl) (tys := mty t) (ws := va_pl (tdom t) (mE t G)) (ci := 3) (C := RK3) (T := TK3) (N := 15) X.1 X.2.1 X.ws (fun w h => GW_in (inK3 w h) (inG3 w h)) X.o X.k hz.1.1 q0 hq rfl 12 (by decide) (X.w hw) (fun _ h => h) rfl hd (k H locs ls hl hz)
theorem kg_34 {a idx : Nat} {r : Option Nat} (X : kX p s m args meth c cc nL own t) (hd : decode cc pc = .ok (.getfield idx, 3)) (hw : Cond.fieldLink own idx "TreeServer$Change" "from" "I" ∈ GW) (hr : r = some a) (hk : tk t a = 4) (k : kW p l e R s m args below meth c Q nL t pu (pc + 3) lv (.int (gi G 34 a) :: rest) G) : kW p l e R s m args below meth c Q nL t pu pc lv (va_rf r :: rest) G := by
  subst hr
  intro H locs ls hl hz
  obtain ⟨q0, hq⟩ := hz.1.get (X.d hk (by decide))
  rw [mE_4 hk] at hq
  exact va_get (D := tD t) (cl := mcl) (tys := mty t) (ws := va_pl (tdom t) (mE t G)) (ci := 3) (C := RK3) (T := TK3) (N := 15) X.1 X.2.1 X.ws (fun w h => GW_in (inK3 w h) (inG3 w h)) X.o X.k hz.1.1 q0 hq rfl 13 (by decide) (X.w hw) (fun _ h => h) rfl hd (k H locs ls hl hz)
theorem kp_34 {a idx : Nat} {r : Option Nat} {x : Int32} (X : kX p s m args meth c cc nL own t) (hpu : pu = false) (hd : decode cc pc = .ok (.putfield idx, 3)) (hw : Cond.fieldLink own idx "TreeServer$Change" "from" "I" ∈ GW) (hr : r = some a) (hk : tk t a = 4) (k : kW p l e R s m args below meth c Q nL t pu (pc + 3) lv rest (si G 34 a x)) : kW p l e R s m args below meth c Q nL t pu pc lv (.int x :: va_rf r :: rest) G := by
  subst hr
  intro H locs ls hl hz
  have ha := X.d hk (by decide)
  obtain ⟨q0, hq⟩ := hz.1.get ha
  have hq' := hq
  rw [mE_4 hk] at hq'
  refine va_put (D := tD t) (cl := mcl) (tys := mty t) (ws := va_pl (tdom t) (mE t G)) (A := tA t) (H0 := s.heap) (ci := 3) (C := RK3) (T := TK3) (N := 15) (v := .int x) (ty := .int) X.1 X.2.1 X.ws (fun w h => GW_in (inK3 w h) (inG3 w h)) yK3 yK3_ok nmK3 X.o X.k hz.1.1 hz.1.2.1 hz.2.1 q0 hq' rfl 13 (by decide) (X.w hw) (fun _ h => h) rfl (by decide +kernel) rfl rfl (Nat.le_of_ble_eq_true rfl) hd (fun H1 locs1 hP hD hS => ?_)
  exact k H1 locs1 ls hl ⟨hz.1.set ha hq (by rw [mE_4 hk]; simp [gi, gl, gr, si, u2]) (fun b hb => mE_si hb) hP hD (fun b j h => hz.1.2.2 b j h), hS, fun h => by rw [hpu] at h; cases h⟩
theorem kg_35 {a idx : Nat} {r : Option Nat} (X : kX p s m args meth c cc nL own t) (hd : decode cc pc = .ok (.getfield idx, 3)) (hw : Cond.fieldLink own idx "TreeServer$Change" "count" "I" ∈ GW) (hr : r = some a) (hk : tk t a = 4) (k : kW p l e R s m args below meth c Q nL t pu (pc + 3) lv (.int (gi G 35 a) :: rest) G) : kW p l e R s m args below meth c Q nL t pu pc lv (va_rf r :: rest) G := by
  subst hr
  intro H locs ls hl hz
  obtain ⟨q0, hq⟩ := hz.1.get (X.d hk (by decide))
  rw [mE_4 hk] at hq
  exact va_get (D := tD t) (cl := mcl) (tys := mty t) (ws := va_pl (tdom t) (mE t G)) (ci := 3) (C := RK3) (T := TK3) (N := 15) X.1 X.2.1 X.ws (fun w h => GW_in (inK3 w h) (inG3 w h)) X.o X.k hz.1.1 q0 hq rfl 14 (by decide) (X.w hw) (fun _ h => h) rfl hd (k H locs ls hl hz)
theorem kp_35 {a idx : Nat} {r : Option Nat} {x : Int32} (X : kX p s m args meth c cc nL own t) (hpu : pu = false) (hd : decode cc pc = .ok (.putfield idx, 3)) (hw : Cond.fieldLink own idx "TreeServer$Change" "count" "I" ∈ GW) (hr : r = some a) (hk : tk t a = 4) (k : kW p l e R s m args below meth c Q nL t pu (pc + 3) lv rest (si G 35 a x)) : kW p l e R s m args below meth c Q nL t pu pc lv (.int x :: va_rf r :: rest) G := by
  subst hr
  intro H locs ls hl hz
  have ha := X.d hk (by decide)
  obtain ⟨q0, hq⟩ := hz.1.get ha
  have hq' := hq
  rw [mE_4 hk] at hq'
  refine va_put (D := tD t) (cl := mcl) (tys := mty t) (ws := va_pl (tdom t) (mE t G)) (A := tA t) (H0 := s.heap) (ci := 3) (C := RK3) (T := TK3) (N := 15) (v := .int x) (ty := .int) X.1 X.2.1 X.ws (fun w h => GW_in (inK3 w h) (inG3 w h)) yK3 yK3_ok nmK3 X.o X.k hz.1.1 hz.1.2.1 hz.2.1 q0 hq' rfl 14 (by decide) (X.w hw) (fun _ h => h) rfl (by decide +kernel) rfl rfl (Nat.le_of_ble_eq_true rfl) hd (fun H1 locs1 hP hD hS => ?_)
  exact k H1 locs1 ls hl ⟨hz.1.set ha hq (by rw [mE_4 hk]; simp [gi, gl, gr, si, u2]) (fun b hb => mE_si hb) hP hD (fun b j h => hz.1.2.2 b j h), hS, fun h => by rw [hpu] at h; cases h⟩
theorem kg_36 {a idx : Nat} {r : Option Nat} (X : kX p s m args meth c cc nL own t) (hd : decode cc pc = .ok (.getfield idx, 3)) (hw : Cond.fieldLink own idx "TreeServer$Message" "bytes" "[B" ∈ GW) (hr : r = some a) (hk : tk t a = 5) (k : kW p l e R s m args below meth c Q nL t pu (pc + 3) lv (va_rf (gr G 36 a) :: rest) G) : kW p l e R s m args below meth c Q nL t pu pc lv (va_rf r :: rest) G := by
  subst hr
  intro H locs ls hl hz
  obtain ⟨q0, hq⟩ := hz.1.get (X.d hk (by decide))
  rw [mE_5 hk] at hq
  exact va_get (D := tD t) (cl := mcl) (tys := mty t) (ws := va_pl (tdom t) (mE t G)) (ci := 4) (C := RK4) (T := TK4) (N := 8) X.1 X.2.1 X.ws (fun w h => GW_in (inK4 w h) (inG4 w h)) X.o X.k hz.1.1 q0 hq rfl 0 (by decide) (X.w hw) (fun _ h => h) rfl hd (k H locs ls hl hz)
theorem kg_37 {a idx : Nat} {r : Option Nat} (X : kX p s m args meth c cc nL own t) (hd : decode cc pc = .ok (.getfield idx, 3)) (hw : Cond.fieldLink own idx "TreeServer$Message" "size" "I" ∈ GW) (hr : r = some a) (hk : tk t a = 5) (k : kW p l e R s m args below meth c Q nL t pu (pc + 3) lv (.int (gi G 37 a) :: rest) G) : kW p l e R s m args below meth c Q nL t pu pc lv (va_rf r :: rest) G := by
  subst hr
  intro H locs ls hl hz
  obtain ⟨q0, hq⟩ := hz.1.get (X.d hk (by decide))
  rw [mE_5 hk] at hq
  exact va_get (D := tD t) (cl := mcl) (tys := mty t) (ws := va_pl (tdom t) (mE t G)) (ci := 4) (C := RK4) (T := TK4) (N := 8) X.1 X.2.1 X.ws (fun w h => GW_in (inK4 w h) (inG4 w h)) X.o X.k hz.1.1 q0 hq rfl 1 (by decide) (X.w hw) (fun _ h => h) rfl hd (k H locs ls hl hz)
theorem kp_37 {a idx : Nat} {r : Option Nat} {x : Int32} (X : kX p s m args meth c cc nL own t) (hpu : pu = false) (hd : decode cc pc = .ok (.putfield idx, 3)) (hw : Cond.fieldLink own idx "TreeServer$Message" "size" "I" ∈ GW) (hr : r = some a) (hk : tk t a = 5) (k : kW p l e R s m args below meth c Q nL t pu (pc + 3) lv rest (si G 37 a x)) : kW p l e R s m args below meth c Q nL t pu pc lv (.int x :: va_rf r :: rest) G := by
  subst hr
  intro H locs ls hl hz
  have ha := X.d hk (by decide)
  obtain ⟨q0, hq⟩ := hz.1.get ha
  have hq' := hq
  rw [mE_5 hk] at hq'
  refine va_put (D := tD t) (cl := mcl) (tys := mty t) (ws := va_pl (tdom t) (mE t G)) (A := tA t) (H0 := s.heap) (ci := 4) (C := RK4) (T := TK4) (N := 8) (v := .int x) (ty := .int) X.1 X.2.1 X.ws (fun w h => GW_in (inK4 w h) (inG4 w h)) yK4 yK4_ok nmK4 X.o X.k hz.1.1 hz.1.2.1 hz.2.1 q0 hq' rfl 1 (by decide) (X.w hw) (fun _ h => h) rfl (by decide +kernel) rfl rfl (Nat.le_of_ble_eq_true rfl) hd (fun H1 locs1 hP hD hS => ?_)
  exact k H1 locs1 ls hl ⟨hz.1.set ha hq (by rw [mE_5 hk]; simp [gi, gl, gr, si, u2]) (fun b hb => mE_si hb) hP hD (fun b j h => hz.1.2.2 b j h), hS, fun h => by rw [hpu] at h; cases h⟩
theorem kg_38 {a idx : Nat} {r : Option Nat} (X : kX p s m args meth c cc nL own t) (hd : decode cc pc = .ok (.getfield idx, 3)) (hw : Cond.fieldLink own idx "TreeServer$Message" "type" "I" ∈ GW) (hr : r = some a) (hk : tk t a = 5) (k : kW p l e R s m args below meth c Q nL t pu (pc + 3) lv (.int (gi G 38 a) :: rest) G) : kW p l e R s m args below meth c Q nL t pu pc lv (va_rf r :: rest) G := by
  subst hr
  intro H locs ls hl hz
  obtain ⟨q0, hq⟩ := hz.1.get (X.d hk (by decide))
  rw [mE_5 hk] at hq
  exact va_get (D := tD t) (cl := mcl) (tys := mty t) (ws := va_pl (tdom t) (mE t G)) (ci := 4) (C := RK4) (T := TK4) (N := 8) X.1 X.2.1 X.ws (fun w h => GW_in (inK4 w h) (inG4 w h)) X.o X.k hz.1.1 q0 hq rfl 2 (by decide) (X.w hw) (fun _ h => h) rfl hd (k H locs ls hl hz)
theorem kp_38 {a idx : Nat} {r : Option Nat} {x : Int32} (X : kX p s m args meth c cc nL own t) (hpu : pu = false) (hd : decode cc pc = .ok (.putfield idx, 3)) (hw : Cond.fieldLink own idx "TreeServer$Message" "type" "I" ∈ GW) (hr : r = some a) (hk : tk t a = 5) (k : kW p l e R s m args below meth c Q nL t pu (pc + 3) lv rest (si G 38 a x)) : kW p l e R s m args below meth c Q nL t pu pc lv (.int x :: va_rf r :: rest) G := by
  subst hr
  intro H locs ls hl hz
  have ha := X.d hk (by decide)
  obtain ⟨q0, hq⟩ := hz.1.get ha
  have hq' := hq
  rw [mE_5 hk] at hq'
  refine va_put (D := tD t) (cl := mcl) (tys := mty t) (ws := va_pl (tdom t) (mE t G)) (A := tA t) (H0 := s.heap) (ci := 4) (C := RK4) (T := TK4) (N := 8) (v := .int x) (ty := .int) X.1 X.2.1 X.ws (fun w h => GW_in (inK4 w h) (inG4 w h)) yK4 yK4_ok nmK4 X.o X.k hz.1.1 hz.1.2.1 hz.2.1 q0 hq' rfl 2 (by decide) (X.w hw) (fun _ h => h) rfl (by decide +kernel) rfl rfl (Nat.le_of_ble_eq_true rfl) hd (fun H1 locs1 hP hD hS => ?_)
  exact k H1 locs1 ls hl ⟨hz.1.set ha hq (by rw [mE_5 hk]; simp [gi, gl, gr, si, u2]) (fun b hb => mE_si hb) hP hD (fun b j h => hz.1.2.2 b j h), hS, fun h => by rw [hpu] at h; cases h⟩
theorem kg_39 {a idx : Nat} {r : Option Nat} (X : kX p s m args meth c cc nL own t) (hd : decode cc pc = .ok (.getfield idx, 3)) (hw : Cond.fieldLink own idx "TreeServer$Message" "tag" "I" ∈ GW) (hr : r = some a) (hk : tk t a = 5) (k : kW p l e R s m args below meth c Q nL t pu (pc + 3) lv (.int (gi G 39 a) :: rest) G) : kW p l e R s m args below meth c Q nL t pu pc lv (va_rf r :: rest) G := by
  subst hr
  intro H locs ls hl hz
  obtain ⟨q0, hq⟩ := hz.1.get (X.d hk (by decide))
  rw [mE_5 hk] at hq
  exact va_get (D := tD t) (cl := mcl) (tys := mty t) (ws := va_pl (tdom t) (mE t G)) (ci := 4) (C := RK4) (T := TK4) (N := 8) X.1 X.2.1 X.ws (fun w h => GW_in (inK4 w h) (inG4 w h)) X.o X.k hz.1.1 q0 hq rfl 3 (by decide) (X.w hw) (fun _ h => h) rfl hd (k H locs ls hl hz)
theorem kp_39 {a idx : Nat} {r : Option Nat} {x : Int32} (X : kX p s m args meth c cc nL own t) (hpu : pu = false) (hd : decode cc pc = .ok (.putfield idx, 3)) (hw : Cond.fieldLink own idx "TreeServer$Message" "tag" "I" ∈ GW) (hr : r = some a) (hk : tk t a = 5) (k : kW p l e R s m args below meth c Q nL t pu (pc + 3) lv rest (si G 39 a x)) : kW p l e R s m args below meth c Q nL t pu pc lv (.int x :: va_rf r :: rest) G := by
  subst hr
  intro H locs ls hl hz
  have ha := X.d hk (by decide)
  obtain ⟨q0, hq⟩ := hz.1.get ha
  have hq' := hq
  rw [mE_5 hk] at hq'
  refine va_put (D := tD t) (cl := mcl) (tys := mty t) (ws := va_pl (tdom t) (mE t G)) (A := tA t) (H0 := s.heap) (ci := 4) (C := RK4) (T := TK4) (N := 8) (v := .int x) (ty := .int) X.1 X.2.1 X.ws (fun w h => GW_in (inK4 w h) (inG4 w h)) yK4 yK4_ok nmK4 X.o X.k hz.1.1 hz.1.2.1 hz.2.1 q0 hq' rfl 3 (by decide) (X.w hw) (fun _ h => h) rfl (by decide +kernel) rfl rfl (Nat.le_of_ble_eq_true rfl) hd (fun H1 locs1 hP hD hS => ?_)
  exact k H1 locs1 ls hl ⟨hz.1.set ha hq (by rw [mE_5 hk]; simp [gi, gl, gr, si, u2]) (fun b hb => mE_si hb) hP hD (fun b j h => hz.1.2.2 b j h), hS, fun h => by rw [hpu] at h; cases h⟩
theorem kg_40 {a idx : Nat} {r : Option Nat} (X : kX p s m args meth c cc nL own t) (hd : decode cc pc = .ok (.getfield idx, 3)) (hw : Cond.fieldLink own idx "TreeServer$Message" "textAt" "[I" ∈ GW) (hr : r = some a) (hk : tk t a = 5) (k : kW p l e R s m args below meth c Q nL t pu (pc + 3) lv (va_rf (gr G 40 a) :: rest) G) : kW p l e R s m args below meth c Q nL t pu pc lv (va_rf r :: rest) G := by
  subst hr
  intro H locs ls hl hz
  obtain ⟨q0, hq⟩ := hz.1.get (X.d hk (by decide))
  rw [mE_5 hk] at hq
  exact va_get (D := tD t) (cl := mcl) (tys := mty t) (ws := va_pl (tdom t) (mE t G)) (ci := 4) (C := RK4) (T := TK4) (N := 8) X.1 X.2.1 X.ws (fun w h => GW_in (inK4 w h) (inG4 w h)) X.o X.k hz.1.1 q0 hq rfl 4 (by decide) (X.w hw) (fun _ h => h) rfl hd (k H locs ls hl hz)
theorem kg_41 {a idx : Nat} {r : Option Nat} (X : kX p s m args meth c cc nL own t) (hd : decode cc pc = .ok (.getfield idx, 3)) (hw : Cond.fieldLink own idx "TreeServer$Message" "textLength" "[I" ∈ GW) (hr : r = some a) (hk : tk t a = 5) (k : kW p l e R s m args below meth c Q nL t pu (pc + 3) lv (va_rf (gr G 41 a) :: rest) G) : kW p l e R s m args below meth c Q nL t pu pc lv (va_rf r :: rest) G := by
  subst hr
  intro H locs ls hl hz
  obtain ⟨q0, hq⟩ := hz.1.get (X.d hk (by decide))
  rw [mE_5 hk] at hq
  exact va_get (D := tD t) (cl := mcl) (tys := mty t) (ws := va_pl (tdom t) (mE t G)) (ci := 4) (C := RK4) (T := TK4) (N := 8) X.1 X.2.1 X.ws (fun w h => GW_in (inK4 w h) (inG4 w h)) X.o X.k hz.1.1 q0 hq rfl 5 (by decide) (X.w hw) (fun _ h => h) rfl hd (k H locs ls hl hz)
theorem kg_42 {a idx : Nat} {r : Option Nat} (X : kX p s m args meth c cc nL own t) (hd : decode cc pc = .ok (.getfield idx, 3)) (hw : Cond.fieldLink own idx "TreeServer$Message" "texts" "I" ∈ GW) (hr : r = some a) (hk : tk t a = 5) (k : kW p l e R s m args below meth c Q nL t pu (pc + 3) lv (.int (gi G 42 a) :: rest) G) : kW p l e R s m args below meth c Q nL t pu pc lv (va_rf r :: rest) G := by
  subst hr
  intro H locs ls hl hz
  obtain ⟨q0, hq⟩ := hz.1.get (X.d hk (by decide))
  rw [mE_5 hk] at hq
  exact va_get (D := tD t) (cl := mcl) (tys := mty t) (ws := va_pl (tdom t) (mE t G)) (ci := 4) (C := RK4) (T := TK4) (N := 8) X.1 X.2.1 X.ws (fun w h => GW_in (inK4 w h) (inG4 w h)) X.o X.k hz.1.1 q0 hq rfl 6 (by decide) (X.w hw) (fun _ h => h) rfl hd (k H locs ls hl hz)
theorem kp_42 {a idx : Nat} {r : Option Nat} {x : Int32} (X : kX p s m args meth c cc nL own t) (hpu : pu = false) (hd : decode cc pc = .ok (.putfield idx, 3)) (hw : Cond.fieldLink own idx "TreeServer$Message" "texts" "I" ∈ GW) (hr : r = some a) (hk : tk t a = 5) (k : kW p l e R s m args below meth c Q nL t pu (pc + 3) lv rest (si G 42 a x)) : kW p l e R s m args below meth c Q nL t pu pc lv (.int x :: va_rf r :: rest) G := by
  subst hr
  intro H locs ls hl hz
  have ha := X.d hk (by decide)
  obtain ⟨q0, hq⟩ := hz.1.get ha
  have hq' := hq
  rw [mE_5 hk] at hq'
  refine va_put (D := tD t) (cl := mcl) (tys := mty t) (ws := va_pl (tdom t) (mE t G)) (A := tA t) (H0 := s.heap) (ci := 4) (C := RK4) (T := TK4) (N := 8) (v := .int x) (ty := .int) X.1 X.2.1 X.ws (fun w h => GW_in (inK4 w h) (inG4 w h)) yK4 yK4_ok nmK4 X.o X.k hz.1.1 hz.1.2.1 hz.2.1 q0 hq' rfl 6 (by decide) (X.w hw) (fun _ h => h) rfl (by decide +kernel) rfl rfl (Nat.le_of_ble_eq_true rfl) hd (fun H1 locs1 hP hD hS => ?_)
  exact k H1 locs1 ls hl ⟨hz.1.set ha hq (by rw [mE_5 hk]; simp [gi, gl, gr, si, u2]) (fun b hb => mE_si hb) hP hD (fun b j h => hz.1.2.2 b j h), hS, fun h => by rw [hpu] at h; cases h⟩
theorem kg_43 {a idx : Nat} {r : Option Nat} (X : kX p s m args meth c cc nL own t) (hd : decode cc pc = .ok (.getfield idx, 3)) (hw : Cond.fieldLink own idx "TreeServer$Message" "textsEnd" "I" ∈ GW) (hr : r = some a) (hk : tk t a = 5) (k : kW p l e R s m args below meth c Q nL t pu (pc + 3) lv (.int (gi G 43 a) :: rest) G) : kW p l e R s m args below meth c Q nL t pu pc lv (va_rf r :: rest) G := by
  subst hr
  intro H locs ls hl hz
  obtain ⟨q0, hq⟩ := hz.1.get (X.d hk (by decide))
  rw [mE_5 hk] at hq
  exact va_get (D := tD t) (cl := mcl) (tys := mty t) (ws := va_pl (tdom t) (mE t G)) (ci := 4) (C := RK4) (T := TK4) (N := 8) X.1 X.2.1 X.ws (fun w h => GW_in (inK4 w h) (inG4 w h)) X.o X.k hz.1.1 q0 hq rfl 7 (by decide) (X.w hw) (fun _ h => h) rfl hd (k H locs ls hl hz)
theorem kp_43 {a idx : Nat} {r : Option Nat} {x : Int32} (X : kX p s m args meth c cc nL own t) (hpu : pu = false) (hd : decode cc pc = .ok (.putfield idx, 3)) (hw : Cond.fieldLink own idx "TreeServer$Message" "textsEnd" "I" ∈ GW) (hr : r = some a) (hk : tk t a = 5) (k : kW p l e R s m args below meth c Q nL t pu (pc + 3) lv rest (si G 43 a x)) : kW p l e R s m args below meth c Q nL t pu pc lv (.int x :: va_rf r :: rest) G := by
  subst hr
  intro H locs ls hl hz
  have ha := X.d hk (by decide)
  obtain ⟨q0, hq⟩ := hz.1.get ha
  have hq' := hq
  rw [mE_5 hk] at hq'
  refine va_put (D := tD t) (cl := mcl) (tys := mty t) (ws := va_pl (tdom t) (mE t G)) (A := tA t) (H0 := s.heap) (ci := 4) (C := RK4) (T := TK4) (N := 8) (v := .int x) (ty := .int) X.1 X.2.1 X.ws (fun w h => GW_in (inK4 w h) (inG4 w h)) yK4 yK4_ok nmK4 X.o X.k hz.1.1 hz.1.2.1 hz.2.1 q0 hq' rfl 7 (by decide) (X.w hw) (fun _ h => h) rfl (by decide +kernel) rfl rfl (Nat.le_of_ble_eq_true rfl) hd (fun H1 locs1 hP hD hS => ?_)
  exact k H1 locs1 ls hl ⟨hz.1.set ha hq (by rw [mE_5 hk]; simp [gi, gl, gr, si, u2]) (fun b hb => mE_si hb) hP hD (fun b j h => hz.1.2.2 b j h), hS, fun h => by rw [hpu] at h; cases h⟩
theorem kg_44 {a idx : Nat} {r : Option Nat} (X : kX p s m args meth c cc nL own t) (hd : decode cc pc = .ok (.getfield idx, 3)) (hw : Cond.fieldLink own idx "TreeServer$Answer" "bytes" "[B" ∈ GW) (hr : r = some a) (hk : tk t a = 6) (k : kW p l e R s m args below meth c Q nL t pu (pc + 3) lv (va_rf (gr G 44 a) :: rest) G) : kW p l e R s m args below meth c Q nL t pu pc lv (va_rf r :: rest) G := by
  subst hr
  intro H locs ls hl hz
  obtain ⟨q0, hq⟩ := hz.1.get (X.d hk (by decide))
  rw [mE_6 hk] at hq
  exact va_get (D := tD t) (cl := mcl) (tys := mty t) (ws := va_pl (tdom t) (mE t G)) (ci := 5) (C := RK5) (T := TK5) (N := 2) X.1 X.2.1 X.ws (fun w h => GW_in (inK5 w h) (inG5 w h)) X.o X.k hz.1.1 q0 hq rfl 0 (by decide) (X.w hw) (fun _ h => h) rfl hd (k H locs ls hl hz)
theorem kg_45 {a idx : Nat} {r : Option Nat} (X : kX p s m args meth c cc nL own t) (hd : decode cc pc = .ok (.getfield idx, 3)) (hw : Cond.fieldLink own idx "TreeServer$Answer" "length" "I" ∈ GW) (hr : r = some a) (hk : tk t a = 6) (k : kW p l e R s m args below meth c Q nL t pu (pc + 3) lv (.int (gi G 45 a) :: rest) G) : kW p l e R s m args below meth c Q nL t pu pc lv (va_rf r :: rest) G := by
  subst hr
  intro H locs ls hl hz
  obtain ⟨q0, hq⟩ := hz.1.get (X.d hk (by decide))
  rw [mE_6 hk] at hq
  exact va_get (D := tD t) (cl := mcl) (tys := mty t) (ws := va_pl (tdom t) (mE t G)) (ci := 5) (C := RK5) (T := TK5) (N := 2) X.1 X.2.1 X.ws (fun w h => GW_in (inK5 w h) (inG5 w h)) X.o X.k hz.1.1 q0 hq rfl 1 (by decide) (X.w hw) (fun _ h => h) rfl hd (k H locs ls hl hz)
theorem kp_45 {a idx : Nat} {r : Option Nat} {x : Int32} (X : kX p s m args meth c cc nL own t) (hpu : pu = false) (hd : decode cc pc = .ok (.putfield idx, 3)) (hw : Cond.fieldLink own idx "TreeServer$Answer" "length" "I" ∈ GW) (hr : r = some a) (hk : tk t a = 6) (k : kW p l e R s m args below meth c Q nL t pu (pc + 3) lv rest (si G 45 a x)) : kW p l e R s m args below meth c Q nL t pu pc lv (.int x :: va_rf r :: rest) G := by
  subst hr
  intro H locs ls hl hz
  have ha := X.d hk (by decide)
  obtain ⟨q0, hq⟩ := hz.1.get ha
  have hq' := hq
  rw [mE_6 hk] at hq'
  refine va_put (D := tD t) (cl := mcl) (tys := mty t) (ws := va_pl (tdom t) (mE t G)) (A := tA t) (H0 := s.heap) (ci := 5) (C := RK5) (T := TK5) (N := 2) (v := .int x) (ty := .int) X.1 X.2.1 X.ws (fun w h => GW_in (inK5 w h) (inG5 w h)) yK5 yK5_ok nmK5 X.o X.k hz.1.1 hz.1.2.1 hz.2.1 q0 hq' rfl 1 (by decide) (X.w hw) (fun _ h => h) rfl (by decide +kernel) rfl rfl (Nat.le_of_ble_eq_true rfl) hd (fun H1 locs1 hP hD hS => ?_)
  exact k H1 locs1 ls hl ⟨hz.1.set ha hq (by rw [mE_6 hk]; simp [gi, gl, gr, si, u2]) (fun b hb => mE_si hb) hP hD (fun b j h => hz.1.2.2 b j h), hS, fun h => by rw [hpu] at h; cases h⟩
theorem kg_46 {a idx : Nat} {r : Option Nat} (X : kX p s m args meth c cc nL own t) (hd : decode cc pc = .ok (.getfield idx, 3)) (hw : Cond.fieldLink own idx "TreeServer$Fid" "used" "Z" ∈ GW) (hr : r = some a) (hk : tk t a = 7) (k : kW p l e R s m args below meth c Q nL t pu (pc + 3) lv (.int (gi G 46 a) :: rest) G) : kW p l e R s m args below meth c Q nL t pu pc lv (va_rf r :: rest) G := by
  subst hr
  intro H locs ls hl hz
  obtain ⟨q0, hq⟩ := hz.1.get (X.d hk (by decide))
  rw [mE_7 hk] at hq
  exact va_get (D := tD t) (cl := mcl) (tys := mty t) (ws := va_pl (tdom t) (mE t G)) (ci := 6) (C := RK6) (T := TK6) (N := 9) X.1 X.2.1 X.ws (fun w h => GW_in (inK6 w h) (inG6 w h)) X.o X.k hz.1.1 q0 hq rfl 0 (by decide) (X.w hw) (fun _ h => h) rfl hd (k H locs ls hl hz)
theorem kp_46 {a idx : Nat} {r : Option Nat} {x : Int32} (X : kX p s m args meth c cc nL own t) (hpu : pu = false) (hd : decode cc pc = .ok (.putfield idx, 3)) (hw : Cond.fieldLink own idx "TreeServer$Fid" "used" "Z" ∈ GW) (hr : r = some a) (hk : tk t a = 7) (hB : isB x) (k : kW p l e R s m args below meth c Q nL t pu (pc + 3) lv rest (si G 46 a x)) : kW p l e R s m args below meth c Q nL t pu pc lv (.int x :: va_rf r :: rest) G := by
  subst hr
  intro H locs ls hl hz
  have ha := X.d hk (by decide)
  obtain ⟨q0, hq⟩ := hz.1.get ha
  have hq' := hq
  rw [mE_7 hk] at hq'
  refine va_put (D := tD t) (cl := mcl) (tys := mty t) (ws := va_pl (tdom t) (mE t G)) (A := tA t) (H0 := s.heap) (ci := 6) (C := RK6) (T := TK6) (N := 9) (v := .int x) (ty := .boolean) X.1 X.2.1 X.ws (fun w h => GW_in (inK6 w h) (inG6 w h)) yK6 yK6_ok nmK6 X.o X.k hz.1.1 hz.1.2.1 hz.2.1 q0 hq' rfl 0 (by decide) (X.w hw) (fun _ h => h) rfl (by decide +kernel) (by rcases hB with rfl | rfl <;> rfl) (by rcases hB with rfl | rfl <;> rfl) (Nat.le_of_ble_eq_true rfl) hd (fun H1 locs1 hP hD hS => ?_)
  exact k H1 locs1 ls hl ⟨hz.1.set ha hq (by rw [mE_7 hk]; simp [gi, gl, gr, si, u2]) (fun b hb => mE_si hb) hP hD (fun b j h => hz.1.2.2 b j h), hS, fun h => by rw [hpu] at h; cases h⟩
theorem kg_47 {a idx : Nat} {r : Option Nat} (X : kX p s m args meth c cc nL own t) (hd : decode cc pc = .ok (.getfield idx, 3)) (hw : Cond.fieldLink own idx "TreeServer$Fid" "number" "J" ∈ GW) (hr : r = some a) (hk : tk t a = 7) (k : kW p l e R s m args below meth c Q nL t pu (pc + 3) lv (.long (gl G 47 a) :: rest) G) : kW p l e R s m args below meth c Q nL t pu pc lv (va_rf r :: rest) G := by
  subst hr
  intro H locs ls hl hz
  obtain ⟨q0, hq⟩ := hz.1.get (X.d hk (by decide))
  rw [mE_7 hk] at hq
  exact va_get (D := tD t) (cl := mcl) (tys := mty t) (ws := va_pl (tdom t) (mE t G)) (ci := 6) (C := RK6) (T := TK6) (N := 9) X.1 X.2.1 X.ws (fun w h => GW_in (inK6 w h) (inG6 w h)) X.o X.k hz.1.1 q0 hq rfl 1 (by decide) (X.w hw) (fun _ h => h) rfl hd (k H locs ls hl hz)
theorem kp_47 {a idx : Nat} {r : Option Nat} {x : Int64} (X : kX p s m args meth c cc nL own t) (hpu : pu = false) (hd : decode cc pc = .ok (.putfield idx, 3)) (hw : Cond.fieldLink own idx "TreeServer$Fid" "number" "J" ∈ GW) (hr : r = some a) (hk : tk t a = 7) (k : kW p l e R s m args below meth c Q nL t pu (pc + 3) lv rest (sl G 47 a x)) : kW p l e R s m args below meth c Q nL t pu pc lv (.long x :: va_rf r :: rest) G := by
  subst hr
  intro H locs ls hl hz
  have ha := X.d hk (by decide)
  obtain ⟨q0, hq⟩ := hz.1.get ha
  have hq' := hq
  rw [mE_7 hk] at hq'
  refine va_put (D := tD t) (cl := mcl) (tys := mty t) (ws := va_pl (tdom t) (mE t G)) (A := tA t) (H0 := s.heap) (ci := 6) (C := RK6) (T := TK6) (N := 9) (v := .long x) (ty := .long) X.1 X.2.1 X.ws (fun w h => GW_in (inK6 w h) (inG6 w h)) yK6 yK6_ok nmK6 X.o X.k hz.1.1 hz.1.2.1 hz.2.1 q0 hq' rfl 1 (by decide) (X.w hw) (fun _ h => h) rfl (by decide +kernel) rfl rfl (Nat.le_of_ble_eq_true rfl) hd (fun H1 locs1 hP hD hS => ?_)
  exact k H1 locs1 ls hl ⟨hz.1.set ha hq (by rw [mE_7 hk]; simp [gi, gl, gr, sl, u2]) (fun b hb => mE_sl hb) hP hD (fun b j h => hz.1.2.2 b j h), hS, fun h => by rw [hpu] at h; cases h⟩
theorem kg_48 {a idx : Nat} {r : Option Nat} (X : kX p s m args meth c cc nL own t) (hd : decode cc pc = .ok (.getfield idx, 3)) (hw : Cond.fieldLink own idx "TreeServer$Fid" "node" "LTreeServer$Node;" ∈ GW) (hr : r = some a) (hk : tk t a = 7) (k : kW p l e R s m args below meth c Q nL t pu (pc + 3) lv (va_rf (gr G 48 a) :: rest) G) : kW p l e R s m args below meth c Q nL t pu pc lv (va_rf r :: rest) G := by
  subst hr
  intro H locs ls hl hz
  obtain ⟨q0, hq⟩ := hz.1.get (X.d hk (by decide))
  rw [mE_7 hk] at hq
  exact va_get (D := tD t) (cl := mcl) (tys := mty t) (ws := va_pl (tdom t) (mE t G)) (ci := 6) (C := RK6) (T := TK6) (N := 9) X.1 X.2.1 X.ws (fun w h => GW_in (inK6 w h) (inG6 w h)) X.o X.k hz.1.1 q0 hq rfl 2 (by decide) (X.w hw) (fun _ h => h) rfl hd (k H locs ls hl hz)
theorem kp_48 {a idx : Nat} {r : Option Nat} {x : Option Nat} (X : kX p s m args meth c cc nL own t) (hpu : pu = false) (hd : decode cc pc = .ok (.putfield idx, 3)) (hw : Cond.fieldLink own idx "TreeServer$Fid" "node" "LTreeServer$Node;" ∈ GW) (hr : r = some a) (hk : tk t a = 7) (k : kW p l e R s m args below meth c Q nL t pu (pc + 3) lv rest (sr G 48 a x)) : kW p l e R s m args below meth c Q nL t pu pc lv (va_rf x :: va_rf r :: rest) G := by
  subst hr
  intro H locs ls hl hz
  have ha := X.d hk (by decide)
  obtain ⟨q0, hq⟩ := hz.1.get ha
  have hq' := hq
  rw [mE_7 hk] at hq'
  refine va_put (D := tD t) (cl := mcl) (tys := mty t) (ws := va_pl (tdom t) (mE t G)) (A := tA t) (H0 := s.heap) (ci := 6) (C := RK6) (T := TK6) (N := 9) (v := va_rf x) (ty := .object "TreeServer$Node") X.1 X.2.1 X.ws (fun w h => GW_in (inK6 w h) (inG6 w h)) yK6 yK6_ok nmK6 X.o X.k hz.1.1 hz.1.2.1 hz.2.1 q0 hq' rfl 2 (by decide) (X.w hw) (fun _ h => h) rfl (by decide +kernel) (by cases x <;> rfl) (by cases x <;> rfl) (Nat.le_of_ble_eq_true rfl) hd (fun H1 locs1 hP hD hS => ?_)
  exact k H1 locs1 ls hl ⟨hz.1.set ha hq (by rw [mE_7 hk]; simp [gi, gl, gr, sr, u2]) (fun b hb => mE_sr hb) hP hD (fun b j h => hz.1.2.2 b j h), hS, fun h => by rw [hpu] at h; cases h⟩
theorem kg_49 {a idx : Nat} {r : Option Nat} (X : kX p s m args meth c cc nL own t) (hd : decode cc pc = .ok (.getfield idx, 3)) (hw : Cond.fieldLink own idx "TreeServer$Fid" "path" "I" ∈ GW) (hr : r = some a) (hk : tk t a = 7) (k : kW p l e R s m args below meth c Q nL t pu (pc + 3) lv (.int (gi G 49 a) :: rest) G) : kW p l e R s m args below meth c Q nL t pu pc lv (va_rf r :: rest) G := by
  subst hr
  intro H locs ls hl hz
  obtain ⟨q0, hq⟩ := hz.1.get (X.d hk (by decide))
  rw [mE_7 hk] at hq
  exact va_get (D := tD t) (cl := mcl) (tys := mty t) (ws := va_pl (tdom t) (mE t G)) (ci := 6) (C := RK6) (T := TK6) (N := 9) X.1 X.2.1 X.ws (fun w h => GW_in (inK6 w h) (inG6 w h)) X.o X.k hz.1.1 q0 hq rfl 3 (by decide) (X.w hw) (fun _ h => h) rfl hd (k H locs ls hl hz)
theorem kp_49 {a idx : Nat} {r : Option Nat} {x : Int32} (X : kX p s m args meth c cc nL own t) (hpu : pu = false) (hd : decode cc pc = .ok (.putfield idx, 3)) (hw : Cond.fieldLink own idx "TreeServer$Fid" "path" "I" ∈ GW) (hr : r = some a) (hk : tk t a = 7) (k : kW p l e R s m args below meth c Q nL t pu (pc + 3) lv rest (si G 49 a x)) : kW p l e R s m args below meth c Q nL t pu pc lv (.int x :: va_rf r :: rest) G := by
  subst hr
  intro H locs ls hl hz
  have ha := X.d hk (by decide)
  obtain ⟨q0, hq⟩ := hz.1.get ha
  have hq' := hq
  rw [mE_7 hk] at hq'
  refine va_put (D := tD t) (cl := mcl) (tys := mty t) (ws := va_pl (tdom t) (mE t G)) (A := tA t) (H0 := s.heap) (ci := 6) (C := RK6) (T := TK6) (N := 9) (v := .int x) (ty := .int) X.1 X.2.1 X.ws (fun w h => GW_in (inK6 w h) (inG6 w h)) yK6 yK6_ok nmK6 X.o X.k hz.1.1 hz.1.2.1 hz.2.1 q0 hq' rfl 3 (by decide) (X.w hw) (fun _ h => h) rfl (by decide +kernel) rfl rfl (Nat.le_of_ble_eq_true rfl) hd (fun H1 locs1 hP hD hS => ?_)
  exact k H1 locs1 ls hl ⟨hz.1.set ha hq (by rw [mE_7 hk]; simp [gi, gl, gr, si, u2]) (fun b hb => mE_si hb) hP hD (fun b j h => hz.1.2.2 b j h), hS, fun h => by rw [hpu] at h; cases h⟩
theorem kg_50 {a idx : Nat} {r : Option Nat} (X : kX p s m args meth c cc nL own t) (hd : decode cc pc = .ok (.getfield idx, 3)) (hw : Cond.fieldLink own idx "TreeServer$Fid" "user" "LTreeServer$User;" ∈ GW) (hr : r = some a) (hk : tk t a = 7) (k : kW p l e R s m args below meth c Q nL t pu (pc + 3) lv (va_rf (gr G 50 a) :: rest) G) : kW p l e R s m args below meth c Q nL t pu pc lv (va_rf r :: rest) G := by
  subst hr
  intro H locs ls hl hz
  obtain ⟨q0, hq⟩ := hz.1.get (X.d hk (by decide))
  rw [mE_7 hk] at hq
  exact va_get (D := tD t) (cl := mcl) (tys := mty t) (ws := va_pl (tdom t) (mE t G)) (ci := 6) (C := RK6) (T := TK6) (N := 9) X.1 X.2.1 X.ws (fun w h => GW_in (inK6 w h) (inG6 w h)) X.o X.k hz.1.1 q0 hq rfl 4 (by decide) (X.w hw) (fun _ h => h) rfl hd (k H locs ls hl hz)
theorem kp_50 {a idx : Nat} {r : Option Nat} {x : Option Nat} (X : kX p s m args meth c cc nL own t) (hpu : pu = false) (hd : decode cc pc = .ok (.putfield idx, 3)) (hw : Cond.fieldLink own idx "TreeServer$Fid" "user" "LTreeServer$User;" ∈ GW) (hr : r = some a) (hk : tk t a = 7) (k : kW p l e R s m args below meth c Q nL t pu (pc + 3) lv rest (sr G 50 a x)) : kW p l e R s m args below meth c Q nL t pu pc lv (va_rf x :: va_rf r :: rest) G := by
  subst hr
  intro H locs ls hl hz
  have ha := X.d hk (by decide)
  obtain ⟨q0, hq⟩ := hz.1.get ha
  have hq' := hq
  rw [mE_7 hk] at hq'
  refine va_put (D := tD t) (cl := mcl) (tys := mty t) (ws := va_pl (tdom t) (mE t G)) (A := tA t) (H0 := s.heap) (ci := 6) (C := RK6) (T := TK6) (N := 9) (v := va_rf x) (ty := .object "TreeServer$User") X.1 X.2.1 X.ws (fun w h => GW_in (inK6 w h) (inG6 w h)) yK6 yK6_ok nmK6 X.o X.k hz.1.1 hz.1.2.1 hz.2.1 q0 hq' rfl 4 (by decide) (X.w hw) (fun _ h => h) rfl (by decide +kernel) (by cases x <;> rfl) (by cases x <;> rfl) (Nat.le_of_ble_eq_true rfl) hd (fun H1 locs1 hP hD hS => ?_)
  exact k H1 locs1 ls hl ⟨hz.1.set ha hq (by rw [mE_7 hk]; simp [gi, gl, gr, sr, u2]) (fun b hb => mE_sr hb) hP hD (fun b j h => hz.1.2.2 b j h), hS, fun h => by rw [hpu] at h; cases h⟩
theorem kg_51 {a idx : Nat} {r : Option Nat} (X : kX p s m args meth c cc nL own t) (hd : decode cc pc = .ok (.getfield idx, 3)) (hw : Cond.fieldLink own idx "TreeServer$Fid" "openMode" "I" ∈ GW) (hr : r = some a) (hk : tk t a = 7) (k : kW p l e R s m args below meth c Q nL t pu (pc + 3) lv (.int (gi G 51 a) :: rest) G) : kW p l e R s m args below meth c Q nL t pu pc lv (va_rf r :: rest) G := by
  subst hr
  intro H locs ls hl hz
  obtain ⟨q0, hq⟩ := hz.1.get (X.d hk (by decide))
  rw [mE_7 hk] at hq
  exact va_get (D := tD t) (cl := mcl) (tys := mty t) (ws := va_pl (tdom t) (mE t G)) (ci := 6) (C := RK6) (T := TK6) (N := 9) X.1 X.2.1 X.ws (fun w h => GW_in (inK6 w h) (inG6 w h)) X.o X.k hz.1.1 q0 hq rfl 5 (by decide) (X.w hw) (fun _ h => h) rfl hd (k H locs ls hl hz)
theorem kp_51 {a idx : Nat} {r : Option Nat} {x : Int32} (X : kX p s m args meth c cc nL own t) (hpu : pu = false) (hd : decode cc pc = .ok (.putfield idx, 3)) (hw : Cond.fieldLink own idx "TreeServer$Fid" "openMode" "I" ∈ GW) (hr : r = some a) (hk : tk t a = 7) (k : kW p l e R s m args below meth c Q nL t pu (pc + 3) lv rest (si G 51 a x)) : kW p l e R s m args below meth c Q nL t pu pc lv (.int x :: va_rf r :: rest) G := by
  subst hr
  intro H locs ls hl hz
  have ha := X.d hk (by decide)
  obtain ⟨q0, hq⟩ := hz.1.get ha
  have hq' := hq
  rw [mE_7 hk] at hq'
  refine va_put (D := tD t) (cl := mcl) (tys := mty t) (ws := va_pl (tdom t) (mE t G)) (A := tA t) (H0 := s.heap) (ci := 6) (C := RK6) (T := TK6) (N := 9) (v := .int x) (ty := .int) X.1 X.2.1 X.ws (fun w h => GW_in (inK6 w h) (inG6 w h)) yK6 yK6_ok nmK6 X.o X.k hz.1.1 hz.1.2.1 hz.2.1 q0 hq' rfl 5 (by decide) (X.w hw) (fun _ h => h) rfl (by decide +kernel) rfl rfl (Nat.le_of_ble_eq_true rfl) hd (fun H1 locs1 hP hD hS => ?_)
  exact k H1 locs1 ls hl ⟨hz.1.set ha hq (by rw [mE_7 hk]; simp [gi, gl, gr, si, u2]) (fun b hb => mE_si hb) hP hD (fun b j h => hz.1.2.2 b j h), hS, fun h => by rw [hpu] at h; cases h⟩
theorem kg_52 {a idx : Nat} {r : Option Nat} (X : kX p s m args meth c cc nL own t) (hd : decode cc pc = .ok (.getfield idx, 3)) (hw : Cond.fieldLink own idx "TreeServer$Fid" "removes" "Z" ∈ GW) (hr : r = some a) (hk : tk t a = 7) (k : kW p l e R s m args below meth c Q nL t pu (pc + 3) lv (.int (gi G 52 a) :: rest) G) : kW p l e R s m args below meth c Q nL t pu pc lv (va_rf r :: rest) G := by
  subst hr
  intro H locs ls hl hz
  obtain ⟨q0, hq⟩ := hz.1.get (X.d hk (by decide))
  rw [mE_7 hk] at hq
  exact va_get (D := tD t) (cl := mcl) (tys := mty t) (ws := va_pl (tdom t) (mE t G)) (ci := 6) (C := RK6) (T := TK6) (N := 9) X.1 X.2.1 X.ws (fun w h => GW_in (inK6 w h) (inG6 w h)) X.o X.k hz.1.1 q0 hq rfl 6 (by decide) (X.w hw) (fun _ h => h) rfl hd (k H locs ls hl hz)
theorem kp_52 {a idx : Nat} {r : Option Nat} {x : Int32} (X : kX p s m args meth c cc nL own t) (hpu : pu = false) (hd : decode cc pc = .ok (.putfield idx, 3)) (hw : Cond.fieldLink own idx "TreeServer$Fid" "removes" "Z" ∈ GW) (hr : r = some a) (hk : tk t a = 7) (hB : isB x) (k : kW p l e R s m args below meth c Q nL t pu (pc + 3) lv rest (si G 52 a x)) : kW p l e R s m args below meth c Q nL t pu pc lv (.int x :: va_rf r :: rest) G := by
  subst hr
  intro H locs ls hl hz
  have ha := X.d hk (by decide)
  obtain ⟨q0, hq⟩ := hz.1.get ha
  have hq' := hq
  rw [mE_7 hk] at hq'
  refine va_put (D := tD t) (cl := mcl) (tys := mty t) (ws := va_pl (tdom t) (mE t G)) (A := tA t) (H0 := s.heap) (ci := 6) (C := RK6) (T := TK6) (N := 9) (v := .int x) (ty := .boolean) X.1 X.2.1 X.ws (fun w h => GW_in (inK6 w h) (inG6 w h)) yK6 yK6_ok nmK6 X.o X.k hz.1.1 hz.1.2.1 hz.2.1 q0 hq' rfl 6 (by decide) (X.w hw) (fun _ h => h) rfl (by decide +kernel) (by rcases hB with rfl | rfl <;> rfl) (by rcases hB with rfl | rfl <;> rfl) (Nat.le_of_ble_eq_true rfl) hd (fun H1 locs1 hP hD hS => ?_)
  exact k H1 locs1 ls hl ⟨hz.1.set ha hq (by rw [mE_7 hk]; simp [gi, gl, gr, si, u2]) (fun b hb => mE_si hb) hP hD (fun b j h => hz.1.2.2 b j h), hS, fun h => by rw [hpu] at h; cases h⟩
theorem kg_53 {a idx : Nat} {r : Option Nat} (X : kX p s m args meth c cc nL own t) (hd : decode cc pc = .ok (.getfield idx, 3)) (hw : Cond.fieldLink own idx "TreeServer$Fid" "nextOffset" "J" ∈ GW) (hr : r = some a) (hk : tk t a = 7) (k : kW p l e R s m args below meth c Q nL t pu (pc + 3) lv (.long (gl G 53 a) :: rest) G) : kW p l e R s m args below meth c Q nL t pu pc lv (va_rf r :: rest) G := by
  subst hr
  intro H locs ls hl hz
  obtain ⟨q0, hq⟩ := hz.1.get (X.d hk (by decide))
  rw [mE_7 hk] at hq
  exact va_get (D := tD t) (cl := mcl) (tys := mty t) (ws := va_pl (tdom t) (mE t G)) (ci := 6) (C := RK6) (T := TK6) (N := 9) X.1 X.2.1 X.ws (fun w h => GW_in (inK6 w h) (inG6 w h)) X.o X.k hz.1.1 q0 hq rfl 7 (by decide) (X.w hw) (fun _ h => h) rfl hd (k H locs ls hl hz)
theorem kp_53 {a idx : Nat} {r : Option Nat} {x : Int64} (X : kX p s m args meth c cc nL own t) (hpu : pu = false) (hd : decode cc pc = .ok (.putfield idx, 3)) (hw : Cond.fieldLink own idx "TreeServer$Fid" "nextOffset" "J" ∈ GW) (hr : r = some a) (hk : tk t a = 7) (k : kW p l e R s m args below meth c Q nL t pu (pc + 3) lv rest (sl G 53 a x)) : kW p l e R s m args below meth c Q nL t pu pc lv (.long x :: va_rf r :: rest) G := by
  subst hr
  intro H locs ls hl hz
  have ha := X.d hk (by decide)
  obtain ⟨q0, hq⟩ := hz.1.get ha
  have hq' := hq
  rw [mE_7 hk] at hq'
  refine va_put (D := tD t) (cl := mcl) (tys := mty t) (ws := va_pl (tdom t) (mE t G)) (A := tA t) (H0 := s.heap) (ci := 6) (C := RK6) (T := TK6) (N := 9) (v := .long x) (ty := .long) X.1 X.2.1 X.ws (fun w h => GW_in (inK6 w h) (inG6 w h)) yK6 yK6_ok nmK6 X.o X.k hz.1.1 hz.1.2.1 hz.2.1 q0 hq' rfl 7 (by decide) (X.w hw) (fun _ h => h) rfl (by decide +kernel) rfl rfl (Nat.le_of_ble_eq_true rfl) hd (fun H1 locs1 hP hD hS => ?_)
  exact k H1 locs1 ls hl ⟨hz.1.set ha hq (by rw [mE_7 hk]; simp [gi, gl, gr, sl, u2]) (fun b hb => mE_sl hb) hP hD (fun b j h => hz.1.2.2 b j h), hS, fun h => by rw [hpu] at h; cases h⟩
theorem kg_54 {a idx : Nat} {r : Option Nat} (X : kX p s m args meth c cc nL own t) (hd : decode cc pc = .ok (.getfield idx, 3)) (hw : Cond.fieldLink own idx "TreeServer$Fid" "lastRead" "I" ∈ GW) (hr : r = some a) (hk : tk t a = 7) (k : kW p l e R s m args below meth c Q nL t pu (pc + 3) lv (.int (gi G 54 a) :: rest) G) : kW p l e R s m args below meth c Q nL t pu pc lv (va_rf r :: rest) G := by
  subst hr
  intro H locs ls hl hz
  obtain ⟨q0, hq⟩ := hz.1.get (X.d hk (by decide))
  rw [mE_7 hk] at hq
  exact va_get (D := tD t) (cl := mcl) (tys := mty t) (ws := va_pl (tdom t) (mE t G)) (ci := 6) (C := RK6) (T := TK6) (N := 9) X.1 X.2.1 X.ws (fun w h => GW_in (inK6 w h) (inG6 w h)) X.o X.k hz.1.1 q0 hq rfl 8 (by decide) (X.w hw) (fun _ h => h) rfl hd (k H locs ls hl hz)
theorem kp_54 {a idx : Nat} {r : Option Nat} {x : Int32} (X : kX p s m args meth c cc nL own t) (hpu : pu = false) (hd : decode cc pc = .ok (.putfield idx, 3)) (hw : Cond.fieldLink own idx "TreeServer$Fid" "lastRead" "I" ∈ GW) (hr : r = some a) (hk : tk t a = 7) (k : kW p l e R s m args below meth c Q nL t pu (pc + 3) lv rest (si G 54 a x)) : kW p l e R s m args below meth c Q nL t pu pc lv (.int x :: va_rf r :: rest) G := by
  subst hr
  intro H locs ls hl hz
  have ha := X.d hk (by decide)
  obtain ⟨q0, hq⟩ := hz.1.get ha
  have hq' := hq
  rw [mE_7 hk] at hq'
  refine va_put (D := tD t) (cl := mcl) (tys := mty t) (ws := va_pl (tdom t) (mE t G)) (A := tA t) (H0 := s.heap) (ci := 6) (C := RK6) (T := TK6) (N := 9) (v := .int x) (ty := .int) X.1 X.2.1 X.ws (fun w h => GW_in (inK6 w h) (inG6 w h)) yK6 yK6_ok nmK6 X.o X.k hz.1.1 hz.1.2.1 hz.2.1 q0 hq' rfl 8 (by decide) (X.w hw) (fun _ h => h) rfl (by decide +kernel) rfl rfl (Nat.le_of_ble_eq_true rfl) hd (fun H1 locs1 hP hD hS => ?_)
  exact k H1 locs1 ls hl ⟨hz.1.set ha hq (by rw [mE_7 hk]; simp [gi, gl, gr, si, u2]) (fun b hb => mE_si hb) hP hD (fun b j h => hz.1.2.2 b j h), hS, fun h => by rw [hpu] at h; cases h⟩
theorem kg_55 {a idx : Nat} {r : Option Nat} (X : kX p s m args meth c cc nL own t) (hd : decode cc pc = .ok (.getfield idx, 3)) (hw : Cond.fieldLink own idx "TreeServer$Link" "input" "[B" ∈ GW) (hr : r = some a) (hk : tk t a = 8) (k : kW p l e R s m args below meth c Q nL t pu (pc + 3) lv (va_rf (gr G 55 a) :: rest) G) : kW p l e R s m args below meth c Q nL t pu pc lv (va_rf r :: rest) G := by
  subst hr
  intro H locs ls hl hz
  obtain ⟨q0, hq⟩ := hz.1.get (X.d hk (by decide))
  rw [mE_8 hk] at hq
  exact va_get (D := tD t) (cl := mcl) (tys := mty t) (ws := va_pl (tdom t) (mE t G)) (ci := 7) (C := RK7) (T := TK7) (N := 8) X.1 X.2.1 X.ws (fun w h => GW_in (inK7 w h) (inG7 w h)) X.o X.k hz.1.1 q0 hq rfl 0 (by decide) (X.w hw) (fun _ h => h) rfl hd (k H locs ls hl hz)
theorem kg_56 {a idx : Nat} {r : Option Nat} (X : kX p s m args meth c cc nL own t) (hd : decode cc pc = .ok (.getfield idx, 3)) (hw : Cond.fieldLink own idx "TreeServer$Link" "inputLength" "I" ∈ GW) (hr : r = some a) (hk : tk t a = 8) (k : kW p l e R s m args below meth c Q nL t pu (pc + 3) lv (.int (gi G 56 a) :: rest) G) : kW p l e R s m args below meth c Q nL t pu pc lv (va_rf r :: rest) G := by
  subst hr
  intro H locs ls hl hz
  obtain ⟨q0, hq⟩ := hz.1.get (X.d hk (by decide))
  rw [mE_8 hk] at hq
  exact va_get (D := tD t) (cl := mcl) (tys := mty t) (ws := va_pl (tdom t) (mE t G)) (ci := 7) (C := RK7) (T := TK7) (N := 8) X.1 X.2.1 X.ws (fun w h => GW_in (inK7 w h) (inG7 w h)) X.o X.k hz.1.1 q0 hq rfl 1 (by decide) (X.w hw) (fun _ h => h) rfl hd (k H locs ls hl hz)
theorem kp_56 {a idx : Nat} {r : Option Nat} {x : Int32} (X : kX p s m args meth c cc nL own t) (hpu : pu = false) (hd : decode cc pc = .ok (.putfield idx, 3)) (hw : Cond.fieldLink own idx "TreeServer$Link" "inputLength" "I" ∈ GW) (hr : r = some a) (hk : tk t a = 8) (k : kW p l e R s m args below meth c Q nL t pu (pc + 3) lv rest (si G 56 a x)) : kW p l e R s m args below meth c Q nL t pu pc lv (.int x :: va_rf r :: rest) G := by
  subst hr
  intro H locs ls hl hz
  have ha := X.d hk (by decide)
  obtain ⟨q0, hq⟩ := hz.1.get ha
  have hq' := hq
  rw [mE_8 hk] at hq'
  refine va_put (D := tD t) (cl := mcl) (tys := mty t) (ws := va_pl (tdom t) (mE t G)) (A := tA t) (H0 := s.heap) (ci := 7) (C := RK7) (T := TK7) (N := 8) (v := .int x) (ty := .int) X.1 X.2.1 X.ws (fun w h => GW_in (inK7 w h) (inG7 w h)) yK7 yK7_ok nmK7 X.o X.k hz.1.1 hz.1.2.1 hz.2.1 q0 hq' rfl 1 (by decide) (X.w hw) (fun _ h => h) rfl (by decide +kernel) rfl rfl (Nat.le_of_ble_eq_true rfl) hd (fun H1 locs1 hP hD hS => ?_)
  exact k H1 locs1 ls hl ⟨hz.1.set ha hq (by rw [mE_8 hk]; simp [gi, gl, gr, si, u2]) (fun b hb => mE_si hb) hP hD (fun b j h => hz.1.2.2 b j h), hS, fun h => by rw [hpu] at h; cases h⟩
theorem kg_57 {a idx : Nat} {r : Option Nat} (X : kX p s m args meth c cc nL own t) (hd : decode cc pc = .ok (.getfield idx, 3)) (hw : Cond.fieldLink own idx "TreeServer$Link" "output" "[B" ∈ GW) (hr : r = some a) (hk : tk t a = 8) (k : kW p l e R s m args below meth c Q nL t pu (pc + 3) lv (va_rf (gr G 57 a) :: rest) G) : kW p l e R s m args below meth c Q nL t pu pc lv (va_rf r :: rest) G := by
  subst hr
  intro H locs ls hl hz
  obtain ⟨q0, hq⟩ := hz.1.get (X.d hk (by decide))
  rw [mE_8 hk] at hq
  exact va_get (D := tD t) (cl := mcl) (tys := mty t) (ws := va_pl (tdom t) (mE t G)) (ci := 7) (C := RK7) (T := TK7) (N := 8) X.1 X.2.1 X.ws (fun w h => GW_in (inK7 w h) (inG7 w h)) X.o X.k hz.1.1 q0 hq rfl 2 (by decide) (X.w hw) (fun _ h => h) rfl hd (k H locs ls hl hz)
theorem kg_58 {a idx : Nat} {r : Option Nat} (X : kX p s m args meth c cc nL own t) (hd : decode cc pc = .ok (.getfield idx, 3)) (hw : Cond.fieldLink own idx "TreeServer$Link" "outputLength" "I" ∈ GW) (hr : r = some a) (hk : tk t a = 8) (k : kW p l e R s m args below meth c Q nL t pu (pc + 3) lv (.int (gi G 58 a) :: rest) G) : kW p l e R s m args below meth c Q nL t pu pc lv (va_rf r :: rest) G := by
  subst hr
  intro H locs ls hl hz
  obtain ⟨q0, hq⟩ := hz.1.get (X.d hk (by decide))
  rw [mE_8 hk] at hq
  exact va_get (D := tD t) (cl := mcl) (tys := mty t) (ws := va_pl (tdom t) (mE t G)) (ci := 7) (C := RK7) (T := TK7) (N := 8) X.1 X.2.1 X.ws (fun w h => GW_in (inK7 w h) (inG7 w h)) X.o X.k hz.1.1 q0 hq rfl 3 (by decide) (X.w hw) (fun _ h => h) rfl hd (k H locs ls hl hz)
theorem kp_58 {a idx : Nat} {r : Option Nat} {x : Int32} (X : kX p s m args meth c cc nL own t) (hpu : pu = false) (hd : decode cc pc = .ok (.putfield idx, 3)) (hw : Cond.fieldLink own idx "TreeServer$Link" "outputLength" "I" ∈ GW) (hr : r = some a) (hk : tk t a = 8) (k : kW p l e R s m args below meth c Q nL t pu (pc + 3) lv rest (si G 58 a x)) : kW p l e R s m args below meth c Q nL t pu pc lv (.int x :: va_rf r :: rest) G := by
  subst hr
  intro H locs ls hl hz
  have ha := X.d hk (by decide)
  obtain ⟨q0, hq⟩ := hz.1.get ha
  have hq' := hq
  rw [mE_8 hk] at hq'
  refine va_put (D := tD t) (cl := mcl) (tys := mty t) (ws := va_pl (tdom t) (mE t G)) (A := tA t) (H0 := s.heap) (ci := 7) (C := RK7) (T := TK7) (N := 8) (v := .int x) (ty := .int) X.1 X.2.1 X.ws (fun w h => GW_in (inK7 w h) (inG7 w h)) yK7 yK7_ok nmK7 X.o X.k hz.1.1 hz.1.2.1 hz.2.1 q0 hq' rfl 3 (by decide) (X.w hw) (fun _ h => h) rfl (by decide +kernel) rfl rfl (Nat.le_of_ble_eq_true rfl) hd (fun H1 locs1 hP hD hS => ?_)
  exact k H1 locs1 ls hl ⟨hz.1.set ha hq (by rw [mE_8 hk]; simp [gi, gl, gr, si, u2]) (fun b hb => mE_si hb) hP hD (fun b j h => hz.1.2.2 b j h), hS, fun h => by rw [hpu] at h; cases h⟩
theorem kg_59 {a idx : Nat} {r : Option Nat} (X : kX p s m args meth c cc nL own t) (hd : decode cc pc = .ok (.getfield idx, 3)) (hw : Cond.fieldLink own idx "TreeServer$Link" "msize" "I" ∈ GW) (hr : r = some a) (hk : tk t a = 8) (k : kW p l e R s m args below meth c Q nL t pu (pc + 3) lv (.int (gi G 59 a) :: rest) G) : kW p l e R s m args below meth c Q nL t pu pc lv (va_rf r :: rest) G := by
  subst hr
  intro H locs ls hl hz
  obtain ⟨q0, hq⟩ := hz.1.get (X.d hk (by decide))
  rw [mE_8 hk] at hq
  exact va_get (D := tD t) (cl := mcl) (tys := mty t) (ws := va_pl (tdom t) (mE t G)) (ci := 7) (C := RK7) (T := TK7) (N := 8) X.1 X.2.1 X.ws (fun w h => GW_in (inK7 w h) (inG7 w h)) X.o X.k hz.1.1 q0 hq rfl 4 (by decide) (X.w hw) (fun _ h => h) rfl hd (k H locs ls hl hz)
theorem kp_59 {a idx : Nat} {r : Option Nat} {x : Int32} (X : kX p s m args meth c cc nL own t) (hpu : pu = false) (hd : decode cc pc = .ok (.putfield idx, 3)) (hw : Cond.fieldLink own idx "TreeServer$Link" "msize" "I" ∈ GW) (hr : r = some a) (hk : tk t a = 8) (k : kW p l e R s m args below meth c Q nL t pu (pc + 3) lv rest (si G 59 a x)) : kW p l e R s m args below meth c Q nL t pu pc lv (.int x :: va_rf r :: rest) G := by
  subst hr
  intro H locs ls hl hz
  have ha := X.d hk (by decide)
  obtain ⟨q0, hq⟩ := hz.1.get ha
  have hq' := hq
  rw [mE_8 hk] at hq'
  refine va_put (D := tD t) (cl := mcl) (tys := mty t) (ws := va_pl (tdom t) (mE t G)) (A := tA t) (H0 := s.heap) (ci := 7) (C := RK7) (T := TK7) (N := 8) (v := .int x) (ty := .int) X.1 X.2.1 X.ws (fun w h => GW_in (inK7 w h) (inG7 w h)) yK7 yK7_ok nmK7 X.o X.k hz.1.1 hz.1.2.1 hz.2.1 q0 hq' rfl 4 (by decide) (X.w hw) (fun _ h => h) rfl (by decide +kernel) rfl rfl (Nat.le_of_ble_eq_true rfl) hd (fun H1 locs1 hP hD hS => ?_)
  exact k H1 locs1 ls hl ⟨hz.1.set ha hq (by rw [mE_8 hk]; simp [gi, gl, gr, si, u2]) (fun b hb => mE_si hb) hP hD (fun b j h => hz.1.2.2 b j h), hS, fun h => by rw [hpu] at h; cases h⟩
theorem kg_60 {a idx : Nat} {r : Option Nat} (X : kX p s m args meth c cc nL own t) (hd : decode cc pc = .ok (.getfield idx, 3)) (hw : Cond.fieldLink own idx "TreeServer$Link" "agreed" "Z" ∈ GW) (hr : r = some a) (hk : tk t a = 8) (k : kW p l e R s m args below meth c Q nL t pu (pc + 3) lv (.int (gi G 60 a) :: rest) G) : kW p l e R s m args below meth c Q nL t pu pc lv (va_rf r :: rest) G := by
  subst hr
  intro H locs ls hl hz
  obtain ⟨q0, hq⟩ := hz.1.get (X.d hk (by decide))
  rw [mE_8 hk] at hq
  exact va_get (D := tD t) (cl := mcl) (tys := mty t) (ws := va_pl (tdom t) (mE t G)) (ci := 7) (C := RK7) (T := TK7) (N := 8) X.1 X.2.1 X.ws (fun w h => GW_in (inK7 w h) (inG7 w h)) X.o X.k hz.1.1 q0 hq rfl 5 (by decide) (X.w hw) (fun _ h => h) rfl hd (k H locs ls hl hz)
theorem kp_60 {a idx : Nat} {r : Option Nat} {x : Int32} (X : kX p s m args meth c cc nL own t) (hpu : pu = false) (hd : decode cc pc = .ok (.putfield idx, 3)) (hw : Cond.fieldLink own idx "TreeServer$Link" "agreed" "Z" ∈ GW) (hr : r = some a) (hk : tk t a = 8) (hB : isB x) (k : kW p l e R s m args below meth c Q nL t pu (pc + 3) lv rest (si G 60 a x)) : kW p l e R s m args below meth c Q nL t pu pc lv (.int x :: va_rf r :: rest) G := by
  subst hr
  intro H locs ls hl hz
  have ha := X.d hk (by decide)
  obtain ⟨q0, hq⟩ := hz.1.get ha
  have hq' := hq
  rw [mE_8 hk] at hq'
  refine va_put (D := tD t) (cl := mcl) (tys := mty t) (ws := va_pl (tdom t) (mE t G)) (A := tA t) (H0 := s.heap) (ci := 7) (C := RK7) (T := TK7) (N := 8) (v := .int x) (ty := .boolean) X.1 X.2.1 X.ws (fun w h => GW_in (inK7 w h) (inG7 w h)) yK7 yK7_ok nmK7 X.o X.k hz.1.1 hz.1.2.1 hz.2.1 q0 hq' rfl 5 (by decide) (X.w hw) (fun _ h => h) rfl (by decide +kernel) (by rcases hB with rfl | rfl <;> rfl) (by rcases hB with rfl | rfl <;> rfl) (Nat.le_of_ble_eq_true rfl) hd (fun H1 locs1 hP hD hS => ?_)
  exact k H1 locs1 ls hl ⟨hz.1.set ha hq (by rw [mE_8 hk]; simp [gi, gl, gr, si, u2]) (fun b hb => mE_si hb) hP hD (fun b j h => hz.1.2.2 b j h), hS, fun h => by rw [hpu] at h; cases h⟩
theorem kg_61 {a idx : Nat} {r : Option Nat} (X : kX p s m args meth c cc nL own t) (hd : decode cc pc = .ok (.getfield idx, 3)) (hw : Cond.fieldLink own idx "TreeServer$Link" "broken" "Z" ∈ GW) (hr : r = some a) (hk : tk t a = 8) (k : kW p l e R s m args below meth c Q nL t pu (pc + 3) lv (.int (gi G 61 a) :: rest) G) : kW p l e R s m args below meth c Q nL t pu pc lv (va_rf r :: rest) G := by
  subst hr
  intro H locs ls hl hz
  obtain ⟨q0, hq⟩ := hz.1.get (X.d hk (by decide))
  rw [mE_8 hk] at hq
  exact va_get (D := tD t) (cl := mcl) (tys := mty t) (ws := va_pl (tdom t) (mE t G)) (ci := 7) (C := RK7) (T := TK7) (N := 8) X.1 X.2.1 X.ws (fun w h => GW_in (inK7 w h) (inG7 w h)) X.o X.k hz.1.1 q0 hq rfl 6 (by decide) (X.w hw) (fun _ h => h) rfl hd (k H locs ls hl hz)
theorem kp_61 {a idx : Nat} {r : Option Nat} {x : Int32} (X : kX p s m args meth c cc nL own t) (hpu : pu = false) (hd : decode cc pc = .ok (.putfield idx, 3)) (hw : Cond.fieldLink own idx "TreeServer$Link" "broken" "Z" ∈ GW) (hr : r = some a) (hk : tk t a = 8) (hB : isB x) (k : kW p l e R s m args below meth c Q nL t pu (pc + 3) lv rest (si G 61 a x)) : kW p l e R s m args below meth c Q nL t pu pc lv (.int x :: va_rf r :: rest) G := by
  subst hr
  intro H locs ls hl hz
  have ha := X.d hk (by decide)
  obtain ⟨q0, hq⟩ := hz.1.get ha
  have hq' := hq
  rw [mE_8 hk] at hq'
  refine va_put (D := tD t) (cl := mcl) (tys := mty t) (ws := va_pl (tdom t) (mE t G)) (A := tA t) (H0 := s.heap) (ci := 7) (C := RK7) (T := TK7) (N := 8) (v := .int x) (ty := .boolean) X.1 X.2.1 X.ws (fun w h => GW_in (inK7 w h) (inG7 w h)) yK7 yK7_ok nmK7 X.o X.k hz.1.1 hz.1.2.1 hz.2.1 q0 hq' rfl 6 (by decide) (X.w hw) (fun _ h => h) rfl (by decide +kernel) (by rcases hB with rfl | rfl <;> rfl) (by rcases hB with rfl | rfl <;> rfl) (Nat.le_of_ble_eq_true rfl) hd (fun H1 locs1 hP hD hS => ?_)
  exact k H1 locs1 ls hl ⟨hz.1.set ha hq (by rw [mE_8 hk]; simp [gi, gl, gr, si, u2]) (fun b hb => mE_si hb) hP hD (fun b j h => hz.1.2.2 b j h), hS, fun h => by rw [hpu] at h; cases h⟩
theorem kg_62 {a idx : Nat} {r : Option Nat} (X : kX p s m args meth c cc nL own t) (hd : decode cc pc = .ok (.getfield idx, 3)) (hw : Cond.fieldLink own idx "TreeServer$Link" "fids" "[LTreeServer$Fid;" ∈ GW) (hr : r = some a) (hk : tk t a = 8) (k : kW p l e R s m args below meth c Q nL t pu (pc + 3) lv (va_rf (gr G 62 a) :: rest) G) : kW p l e R s m args below meth c Q nL t pu pc lv (va_rf r :: rest) G := by
  subst hr
  intro H locs ls hl hz
  obtain ⟨q0, hq⟩ := hz.1.get (X.d hk (by decide))
  rw [mE_8 hk] at hq
  exact va_get (D := tD t) (cl := mcl) (tys := mty t) (ws := va_pl (tdom t) (mE t G)) (ci := 7) (C := RK7) (T := TK7) (N := 8) X.1 X.2.1 X.ws (fun w h => GW_in (inK7 w h) (inG7 w h)) X.o X.k hz.1.1 q0 hq rfl 7 (by decide) (X.w hw) (fun _ h => h) rfl hd (k H locs ls hl hz)
theorem kg_63 {a idx : Nat} {r : Option Nat} (X : kX p s m args meth c cc nL own t) (hd : decode cc pc = .ok (.getfield idx, 3)) (hw : Cond.fieldLink own idx "TreeServer" "tree" "LTreeServer$Tree;" ∈ GW) (hr : r = some a) (hk : tk t a = 9) (k : kW p l e R s m args below meth c Q nL t pu (pc + 3) lv (va_rf (gr G 63 a) :: rest) G) : kW p l e R s m args below meth c Q nL t pu pc lv (va_rf r :: rest) G := by
  subst hr
  intro H locs ls hl hz
  obtain ⟨q0, hq⟩ := hz.1.get (X.d hk (by decide))
  rw [mE_9 hk] at hq
  exact va_get (D := tD t) (cl := mcl) (tys := mty t) (ws := va_pl (tdom t) (mE t G)) (ci := 8) (C := RK8) (T := TK8) (N := 7) X.1 X.2.1 X.ws (fun w h => GW_in (inK8 w h) (inG8 w h)) X.o X.k hz.1.1 q0 hq rfl 0 (by decide) (X.w hw) (fun _ h => h) rfl hd (k H locs ls hl hz)
theorem kg_64 {a idx : Nat} {r : Option Nat} (X : kX p s m args meth c cc nL own t) (hd : decode cc pc = .ok (.getfield idx, 3)) (hw : Cond.fieldLink own idx "TreeServer" "log" "LTreeServer$Log;" ∈ GW) (hr : r = some a) (hk : tk t a = 9) (k : kW p l e R s m args below meth c Q nL t pu (pc + 3) lv (va_rf (gr G 64 a) :: rest) G) : kW p l e R s m args below meth c Q nL t pu pc lv (va_rf r :: rest) G := by
  subst hr
  intro H locs ls hl hz
  obtain ⟨q0, hq⟩ := hz.1.get (X.d hk (by decide))
  rw [mE_9 hk] at hq
  exact va_get (D := tD t) (cl := mcl) (tys := mty t) (ws := va_pl (tdom t) (mE t G)) (ci := 8) (C := RK8) (T := TK8) (N := 7) X.1 X.2.1 X.ws (fun w h => GW_in (inK8 w h) (inG8 w h)) X.o X.k hz.1.1 q0 hq rfl 1 (by decide) (X.w hw) (fun _ h => h) rfl hd (k H locs ls hl hz)
theorem kg_65 {a idx : Nat} {r : Option Nat} (X : kX p s m args meth c cc nL own t) (hd : decode cc pc = .ok (.getfield idx, 3)) (hw : Cond.fieldLink own idx "TreeServer" "change" "LTreeServer$Change;" ∈ GW) (hr : r = some a) (hk : tk t a = 9) (k : kW p l e R s m args below meth c Q nL t pu (pc + 3) lv (va_rf (gr G 65 a) :: rest) G) : kW p l e R s m args below meth c Q nL t pu pc lv (va_rf r :: rest) G := by
  subst hr
  intro H locs ls hl hz
  obtain ⟨q0, hq⟩ := hz.1.get (X.d hk (by decide))
  rw [mE_9 hk] at hq
  exact va_get (D := tD t) (cl := mcl) (tys := mty t) (ws := va_pl (tdom t) (mE t G)) (ci := 8) (C := RK8) (T := TK8) (N := 7) X.1 X.2.1 X.ws (fun w h => GW_in (inK8 w h) (inG8 w h)) X.o X.k hz.1.1 q0 hq rfl 2 (by decide) (X.w hw) (fun _ h => h) rfl hd (k H locs ls hl hz)
theorem kg_66 {a idx : Nat} {r : Option Nat} (X : kX p s m args meth c cc nL own t) (hd : decode cc pc = .ok (.getfield idx, 3)) (hw : Cond.fieldLink own idx "TreeServer" "message" "LTreeServer$Message;" ∈ GW) (hr : r = some a) (hk : tk t a = 9) (k : kW p l e R s m args below meth c Q nL t pu (pc + 3) lv (va_rf (gr G 66 a) :: rest) G) : kW p l e R s m args below meth c Q nL t pu pc lv (va_rf r :: rest) G := by
  subst hr
  intro H locs ls hl hz
  obtain ⟨q0, hq⟩ := hz.1.get (X.d hk (by decide))
  rw [mE_9 hk] at hq
  exact va_get (D := tD t) (cl := mcl) (tys := mty t) (ws := va_pl (tdom t) (mE t G)) (ci := 8) (C := RK8) (T := TK8) (N := 7) X.1 X.2.1 X.ws (fun w h => GW_in (inK8 w h) (inG8 w h)) X.o X.k hz.1.1 q0 hq rfl 3 (by decide) (X.w hw) (fun _ h => h) rfl hd (k H locs ls hl hz)
theorem kg_67 {a idx : Nat} {r : Option Nat} (X : kX p s m args meth c cc nL own t) (hd : decode cc pc = .ok (.getfield idx, 3)) (hw : Cond.fieldLink own idx "TreeServer" "answer" "LTreeServer$Answer;" ∈ GW) (hr : r = some a) (hk : tk t a = 9) (k : kW p l e R s m args below meth c Q nL t pu (pc + 3) lv (va_rf (gr G 67 a) :: rest) G) : kW p l e R s m args below meth c Q nL t pu pc lv (va_rf r :: rest) G := by
  subst hr
  intro H locs ls hl hz
  obtain ⟨q0, hq⟩ := hz.1.get (X.d hk (by decide))
  rw [mE_9 hk] at hq
  exact va_get (D := tD t) (cl := mcl) (tys := mty t) (ws := va_pl (tdom t) (mE t G)) (ci := 8) (C := RK8) (T := TK8) (N := 7) X.1 X.2.1 X.ws (fun w h => GW_in (inK8 w h) (inG8 w h)) X.o X.k hz.1.1 q0 hq rfl 4 (by decide) (X.w hw) (fun _ h => h) rfl hd (k H locs ls hl hz)
theorem kg_68 {a idx : Nat} {r : Option Nat} (X : kX p s m args meth c cc nL own t) (hd : decode cc pc = .ok (.getfield idx, 3)) (hw : Cond.fieldLink own idx "TreeServer" "links" "[LTreeServer$Link;" ∈ GW) (hr : r = some a) (hk : tk t a = 9) (k : kW p l e R s m args below meth c Q nL t pu (pc + 3) lv (va_rf (gr G 68 a) :: rest) G) : kW p l e R s m args below meth c Q nL t pu pc lv (va_rf r :: rest) G := by
  subst hr
  intro H locs ls hl hz
  obtain ⟨q0, hq⟩ := hz.1.get (X.d hk (by decide))
  rw [mE_9 hk] at hq
  exact va_get (D := tD t) (cl := mcl) (tys := mty t) (ws := va_pl (tdom t) (mE t G)) (ci := 8) (C := RK8) (T := TK8) (N := 7) X.1 X.2.1 X.ws (fun w h => GW_in (inK8 w h) (inG8 w h)) X.o X.k hz.1.1 q0 hq rfl 5 (by decide) (X.w hw) (fun _ h => h) rfl hd (k H locs ls hl hz)
theorem kg_69 {a idx : Nat} {r : Option Nat} (X : kX p s m args meth c cc nL own t) (hd : decode cc pc = .ok (.getfield idx, 3)) (hw : Cond.fieldLink own idx "TreeServer" "now" "I" ∈ GW) (hr : r = some a) (hk : tk t a = 9) (k : kW p l e R s m args below meth c Q nL t pu (pc + 3) lv (.int (gi G 69 a) :: rest) G) : kW p l e R s m args below meth c Q nL t pu pc lv (va_rf r :: rest) G := by
  subst hr
  intro H locs ls hl hz
  obtain ⟨q0, hq⟩ := hz.1.get (X.d hk (by decide))
  rw [mE_9 hk] at hq
  exact va_get (D := tD t) (cl := mcl) (tys := mty t) (ws := va_pl (tdom t) (mE t G)) (ci := 8) (C := RK8) (T := TK8) (N := 7) X.1 X.2.1 X.ws (fun w h => GW_in (inK8 w h) (inG8 w h)) X.o X.k hz.1.1 q0 hq rfl 6 (by decide) (X.w hw) (fun _ h => h) rfl hd (k H locs ls hl hz)
theorem kp_69 {a idx : Nat} {r : Option Nat} {x : Int32} (X : kX p s m args meth c cc nL own t) (hpu : pu = false) (hd : decode cc pc = .ok (.putfield idx, 3)) (hw : Cond.fieldLink own idx "TreeServer" "now" "I" ∈ GW) (hr : r = some a) (hk : tk t a = 9) (k : kW p l e R s m args below meth c Q nL t pu (pc + 3) lv rest (si G 69 a x)) : kW p l e R s m args below meth c Q nL t pu pc lv (.int x :: va_rf r :: rest) G := by
  subst hr
  intro H locs ls hl hz
  have ha := X.d hk (by decide)
  obtain ⟨q0, hq⟩ := hz.1.get ha
  have hq' := hq
  rw [mE_9 hk] at hq'
  refine va_put (D := tD t) (cl := mcl) (tys := mty t) (ws := va_pl (tdom t) (mE t G)) (A := tA t) (H0 := s.heap) (ci := 8) (C := RK8) (T := TK8) (N := 7) (v := .int x) (ty := .int) X.1 X.2.1 X.ws (fun w h => GW_in (inK8 w h) (inG8 w h)) yK8 yK8_ok nmK8 X.o X.k hz.1.1 hz.1.2.1 hz.2.1 q0 hq' rfl 6 (by decide) (X.w hw) (fun _ h => h) rfl (by decide +kernel) rfl rfl (Nat.le_of_ble_eq_true rfl) hd (fun H1 locs1 hP hD hS => ?_)
  exact k H1 locs1 ls hl ⟨hz.1.set ha hq (by rw [mE_9 hk]; simp [gi, gl, gr, si, u2]) (fun b hb => mE_si hb) hP hD (fun b j h => hz.1.2.2 b j h), hS, fun h => by rw [hpu] at h; cases h⟩
theorem kg_70 {a idx : Nat} {r : Option Nat} (X : kX p s m args meth c cc nL own t) (hd : decode cc pc = .ok (.getfield idx, 3)) (hw : Cond.fieldLink own idx "TreeServerModel" "tree" "[I" ∈ GW) (hr : r = some a) (hk : tk t a = 10) (k : kW p l e R s m args below meth c Q nL t pu (pc + 3) lv (va_rf (gr G 70 a) :: rest) G) : kW p l e R s m args below meth c Q nL t pu pc lv (va_rf r :: rest) G := by
  subst hr
  intro H locs ls hl hz
  obtain ⟨q0, hq⟩ := hz.1.get (X.d hk (by decide))
  rw [mE_10 hk] at hq
  exact va_get (D := tD t) (cl := mcl) (tys := mty t) (ws := va_pl (tdom t) (mE t G)) (ci := 9) (C := RK9) (T := TK9) (N := 30) X.1 X.2.1 X.ws (fun w h => GW_in (inK9 w h) (inG9 w h)) X.o X.k hz.1.1 q0 hq rfl 0 (by decide) (X.w hw) (fun _ h => h) rfl hd (k H locs ls hl hz)
theorem kg_71 {a idx : Nat} {r : Option Nat} (X : kX p s m args meth c cc nL own t) (hd : decode cc pc = .ok (.getfield idx, 3)) (hw : Cond.fieldLink own idx "TreeServerModel" "before" "[I" ∈ GW) (hr : r = some a) (hk : tk t a = 10) (k : kW p l e R s m args below meth c Q nL t pu (pc + 3) lv (va_rf (gr G 71 a) :: rest) G) : kW p l e R s m args below meth c Q nL t pu pc lv (va_rf r :: rest) G := by
  subst hr
  intro H locs ls hl hz
  obtain ⟨q0, hq⟩ := hz.1.get (X.d hk (by decide))
  rw [mE_10 hk] at hq
  exact va_get (D := tD t) (cl := mcl) (tys := mty t) (ws := va_pl (tdom t) (mE t G)) (ci := 9) (C := RK9) (T := TK9) (N := 30) X.1 X.2.1 X.ws (fun w h => GW_in (inK9 w h) (inG9 w h)) X.o X.k hz.1.1 q0 hq rfl 1 (by decide) (X.w hw) (fun _ h => h) rfl hd (k H locs ls hl hz)
theorem kg_72 {a idx : Nat} {r : Option Nat} (X : kX p s m args meth c cc nL own t) (hd : decode cc pc = .ok (.getfield idx, 3)) (hw : Cond.fieldLink own idx "TreeServerModel" "pending" "[I" ∈ GW) (hr : r = some a) (hk : tk t a = 10) (k : kW p l e R s m args below meth c Q nL t pu (pc + 3) lv (va_rf (gr G 72 a) :: rest) G) : kW p l e R s m args below meth c Q nL t pu pc lv (va_rf r :: rest) G := by
  subst hr
  intro H locs ls hl hz
  obtain ⟨q0, hq⟩ := hz.1.get (X.d hk (by decide))
  rw [mE_10 hk] at hq
  exact va_get (D := tD t) (cl := mcl) (tys := mty t) (ws := va_pl (tdom t) (mE t G)) (ci := 9) (C := RK9) (T := TK9) (N := 30) X.1 X.2.1 X.ws (fun w h => GW_in (inK9 w h) (inG9 w h)) X.o X.k hz.1.1 q0 hq rfl 2 (by decide) (X.w hw) (fun _ h => h) rfl hd (k H locs ls hl hz)
theorem kg_73 {a idx : Nat} {r : Option Nat} (X : kX p s m args meth c cc nL own t) (hd : decode cc pc = .ok (.getfield idx, 3)) (hw : Cond.fieldLink own idx "TreeServerModel" "kept" "Z" ∈ GW) (hr : r = some a) (hk : tk t a = 10) (k : kW p l e R s m args below meth c Q nL t pu (pc + 3) lv (.int (gi G 73 a) :: rest) G) : kW p l e R s m args below meth c Q nL t pu pc lv (va_rf r :: rest) G := by
  subst hr
  intro H locs ls hl hz
  obtain ⟨q0, hq⟩ := hz.1.get (X.d hk (by decide))
  rw [mE_10 hk] at hq
  exact va_get (D := tD t) (cl := mcl) (tys := mty t) (ws := va_pl (tdom t) (mE t G)) (ci := 9) (C := RK9) (T := TK9) (N := 30) X.1 X.2.1 X.ws (fun w h => GW_in (inK9 w h) (inG9 w h)) X.o X.k hz.1.1 q0 hq rfl 3 (by decide) (X.w hw) (fun _ h => h) rfl hd (k H locs ls hl hz)
theorem kp_73 {a idx : Nat} {r : Option Nat} {x : Int32} (X : kX p s m args meth c cc nL own t) (hpu : pu = false) (hd : decode cc pc = .ok (.putfield idx, 3)) (hw : Cond.fieldLink own idx "TreeServerModel" "kept" "Z" ∈ GW) (hr : r = some a) (hk : tk t a = 10) (hB : isB x) (k : kW p l e R s m args below meth c Q nL t pu (pc + 3) lv rest (si G 73 a x)) : kW p l e R s m args below meth c Q nL t pu pc lv (.int x :: va_rf r :: rest) G := by
  subst hr
  intro H locs ls hl hz
  have ha := X.d hk (by decide)
  obtain ⟨q0, hq⟩ := hz.1.get ha
  have hq' := hq
  rw [mE_10 hk] at hq'
  refine va_put (D := tD t) (cl := mcl) (tys := mty t) (ws := va_pl (tdom t) (mE t G)) (A := tA t) (H0 := s.heap) (ci := 9) (C := RK9) (T := TK9) (N := 30) (v := .int x) (ty := .boolean) X.1 X.2.1 X.ws (fun w h => GW_in (inK9 w h) (inG9 w h)) yK9 yK9_ok nmK9 X.o X.k hz.1.1 hz.1.2.1 hz.2.1 q0 hq' rfl 3 (by decide) (X.w hw) (fun _ h => h) rfl (by decide +kernel) (by rcases hB with rfl | rfl <;> rfl) (by rcases hB with rfl | rfl <;> rfl) (Nat.le_of_ble_eq_true rfl) hd (fun H1 locs1 hP hD hS => ?_)
  exact k H1 locs1 ls hl ⟨hz.1.set ha hq (by rw [mE_10 hk]; simp [gi, gl, gr, si, u2]) (fun b hb => mE_si hb) hP hD (fun b j h => hz.1.2.2 b j h), hS, fun h => by rw [hpu] at h; cases h⟩
theorem kg_74 {a idx : Nat} {r : Option Nat} (X : kX p s m args meth c cc nL own t) (hd : decode cc pc = .ok (.getfield idx, 3)) (hw : Cond.fieldLink own idx "TreeServerModel" "paths" "I" ∈ GW) (hr : r = some a) (hk : tk t a = 10) (k : kW p l e R s m args below meth c Q nL t pu (pc + 3) lv (.int (gi G 74 a) :: rest) G) : kW p l e R s m args below meth c Q nL t pu pc lv (va_rf r :: rest) G := by
  subst hr
  intro H locs ls hl hz
  obtain ⟨q0, hq⟩ := hz.1.get (X.d hk (by decide))
  rw [mE_10 hk] at hq
  exact va_get (D := tD t) (cl := mcl) (tys := mty t) (ws := va_pl (tdom t) (mE t G)) (ci := 9) (C := RK9) (T := TK9) (N := 30) X.1 X.2.1 X.ws (fun w h => GW_in (inK9 w h) (inG9 w h)) X.o X.k hz.1.1 q0 hq rfl 4 (by decide) (X.w hw) (fun _ h => h) rfl hd (k H locs ls hl hz)
theorem kp_74 {a idx : Nat} {r : Option Nat} {x : Int32} (X : kX p s m args meth c cc nL own t) (hpu : pu = false) (hd : decode cc pc = .ok (.putfield idx, 3)) (hw : Cond.fieldLink own idx "TreeServerModel" "paths" "I" ∈ GW) (hr : r = some a) (hk : tk t a = 10) (k : kW p l e R s m args below meth c Q nL t pu (pc + 3) lv rest (si G 74 a x)) : kW p l e R s m args below meth c Q nL t pu pc lv (.int x :: va_rf r :: rest) G := by
  subst hr
  intro H locs ls hl hz
  have ha := X.d hk (by decide)
  obtain ⟨q0, hq⟩ := hz.1.get ha
  have hq' := hq
  rw [mE_10 hk] at hq'
  refine va_put (D := tD t) (cl := mcl) (tys := mty t) (ws := va_pl (tdom t) (mE t G)) (A := tA t) (H0 := s.heap) (ci := 9) (C := RK9) (T := TK9) (N := 30) (v := .int x) (ty := .int) X.1 X.2.1 X.ws (fun w h => GW_in (inK9 w h) (inG9 w h)) yK9 yK9_ok nmK9 X.o X.k hz.1.1 hz.1.2.1 hz.2.1 q0 hq' rfl 4 (by decide) (X.w hw) (fun _ h => h) rfl (by decide +kernel) rfl rfl (Nat.le_of_ble_eq_true rfl) hd (fun H1 locs1 hP hD hS => ?_)
  exact k H1 locs1 ls hl ⟨hz.1.set ha hq (by rw [mE_10 hk]; simp [gi, gl, gr, si, u2]) (fun b hb => mE_si hb) hP hD (fun b j h => hz.1.2.2 b j h), hS, fun h => by rw [hpu] at h; cases h⟩
theorem kg_75 {a idx : Nat} {r : Option Nat} (X : kX p s m args meth c cc nL own t) (hd : decode cc pc = .ok (.getfield idx, 3)) (hw : Cond.fieldLink own idx "TreeServerModel" "down" "Z" ∈ GW) (hr : r = some a) (hk : tk t a = 10) (k : kW p l e R s m args below meth c Q nL t pu (pc + 3) lv (.int (gi G 75 a) :: rest) G) : kW p l e R s m args below meth c Q nL t pu pc lv (va_rf r :: rest) G := by
  subst hr
  intro H locs ls hl hz
  obtain ⟨q0, hq⟩ := hz.1.get (X.d hk (by decide))
  rw [mE_10 hk] at hq
  exact va_get (D := tD t) (cl := mcl) (tys := mty t) (ws := va_pl (tdom t) (mE t G)) (ci := 9) (C := RK9) (T := TK9) (N := 30) X.1 X.2.1 X.ws (fun w h => GW_in (inK9 w h) (inG9 w h)) X.o X.k hz.1.1 q0 hq rfl 5 (by decide) (X.w hw) (fun _ h => h) rfl hd (k H locs ls hl hz)
theorem kp_75 {a idx : Nat} {r : Option Nat} {x : Int32} (X : kX p s m args meth c cc nL own t) (hpu : pu = false) (hd : decode cc pc = .ok (.putfield idx, 3)) (hw : Cond.fieldLink own idx "TreeServerModel" "down" "Z" ∈ GW) (hr : r = some a) (hk : tk t a = 10) (hB : isB x) (k : kW p l e R s m args below meth c Q nL t pu (pc + 3) lv rest (si G 75 a x)) : kW p l e R s m args below meth c Q nL t pu pc lv (.int x :: va_rf r :: rest) G := by
  subst hr
  intro H locs ls hl hz
  have ha := X.d hk (by decide)
  obtain ⟨q0, hq⟩ := hz.1.get ha
  have hq' := hq
  rw [mE_10 hk] at hq'
  refine va_put (D := tD t) (cl := mcl) (tys := mty t) (ws := va_pl (tdom t) (mE t G)) (A := tA t) (H0 := s.heap) (ci := 9) (C := RK9) (T := TK9) (N := 30) (v := .int x) (ty := .boolean) X.1 X.2.1 X.ws (fun w h => GW_in (inK9 w h) (inG9 w h)) yK9 yK9_ok nmK9 X.o X.k hz.1.1 hz.1.2.1 hz.2.1 q0 hq' rfl 5 (by decide) (X.w hw) (fun _ h => h) rfl (by decide +kernel) (by rcases hB with rfl | rfl <;> rfl) (by rcases hB with rfl | rfl <;> rfl) (Nat.le_of_ble_eq_true rfl) hd (fun H1 locs1 hP hD hS => ?_)
  exact k H1 locs1 ls hl ⟨hz.1.set ha hq (by rw [mE_10 hk]; simp [gi, gl, gr, si, u2]) (fun b hb => mE_si hb) hP hD (fun b j h => hz.1.2.2 b j h), hS, fun h => by rw [hpu] at h; cases h⟩
theorem kg_76 {a idx : Nat} {r : Option Nat} (X : kX p s m args meth c cc nL own t) (hd : decode cc pc = .ok (.getfield idx, 3)) (hw : Cond.fieldLink own idx "TreeServerModel" "cutAt" "I" ∈ GW) (hr : r = some a) (hk : tk t a = 10) (k : kW p l e R s m args below meth c Q nL t pu (pc + 3) lv (.int (gi G 76 a) :: rest) G) : kW p l e R s m args below meth c Q nL t pu pc lv (va_rf r :: rest) G := by
  subst hr
  intro H locs ls hl hz
  obtain ⟨q0, hq⟩ := hz.1.get (X.d hk (by decide))
  rw [mE_10 hk] at hq
  exact va_get (D := tD t) (cl := mcl) (tys := mty t) (ws := va_pl (tdom t) (mE t G)) (ci := 9) (C := RK9) (T := TK9) (N := 30) X.1 X.2.1 X.ws (fun w h => GW_in (inK9 w h) (inG9 w h)) X.o X.k hz.1.1 q0 hq rfl 6 (by decide) (X.w hw) (fun _ h => h) rfl hd (k H locs ls hl hz)
theorem kp_76 {a idx : Nat} {r : Option Nat} {x : Int32} (X : kX p s m args meth c cc nL own t) (hpu : pu = false) (hd : decode cc pc = .ok (.putfield idx, 3)) (hw : Cond.fieldLink own idx "TreeServerModel" "cutAt" "I" ∈ GW) (hr : r = some a) (hk : tk t a = 10) (k : kW p l e R s m args below meth c Q nL t pu (pc + 3) lv rest (si G 76 a x)) : kW p l e R s m args below meth c Q nL t pu pc lv (.int x :: va_rf r :: rest) G := by
  subst hr
  intro H locs ls hl hz
  have ha := X.d hk (by decide)
  obtain ⟨q0, hq⟩ := hz.1.get ha
  have hq' := hq
  rw [mE_10 hk] at hq'
  refine va_put (D := tD t) (cl := mcl) (tys := mty t) (ws := va_pl (tdom t) (mE t G)) (A := tA t) (H0 := s.heap) (ci := 9) (C := RK9) (T := TK9) (N := 30) (v := .int x) (ty := .int) X.1 X.2.1 X.ws (fun w h => GW_in (inK9 w h) (inG9 w h)) yK9 yK9_ok nmK9 X.o X.k hz.1.1 hz.1.2.1 hz.2.1 q0 hq' rfl 6 (by decide) (X.w hw) (fun _ h => h) rfl (by decide +kernel) rfl rfl (Nat.le_of_ble_eq_true rfl) hd (fun H1 locs1 hP hD hS => ?_)
  exact k H1 locs1 ls hl ⟨hz.1.set ha hq (by rw [mE_10 hk]; simp [gi, gl, gr, si, u2]) (fun b hb => mE_si hb) hP hD (fun b j h => hz.1.2.2 b j h), hS, fun h => by rw [hpu] at h; cases h⟩
theorem kg_77 {a idx : Nat} {r : Option Nat} (X : kX p s m args meth c cc nL own t) (hd : decode cc pc = .ok (.getfield idx, 3)) (hw : Cond.fieldLink own idx "TreeServerModel" "written" "I" ∈ GW) (hr : r = some a) (hk : tk t a = 10) (k : kW p l e R s m args below meth c Q nL t pu (pc + 3) lv (.int (gi G 77 a) :: rest) G) : kW p l e R s m args below meth c Q nL t pu pc lv (va_rf r :: rest) G := by
  subst hr
  intro H locs ls hl hz
  obtain ⟨q0, hq⟩ := hz.1.get (X.d hk (by decide))
  rw [mE_10 hk] at hq
  exact va_get (D := tD t) (cl := mcl) (tys := mty t) (ws := va_pl (tdom t) (mE t G)) (ci := 9) (C := RK9) (T := TK9) (N := 30) X.1 X.2.1 X.ws (fun w h => GW_in (inK9 w h) (inG9 w h)) X.o X.k hz.1.1 q0 hq rfl 7 (by decide) (X.w hw) (fun _ h => h) rfl hd (k H locs ls hl hz)
theorem kp_77 {a idx : Nat} {r : Option Nat} {x : Int32} (X : kX p s m args meth c cc nL own t) (hpu : pu = false) (hd : decode cc pc = .ok (.putfield idx, 3)) (hw : Cond.fieldLink own idx "TreeServerModel" "written" "I" ∈ GW) (hr : r = some a) (hk : tk t a = 10) (k : kW p l e R s m args below meth c Q nL t pu (pc + 3) lv rest (si G 77 a x)) : kW p l e R s m args below meth c Q nL t pu pc lv (.int x :: va_rf r :: rest) G := by
  subst hr
  intro H locs ls hl hz
  have ha := X.d hk (by decide)
  obtain ⟨q0, hq⟩ := hz.1.get ha
  have hq' := hq
  rw [mE_10 hk] at hq'
  refine va_put (D := tD t) (cl := mcl) (tys := mty t) (ws := va_pl (tdom t) (mE t G)) (A := tA t) (H0 := s.heap) (ci := 9) (C := RK9) (T := TK9) (N := 30) (v := .int x) (ty := .int) X.1 X.2.1 X.ws (fun w h => GW_in (inK9 w h) (inG9 w h)) yK9 yK9_ok nmK9 X.o X.k hz.1.1 hz.1.2.1 hz.2.1 q0 hq' rfl 7 (by decide) (X.w hw) (fun _ h => h) rfl (by decide +kernel) rfl rfl (Nat.le_of_ble_eq_true rfl) hd (fun H1 locs1 hP hD hS => ?_)
  exact k H1 locs1 ls hl ⟨hz.1.set ha hq (by rw [mE_10 hk]; simp [gi, gl, gr, si, u2]) (fun b hb => mE_si hb) hP hD (fun b j h => hz.1.2.2 b j h), hS, fun h => by rw [hpu] at h; cases h⟩
theorem kg_78 {a idx : Nat} {r : Option Nat} (X : kX p s m args meth c cc nL own t) (hd : decode cc pc = .ok (.getfield idx, 3)) (hw : Cond.fieldLink own idx "TreeServerModel" "time" "I" ∈ GW) (hr : r = some a) (hk : tk t a = 10) (k : kW p l e R s m args below meth c Q nL t pu (pc + 3) lv (.int (gi G 78 a) :: rest) G) : kW p l e R s m args below meth c Q nL t pu pc lv (va_rf r :: rest) G := by
  subst hr
  intro H locs ls hl hz
  obtain ⟨q0, hq⟩ := hz.1.get (X.d hk (by decide))
  rw [mE_10 hk] at hq
  exact va_get (D := tD t) (cl := mcl) (tys := mty t) (ws := va_pl (tdom t) (mE t G)) (ci := 9) (C := RK9) (T := TK9) (N := 30) X.1 X.2.1 X.ws (fun w h => GW_in (inK9 w h) (inG9 w h)) X.o X.k hz.1.1 q0 hq rfl 8 (by decide) (X.w hw) (fun _ h => h) rfl hd (k H locs ls hl hz)
theorem kp_78 {a idx : Nat} {r : Option Nat} {x : Int32} (X : kX p s m args meth c cc nL own t) (hpu : pu = false) (hd : decode cc pc = .ok (.putfield idx, 3)) (hw : Cond.fieldLink own idx "TreeServerModel" "time" "I" ∈ GW) (hr : r = some a) (hk : tk t a = 10) (k : kW p l e R s m args below meth c Q nL t pu (pc + 3) lv rest (si G 78 a x)) : kW p l e R s m args below meth c Q nL t pu pc lv (.int x :: va_rf r :: rest) G := by
  subst hr
  intro H locs ls hl hz
  have ha := X.d hk (by decide)
  obtain ⟨q0, hq⟩ := hz.1.get ha
  have hq' := hq
  rw [mE_10 hk] at hq'
  refine va_put (D := tD t) (cl := mcl) (tys := mty t) (ws := va_pl (tdom t) (mE t G)) (A := tA t) (H0 := s.heap) (ci := 9) (C := RK9) (T := TK9) (N := 30) (v := .int x) (ty := .int) X.1 X.2.1 X.ws (fun w h => GW_in (inK9 w h) (inG9 w h)) yK9 yK9_ok nmK9 X.o X.k hz.1.1 hz.1.2.1 hz.2.1 q0 hq' rfl 8 (by decide) (X.w hw) (fun _ h => h) rfl (by decide +kernel) rfl rfl (Nat.le_of_ble_eq_true rfl) hd (fun H1 locs1 hP hD hS => ?_)
  exact k H1 locs1 ls hl ⟨hz.1.set ha hq (by rw [mE_10 hk]; simp [gi, gl, gr, si, u2]) (fun b hb => mE_si hb) hP hD (fun b j h => hz.1.2.2 b j h), hS, fun h => by rw [hpu] at h; cases h⟩
theorem kg_79 {a idx : Nat} {r : Option Nat} (X : kX p s m args meth c cc nL own t) (hd : decode cc pc = .ok (.getfield idx, 3)) (hw : Cond.fieldLink own idx "TreeServerModel" "input" "[I" ∈ GW) (hr : r = some a) (hk : tk t a = 10) (k : kW p l e R s m args below meth c Q nL t pu (pc + 3) lv (va_rf (gr G 79 a) :: rest) G) : kW p l e R s m args below meth c Q nL t pu pc lv (va_rf r :: rest) G := by
  subst hr
  intro H locs ls hl hz
  obtain ⟨q0, hq⟩ := hz.1.get (X.d hk (by decide))
  rw [mE_10 hk] at hq
  exact va_get (D := tD t) (cl := mcl) (tys := mty t) (ws := va_pl (tdom t) (mE t G)) (ci := 9) (C := RK9) (T := TK9) (N := 30) X.1 X.2.1 X.ws (fun w h => GW_in (inK9 w h) (inG9 w h)) X.o X.k hz.1.1 q0 hq rfl 9 (by decide) (X.w hw) (fun _ h => h) rfl hd (k H locs ls hl hz)
theorem kg_80 {a idx : Nat} {r : Option Nat} (X : kX p s m args meth c cc nL own t) (hd : decode cc pc = .ok (.getfield idx, 3)) (hw : Cond.fieldLink own idx "TreeServerModel" "inSize" "[I" ∈ GW) (hr : r = some a) (hk : tk t a = 10) (k : kW p l e R s m args below meth c Q nL t pu (pc + 3) lv (va_rf (gr G 80 a) :: rest) G) : kW p l e R s m args below meth c Q nL t pu pc lv (va_rf r :: rest) G := by
  subst hr
  intro H locs ls hl hz
  obtain ⟨q0, hq⟩ := hz.1.get (X.d hk (by decide))
  rw [mE_10 hk] at hq
  exact va_get (D := tD t) (cl := mcl) (tys := mty t) (ws := va_pl (tdom t) (mE t G)) (ci := 9) (C := RK9) (T := TK9) (N := 30) X.1 X.2.1 X.ws (fun w h => GW_in (inK9 w h) (inG9 w h)) X.o X.k hz.1.1 q0 hq rfl 10 (by decide) (X.w hw) (fun _ h => h) rfl hd (k H locs ls hl hz)
theorem kg_81 {a idx : Nat} {r : Option Nat} (X : kX p s m args meth c cc nL own t) (hd : decode cc pc = .ok (.getfield idx, 3)) (hw : Cond.fieldLink own idx "TreeServerModel" "output" "[I" ∈ GW) (hr : r = some a) (hk : tk t a = 10) (k : kW p l e R s m args below meth c Q nL t pu (pc + 3) lv (va_rf (gr G 81 a) :: rest) G) : kW p l e R s m args below meth c Q nL t pu pc lv (va_rf r :: rest) G := by
  subst hr
  intro H locs ls hl hz
  obtain ⟨q0, hq⟩ := hz.1.get (X.d hk (by decide))
  rw [mE_10 hk] at hq
  exact va_get (D := tD t) (cl := mcl) (tys := mty t) (ws := va_pl (tdom t) (mE t G)) (ci := 9) (C := RK9) (T := TK9) (N := 30) X.1 X.2.1 X.ws (fun w h => GW_in (inK9 w h) (inG9 w h)) X.o X.k hz.1.1 q0 hq rfl 11 (by decide) (X.w hw) (fun _ h => h) rfl hd (k H locs ls hl hz)
theorem kg_82 {a idx : Nat} {r : Option Nat} (X : kX p s m args meth c cc nL own t) (hd : decode cc pc = .ok (.getfield idx, 3)) (hw : Cond.fieldLink own idx "TreeServerModel" "outSize" "[I" ∈ GW) (hr : r = some a) (hk : tk t a = 10) (k : kW p l e R s m args below meth c Q nL t pu (pc + 3) lv (va_rf (gr G 82 a) :: rest) G) : kW p l e R s m args below meth c Q nL t pu pc lv (va_rf r :: rest) G := by
  subst hr
  intro H locs ls hl hz
  obtain ⟨q0, hq⟩ := hz.1.get (X.d hk (by decide))
  rw [mE_10 hk] at hq
  exact va_get (D := tD t) (cl := mcl) (tys := mty t) (ws := va_pl (tdom t) (mE t G)) (ci := 9) (C := RK9) (T := TK9) (N := 30) X.1 X.2.1 X.ws (fun w h => GW_in (inK9 w h) (inG9 w h)) X.o X.k hz.1.1 q0 hq rfl 12 (by decide) (X.w hw) (fun _ h => h) rfl hd (k H locs ls hl hz)
theorem kg_83 {a idx : Nat} {r : Option Nat} (X : kX p s m args meth c cc nL own t) (hd : decode cc pc = .ok (.getfield idx, 3)) (hw : Cond.fieldLink own idx "TreeServerModel" "msize" "[I" ∈ GW) (hr : r = some a) (hk : tk t a = 10) (k : kW p l e R s m args below meth c Q nL t pu (pc + 3) lv (va_rf (gr G 83 a) :: rest) G) : kW p l e R s m args below meth c Q nL t pu pc lv (va_rf r :: rest) G := by
  subst hr
  intro H locs ls hl hz
  obtain ⟨q0, hq⟩ := hz.1.get (X.d hk (by decide))
  rw [mE_10 hk] at hq
  exact va_get (D := tD t) (cl := mcl) (tys := mty t) (ws := va_pl (tdom t) (mE t G)) (ci := 9) (C := RK9) (T := TK9) (N := 30) X.1 X.2.1 X.ws (fun w h => GW_in (inK9 w h) (inG9 w h)) X.o X.k hz.1.1 q0 hq rfl 13 (by decide) (X.w hw) (fun _ h => h) rfl hd (k H locs ls hl hz)
theorem kg_84 {a idx : Nat} {r : Option Nat} (X : kX p s m args meth c cc nL own t) (hd : decode cc pc = .ok (.getfield idx, 3)) (hw : Cond.fieldLink own idx "TreeServerModel" "agreed" "[Z" ∈ GW) (hr : r = some a) (hk : tk t a = 10) (k : kW p l e R s m args below meth c Q nL t pu (pc + 3) lv (va_rf (gr G 84 a) :: rest) G) : kW p l e R s m args below meth c Q nL t pu pc lv (va_rf r :: rest) G := by
  subst hr
  intro H locs ls hl hz
  obtain ⟨q0, hq⟩ := hz.1.get (X.d hk (by decide))
  rw [mE_10 hk] at hq
  exact va_get (D := tD t) (cl := mcl) (tys := mty t) (ws := va_pl (tdom t) (mE t G)) (ci := 9) (C := RK9) (T := TK9) (N := 30) X.1 X.2.1 X.ws (fun w h => GW_in (inK9 w h) (inG9 w h)) X.o X.k hz.1.1 q0 hq rfl 14 (by decide) (X.w hw) (fun _ h => h) rfl hd (k H locs ls hl hz)
theorem kg_85 {a idx : Nat} {r : Option Nat} (X : kX p s m args meth c cc nL own t) (hd : decode cc pc = .ok (.getfield idx, 3)) (hw : Cond.fieldLink own idx "TreeServerModel" "broken" "[Z" ∈ GW) (hr : r = some a) (hk : tk t a = 10) (k : kW p l e R s m args below meth c Q nL t pu (pc + 3) lv (va_rf (gr G 85 a) :: rest) G) : kW p l e R s m args below meth c Q nL t pu pc lv (va_rf r :: rest) G := by
  subst hr
  intro H locs ls hl hz
  obtain ⟨q0, hq⟩ := hz.1.get (X.d hk (by decide))
  rw [mE_10 hk] at hq
  exact va_get (D := tD t) (cl := mcl) (tys := mty t) (ws := va_pl (tdom t) (mE t G)) (ci := 9) (C := RK9) (T := TK9) (N := 30) X.1 X.2.1 X.ws (fun w h => GW_in (inK9 w h) (inG9 w h)) X.o X.k hz.1.1 q0 hq rfl 15 (by decide) (X.w hw) (fun _ h => h) rfl hd (k H locs ls hl hz)
theorem kg_86 {a idx : Nat} {r : Option Nat} (X : kX p s m args meth c cc nL own t) (hd : decode cc pc = .ok (.getfield idx, 3)) (hw : Cond.fieldLink own idx "TreeServerModel" "used" "[Z" ∈ GW) (hr : r = some a) (hk : tk t a = 10) (k : kW p l e R s m args below meth c Q nL t pu (pc + 3) lv (va_rf (gr G 86 a) :: rest) G) : kW p l e R s m args below meth c Q nL t pu pc lv (va_rf r :: rest) G := by
  subst hr
  intro H locs ls hl hz
  obtain ⟨q0, hq⟩ := hz.1.get (X.d hk (by decide))
  rw [mE_10 hk] at hq
  exact va_get (D := tD t) (cl := mcl) (tys := mty t) (ws := va_pl (tdom t) (mE t G)) (ci := 9) (C := RK9) (T := TK9) (N := 30) X.1 X.2.1 X.ws (fun w h => GW_in (inK9 w h) (inG9 w h)) X.o X.k hz.1.1 q0 hq rfl 16 (by decide) (X.w hw) (fun _ h => h) rfl hd (k H locs ls hl hz)
theorem kg_87 {a idx : Nat} {r : Option Nat} (X : kX p s m args meth c cc nL own t) (hd : decode cc pc = .ok (.getfield idx, 3)) (hw : Cond.fieldLink own idx "TreeServerModel" "number" "[J" ∈ GW) (hr : r = some a) (hk : tk t a = 10) (k : kW p l e R s m args below meth c Q nL t pu (pc + 3) lv (va_rf (gr G 87 a) :: rest) G) : kW p l e R s m args below meth c Q nL t pu pc lv (va_rf r :: rest) G := by
  subst hr
  intro H locs ls hl hz
  obtain ⟨q0, hq⟩ := hz.1.get (X.d hk (by decide))
  rw [mE_10 hk] at hq
  exact va_get (D := tD t) (cl := mcl) (tys := mty t) (ws := va_pl (tdom t) (mE t G)) (ci := 9) (C := RK9) (T := TK9) (N := 30) X.1 X.2.1 X.ws (fun w h => GW_in (inK9 w h) (inG9 w h)) X.o X.k hz.1.1 q0 hq rfl 17 (by decide) (X.w hw) (fun _ h => h) rfl hd (k H locs ls hl hz)
theorem kg_88 {a idx : Nat} {r : Option Nat} (X : kX p s m args meth c cc nL own t) (hd : decode cc pc = .ok (.getfield idx, 3)) (hw : Cond.fieldLink own idx "TreeServerModel" "node" "[I" ∈ GW) (hr : r = some a) (hk : tk t a = 10) (k : kW p l e R s m args below meth c Q nL t pu (pc + 3) lv (va_rf (gr G 88 a) :: rest) G) : kW p l e R s m args below meth c Q nL t pu pc lv (va_rf r :: rest) G := by
  subst hr
  intro H locs ls hl hz
  obtain ⟨q0, hq⟩ := hz.1.get (X.d hk (by decide))
  rw [mE_10 hk] at hq
  exact va_get (D := tD t) (cl := mcl) (tys := mty t) (ws := va_pl (tdom t) (mE t G)) (ci := 9) (C := RK9) (T := TK9) (N := 30) X.1 X.2.1 X.ws (fun w h => GW_in (inK9 w h) (inG9 w h)) X.o X.k hz.1.1 q0 hq rfl 18 (by decide) (X.w hw) (fun _ h => h) rfl hd (k H locs ls hl hz)
theorem kg_89 {a idx : Nat} {r : Option Nat} (X : kX p s m args meth c cc nL own t) (hd : decode cc pc = .ok (.getfield idx, 3)) (hw : Cond.fieldLink own idx "TreeServerModel" "user" "[I" ∈ GW) (hr : r = some a) (hk : tk t a = 10) (k : kW p l e R s m args below meth c Q nL t pu (pc + 3) lv (va_rf (gr G 89 a) :: rest) G) : kW p l e R s m args below meth c Q nL t pu pc lv (va_rf r :: rest) G := by
  subst hr
  intro H locs ls hl hz
  obtain ⟨q0, hq⟩ := hz.1.get (X.d hk (by decide))
  rw [mE_10 hk] at hq
  exact va_get (D := tD t) (cl := mcl) (tys := mty t) (ws := va_pl (tdom t) (mE t G)) (ci := 9) (C := RK9) (T := TK9) (N := 30) X.1 X.2.1 X.ws (fun w h => GW_in (inK9 w h) (inG9 w h)) X.o X.k hz.1.1 q0 hq rfl 19 (by decide) (X.w hw) (fun _ h => h) rfl hd (k H locs ls hl hz)
theorem kg_90 {a idx : Nat} {r : Option Nat} (X : kX p s m args meth c cc nL own t) (hd : decode cc pc = .ok (.getfield idx, 3)) (hw : Cond.fieldLink own idx "TreeServerModel" "mode" "[I" ∈ GW) (hr : r = some a) (hk : tk t a = 10) (k : kW p l e R s m args below meth c Q nL t pu (pc + 3) lv (va_rf (gr G 90 a) :: rest) G) : kW p l e R s m args below meth c Q nL t pu pc lv (va_rf r :: rest) G := by
  subst hr
  intro H locs ls hl hz
  obtain ⟨q0, hq⟩ := hz.1.get (X.d hk (by decide))
  rw [mE_10 hk] at hq
  exact va_get (D := tD t) (cl := mcl) (tys := mty t) (ws := va_pl (tdom t) (mE t G)) (ci := 9) (C := RK9) (T := TK9) (N := 30) X.1 X.2.1 X.ws (fun w h => GW_in (inK9 w h) (inG9 w h)) X.o X.k hz.1.1 q0 hq rfl 20 (by decide) (X.w hw) (fun _ h => h) rfl hd (k H locs ls hl hz)
theorem kg_91 {a idx : Nat} {r : Option Nat} (X : kX p s m args meth c cc nL own t) (hd : decode cc pc = .ok (.getfield idx, 3)) (hw : Cond.fieldLink own idx "TreeServerModel" "removes" "[Z" ∈ GW) (hr : r = some a) (hk : tk t a = 10) (k : kW p l e R s m args below meth c Q nL t pu (pc + 3) lv (va_rf (gr G 91 a) :: rest) G) : kW p l e R s m args below meth c Q nL t pu pc lv (va_rf r :: rest) G := by
  subst hr
  intro H locs ls hl hz
  obtain ⟨q0, hq⟩ := hz.1.get (X.d hk (by decide))
  rw [mE_10 hk] at hq
  exact va_get (D := tD t) (cl := mcl) (tys := mty t) (ws := va_pl (tdom t) (mE t G)) (ci := 9) (C := RK9) (T := TK9) (N := 30) X.1 X.2.1 X.ws (fun w h => GW_in (inK9 w h) (inG9 w h)) X.o X.k hz.1.1 q0 hq rfl 21 (by decide) (X.w hw) (fun _ h => h) rfl hd (k H locs ls hl hz)
theorem kg_92 {a idx : Nat} {r : Option Nat} (X : kX p s m args meth c cc nL own t) (hd : decode cc pc = .ok (.getfield idx, 3)) (hw : Cond.fieldLink own idx "TreeServerModel" "readTo" "[J" ∈ GW) (hr : r = some a) (hk : tk t a = 10) (k : kW p l e R s m args below meth c Q nL t pu (pc + 3) lv (va_rf (gr G 92 a) :: rest) G) : kW p l e R s m args below meth c Q nL t pu pc lv (va_rf r :: rest) G := by
  subst hr
  intro H locs ls hl hz
  obtain ⟨q0, hq⟩ := hz.1.get (X.d hk (by decide))
  rw [mE_10 hk] at hq
  exact va_get (D := tD t) (cl := mcl) (tys := mty t) (ws := va_pl (tdom t) (mE t G)) (ci := 9) (C := RK9) (T := TK9) (N := 30) X.1 X.2.1 X.ws (fun w h => GW_in (inK9 w h) (inG9 w h)) X.o X.k hz.1.1 q0 hq rfl 22 (by decide) (X.w hw) (fun _ h => h) rfl hd (k H locs ls hl hz)
theorem kg_93 {a idx : Nat} {r : Option Nat} (X : kX p s m args meth c cc nL own t) (hd : decode cc pc = .ok (.getfield idx, 3)) (hw : Cond.fieldLink own idx "TreeServerModel" "readLast" "[I" ∈ GW) (hr : r = some a) (hk : tk t a = 10) (k : kW p l e R s m args below meth c Q nL t pu (pc + 3) lv (va_rf (gr G 93 a) :: rest) G) : kW p l e R s m args below meth c Q nL t pu pc lv (va_rf r :: rest) G := by
  subst hr
  intro H locs ls hl hz
  obtain ⟨q0, hq⟩ := hz.1.get (X.d hk (by decide))
  rw [mE_10 hk] at hq
  exact va_get (D := tD t) (cl := mcl) (tys := mty t) (ws := va_pl (tdom t) (mE t G)) (ci := 9) (C := RK9) (T := TK9) (N := 30) X.1 X.2.1 X.ws (fun w h => GW_in (inK9 w h) (inG9 w h)) X.o X.k hz.1.1 q0 hq rfl 23 (by decide) (X.w hw) (fun _ h => h) rfl hd (k H locs ls hl hz)
theorem kg_94 {a idx : Nat} {r : Option Nat} (X : kX p s m args meth c cc nL own t) (hd : decode cc pc = .ok (.getfield idx, 3)) (hw : Cond.fieldLink own idx "TreeServerModel" "message" "[I" ∈ GW) (hr : r = some a) (hk : tk t a = 10) (k : kW p l e R s m args below meth c Q nL t pu (pc + 3) lv (va_rf (gr G 94 a) :: rest) G) : kW p l e R s m args below meth c Q nL t pu pc lv (va_rf r :: rest) G := by
  subst hr
  intro H locs ls hl hz
  obtain ⟨q0, hq⟩ := hz.1.get (X.d hk (by decide))
  rw [mE_10 hk] at hq
  exact va_get (D := tD t) (cl := mcl) (tys := mty t) (ws := va_pl (tdom t) (mE t G)) (ci := 9) (C := RK9) (T := TK9) (N := 30) X.1 X.2.1 X.ws (fun w h => GW_in (inK9 w h) (inG9 w h)) X.o X.k hz.1.1 q0 hq rfl 24 (by decide) (X.w hw) (fun _ h => h) rfl hd (k H locs ls hl hz)
theorem kg_95 {a idx : Nat} {r : Option Nat} (X : kX p s m args meth c cc nL own t) (hd : decode cc pc = .ok (.getfield idx, 3)) (hw : Cond.fieldLink own idx "TreeServerModel" "size" "I" ∈ GW) (hr : r = some a) (hk : tk t a = 10) (k : kW p l e R s m args below meth c Q nL t pu (pc + 3) lv (.int (gi G 95 a) :: rest) G) : kW p l e R s m args below meth c Q nL t pu pc lv (va_rf r :: rest) G := by
  subst hr
  intro H locs ls hl hz
  obtain ⟨q0, hq⟩ := hz.1.get (X.d hk (by decide))
  rw [mE_10 hk] at hq
  exact va_get (D := tD t) (cl := mcl) (tys := mty t) (ws := va_pl (tdom t) (mE t G)) (ci := 9) (C := RK9) (T := TK9) (N := 30) X.1 X.2.1 X.ws (fun w h => GW_in (inK9 w h) (inG9 w h)) X.o X.k hz.1.1 q0 hq rfl 25 (by decide) (X.w hw) (fun _ h => h) rfl hd (k H locs ls hl hz)
theorem kp_95 {a idx : Nat} {r : Option Nat} {x : Int32} (X : kX p s m args meth c cc nL own t) (hpu : pu = false) (hd : decode cc pc = .ok (.putfield idx, 3)) (hw : Cond.fieldLink own idx "TreeServerModel" "size" "I" ∈ GW) (hr : r = some a) (hk : tk t a = 10) (k : kW p l e R s m args below meth c Q nL t pu (pc + 3) lv rest (si G 95 a x)) : kW p l e R s m args below meth c Q nL t pu pc lv (.int x :: va_rf r :: rest) G := by
  subst hr
  intro H locs ls hl hz
  have ha := X.d hk (by decide)
  obtain ⟨q0, hq⟩ := hz.1.get ha
  have hq' := hq
  rw [mE_10 hk] at hq'
  refine va_put (D := tD t) (cl := mcl) (tys := mty t) (ws := va_pl (tdom t) (mE t G)) (A := tA t) (H0 := s.heap) (ci := 9) (C := RK9) (T := TK9) (N := 30) (v := .int x) (ty := .int) X.1 X.2.1 X.ws (fun w h => GW_in (inK9 w h) (inG9 w h)) yK9 yK9_ok nmK9 X.o X.k hz.1.1 hz.1.2.1 hz.2.1 q0 hq' rfl 25 (by decide) (X.w hw) (fun _ h => h) rfl (by decide +kernel) rfl rfl (Nat.le_of_ble_eq_true rfl) hd (fun H1 locs1 hP hD hS => ?_)
  exact k H1 locs1 ls hl ⟨hz.1.set ha hq (by rw [mE_10 hk]; simp [gi, gl, gr, si, u2]) (fun b hb => mE_si hb) hP hD (fun b j h => hz.1.2.2 b j h), hS, fun h => by rw [hpu] at h; cases h⟩
theorem kg_96 {a idx : Nat} {r : Option Nat} (X : kX p s m args meth c cc nL own t) (hd : decode cc pc = .ok (.getfield idx, 3)) (hw : Cond.fieldLink own idx "TreeServerModel" "answer" "[I" ∈ GW) (hr : r = some a) (hk : tk t a = 10) (k : kW p l e R s m args below meth c Q nL t pu (pc + 3) lv (va_rf (gr G 96 a) :: rest) G) : kW p l e R s m args below meth c Q nL t pu pc lv (va_rf r :: rest) G := by
  subst hr
  intro H locs ls hl hz
  obtain ⟨q0, hq⟩ := hz.1.get (X.d hk (by decide))
  rw [mE_10 hk] at hq
  exact va_get (D := tD t) (cl := mcl) (tys := mty t) (ws := va_pl (tdom t) (mE t G)) (ci := 9) (C := RK9) (T := TK9) (N := 30) X.1 X.2.1 X.ws (fun w h => GW_in (inK9 w h) (inG9 w h)) X.o X.k hz.1.1 q0 hq rfl 26 (by decide) (X.w hw) (fun _ h => h) rfl hd (k H locs ls hl hz)
theorem kg_97 {a idx : Nat} {r : Option Nat} (X : kX p s m args meth c cc nL own t) (hd : decode cc pc = .ok (.getfield idx, 3)) (hw : Cond.fieldLink own idx "TreeServerModel" "made" "I" ∈ GW) (hr : r = some a) (hk : tk t a = 10) (k : kW p l e R s m args below meth c Q nL t pu (pc + 3) lv (.int (gi G 97 a) :: rest) G) : kW p l e R s m args below meth c Q nL t pu pc lv (va_rf r :: rest) G := by
  subst hr
  intro H locs ls hl hz
  obtain ⟨q0, hq⟩ := hz.1.get (X.d hk (by decide))
  rw [mE_10 hk] at hq
  exact va_get (D := tD t) (cl := mcl) (tys := mty t) (ws := va_pl (tdom t) (mE t G)) (ci := 9) (C := RK9) (T := TK9) (N := 30) X.1 X.2.1 X.ws (fun w h => GW_in (inK9 w h) (inG9 w h)) X.o X.k hz.1.1 q0 hq rfl 27 (by decide) (X.w hw) (fun _ h => h) rfl hd (k H locs ls hl hz)
theorem kp_97 {a idx : Nat} {r : Option Nat} {x : Int32} (X : kX p s m args meth c cc nL own t) (hpu : pu = false) (hd : decode cc pc = .ok (.putfield idx, 3)) (hw : Cond.fieldLink own idx "TreeServerModel" "made" "I" ∈ GW) (hr : r = some a) (hk : tk t a = 10) (k : kW p l e R s m args below meth c Q nL t pu (pc + 3) lv rest (si G 97 a x)) : kW p l e R s m args below meth c Q nL t pu pc lv (.int x :: va_rf r :: rest) G := by
  subst hr
  intro H locs ls hl hz
  have ha := X.d hk (by decide)
  obtain ⟨q0, hq⟩ := hz.1.get ha
  have hq' := hq
  rw [mE_10 hk] at hq'
  refine va_put (D := tD t) (cl := mcl) (tys := mty t) (ws := va_pl (tdom t) (mE t G)) (A := tA t) (H0 := s.heap) (ci := 9) (C := RK9) (T := TK9) (N := 30) (v := .int x) (ty := .int) X.1 X.2.1 X.ws (fun w h => GW_in (inK9 w h) (inG9 w h)) yK9 yK9_ok nmK9 X.o X.k hz.1.1 hz.1.2.1 hz.2.1 q0 hq' rfl 27 (by decide) (X.w hw) (fun _ h => h) rfl (by decide +kernel) rfl rfl (Nat.le_of_ble_eq_true rfl) hd (fun H1 locs1 hP hD hS => ?_)
  exact k H1 locs1 ls hl ⟨hz.1.set ha hq (by rw [mE_10 hk]; simp [gi, gl, gr, si, u2]) (fun b hb => mE_si hb) hP hD (fun b j h => hz.1.2.2 b j h), hS, fun h => by rw [hpu] at h; cases h⟩
theorem kg_98 {a idx : Nat} {r : Option Nat} (X : kX p s m args meth c cc nL own t) (hd : decode cc pc = .ok (.getfield idx, 3)) (hw : Cond.fieldLink own idx "TreeServerModel" "error" "J" ∈ GW) (hr : r = some a) (hk : tk t a = 10) (k : kW p l e R s m args below meth c Q nL t pu (pc + 3) lv (.long (gl G 98 a) :: rest) G) : kW p l e R s m args below meth c Q nL t pu pc lv (va_rf r :: rest) G := by
  subst hr
  intro H locs ls hl hz
  obtain ⟨q0, hq⟩ := hz.1.get (X.d hk (by decide))
  rw [mE_10 hk] at hq
  exact va_get (D := tD t) (cl := mcl) (tys := mty t) (ws := va_pl (tdom t) (mE t G)) (ci := 9) (C := RK9) (T := TK9) (N := 30) X.1 X.2.1 X.ws (fun w h => GW_in (inK9 w h) (inG9 w h)) X.o X.k hz.1.1 q0 hq rfl 28 (by decide) (X.w hw) (fun _ h => h) rfl hd (k H locs ls hl hz)
theorem kp_98 {a idx : Nat} {r : Option Nat} {x : Int64} (X : kX p s m args meth c cc nL own t) (hpu : pu = false) (hd : decode cc pc = .ok (.putfield idx, 3)) (hw : Cond.fieldLink own idx "TreeServerModel" "error" "J" ∈ GW) (hr : r = some a) (hk : tk t a = 10) (k : kW p l e R s m args below meth c Q nL t pu (pc + 3) lv rest (sl G 98 a x)) : kW p l e R s m args below meth c Q nL t pu pc lv (.long x :: va_rf r :: rest) G := by
  subst hr
  intro H locs ls hl hz
  have ha := X.d hk (by decide)
  obtain ⟨q0, hq⟩ := hz.1.get ha
  have hq' := hq
  rw [mE_10 hk] at hq'
  refine va_put (D := tD t) (cl := mcl) (tys := mty t) (ws := va_pl (tdom t) (mE t G)) (A := tA t) (H0 := s.heap) (ci := 9) (C := RK9) (T := TK9) (N := 30) (v := .long x) (ty := .long) X.1 X.2.1 X.ws (fun w h => GW_in (inK9 w h) (inG9 w h)) yK9 yK9_ok nmK9 X.o X.k hz.1.1 hz.1.2.1 hz.2.1 q0 hq' rfl 28 (by decide) (X.w hw) (fun _ h => h) rfl (by decide +kernel) rfl rfl (Nat.le_of_ble_eq_true rfl) hd (fun H1 locs1 hP hD hS => ?_)
  exact k H1 locs1 ls hl ⟨hz.1.set ha hq (by rw [mE_10 hk]; simp [gi, gl, gr, sl, u2]) (fun b hb => mE_sl hb) hP hD (fun b j h => hz.1.2.2 b j h), hS, fun h => by rw [hpu] at h; cases h⟩
theorem kg_99 {a idx : Nat} {r : Option Nat} (X : kX p s m args meth c cc nL own t) (hd : decode cc pc = .ok (.getfield idx, 3)) (hw : Cond.fieldLink own idx "TreeServerModel" "who" "I" ∈ GW) (hr : r = some a) (hk : tk t a = 10) (k : kW p l e R s m args below meth c Q nL t pu (pc + 3) lv (.int (gi G 99 a) :: rest) G) : kW p l e R s m args below meth c Q nL t pu pc lv (va_rf r :: rest) G := by
  subst hr
  intro H locs ls hl hz
  obtain ⟨q0, hq⟩ := hz.1.get (X.d hk (by decide))
  rw [mE_10 hk] at hq
  exact va_get (D := tD t) (cl := mcl) (tys := mty t) (ws := va_pl (tdom t) (mE t G)) (ci := 9) (C := RK9) (T := TK9) (N := 30) X.1 X.2.1 X.ws (fun w h => GW_in (inK9 w h) (inG9 w h)) X.o X.k hz.1.1 q0 hq rfl 29 (by decide) (X.w hw) (fun _ h => h) rfl hd (k H locs ls hl hz)
theorem kp_99 {a idx : Nat} {r : Option Nat} {x : Int32} (X : kX p s m args meth c cc nL own t) (hpu : pu = false) (hd : decode cc pc = .ok (.putfield idx, 3)) (hw : Cond.fieldLink own idx "TreeServerModel" "who" "I" ∈ GW) (hr : r = some a) (hk : tk t a = 10) (k : kW p l e R s m args below meth c Q nL t pu (pc + 3) lv rest (si G 99 a x)) : kW p l e R s m args below meth c Q nL t pu pc lv (.int x :: va_rf r :: rest) G := by
  subst hr
  intro H locs ls hl hz
  have ha := X.d hk (by decide)
  obtain ⟨q0, hq⟩ := hz.1.get ha
  have hq' := hq
  rw [mE_10 hk] at hq'
  refine va_put (D := tD t) (cl := mcl) (tys := mty t) (ws := va_pl (tdom t) (mE t G)) (A := tA t) (H0 := s.heap) (ci := 9) (C := RK9) (T := TK9) (N := 30) (v := .int x) (ty := .int) X.1 X.2.1 X.ws (fun w h => GW_in (inK9 w h) (inG9 w h)) yK9 yK9_ok nmK9 X.o X.k hz.1.1 hz.1.2.1 hz.2.1 q0 hq' rfl 29 (by decide) (X.w hw) (fun _ h => h) rfl (by decide +kernel) rfl rfl (Nat.le_of_ble_eq_true rfl) hd (fun H1 locs1 hP hD hS => ?_)
  exact k H1 locs1 ls hl ⟨hz.1.set ha hq (by rw [mE_10 hk]; simp [gi, gl, gr, si, u2]) (fun b hb => mE_si hb) hP hD (fun b j h => hz.1.2.2 b j h), hS, fun h => by rw [hpu] at h; cases h⟩
theorem fit_ais {t : TY} {G : GS} {a j : Nat} {x : Int32} (h : ∀ b i, tk t b = 51 → fits .byte (.int (ai G b i)) = true) (hx : tk t a = 51 → fits .byte (.int x) = true) : ∀ b i, tk t b = 51 → fits .byte (.int (ai (ais G a j x) b i)) = true := by
  intro b i hb
  by_cases q : b = a ∧ i = j
  · obtain ⟨rfl, rfl⟩ := q
    show fits .byte (.int (u2 _ _ _ _ _ _)) = true
    rw [u2_at]
    exact hx hb
  · show fits .byte (.int (u2 _ _ _ _ _ _)) = true
    unfold u2
    rw [if_neg q]
    exact h b i hb
theorem fit_nar (x : Int32) : fits .byte (.int (vp_nar .byte x)) = true := by rw [vp_nar_byte]; exact pk_fb x
theorem fit_acB {t : TY} {G : GS} {a c : Nat} {sp dp n : Int32} (h : ∀ b i, tk t b = 51 → fits .byte (.int (ai G b i)) = true) (ha : tk t a = 51) : ∀ b i, tk t b = 51 → fits .byte (.int (ai (acB G a c sp dp n) b i)) = true := by
  intro b i hb
  show fits .byte (.int ((if b = c then va_cpy (ai G a) (ai G c) sp.toNatClampNeg dp.toNatClampNeg n.toNatClampNeg else ai G b) i)) = true
  by_cases q : b = c
  · rw [if_pos q]
    unfold va_cpy
    split
    · exact h a _ ha
    · exact h c _ (q ▸ hb)
  · rw [if_neg q]
    exact h b i hb
theorem ka_iald {a : Nat} {r : Option Nat} {i : Int32} (X : kX p s m args meth c cc nL own t) (hd : decode cc pc = .ok (.iaload, 1)) (hr : r = some a) (hk : tk t a = 50) (hin : vp_in i (tn t a)) (k : kW p l e R s m args below meth c Q nL t pu (pc + 1) lv (.int (ai G a i.toNatClampNeg) :: rest) G) : kW p l e R s m args below meth c Q nL t pu pc lv (.int i :: va_rf r :: rest) G := by
  subst hr
  intro H locs ls hl hz
  have ha := X.d hk (by decide)
  obtain ⟨q0, hq⟩ := hz.1.get ha
  have hq' := hq
  rw [mE_50 hk] at hq'
  exact va_iald (D := tD t) (cl := mcl) (tys := mty t) (ws := va_pl (tdom t) (mE t G)) X.1 X.2.1 X.k hz.1.1 q0 0 hq' rfl hin hd (k H locs ls hl hz)
theorem ka_bald {a : Nat} {r : Option Nat} {i : Int32} (X : kX p s m args meth c cc nL own t) (hd : decode cc pc = .ok (.baload, 1)) (hr : r = some a) (hk : tk t a = 51) (hin : vp_in i (tn t a)) (k : kW p l e R s m args below meth c Q nL t pu (pc + 1) lv (.int (ai G a i.toNatClampNeg) :: rest) G) : kW p l e R s m args below meth c Q nL t pu pc lv (.int i :: va_rf r :: rest) G := by
  subst hr
  intro H locs ls hl hz
  have ha := X.d hk (by decide)
  obtain ⟨q0, hq⟩ := hz.1.get ha
  have hq' := hq
  rw [mE_51 hk] at hq'
  exact va_bald (D := tD t) (cl := mcl) (tys := mty t) (ws := va_pl (tdom t) (mE t G)) X.1 X.2.1 X.k hz.1.1 q0 1 hq' rfl hin hd (k H locs ls hl hz)
theorem ka_zald {a : Nat} {r : Option Nat} {i : Int32} (X : kX p s m args meth c cc nL own t) (hd : decode cc pc = .ok (.baload, 1)) (hr : r = some a) (hk : tk t a = 52) (hin : vp_in i (tn t a)) (k : kW p l e R s m args below meth c Q nL t pu (pc + 1) lv (.int (ai G a i.toNatClampNeg) :: rest) G) : kW p l e R s m args below meth c Q nL t pu pc lv (.int i :: va_rf r :: rest) G := by
  subst hr
  intro H locs ls hl hz
  have ha := X.d hk (by decide)
  obtain ⟨q0, hq⟩ := hz.1.get ha
  have hq' := hq
  rw [mE_52 hk] at hq'
  exact va_zald (D := tD t) (cl := mcl) (tys := mty t) (ws := va_pl (tdom t) (mE t G)) X.1 X.2.1 X.k hz.1.1 q0 2 hq' rfl hin hd (k H locs ls hl hz)
theorem ka_lald {a : Nat} {r : Option Nat} {i : Int32} (X : kX p s m args meth c cc nL own t) (hd : decode cc pc = .ok (.laload, 1)) (hr : r = some a) (hk : tk t a = 53) (hin : vp_in i (tn t a)) (k : kW p l e R s m args below meth c Q nL t pu (pc + 1) lv (.long (al G a i.toNatClampNeg) :: rest) G) : kW p l e R s m args below meth c Q nL t pu pc lv (.int i :: va_rf r :: rest) G := by
  subst hr
  intro H locs ls hl hz
  have ha := X.d hk (by decide)
  obtain ⟨q0, hq⟩ := hz.1.get ha
  have hq' := hq
  rw [mE_53 hk] at hq'
  exact va_lald (D := tD t) (cl := mcl) (tys := mty t) (ws := va_pl (tdom t) (mE t G)) X.1 X.2.1 X.k hz.1.1 q0 3 hq' rfl hin hd (k H locs ls hl hz)
theorem ka_aald54 {a : Nat} {r : Option Nat} {i : Int32} (X : kX p s m args meth c cc nL own t) (hd : decode cc pc = .ok (.aaload, 1)) (hr : r = some a) (hk : tk t a = 54) (hin : vp_in i (tn t a)) (k : kW p l e R s m args below meth c Q nL t pu (pc + 1) lv (va_rf (ar G a i.toNatClampNeg) :: rest) G) : kW p l e R s m args below meth c Q nL t pu pc lv (.int i :: va_rf r :: rest) G := by
  subst hr
  intro H locs ls hl hz
  have ha := X.d hk (by decide)
  obtain ⟨q0, hq⟩ := hz.1.get ha
  have hq' := hq
  rw [mE_54 hk] at hq'
  exact va_aldq (D := tD t) (cl := mcl) (tys := mty t) (ws := va_pl (tdom t) (mE t G)) X.1 X.2.1 X.k hz.1.1 q0 4 hq' rfl hin hd (k H locs ls hl hz)
theorem ka_aald55 {a : Nat} {r : Option Nat} {i : Int32} (X : kX p s m args meth c cc nL own t) (hd : decode cc pc = .ok (.aaload, 1)) (hr : r = some a) (hk : tk t a = 55) (hin : vp_in i (tn t a)) (k : kW p l e R s m args below meth c Q nL t pu (pc + 1) lv (va_rf (ar G a i.toNatClampNeg) :: rest) G) : kW p l e R s m args below meth c Q nL t pu pc lv (.int i :: va_rf r :: rest) G := by
  subst hr
  intro H locs ls hl hz
  have ha := X.d hk (by decide)
  obtain ⟨q0, hq⟩ := hz.1.get ha
  have hq' := hq
  rw [mE_55 hk] at hq'
  exact va_aldq (D := tD t) (cl := mcl) (tys := mty t) (ws := va_pl (tdom t) (mE t G)) X.1 X.2.1 X.k hz.1.1 q0 5 hq' rfl hin hd (k H locs ls hl hz)
theorem ka_aald56 {a : Nat} {r : Option Nat} {i : Int32} (X : kX p s m args meth c cc nL own t) (hd : decode cc pc = .ok (.aaload, 1)) (hr : r = some a) (hk : tk t a = 56) (hin : vp_in i (tn t a)) (k : kW p l e R s m args below meth c Q nL t pu (pc + 1) lv (va_rf (ar G a i.toNatClampNeg) :: rest) G) : kW p l e R s m args below meth c Q nL t pu pc lv (.int i :: va_rf r :: rest) G := by
  subst hr
  intro H locs ls hl hz
  have ha := X.d hk (by decide)
  obtain ⟨q0, hq⟩ := hz.1.get ha
  have hq' := hq
  rw [mE_56 hk] at hq'
  exact va_aldq (D := tD t) (cl := mcl) (tys := mty t) (ws := va_pl (tdom t) (mE t G)) X.1 X.2.1 X.k hz.1.1 q0 6 hq' rfl hin hd (k H locs ls hl hz)
theorem ka_iast {a : Nat} {r : Option Nat} {i : Int32} {x : Int32} (X : kX p s m args meth c cc nL own t) (hpu : pu = false) (hd : decode cc pc = .ok (.iastore, 1)) (hr : r = some a) (hk : tk t a = 50) (hin : vp_in i (tn t a)) (k : kW p l e R s m args below meth c Q nL t pu (pc + 1) lv rest (ais G a i.toNatClampNeg x)) : kW p l e R s m args below meth c Q nL t pu pc lv (.int x :: .int i :: va_rf r :: rest) G := by
  subst hr
  intro H locs ls hl hz
  have ha := X.d hk (by decide)
  obtain ⟨q0, hq⟩ := hz.1.get ha
  have hq' := hq
  rw [mE_50 hk] at hq'
  refine va_iast (D := tD t) (cl := mcl) (tys := mty t) (ws := va_pl (tdom t) (mE t G)) (A := tA t) (H0 := s.heap) X.1 X.2.1 X.k hz.1.1 hz.1.2.1 hz.2.1 q0 0 hq' rfl hin hd (fun H1 locs1 hP hD hS => ?_)
  exact k H1 locs1 ls hl ⟨hz.1.set ha hq (by rw [mE_50 hk, ais_row]) (fun b hb => mE_ais hb) hP hD (fit_ais hz.1.2.2 (fun h => by rw [hk] at h; cases h)), hS, fun h => by rw [hpu] at h; cases h⟩
theorem ka_bast {a : Nat} {r : Option Nat} {i : Int32} {x : Int32} (X : kX p s m args meth c cc nL own t) (hpu : pu = false) (hd : decode cc pc = .ok (.bastore, 1)) (hr : r = some a) (hk : tk t a = 51) (hin : vp_in i (tn t a)) (k : kW p l e R s m args below meth c Q nL t pu (pc + 1) lv rest (ais G a i.toNatClampNeg (vp_nar .byte x))) : kW p l e R s m args below meth c Q nL t pu pc lv (.int x :: .int i :: va_rf r :: rest) G := by
  subst hr
  intro H locs ls hl hz
  have ha := X.d hk (by decide)
  obtain ⟨q0, hq⟩ := hz.1.get ha
  have hq' := hq
  rw [mE_51 hk] at hq'
  refine va_bast (D := tD t) (cl := mcl) (tys := mty t) (ws := va_pl (tdom t) (mE t G)) (A := tA t) (H0 := s.heap) X.1 X.2.1 X.k hz.1.1 hz.1.2.1 hz.2.1 q0 1 hq' rfl hin hd (fun H1 locs1 hP hD hS => ?_)
  exact k H1 locs1 ls hl ⟨hz.1.set ha hq (by rw [mE_51 hk, ais_row]) (fun b hb => mE_ais hb) hP hD (fit_ais hz.1.2.2 (fun _ => fit_nar x)), hS, fun h => by rw [hpu] at h; cases h⟩
theorem ka_zast {a : Nat} {r : Option Nat} {i : Int32} {x : Int32} (X : kX p s m args meth c cc nL own t) (hpu : pu = false) (hd : decode cc pc = .ok (.bastore, 1)) (hr : r = some a) (hk : tk t a = 52) (hin : vp_in i (tn t a)) (k : kW p l e R s m args below meth c Q nL t pu (pc + 1) lv rest (ais G a i.toNatClampNeg (vp_nar .boolean x))) : kW p l e R s m args below meth c Q nL t pu pc lv (.int x :: .int i :: va_rf r :: rest) G := by
  subst hr
  intro H locs ls hl hz
  have ha := X.d hk (by decide)
  obtain ⟨q0, hq⟩ := hz.1.get ha
  have hq' := hq
  rw [mE_52 hk] at hq'
  refine va_zast (D := tD t) (cl := mcl) (tys := mty t) (ws := va_pl (tdom t) (mE t G)) (A := tA t) (H0 := s.heap) X.1 X.2.1 X.k hz.1.1 hz.1.2.1 hz.2.1 q0 2 hq' rfl hin hd (fun H1 locs1 hP hD hS => ?_)
  exact k H1 locs1 ls hl ⟨hz.1.set ha hq (by rw [mE_52 hk, ais_row]) (fun b hb => mE_ais hb) hP hD (fit_ais hz.1.2.2 (fun h => by rw [hk] at h; cases h)), hS, fun h => by rw [hpu] at h; cases h⟩
theorem ka_last {a : Nat} {r : Option Nat} {i : Int32} {x : Int64} (X : kX p s m args meth c cc nL own t) (hpu : pu = false) (hd : decode cc pc = .ok (.lastore, 1)) (hr : r = some a) (hk : tk t a = 53) (hin : vp_in i (tn t a)) (k : kW p l e R s m args below meth c Q nL t pu (pc + 1) lv rest (als G a i.toNatClampNeg x)) : kW p l e R s m args below meth c Q nL t pu pc lv (.long x :: .int i :: va_rf r :: rest) G := by
  subst hr
  intro H locs ls hl hz
  have ha := X.d hk (by decide)
  obtain ⟨q0, hq⟩ := hz.1.get ha
  have hq' := hq
  rw [mE_53 hk] at hq'
  refine va_last (D := tD t) (cl := mcl) (tys := mty t) (ws := va_pl (tdom t) (mE t G)) (A := tA t) (H0 := s.heap) X.1 X.2.1 X.k hz.1.1 hz.1.2.1 hz.2.1 q0 3 hq' rfl hin hd (fun H1 locs1 hP hD hS => ?_)
  exact k H1 locs1 ls hl ⟨hz.1.set ha hq (by rw [mE_53 hk, als_row]) (fun b hb => mE_als hb) hP hD (fun b j h => hz.1.2.2 b j h), hS, fun h => by rw [hpu] at h; cases h⟩
theorem ka_aast54 {a b : Nat} {r rb : Option Nat} {i : Int32} (X : kX p s m args meth c cc nL own t) (hpu : pu = false) (hd : decode cc pc = .ok (.aastore, 1)) (hr : r = some a) (hk : tk t a = 54) (hin : vp_in i (tn t a)) (hrb : rb = some b) (hkb : tk t b = 1) (k : kW p l e R s m args below meth c Q nL t pu (pc + 1) lv rest (ars G a i.toNatClampNeg (some b))) : kW p l e R s m args below meth c Q nL t pu pc lv (va_rf rb :: .int i :: va_rf r :: rest) G := by
  subst hrb
  subst hr
  intro H locs ls hl hz
  have ha := X.d hk (by decide)
  obtain ⟨q0, hq⟩ := hz.1.get ha
  have hq' := hq
  rw [mE_54 hk] at hq'
  obtain ⟨q1, hq1⟩ := hz.1.get (X.d hkb (by decide))
  rw [mE_1 hkb] at hq1
  refine va_astq (D := tD t) (cl := mcl) (tys := mty t) (ws := va_pl (tdom t) (mE t G)) (A := tA t) (H0 := s.heap) (r := (RK0, TK0, 13)) X.1 X.2.1 X.k hz.1.1 hz.1.2.1 hz.2.1 q0 4 q1 0 hq' rfl hq1 rfl hin hd (fun H1 locs1 hP hD hS => ?_)
  exact k H1 locs1 ls hl ⟨hz.1.set ha hq (by rw [mE_54 hk, ars_row]) (fun b hb => mE_ars hb) hP hD (fun b j h => hz.1.2.2 b j h), hS, fun h => by rw [hpu] at h; cases h⟩
theorem ka_len50 {a : Nat} {r : Option Nat} (X : kX p s m args meth c cc nL own t) (hd : decode cc pc = .ok (.arraylength, 1)) (hr : r = some a) (hk : tk t a = 50) (k : kW p l e R s m args below meth c Q nL t pu (pc + 1) lv (.int (nI (tn t a)) :: rest) G) : kW p l e R s m args below meth c Q nL t pu pc lv (va_rf r :: rest) G := by
  subst hr
  intro H locs ls hl hz
  have ha := X.d hk (by decide)
  obtain ⟨q0, hq⟩ := hz.1.get ha
  have hq' := hq
  rw [mE_50 hk] at hq'
  exact va_alen (D := tD t) (cl := mcl) (tys := mty t) (ws := va_pl (tdom t) (mE t G)) X.1 X.2.1 X.k hz.1.1 q0 0 hq' rfl rfl hd (k H locs ls hl hz)
theorem ka_len51 {a : Nat} {r : Option Nat} (X : kX p s m args meth c cc nL own t) (hd : decode cc pc = .ok (.arraylength, 1)) (hr : r = some a) (hk : tk t a = 51) (k : kW p l e R s m args below meth c Q nL t pu (pc + 1) lv (.int (nI (tn t a)) :: rest) G) : kW p l e R s m args below meth c Q nL t pu pc lv (va_rf r :: rest) G := by
  subst hr
  intro H locs ls hl hz
  have ha := X.d hk (by decide)
  obtain ⟨q0, hq⟩ := hz.1.get ha
  have hq' := hq
  rw [mE_51 hk] at hq'
  exact va_alen (D := tD t) (cl := mcl) (tys := mty t) (ws := va_pl (tdom t) (mE t G)) X.1 X.2.1 X.k hz.1.1 q0 1 hq' rfl rfl hd (k H locs ls hl hz)
theorem ka_len52 {a : Nat} {r : Option Nat} (X : kX p s m args meth c cc nL own t) (hd : decode cc pc = .ok (.arraylength, 1)) (hr : r = some a) (hk : tk t a = 52) (k : kW p l e R s m args below meth c Q nL t pu (pc + 1) lv (.int (nI (tn t a)) :: rest) G) : kW p l e R s m args below meth c Q nL t pu pc lv (va_rf r :: rest) G := by
  subst hr
  intro H locs ls hl hz
  have ha := X.d hk (by decide)
  obtain ⟨q0, hq⟩ := hz.1.get ha
  have hq' := hq
  rw [mE_52 hk] at hq'
  exact va_alen (D := tD t) (cl := mcl) (tys := mty t) (ws := va_pl (tdom t) (mE t G)) X.1 X.2.1 X.k hz.1.1 q0 2 hq' rfl rfl hd (k H locs ls hl hz)
theorem ka_len53 {a : Nat} {r : Option Nat} (X : kX p s m args meth c cc nL own t) (hd : decode cc pc = .ok (.arraylength, 1)) (hr : r = some a) (hk : tk t a = 53) (k : kW p l e R s m args below meth c Q nL t pu (pc + 1) lv (.int (nI (tn t a)) :: rest) G) : kW p l e R s m args below meth c Q nL t pu pc lv (va_rf r :: rest) G := by
  subst hr
  intro H locs ls hl hz
  have ha := X.d hk (by decide)
  obtain ⟨q0, hq⟩ := hz.1.get ha
  have hq' := hq
  rw [mE_53 hk] at hq'
  exact va_alen (D := tD t) (cl := mcl) (tys := mty t) (ws := va_pl (tdom t) (mE t G)) X.1 X.2.1 X.k hz.1.1 q0 3 hq' rfl rfl hd (k H locs ls hl hz)
theorem ka_len54 {a : Nat} {r : Option Nat} (X : kX p s m args meth c cc nL own t) (hd : decode cc pc = .ok (.arraylength, 1)) (hr : r = some a) (hk : tk t a = 54) (k : kW p l e R s m args below meth c Q nL t pu (pc + 1) lv (.int (nI (tn t a)) :: rest) G) : kW p l e R s m args below meth c Q nL t pu pc lv (va_rf r :: rest) G := by
  subst hr
  intro H locs ls hl hz
  have ha := X.d hk (by decide)
  obtain ⟨q0, hq⟩ := hz.1.get ha
  have hq' := hq
  rw [mE_54 hk] at hq'
  exact va_alen (D := tD t) (cl := mcl) (tys := mty t) (ws := va_pl (tdom t) (mE t G)) X.1 X.2.1 X.k hz.1.1 q0 4 hq' rfl rfl hd (k H locs ls hl hz)
theorem ka_len55 {a : Nat} {r : Option Nat} (X : kX p s m args meth c cc nL own t) (hd : decode cc pc = .ok (.arraylength, 1)) (hr : r = some a) (hk : tk t a = 55) (k : kW p l e R s m args below meth c Q nL t pu (pc + 1) lv (.int (nI (tn t a)) :: rest) G) : kW p l e R s m args below meth c Q nL t pu pc lv (va_rf r :: rest) G := by
  subst hr
  intro H locs ls hl hz
  have ha := X.d hk (by decide)
  obtain ⟨q0, hq⟩ := hz.1.get ha
  have hq' := hq
  rw [mE_55 hk] at hq'
  exact va_alen (D := tD t) (cl := mcl) (tys := mty t) (ws := va_pl (tdom t) (mE t G)) X.1 X.2.1 X.k hz.1.1 q0 5 hq' rfl rfl hd (k H locs ls hl hz)
theorem ka_len56 {a : Nat} {r : Option Nat} (X : kX p s m args meth c cc nL own t) (hd : decode cc pc = .ok (.arraylength, 1)) (hr : r = some a) (hk : tk t a = 56) (k : kW p l e R s m args below meth c Q nL t pu (pc + 1) lv (.int (nI (tn t a)) :: rest) G) : kW p l e R s m args below meth c Q nL t pu pc lv (va_rf r :: rest) G := by
  subst hr
  intro H locs ls hl hz
  have ha := X.d hk (by decide)
  obtain ⟨q0, hq⟩ := hz.1.get ha
  have hq' := hq
  rw [mE_56 hk] at hq'
  exact va_alen (D := tD t) (cl := mcl) (tys := mty t) (ws := va_pl (tdom t) (mE t G)) X.1 X.2.1 X.k hz.1.1 q0 6 hq' rfl rfl hd (k H locs ls hl hz)
theorem ka_copy {a b idx : Nat} {ra rb : Option Nat} {sp dp n : Int32} (X : kX p s m args meth c cc nL own t) (hpu : pu = false) (hd : decode cc pc = .ok (.invokestatic idx, 3)) (hw : Cond.methodLink own idx arraycopyName ∈ GW) (hw2 : Cond.native arraycopyName ∈ GW) (hw3 : Cond.static arraycopyName ∈ GW) (hw4 : Cond.initialized "java/lang/System" ∈ GW) (hf : 1 ≤ R.frames) (hlo : (rest.map fun v => v.category).sum + (nativeFrameWords "java/lang/System" "arraycopy" 5 + 11) ≤ R.locals)
    (hra : ra = some a) (hrb : rb = some b) (hka : tk t a = 51) (hkb : tk t b = 51) (ho : acOk (tn t a) (tn t b) sp dp n) (k : kW p l e R s m args below meth c Q nL t pu (pc + 3) lv rest (acB G a b sp dp n)) : kW p l e R s m args below meth c Q nL t pu pc lv (.int n :: .int dp :: va_rf rb :: .int sp :: va_rf ra :: rest) G := by
  subst hra
  subst hrb
  intro H locs ls hl hz
  have ha := X.d hkb (by decide)
  obtain ⟨q0, hq0⟩ := hz.1.get (X.d hka (by decide))
  obtain ⟨q1, hq⟩ := hz.1.get ha
  have hq' := hq
  rw [mE_51 hka] at hq0
  rw [mE_51 hkb] at hq'
  obtain ⟨o1, o2, o3, o4, o5⟩ := ho
  refine va_copyi (D := tD t) (cl := mcl) (tys := mty t) (ws := va_pl (tdom t) (mE t G)) (A := tA t) (H0 := s.heap) (ty := .byte) X.1 X.2.1 (X.2.2.1.trans hl.1.symm) X.o (X.w hw) (X.w hw2) (X.w hw3) (X.w hw4) X.k hz.1.1 hz.1.2.1 hz.2.1 q0 q1 1 1 hq0 hq' rfl rfl rfl o1 o2 o3 o4 o5 (fun i _ => hz.1.2.2 a _ hka) hf hlo hd (fun H1 locs1 hP hD hS => ?_)
  exact k H1 locs1 ls hl ⟨hz.1.set ha hq (by rw [mE_51 hkb]; rw [show ai (acB G a b sp dp n) b = va_cpy (ai G a) (ai G b) sp.toNatClampNeg dp.toNatClampNeg n.toNatClampNeg from if_pos rfl]) (fun b hb => mE_acB hb) hP hD (fit_acB hz.1.2.2 hka), hS, fun h => by rw [hpu] at h; cases h⟩
theorem km_min {idx : Nat} {x y : Int32} (X : kX p s m args meth c cc nL own t) (hd : decode cc pc = .ok (.invokestatic idx, 3)) (hw : Cond.methodLink own idx Lib.Math.min.name ∈ GW) (hw2 : Cond.static Lib.Math.min.name ∈ GW) (hw3 : Cond.initialized "java/lang/Math" ∈ GW) (hw4 : Cond.code Lib.Math.min.name Lib.Math.min.code 2 (some .int) ∈ GW) (hf : 1 ≤ R.frames) (hlo : (rest.map fun v => v.category).sum + 13 ≤ R.locals) (k : kW p l e R s m args below meth c Q nL t pu (pc + 3) lv (.int (imin x y) :: rest) G) : kW p l e R s m args below meth c Q nL t pu pc lv (.int y :: .int x :: rest) G := fun H locs ls hl hz => va_mmin X.1 X.2.1 (X.2.2.1.trans hl.1.symm) X.o (X.w hw) (X.w hw2) (X.w hw3) (X.w hw4) hf hlo (Nat.zero_le _) (Nat.zero_le _) hd (k H locs ls hl hz)
theorem km_max {idx : Nat} {x y : Int32} (X : kX p s m args meth c cc nL own t) (hd : decode cc pc = .ok (.invokestatic idx, 3)) (hw : Cond.methodLink own idx Lib.Math.max.name ∈ GW) (hw2 : Cond.static Lib.Math.max.name ∈ GW) (hw3 : Cond.initialized "java/lang/Math" ∈ GW) (hw4 : Cond.code Lib.Math.max.name Lib.Math.max.code 2 (some .int) ∈ GW) (hf : 1 ≤ R.frames) (hlo : (rest.map fun v => v.category).sum + 13 ≤ R.locals) (k : kW p l e R s m args below meth c Q nL t pu (pc + 3) lv (.int (imax x y) :: rest) G) : kW p l e R s m args below meth c Q nL t pu pc lv (.int y :: .int x :: rest) G := fun H locs ls hl hz => va_mmax X.1 X.2.1 (X.2.2.1.trans hl.1.symm) X.o (X.w hw) (X.w hw2) (X.w hw3) (X.w hw4) hf hlo (Nat.zero_le _) (Nat.zero_le _) hd (k H locs ls hl hz)
theorem km_minl {idx : Nat} {x y : Int64} (X : kX p s m args meth c cc nL own t) (hd : decode cc pc = .ok (.invokestatic idx, 3)) (hw : Cond.methodLink own idx Lib.MathLoose.min_long.x ∈ GW) (hw2 : Cond.static Lib.MathLoose.min_long.x ∈ GW) (hw3 : Cond.initialized "java/lang/Math" ∈ GW) (hw4 : Cond.code Lib.MathLoose.min_long.x Lib.MathLoose.min_long.code 4 (some .long) ∈ GW) (hf : 1 ≤ R.frames) (hlo : (rest.map fun v => v.category).sum + 15 ≤ R.locals) (k : kW p l e R s m args below meth c Q nL t pu (pc + 3) lv (.long (lmin x y) :: rest) G) : kW p l e R s m args below meth c Q nL t pu pc lv (.long y :: .long x :: rest) G := fun H locs ls hl hz => va_mmin_long X.1 X.2.1 (X.2.2.1.trans hl.1.symm) X.o (X.w hw) (X.w hw2) (X.w hw3) (X.w hw4) hf hlo (Nat.zero_le _) (Nat.zero_le _) hd (k H locs ls hl hz)
theorem lv_ldcwS {H : Heap} {locs : List Loc} {cells slots : Nat} {ls : Array Slot} (hexec : p.tables.exec = Jvm.exec) (hb : c.code = cc) {own tx : String} {index q : Nat} (hown : s.vm.findClass own = some m.cls) (hZ : vk_R own index tx q s) (hdg : decode cc pc = .ok (.ldc_w index, 3))
    (k : W p l e R s m args below meth c H locs cells slots Q (F0 m (pc + 3) ls (.ref q :: rest))) : W p l e R s m args below meth c H locs cells slots Q (F0 m pc ls rest) := by
  intro T hT X
  obtain ⟨t, a1, b1⟩ := k T hT X
  refine ⟨t, ?_, b1⟩
  obtain ⟨k, cf, i, a', hk, hcf, hcp, -, hr, hev'⟩ := Cond.stringRef_spec (args := #[]) (first := s) (o := none) (idx := []) hown hZ.1
  cases hZ.2.symm.trans hev'
  obtain ⟨k', hk', he⟩ := X.warmed.alike.2.2 _ _ hk
  have hr' : k'.resolved[index]? = some (some (.string q)) := by
    rcases X.warmed.entry hk hk' index with h | ⟨h, -⟩
    · rw [h]; exact hr
    · rw [hr] at h; cases h
  jvm_step X.here [hexec, hb, hdg, ldc_w.wp_string (e := e) (s := T) (f := F0 m pc ls rest) X.here.top hk' (by rw [he]; exact hcf) hcp hr']
  exact a1
theorem kw_ldcS {idx j : Nat} {tx : String} (X : kX p s m args meth c cc nL "TreeServer" t) (hd : decode cc pc = .ok (.ldc idx, 2)) (hj : j < 26) (hi : sidx j = idx) (k : kW p l e R s m args below meth c Q nL t pu (pc + 2) lv (va_rf (some (tks t j)) :: rest) G) : kW p l e R s m args below meth c Q nL t pu pc lv rest G := fun H locs ls hl hz => va_ldcS X.1 X.2.1 X.o (hi ▸ X.h.2.2.2.2.2.2.1 j hj) hd (k H locs ls hl hz)
theorem kw_ldcwS {idx j : Nat} (X : kX p s m args meth c cc nL "TreeServer" t) (hd : decode cc pc = .ok (.ldc_w idx, 3)) (hj : j < 26) (hi : sidx j = idx) (k : kW p l e R s m args below meth c Q nL t pu (pc + 3) lv (va_rf (some (tks t j)) :: rest) G) : kW p l e R s m args below meth c Q nL t pu pc lv rest G := fun H locs ls hl hz => lv_ldcwS X.1 X.2.1 X.o (hi ▸ X.h.2.2.2.2.2.2.1 j hj) hd (k H locs ls hl hz)
theorem ks_0 {idx : Nat} (X : kX p s m args meth c cc nL own t) (hd : decode cc pc = .ok (.getstatic idx, 3)) (hw : Cond.fieldLink own idx "TreeServer$User" "ANN" "LTreeServer$User;" ∈ GW) (k : kW p l e R s m args below meth c Q nL t pu (pc + 3) lv (va_rf (some (tad t 0)) :: rest) G) : kW p l e R s m args below meth c Q nL t pu pc lv rest G := fun H locs ls hl hz => va_gets X.1 X.2.1 (X.h.2.2.1.1 0 (by decide)).1 hz.2.1 X.o (X.w hw) (fun _ h => h) hd (k H locs ls hl hz)
theorem ks_1 {idx : Nat} (X : kX p s m args meth c cc nL own t) (hd : decode cc pc = .ok (.getstatic idx, 3)) (hw : Cond.fieldLink own idx "TreeServer$User" "BOB" "LTreeServer$User;" ∈ GW) (k : kW p l e R s m args below meth c Q nL t pu (pc + 3) lv (va_rf (some (tad t 1)) :: rest) G) : kW p l e R s m args below meth c Q nL t pu pc lv rest G := fun H locs ls hl hz => va_gets X.1 X.2.1 (X.h.2.2.1.1 1 (by decide)).1 hz.2.1 X.o (X.w hw) (fun _ h => h) hd (k H locs ls hl hz)
theorem ks_2 {idx : Nat} (X : kX p s m args meth c cc nL own t) (hd : decode cc pc = .ok (.getstatic idx, 3)) (hw : Cond.fieldLink own idx "TreeServer$User" "CY" "LTreeServer$User;" ∈ GW) (k : kW p l e R s m args below meth c Q nL t pu (pc + 3) lv (va_rf (some (tad t 2)) :: rest) G) : kW p l e R s m args below meth c Q nL t pu pc lv rest G := fun H locs ls hl hz => va_gets X.1 X.2.1 (X.h.2.2.1.1 2 (by decide)).1 hz.2.1 X.o (X.w hw) (fun _ h => h) hd (k H locs ls hl hz)
theorem ks_3 {idx : Nat} (X : kX p s m args meth c cc nL own t) (hd : decode cc pc = .ok (.getstatic idx, 3)) (hw : Cond.fieldLink own idx "TreeServer$Kind" "CREATE" "LTreeServer$Kind;" ∈ GW) (k : kW p l e R s m args below meth c Q nL t pu (pc + 3) lv (va_rf (some (tad t 3)) :: rest) G) : kW p l e R s m args below meth c Q nL t pu pc lv rest G := fun H locs ls hl hz => va_gets X.1 X.2.1 (X.h.2.2.2.1.1 0 (by decide)).1 hz.2.1 X.o (X.w hw) (fun _ h => h) hd (k H locs ls hl hz)
theorem ks_4 {idx : Nat} (X : kX p s m args meth c cc nL own t) (hd : decode cc pc = .ok (.getstatic idx, 3)) (hw : Cond.fieldLink own idx "TreeServer$Kind" "WRITE" "LTreeServer$Kind;" ∈ GW) (k : kW p l e R s m args below meth c Q nL t pu (pc + 3) lv (va_rf (some (tad t 4)) :: rest) G) : kW p l e R s m args below meth c Q nL t pu pc lv rest G := fun H locs ls hl hz => va_gets X.1 X.2.1 (X.h.2.2.2.1.1 1 (by decide)).1 hz.2.1 X.o (X.w hw) (fun _ h => h) hd (k H locs ls hl hz)
theorem ks_5 {idx : Nat} (X : kX p s m args meth c cc nL own t) (hd : decode cc pc = .ok (.getstatic idx, 3)) (hw : Cond.fieldLink own idx "TreeServer$Kind" "REMOVE" "LTreeServer$Kind;" ∈ GW) (k : kW p l e R s m args below meth c Q nL t pu (pc + 3) lv (va_rf (some (tad t 5)) :: rest) G) : kW p l e R s m args below meth c Q nL t pu pc lv rest G := fun H locs ls hl hz => va_gets X.1 X.2.1 (X.h.2.2.2.1.1 2 (by decide)).1 hz.2.1 X.o (X.w hw) (fun _ h => h) hd (k H locs ls hl hz)
theorem ks_6 {idx : Nat} (X : kX p s m args meth c cc nL own t) (hd : decode cc pc = .ok (.getstatic idx, 3)) (hw : Cond.fieldLink own idx "TreeServer$Kind" "ALTER" "LTreeServer$Kind;" ∈ GW) (k : kW p l e R s m args below meth c Q nL t pu (pc + 3) lv (va_rf (some (tad t 6)) :: rest) G) : kW p l e R s m args below meth c Q nL t pu pc lv rest G := fun H locs ls hl hz => va_gets X.1 X.2.1 (X.h.2.2.2.1.1 3 (by decide)).1 hz.2.1 X.o (X.w hw) (fun _ h => h) hd (k H locs ls hl hz)
theorem ks_users (X : kX p s m args meth c cc nL "TreeServer$Message" t) (hd : decode cc pc = .ok (.getstatic 93, 3)) (k : kW p l e R s m args below meth c Q nL t pu (pc + 3) lv (va_rf (some (tus t)) :: rest) G) : kW p l e R s m args below meth c Q nL t pu pc lv rest G := fun H locs ls hl hz => va_getsN X.1 X.2.1 X.h.2.2.2.2.2.2.2.1.1 hz.2.1 X.o X.h.2.2.2.2.2.2.2.1.2.2 (fun _ h => h) hd (k H locs ls hl hz)
theorem ks_userslen (X : kX p s m args meth c cc nL own t) (hd : decode cc pc = .ok (.arraylength, 1)) (k : kW p l e R s m args below meth c Q nL t pu (pc + 1) lv (.int 3 :: rest) G) : kW p l e R s m args below meth c Q nL t pu pc lv (va_rf (some (tus t)) :: rest) G := fun H locs ls hl hz => va_tlen X.1 X.2.1 X.h.2.2.2.2.2.2.2.1.2.1 hz.2.1 rfl hd (k H locs ls hl hz)
theorem kg_title {u idx : Nat} {r : Option Nat} (X : kX p s m args meth c cc nL own t) (hd : decode cc pc = .ok (.getfield idx, 3)) (hw : Cond.fieldLink own idx "TreeServer$User" "title" "Ljava/lang/String;" ∈ GW) (hu : u < 3) (hr : r = some (tad t u)) (k : kW p l e R s m args below meth c Q nL t pu (pc + 3) lv (va_rf (some (tks t (ttl u))) :: rest) G) : kW p l e R s m args below meth c Q nL t pu pc lv (va_rf r :: rest) G := by
  subst hr
  intro H locs ls hl hz
  exact vk_getf X.1 X.2.1 (X.h.2.2.2.2.1 u hu) hz.2.1 X.o (X.w hw) (fun _ h => h) hd (k H locs ls hl hz)
theorem HP_blind {t : TY} {G : GS} {wp : Prop} {av : List Value} : FrameBlind (va_Pc av (fun U => HB t G U.heap ∧ HK t U ∧ wp)) := fun a U g mk q => ⟨q.1, q.2.1, q.2.2.1.calling g mk a, q.2.2.2⟩
theorem kcV_i {y : MethodName} {bytes : ByteArray} {maxL n idx b : Nat} {ret : Option FieldType} {rm : Room} {C : String} {As st : List Value} {wp : Prop} {K : GS → Int32 → Prop} (X : kX p s m args meth c cc nL own t) (hpu : pu = false) (hM : Met l y (Cond.code y bytes maxL ret :: GW) rm (va_Pc (.ref b :: As) (fun U => HB t G U.heap ∧ HK t U ∧ wp)) (va_Qi (fun r (u : GS) => K u r) (fun u T => HB t u T.heap) (tA t)) 0 0 (tA t)) (cw : CallW R s args own C idx y bytes maxL ret (Cond.code y bytes maxL ret :: GW) rm 0 0 n) (hrecv : ∀ (H : Heap) (locs : List Loc), HB t G H → va_S (tA t) s.heap H locs → ∃ cell : Cell, H[b]? = some cell ∧ cell.vm.isStatics = false ∧ s.vm.findClass C = some cell.cls) (hn : As.length = n) (hst : st = As.reverse ++ .ref b :: rest) (hroom : (rest.map fun v => v.category).sum ≤ 8) (hd : decode cc pc = .ok (.invokevirtual idx, 3)) (hwp : wp) (k : ∀ (r : Int32) (u : GS), K u r → kW p l e R s m args below meth c Q nL t pu (pc + 3) lv (.int r :: rest) u) : kW p l e R s m args below meth c Q nL t pu pc lv st G := by
  subst hst
  intro H locs ls hl hz
  refine va_calli (S := GS) (va_runV (As := As) (rest := rest) (Ts := GW) ⟨X.1, X.2.1, X.2.2.1, X.o, X.ws⟩ hM cw ⟨HP_blind, hrecv H locs hz.1 hz.2.1, fun U hU hW => ⟨rfl, by rw [hU]; exact hz.1, X.h.to hz.2.1 hU hW, hwp⟩⟩ rfl hn hl.1 rfl (lv_room hroom) hd ⟨Nat.zero_le _, Nat.zero_le _⟩) hz.2.1 (fun q _ h => h) (fun q h => h) (fun r u T H1 locs1 hT hvm hp hB hz1 hk1 hS1 => ?_)
  rw [hT] at hB
  exact k r u hp H1 locs1 ls hl ⟨hB, hS1, fun h => by rw [hpu] at h; cases h⟩
theorem kcVp_i {y : MethodName} {bytes : ByteArray} {maxL n idx b : Nat} {ret : Option FieldType} {rm : Room} {C : String} {As st : List Value} {wp : Prop} {K : Int32 → Prop} (X : kX p s m args meth c cc nL own t) (hM : Met l y (Cond.code y bytes maxL ret :: GW) rm (va_Pc (.ref b :: As) (fun U => HB t G U.heap ∧ HK t U ∧ wp)) (vp_Si K) 0 0 (fun _ => False)) (cw : CallW R s args own C idx y bytes maxL ret (Cond.code y bytes maxL ret :: GW) rm 0 0 n) (hrecv : ∀ (H : Heap) (locs : List Loc), HB t G H → va_S (tA t) s.heap H locs → ∃ cell : Cell, H[b]? = some cell ∧ cell.vm.isStatics = false ∧ s.vm.findClass C = some cell.cls) (hn : As.length = n) (hst : st = As.reverse ++ .ref b :: rest) (hroom : (rest.map fun v => v.category).sum ≤ 8) (hd : decode cc pc = .ok (.invokevirtual idx, 3)) (hwp : wp) (k : ∀ r : Int32, K r → kW p l e R s m args below meth c Q nL t pu (pc + 3) lv (.int r :: rest) G) : kW p l e R s m args below meth c Q nL t pu pc lv st G := by
  subst hst
  intro H locs ls hl hz
  exact vp_callSi (W.runV (As := As) (rest := rest) (Ts := GW) ⟨X.1, X.2.1, X.2.2.1, X.o, X.ws⟩ hM cw ⟨HP_blind, hrecv H locs hz.1 hz.2.1, fun U hU hW => ⟨rfl, by rw [hU]; exact hz.1, X.h.to hz.2.1 hU hW, hwp⟩⟩ rfl hn hl.1 rfl (lv_room hroom) hd ⟨Nat.zero_le _, Nat.zero_le _⟩) (fun r h => k r h H locs ls hl hz)
theorem kcV_l {y : MethodName} {bytes : ByteArray} {maxL n idx b : Nat} {ret : Option FieldType} {rm : Room} {C : String} {As st : List Value} {wp : Prop} {K : GS → Int64 → Prop} (X : kX p s m args meth c cc nL own t) (hpu : pu = false) (hM : Met l y (Cond.code y bytes maxL ret :: GW) rm (va_Pc (.ref b :: As) (fun U => HB t G U.heap ∧ HK t U ∧ wp)) (va_Ql (fun r (u : GS) => K u r) (fun u T => HB t u T.heap) (tA t)) 0 0 (tA t)) (cw : CallW R s args own C idx y bytes maxL ret (Cond.code y bytes maxL ret :: GW) rm 0 0 n) (hrecv : ∀ (H : Heap) (locs : List Loc), HB t G H → va_S (tA t) s.heap H locs → ∃ cell : Cell, H[b]? = some cell ∧ cell.vm.isStatics = false ∧ s.vm.findClass C = some cell.cls) (hn : As.length = n) (hst : st = As.reverse ++ .ref b :: rest) (hroom : (rest.map fun v => v.category).sum ≤ 8) (hd : decode cc pc = .ok (.invokevirtual idx, 3)) (hwp : wp) (k : ∀ (r : Int64) (u : GS), K u r → kW p l e R s m args below meth c Q nL t pu (pc + 3) lv (.long r :: rest) u) : kW p l e R s m args below meth c Q nL t pu pc lv st G := by
  subst hst
  intro H locs ls hl hz
  refine va_calll (S := GS) (va_runV (As := As) (rest := rest) (Ts := GW) ⟨X.1, X.2.1, X.2.2.1, X.o, X.ws⟩ hM cw ⟨HP_blind, hrecv H locs hz.1 hz.2.1, fun U hU hW => ⟨rfl, by rw [hU]; exact hz.1, X.h.to hz.2.1 hU hW, hwp⟩⟩ rfl hn hl.1 rfl (lv_room hroom) hd ⟨Nat.zero_le _, Nat.zero_le _⟩) hz.2.1 (fun q _ h => h) (fun q h => h) (fun r u T H1 locs1 hT hvm hp hB hz1 hk1 hS1 => ?_)
  rw [hT] at hB
  exact k r u hp H1 locs1 ls hl ⟨hB, hS1, fun h => by rw [hpu] at h; cases h⟩
theorem kcVp_l {y : MethodName} {bytes : ByteArray} {maxL n idx b : Nat} {ret : Option FieldType} {rm : Room} {C : String} {As st : List Value} {wp : Prop} {K : Int64 → Prop} (X : kX p s m args meth c cc nL own t) (hM : Met l y (Cond.code y bytes maxL ret :: GW) rm (va_Pc (.ref b :: As) (fun U => HB t G U.heap ∧ HK t U ∧ wp)) (vp_Sl K) 0 0 (fun _ => False)) (cw : CallW R s args own C idx y bytes maxL ret (Cond.code y bytes maxL ret :: GW) rm 0 0 n) (hrecv : ∀ (H : Heap) (locs : List Loc), HB t G H → va_S (tA t) s.heap H locs → ∃ cell : Cell, H[b]? = some cell ∧ cell.vm.isStatics = false ∧ s.vm.findClass C = some cell.cls) (hn : As.length = n) (hst : st = As.reverse ++ .ref b :: rest) (hroom : (rest.map fun v => v.category).sum ≤ 8) (hd : decode cc pc = .ok (.invokevirtual idx, 3)) (hwp : wp) (k : ∀ r : Int64, K r → kW p l e R s m args below meth c Q nL t pu (pc + 3) lv (.long r :: rest) G) : kW p l e R s m args below meth c Q nL t pu pc lv st G := by
  subst hst
  intro H locs ls hl hz
  exact vp_callSl (W.runV (As := As) (rest := rest) (Ts := GW) ⟨X.1, X.2.1, X.2.2.1, X.o, X.ws⟩ hM cw ⟨HP_blind, hrecv H locs hz.1 hz.2.1, fun U hU hW => ⟨rfl, by rw [hU]; exact hz.1, X.h.to hz.2.1 hU hW, hwp⟩⟩ rfl hn hl.1 rfl (lv_room hroom) hd ⟨Nat.zero_le _, Nat.zero_le _⟩) (fun r h => k r h H locs ls hl hz)
theorem kcV_q {y : MethodName} {bytes : ByteArray} {maxL n idx b : Nat} {ret : Option FieldType} {rm : Room} {C : String} {As st : List Value} {wp : Prop} {K : GS → Option Nat → Prop} (X : kX p s m args meth c cc nL own t) (hpu : pu = false) (hM : Met l y (Cond.code y bytes maxL ret :: GW) rm (va_Pc (.ref b :: As) (fun U => HB t G U.heap ∧ HK t U ∧ wp)) (va_Qq (fun r (u : GS) => K u r) (fun u T => HB t u T.heap) (tA t)) 0 0 (tA t)) (cw : CallW R s args own C idx y bytes maxL ret (Cond.code y bytes maxL ret :: GW) rm 0 0 n) (hrecv : ∀ (H : Heap) (locs : List Loc), HB t G H → va_S (tA t) s.heap H locs → ∃ cell : Cell, H[b]? = some cell ∧ cell.vm.isStatics = false ∧ s.vm.findClass C = some cell.cls) (hn : As.length = n) (hst : st = As.reverse ++ .ref b :: rest) (hroom : (rest.map fun v => v.category).sum ≤ 8) (hd : decode cc pc = .ok (.invokevirtual idx, 3)) (hwp : wp) (k : ∀ (r : Option Nat) (u : GS), K u r → kW p l e R s m args below meth c Q nL t pu (pc + 3) lv (va_rf r :: rest) u) : kW p l e R s m args below meth c Q nL t pu pc lv st G := by
  subst hst
  intro H locs ls hl hz
  refine va_callq (S := GS) (va_runV (As := As) (rest := rest) (Ts := GW) ⟨X.1, X.2.1, X.2.2.1, X.o, X.ws⟩ hM cw ⟨HP_blind, hrecv H locs hz.1 hz.2.1, fun U hU hW => ⟨rfl, by rw [hU]; exact hz.1, X.h.to hz.2.1 hU hW, hwp⟩⟩ rfl hn hl.1 rfl (lv_room hroom) hd ⟨Nat.zero_le _, Nat.zero_le _⟩) hz.2.1 (fun q _ h => h) (fun q h => h) (fun r u T H1 locs1 hT hvm hp hB hz1 hk1 hS1 => ?_)
  rw [hT] at hB
  exact k r u hp H1 locs1 ls hl ⟨hB, hS1, fun h => by rw [hpu] at h; cases h⟩
theorem kcVp_q {y : MethodName} {bytes : ByteArray} {maxL n idx b : Nat} {ret : Option FieldType} {rm : Room} {C : String} {As st : List Value} {wp : Prop} {K : Option Nat → Prop} (X : kX p s m args meth c cc nL own t) (hM : Met l y (Cond.code y bytes maxL ret :: GW) rm (va_Pc (.ref b :: As) (fun U => HB t G U.heap ∧ HK t U ∧ wp)) (va_Sq K) 0 0 (fun _ => False)) (cw : CallW R s args own C idx y bytes maxL ret (Cond.code y bytes maxL ret :: GW) rm 0 0 n) (hrecv : ∀ (H : Heap) (locs : List Loc), HB t G H → va_S (tA t) s.heap H locs → ∃ cell : Cell, H[b]? = some cell ∧ cell.vm.isStatics = false ∧ s.vm.findClass C = some cell.cls) (hn : As.length = n) (hst : st = As.reverse ++ .ref b :: rest) (hroom : (rest.map fun v => v.category).sum ≤ 8) (hd : decode cc pc = .ok (.invokevirtual idx, 3)) (hwp : wp) (k : ∀ r : Option Nat, K r → kW p l e R s m args below meth c Q nL t pu (pc + 3) lv (va_rf r :: rest) G) : kW p l e R s m args below meth c Q nL t pu pc lv st G := by
  subst hst
  intro H locs ls hl hz
  exact va_csq (W.runV (As := As) (rest := rest) (Ts := GW) ⟨X.1, X.2.1, X.2.2.1, X.o, X.ws⟩ hM cw ⟨HP_blind, hrecv H locs hz.1 hz.2.1, fun U hU hW => ⟨rfl, by rw [hU]; exact hz.1, X.h.to hz.2.1 hU hW, hwp⟩⟩ rfl hn hl.1 rfl (lv_room hroom) hd ⟨Nat.zero_le _, Nat.zero_le _⟩) (fun r h => k r h H locs ls hl hz)
theorem kcV_v {y : MethodName} {bytes : ByteArray} {maxL n idx b : Nat} {ret : Option FieldType} {rm : Room} {C : String} {As st : List Value} {wp : Prop} {K : GS → Prop} (X : kX p s m args meth c cc nL own t) (hpu : pu = false) (hM : Met l y (Cond.code y bytes maxL ret :: GW) rm (va_Pc (.ref b :: As) (fun U => HB t G U.heap ∧ HK t U ∧ wp)) (va_Qv (fun u : GS => K u) (fun u T => HB t u T.heap) (tA t)) 0 0 (tA t)) (cw : CallW R s args own C idx y bytes maxL ret (Cond.code y bytes maxL ret :: GW) rm 0 0 n) (hrecv : ∀ (H : Heap) (locs : List Loc), HB t G H → va_S (tA t) s.heap H locs → ∃ cell : Cell, H[b]? = some cell ∧ cell.vm.isStatics = false ∧ s.vm.findClass C = some cell.cls) (hn : As.length = n) (hst : st = As.reverse ++ .ref b :: rest) (hroom : (rest.map fun v => v.category).sum ≤ 8) (hd : decode cc pc = .ok (.invokevirtual idx, 3)) (hwp : wp) (k : ∀ u : GS, K u → kW p l e R s m args below meth c Q nL t pu (pc + 3) lv rest u) : kW p l e R s m args below meth c Q nL t pu pc lv st G := by
  subst hst
  intro H locs ls hl hz
  refine va_callv (S := GS) (va_runV (As := As) (rest := rest) (Ts := GW) ⟨X.1, X.2.1, X.2.2.1, X.o, X.ws⟩ hM cw ⟨HP_blind, hrecv H locs hz.1 hz.2.1, fun U hU hW => ⟨rfl, by rw [hU]; exact hz.1, X.h.to hz.2.1 hU hW, hwp⟩⟩ rfl hn hl.1 rfl (lv_room hroom) hd ⟨Nat.zero_le _, Nat.zero_le _⟩) hz.2.1 (fun q _ h => h) (fun q h => h) (fun u T H1 locs1 hT hvm hp hB hz1 hk1 hS1 => ?_)
  rw [hT] at hB
  exact k u hp H1 locs1 ls hl ⟨hB, hS1, fun h => by rw [hpu] at h; cases h⟩
theorem kcS_i {y : MethodName} {bytes : ByteArray} {maxL n idx : Nat} {ret : Option FieldType} {rm : Room} {As st : List Value} {wp : Prop} {K : GS → Int32 → Prop} (X : kX p s m args meth c cc nL own t) (hpu : pu = false) (hM : Met l y (Cond.code y bytes maxL ret :: GW) rm (va_Pc As (fun U => HB t G U.heap ∧ HK t U ∧ wp)) (va_Qi (fun r (u : GS) => K u r) (fun u T => HB t u T.heap) (tA t)) 0 0 (tA t)) (cw : CallB R s args own idx y bytes maxL ret (Cond.code y bytes maxL ret :: GW) rm 0 0 n ∧ (Cond.static y).before args s = true) (hn : As.length = n) (hst : st = As.reverse ++ rest) (hroom : (rest.map fun v => v.category).sum ≤ 8) (hd : decode cc pc = .ok (.invokestatic idx, 3)) (hwp : wp) (k : ∀ (r : Int32) (u : GS), K u r → kW p l e R s m args below meth c Q nL t pu (pc + 3) lv (.int r :: rest) u) : kW p l e R s m args below meth c Q nL t pu pc lv st G := by
  subst hst
  intro H locs ls hl hz
  refine va_calli (S := GS) (va_runS (As := As) (rest := rest) (Ts := GW) ⟨X.1, X.2.1, X.2.2.1, X.o, X.ws⟩ hM cw ⟨HP_blind, fun U hU hW => ⟨rfl, by rw [hU]; exact hz.1, X.h.to hz.2.1 hU hW, hwp⟩⟩ rfl hn hl.1 rfl (lv_room hroom) hd ⟨Nat.zero_le _, Nat.zero_le _⟩) hz.2.1 (fun q _ h => h) (fun q h => h) (fun r u T H1 locs1 hT hvm hp hB hz1 hk1 hS1 => ?_)
  rw [hT] at hB
  exact k r u hp H1 locs1 ls hl ⟨hB, hS1, fun h => by rw [hpu] at h; cases h⟩
theorem kcSp_i {y : MethodName} {bytes : ByteArray} {maxL n idx : Nat} {ret : Option FieldType} {rm : Room} {As st : List Value} {wp : Prop} {K : Int32 → Prop} (X : kX p s m args meth c cc nL own t) (hM : Met l y (Cond.code y bytes maxL ret :: GW) rm (va_Pc As (fun U => HB t G U.heap ∧ HK t U ∧ wp)) (vp_Si K) 0 0 (fun _ => False)) (cw : CallB R s args own idx y bytes maxL ret (Cond.code y bytes maxL ret :: GW) rm 0 0 n ∧ (Cond.static y).before args s = true) (hn : As.length = n) (hst : st = As.reverse ++ rest) (hroom : (rest.map fun v => v.category).sum ≤ 8) (hd : decode cc pc = .ok (.invokestatic idx, 3)) (hwp : wp) (k : ∀ r : Int32, K r → kW p l e R s m args below meth c Q nL t pu (pc + 3) lv (.int r :: rest) G) : kW p l e R s m args below meth c Q nL t pu pc lv st G := by
  subst hst
  intro H locs ls hl hz
  exact vp_callSi (W.runS (As := As) (rest := rest) (Ts := GW) ⟨X.1, X.2.1, X.2.2.1, X.o, X.ws⟩ hM cw ⟨HP_blind, fun U hU hW => ⟨rfl, by rw [hU]; exact hz.1, X.h.to hz.2.1 hU hW, hwp⟩⟩ rfl hn hl.1 rfl (lv_room hroom) hd ⟨Nat.zero_le _, Nat.zero_le _⟩) (fun r h => k r h H locs ls hl hz)
theorem kcS_l {y : MethodName} {bytes : ByteArray} {maxL n idx : Nat} {ret : Option FieldType} {rm : Room} {As st : List Value} {wp : Prop} {K : GS → Int64 → Prop} (X : kX p s m args meth c cc nL own t) (hpu : pu = false) (hM : Met l y (Cond.code y bytes maxL ret :: GW) rm (va_Pc As (fun U => HB t G U.heap ∧ HK t U ∧ wp)) (va_Ql (fun r (u : GS) => K u r) (fun u T => HB t u T.heap) (tA t)) 0 0 (tA t)) (cw : CallB R s args own idx y bytes maxL ret (Cond.code y bytes maxL ret :: GW) rm 0 0 n ∧ (Cond.static y).before args s = true) (hn : As.length = n) (hst : st = As.reverse ++ rest) (hroom : (rest.map fun v => v.category).sum ≤ 8) (hd : decode cc pc = .ok (.invokestatic idx, 3)) (hwp : wp) (k : ∀ (r : Int64) (u : GS), K u r → kW p l e R s m args below meth c Q nL t pu (pc + 3) lv (.long r :: rest) u) : kW p l e R s m args below meth c Q nL t pu pc lv st G := by
  subst hst
  intro H locs ls hl hz
  refine va_calll (S := GS) (va_runS (As := As) (rest := rest) (Ts := GW) ⟨X.1, X.2.1, X.2.2.1, X.o, X.ws⟩ hM cw ⟨HP_blind, fun U hU hW => ⟨rfl, by rw [hU]; exact hz.1, X.h.to hz.2.1 hU hW, hwp⟩⟩ rfl hn hl.1 rfl (lv_room hroom) hd ⟨Nat.zero_le _, Nat.zero_le _⟩) hz.2.1 (fun q _ h => h) (fun q h => h) (fun r u T H1 locs1 hT hvm hp hB hz1 hk1 hS1 => ?_)
  rw [hT] at hB
  exact k r u hp H1 locs1 ls hl ⟨hB, hS1, fun h => by rw [hpu] at h; cases h⟩
theorem kcSp_l {y : MethodName} {bytes : ByteArray} {maxL n idx : Nat} {ret : Option FieldType} {rm : Room} {As st : List Value} {wp : Prop} {K : Int64 → Prop} (X : kX p s m args meth c cc nL own t) (hM : Met l y (Cond.code y bytes maxL ret :: GW) rm (va_Pc As (fun U => HB t G U.heap ∧ HK t U ∧ wp)) (vp_Sl K) 0 0 (fun _ => False)) (cw : CallB R s args own idx y bytes maxL ret (Cond.code y bytes maxL ret :: GW) rm 0 0 n ∧ (Cond.static y).before args s = true) (hn : As.length = n) (hst : st = As.reverse ++ rest) (hroom : (rest.map fun v => v.category).sum ≤ 8) (hd : decode cc pc = .ok (.invokestatic idx, 3)) (hwp : wp) (k : ∀ r : Int64, K r → kW p l e R s m args below meth c Q nL t pu (pc + 3) lv (.long r :: rest) G) : kW p l e R s m args below meth c Q nL t pu pc lv st G := by
  subst hst
  intro H locs ls hl hz
  exact vp_callSl (W.runS (As := As) (rest := rest) (Ts := GW) ⟨X.1, X.2.1, X.2.2.1, X.o, X.ws⟩ hM cw ⟨HP_blind, fun U hU hW => ⟨rfl, by rw [hU]; exact hz.1, X.h.to hz.2.1 hU hW, hwp⟩⟩ rfl hn hl.1 rfl (lv_room hroom) hd ⟨Nat.zero_le _, Nat.zero_le _⟩) (fun r h => k r h H locs ls hl hz)
theorem kcS_q {y : MethodName} {bytes : ByteArray} {maxL n idx : Nat} {ret : Option FieldType} {rm : Room} {As st : List Value} {wp : Prop} {K : GS → Option Nat → Prop} (X : kX p s m args meth c cc nL own t) (hpu : pu = false) (hM : Met l y (Cond.code y bytes maxL ret :: GW) rm (va_Pc As (fun U => HB t G U.heap ∧ HK t U ∧ wp)) (va_Qq (fun r (u : GS) => K u r) (fun u T => HB t u T.heap) (tA t)) 0 0 (tA t)) (cw : CallB R s args own idx y bytes maxL ret (Cond.code y bytes maxL ret :: GW) rm 0 0 n ∧ (Cond.static y).before args s = true) (hn : As.length = n) (hst : st = As.reverse ++ rest) (hroom : (rest.map fun v => v.category).sum ≤ 8) (hd : decode cc pc = .ok (.invokestatic idx, 3)) (hwp : wp) (k : ∀ (r : Option Nat) (u : GS), K u r → kW p l e R s m args below meth c Q nL t pu (pc + 3) lv (va_rf r :: rest) u) : kW p l e R s m args below meth c Q nL t pu pc lv st G := by
  subst hst
  intro H locs ls hl hz
  refine va_callq (S := GS) (va_runS (As := As) (rest := rest) (Ts := GW) ⟨X.1, X.2.1, X.2.2.1, X.o, X.ws⟩ hM cw ⟨HP_blind, fun U hU hW => ⟨rfl, by rw [hU]; exact hz.1, X.h.to hz.2.1 hU hW, hwp⟩⟩ rfl hn hl.1 rfl (lv_room hroom) hd ⟨Nat.zero_le _, Nat.zero_le _⟩) hz.2.1 (fun q _ h => h) (fun q h => h) (fun r u T H1 locs1 hT hvm hp hB hz1 hk1 hS1 => ?_)
  rw [hT] at hB
  exact k r u hp H1 locs1 ls hl ⟨hB, hS1, fun h => by rw [hpu] at h; cases h⟩
theorem kcSp_q {y : MethodName} {bytes : ByteArray} {maxL n idx : Nat} {ret : Option FieldType} {rm : Room} {As st : List Value} {wp : Prop} {K : Option Nat → Prop} (X : kX p s m args meth c cc nL own t) (hM : Met l y (Cond.code y bytes maxL ret :: GW) rm (va_Pc As (fun U => HB t G U.heap ∧ HK t U ∧ wp)) (va_Sq K) 0 0 (fun _ => False)) (cw : CallB R s args own idx y bytes maxL ret (Cond.code y bytes maxL ret :: GW) rm 0 0 n ∧ (Cond.static y).before args s = true) (hn : As.length = n) (hst : st = As.reverse ++ rest) (hroom : (rest.map fun v => v.category).sum ≤ 8) (hd : decode cc pc = .ok (.invokestatic idx, 3)) (hwp : wp) (k : ∀ r : Option Nat, K r → kW p l e R s m args below meth c Q nL t pu (pc + 3) lv (va_rf r :: rest) G) : kW p l e R s m args below meth c Q nL t pu pc lv st G := by
  subst hst
  intro H locs ls hl hz
  exact va_csq (W.runS (As := As) (rest := rest) (Ts := GW) ⟨X.1, X.2.1, X.2.2.1, X.o, X.ws⟩ hM cw ⟨HP_blind, fun U hU hW => ⟨rfl, by rw [hU]; exact hz.1, X.h.to hz.2.1 hU hW, hwp⟩⟩ rfl hn hl.1 rfl (lv_room hroom) hd ⟨Nat.zero_le _, Nat.zero_le _⟩) (fun r h => k r h H locs ls hl hz)
theorem kcS_v {y : MethodName} {bytes : ByteArray} {maxL n idx : Nat} {ret : Option FieldType} {rm : Room} {As st : List Value} {wp : Prop} {K : GS → Prop} (X : kX p s m args meth c cc nL own t) (hpu : pu = false) (hM : Met l y (Cond.code y bytes maxL ret :: GW) rm (va_Pc As (fun U => HB t G U.heap ∧ HK t U ∧ wp)) (va_Qv (fun u : GS => K u) (fun u T => HB t u T.heap) (tA t)) 0 0 (tA t)) (cw : CallB R s args own idx y bytes maxL ret (Cond.code y bytes maxL ret :: GW) rm 0 0 n ∧ (Cond.static y).before args s = true) (hn : As.length = n) (hst : st = As.reverse ++ rest) (hroom : (rest.map fun v => v.category).sum ≤ 8) (hd : decode cc pc = .ok (.invokestatic idx, 3)) (hwp : wp) (k : ∀ u : GS, K u → kW p l e R s m args below meth c Q nL t pu (pc + 3) lv rest u) : kW p l e R s m args below meth c Q nL t pu pc lv st G := by
  subst hst
  intro H locs ls hl hz
  refine va_callv (S := GS) (va_runS (As := As) (rest := rest) (Ts := GW) ⟨X.1, X.2.1, X.2.2.1, X.o, X.ws⟩ hM cw ⟨HP_blind, fun U hU hW => ⟨rfl, by rw [hU]; exact hz.1, X.h.to hz.2.1 hU hW, hwp⟩⟩ rfl hn hl.1 rfl (lv_room hroom) hd ⟨Nat.zero_le _, Nat.zero_le _⟩) hz.2.1 (fun q _ h => h) (fun q h => h) (fun u T H1 locs1 hT hvm hp hB hz1 hk1 hS1 => ?_)
  rw [hT] at hB
  exact k u hp H1 locs1 ls hl ⟨hB, hS1, fun h => by rw [hpu] at h; cases h⟩
theorem cwV_of {y : MethodName} {bytes : ByteArray} {maxL n idx : Nat} {ret : Option FieldType} {rm : Room} {C : String} (X : kX p s m args meth c cc nL own t) (hc : Cond.code y bytes maxL ret ∈ GW) (hl : Cond.methodLink own idx y ∈ GW) (hi : Cond.instanceMethod y ∈ GW) (hs : Cond.selects C y y ∈ GW) (hini : Cond.initialized y.cls ∈ GW)
    (hd : y.cls ≠ "java/lang/invoke/MethodHandle" ∧ y.cls ≠ "java/lang/invoke/VarHandle" ∧ (parseMethodDescriptor y.desc).map (fun d => d.parameters.length) = some n) (hr : rm.cells = 0 ∧ rm.slots = 0) (hR : rm.frames + 1 ≤ R.frames ∧ 8 + (maxL + 11) + rm.locals ≤ R.locals) : CallW R s args own C idx y bytes maxL ret (Cond.code y bytes maxL ret :: GW) rm 0 0 n :=
  ⟨callB_of n X.ws (GW_call hc) rfl hr.1 hr.2 (X.w hini) (X.w hl) hd hR, X.w hi, X.w hs⟩
theorem cwS_of {y : MethodName} {bytes : ByteArray} {maxL n idx : Nat} {ret : Option FieldType} {rm : Room} (X : kX p s m args meth c cc nL own t) (hc : Cond.code y bytes maxL ret ∈ GW) (hl : Cond.methodLink own idx y ∈ GW) (hi : Cond.static y ∈ GW) (hini : Cond.initialized y.cls ∈ GW)
    (hd : y.cls ≠ "java/lang/invoke/MethodHandle" ∧ y.cls ≠ "java/lang/invoke/VarHandle" ∧ (parseMethodDescriptor y.desc).map (fun d => d.parameters.length) = some n) (hr : rm.cells = 0 ∧ rm.slots = 0) (hR : rm.frames + 1 ≤ R.frames ∧ 8 + (maxL + 11) + rm.locals ≤ R.locals) : CallB R s args own idx y bytes maxL ret (Cond.code y bytes maxL ret :: GW) rm 0 0 n ∧ (Cond.static y).before args s = true :=
  ⟨callB_of n X.ws (GW_call hc) rfl hr.1 hr.2 (X.w hini) (X.w hl) hd hR, X.w hi⟩
theorem rv_1 {b : Nat} (X : kX p s m args meth c cc nL own t) (hk : tk t b = 1) : ∀ (H : Heap) (locs : List Loc), HB t G H → va_S (tA t) s.heap H locs → ∃ cell : Cell, H[b]? = some cell ∧ cell.vm.isStatics = false ∧ s.vm.findClass "TreeServer$Node" = some cell.cls := fun H locs h _ => by
  obtain ⟨q0, hq⟩ := h.get (X.d hk (by decide))
  rw [mE_1 hk] at hq
  exact va_recv (q := (RK0, TK0, 13)) X.k h.1 (by rfl) hq
theorem rv_2 {b : Nat} (X : kX p s m args meth c cc nL own t) (hk : tk t b = 2) : ∀ (H : Heap) (locs : List Loc), HB t G H → va_S (tA t) s.heap H locs → ∃ cell : Cell, H[b]? = some cell ∧ cell.vm.isStatics = false ∧ s.vm.findClass "TreeServer$Tree" = some cell.cls := fun H locs h _ => by
  obtain ⟨q0, hq⟩ := h.get (X.d hk (by decide))
  rw [mE_2 hk] at hq
  exact va_recv (q := (RK1, TK1, 4)) X.k h.1 (by rfl) hq
theorem rv_3 {b : Nat} (X : kX p s m args meth c cc nL own t) (hk : tk t b = 3) : ∀ (H : Heap) (locs : List Loc), HB t G H → va_S (tA t) s.heap H locs → ∃ cell : Cell, H[b]? = some cell ∧ cell.vm.isStatics = false ∧ s.vm.findClass "TreeServer$Log" = some cell.cls := fun H locs h _ => by
  obtain ⟨q0, hq⟩ := h.get (X.d hk (by decide))
  rw [mE_3 hk] at hq
  exact va_recv (q := (RK2, TK2, 4)) X.k h.1 (by rfl) hq
theorem rv_4 {b : Nat} (X : kX p s m args meth c cc nL own t) (hk : tk t b = 4) : ∀ (H : Heap) (locs : List Loc), HB t G H → va_S (tA t) s.heap H locs → ∃ cell : Cell, H[b]? = some cell ∧ cell.vm.isStatics = false ∧ s.vm.findClass "TreeServer$Change" = some cell.cls := fun H locs h _ => by
  obtain ⟨q0, hq⟩ := h.get (X.d hk (by decide))
  rw [mE_4 hk] at hq
  exact va_recv (q := (RK3, TK3, 15)) X.k h.1 (by rfl) hq
theorem rv_5 {b : Nat} (X : kX p s m args meth c cc nL own t) (hk : tk t b = 5) : ∀ (H : Heap) (locs : List Loc), HB t G H → va_S (tA t) s.heap H locs → ∃ cell : Cell, H[b]? = some cell ∧ cell.vm.isStatics = false ∧ s.vm.findClass "TreeServer$Message" = some cell.cls := fun H locs h _ => by
  obtain ⟨q0, hq⟩ := h.get (X.d hk (by decide))
  rw [mE_5 hk] at hq
  exact va_recv (q := (RK4, TK4, 8)) X.k h.1 (by rfl) hq
theorem rv_6 {b : Nat} (X : kX p s m args meth c cc nL own t) (hk : tk t b = 6) : ∀ (H : Heap) (locs : List Loc), HB t G H → va_S (tA t) s.heap H locs → ∃ cell : Cell, H[b]? = some cell ∧ cell.vm.isStatics = false ∧ s.vm.findClass "TreeServer$Answer" = some cell.cls := fun H locs h _ => by
  obtain ⟨q0, hq⟩ := h.get (X.d hk (by decide))
  rw [mE_6 hk] at hq
  exact va_recv (q := (RK5, TK5, 2)) X.k h.1 (by rfl) hq
theorem rv_7 {b : Nat} (X : kX p s m args meth c cc nL own t) (hk : tk t b = 7) : ∀ (H : Heap) (locs : List Loc), HB t G H → va_S (tA t) s.heap H locs → ∃ cell : Cell, H[b]? = some cell ∧ cell.vm.isStatics = false ∧ s.vm.findClass "TreeServer$Fid" = some cell.cls := fun H locs h _ => by
  obtain ⟨q0, hq⟩ := h.get (X.d hk (by decide))
  rw [mE_7 hk] at hq
  exact va_recv (q := (RK6, TK6, 9)) X.k h.1 (by rfl) hq
theorem rv_8 {b : Nat} (X : kX p s m args meth c cc nL own t) (hk : tk t b = 8) : ∀ (H : Heap) (locs : List Loc), HB t G H → va_S (tA t) s.heap H locs → ∃ cell : Cell, H[b]? = some cell ∧ cell.vm.isStatics = false ∧ s.vm.findClass "TreeServer$Link" = some cell.cls := fun H locs h _ => by
  obtain ⟨q0, hq⟩ := h.get (X.d hk (by decide))
  rw [mE_8 hk] at hq
  exact va_recv (q := (RK7, TK7, 8)) X.k h.1 (by rfl) hq
theorem rv_9 {b : Nat} (X : kX p s m args meth c cc nL own t) (hk : tk t b = 9) : ∀ (H : Heap) (locs : List Loc), HB t G H → va_S (tA t) s.heap H locs → ∃ cell : Cell, H[b]? = some cell ∧ cell.vm.isStatics = false ∧ s.vm.findClass "TreeServer" = some cell.cls := fun H locs h _ => by
  obtain ⟨q0, hq⟩ := h.get (X.d hk (by decide))
  rw [mE_9 hk] at hq
  exact va_recv (q := (RK8, TK8, 7)) X.k h.1 (by rfl) hq
theorem rv_10 {b : Nat} (X : kX p s m args meth c cc nL own t) (hk : tk t b = 10) : ∀ (H : Heap) (locs : List Loc), HB t G H → va_S (tA t) s.heap H locs → ∃ cell : Cell, H[b]? = some cell ∧ cell.vm.isStatics = false ∧ s.vm.findClass "TreeServerModel" = some cell.cls := fun H locs h _ => by
  obtain ⟨q0, hq⟩ := h.get (X.d hk (by decide))
  rw [mE_10 hk] at hq
  exact va_recv (q := (RK9, TK9, 30)) X.k h.1 (by rfl) hq
theorem rv_U {b : Nat} (X : kX p s m args meth c cc nL own t) (hk : isU t b) : ∀ (H : Heap) (locs : List Loc), HB t G H → va_S (tA t) s.heap H locs → ∃ cell : Cell, H[b]? = some cell ∧ cell.vm.isStatics = false ∧ s.vm.findClass "TreeServer$User" = some cell.cls := fun H locs h hS => by
  obtain ⟨i, hi, rfl⟩ := hk
  exact va_recvE X.h.2.2.1 hi hS
theorem kr_i {v : Int32} {K : GS → Int32 → Prop} (X : kX p s m args meth c cc nL own t) (hr : meth.sig.returnType = some .int) (hd : decode cc pc = .ok (.ireturn, 1)) (hk : K G v) : kW p l e R s m args below meth c (MQ below (va_Qi (fun r (u : GS) => K u r) (fun u T => HB t u T.heap) (tA t)) args s 0 0 (tA t)) nL t pu pc lv [.int v] G := fun H locs ls hl hz => W.iret X.1 X.2.1 hr (fun T hT hW => ⟨⟨v, G, rfl, hk, by show HB t G T.heap; rw [hT]; exact hz.1⟩, hz.2.1.F hT⟩) hz.2.1.2.2 hd X.2.2.2.2.2.1
theorem krp_i {v : Int32} {K : Int32 → Prop} (X : kX p s m args meth c cc nL own t) (hr : meth.sig.returnType = some .int) (hd : decode cc pc = .ok (.ireturn, 1)) (hk : K v) : kW p l e R s m args below meth c (MQ below (vp_Si (K)) args s 0 0 (fun _ => False)) nL t true pc lv [.int v] G := fun H locs ls hl hz => W.iret X.1 X.2.1 hr (fun T hT hW => ⟨v, rfl, hk, by rw [hT]; exact (hz.2.2 rfl).1⟩) (fun q hq => by rw [(hz.2.2 rfl).2] at hq; cases hq) hd X.2.2.2.2.2.1
theorem kr_l {v : Int64} {K : GS → Int64 → Prop} (X : kX p s m args meth c cc nL own t) (hr : meth.sig.returnType = some .long) (hd : decode cc pc = .ok (.lreturn, 1)) (hk : K G v) : kW p l e R s m args below meth c (MQ below (va_Ql (fun r (u : GS) => K u r) (fun u T => HB t u T.heap) (tA t)) args s 0 0 (tA t)) nL t pu pc lv [.long v] G := fun H locs ls hl hz => W.lret X.1 X.2.1 hr (fun T hT hW => ⟨⟨v, G, rfl, hk, by show HB t G T.heap; rw [hT]; exact hz.1⟩, hz.2.1.F hT⟩) hz.2.1.2.2 hd X.2.2.2.2.2.1
theorem krp_l {v : Int64} {K : Int64 → Prop} (X : kX p s m args meth c cc nL own t) (hr : meth.sig.returnType = some .long) (hd : decode cc pc = .ok (.lreturn, 1)) (hk : K v) : kW p l e R s m args below meth c (MQ below (vp_Sl (K)) args s 0 0 (fun _ => False)) nL t true pc lv [.long v] G := fun H locs ls hl hz => W.lret X.1 X.2.1 hr (fun T hT hW => ⟨v, rfl, hk, by rw [hT]; exact (hz.2.2 rfl).1⟩) (fun q hq => by rw [(hz.2.2 rfl).2] at hq; cases hq) hd X.2.2.2.2.2.1
theorem kr_z {v : Int32} {K : GS → Int32 → Prop} (X : kX p s m args meth c cc nL own t) (hr : meth.sig.returnType = some .boolean) (hd : decode cc pc = .ok (.ireturn, 1)) (hB : isB v) (hk : K G v) : kW p l e R s m args below meth c (MQ below (va_Qi (fun r (u : GS) => isB r ∧ K u r) (fun u T => HB t u T.heap) (tA t)) args s 0 0 (tA t)) nL t pu pc lv [.int v] G := fun H locs ls hl hz => W.zret X.1 X.2.1 hr (by rcases hB with rfl | rfl <;> rfl) (fun T hT hW => ⟨⟨v, G, rfl, ⟨hB, hk⟩, by show HB t G T.heap; rw [hT]; exact hz.1⟩, hz.2.1.F hT⟩) hz.2.1.2.2 hd X.2.2.2.2.2.1
theorem krp_z {v : Int32} {K : Int32 → Prop} (X : kX p s m args meth c cc nL own t) (hr : meth.sig.returnType = some .boolean) (hd : decode cc pc = .ok (.ireturn, 1)) (hB : isB v) (hk : K v) : kW p l e R s m args below meth c (MQ below (vp_Si (fun r => isB r ∧ K r)) args s 0 0 (fun _ => False)) nL t true pc lv [.int v] G := fun H locs ls hl hz => W.zret X.1 X.2.1 hr (by rcases hB with rfl | rfl <;> rfl) (fun T hT hW => ⟨v, rfl, ⟨hB, hk⟩, by rw [hT]; exact (hz.2.2 rfl).1⟩) (fun q hq => by rw [(hz.2.2 rfl).2] at hq; cases hq) hd X.2.2.2.2.2.1
theorem kr_q {rt : FieldType} {v : Option Nat} {K : GS → Option Nat → Prop} (X : kX p s m args meth c cc nL own t) (hr : meth.sig.returnType = some rt) (hd : decode cc pc = .ok (.areturn, 1)) (hrt : (∃ n, rt = .object n) ∨ ∃ t, rt = .array t) (hk : K G v) : kW p l e R s m args below meth c (MQ below (va_Qq (fun r (u : GS) => K u r) (fun u T => HB t u T.heap) (tA t)) args s 0 0 (tA t)) nL t pu pc lv [va_rf v] G := fun H locs ls hl hz => W.aret X.1 X.2.1 hr hrt (va_rf_or v) (fun T hT hW => ⟨⟨v, G, rfl, hk, by show HB t G T.heap; rw [hT]; exact hz.1⟩, hz.2.1.F hT⟩) hz.2.1.2.2 hd X.2.2.2.2.2.1
theorem krp_q {rt : FieldType} {v : Option Nat} {K : Option Nat → Prop} (X : kX p s m args meth c cc nL own t) (hr : meth.sig.returnType = some rt) (hd : decode cc pc = .ok (.areturn, 1)) (hrt : (∃ n, rt = .object n) ∨ ∃ t, rt = .array t) (hk : K v) : kW p l e R s m args below meth c (MQ below (va_Sq (K)) args s 0 0 (fun _ => False)) nL t true pc lv [va_rf v] G := fun H locs ls hl hz => W.aret X.1 X.2.1 hr hrt (va_rf_or v) (fun T hT hW => ⟨v, rfl, hk, by rw [hT]; exact (hz.2.2 rfl).1⟩) (fun q hq => by rw [(hz.2.2 rfl).2] at hq; cases hq) hd X.2.2.2.2.2.1
theorem kr_v {K : GS → Prop} (X : kX p s m args meth c cc nL own t) (hr : meth.sig.returnType = none) (hd : decode cc pc = .ok (.return_, 1)) (hk : K G) : kW p l e R s m args below meth c (MQ below (va_Qv (fun u : GS => K u) (fun u T => HB t u T.heap) (tA t)) args s 0 0 (tA t)) nL t pu pc lv [] G := fun H locs ls hl hz => W.vret X.1 X.2.1 hr (fun T hT hW => ⟨⟨G, rfl, hk, by show HB t G T.heap; rw [hT]; exact hz.1⟩, hz.2.1.F hT⟩) hz.2.1.2.2 hd X.2.2.2.2.2.1
end KW
